def sumF (f : Nat → Nat) : Nat → Nat → Nat
  | 0, _ => 0
  | c + 1, k => f k + sumF f c (k + 1)
theorem sumF_le {f : Nat → Nat} {b : Nat} : ∀ c k, (∀ p, k ≤ p → p < k + c → f p ≤ b) → sumF f c k ≤ b * c := by
  intro c
  induction c with
  | zero => intro k _; exact Nat.zero_le _
  | succ c ih =>
    intro k h
    have h1 := h k (Nat.le_refl k) (by omega)
    have h2 := ih (k + 1) (fun p q1 q2 => h p (by omega) (by omega))
    simp only [sumF]
    rw [Nat.mul_succ]
    omega
def lsum (P : Nat → Nat) : Nat := sumF (fun p => ln (P p)) 8 0
def Sk (P : Nat → Nat) (k r : Nat) : Prop := r = 1 ∨ ∃ p, p < k ∧ P p ≠ 0 ∧ isBegB (P p) r = true
def Sj (P : Nat → Nat) (k x r : Nat) : Prop := Sk P k r ∨ ∃ j, 1 ≤ j ∧ j < x ∧ P k / 4 ^ (ln (P k) - j) = r
theorem isSt_Sk {P : Nat → Nat} {r : Nat} : isSt P r = true ↔ Sk P 8 r := isSt_iff
theorem isBegB_iff {c m r : Nat} (h : V m c) : isBegB c r = true ↔ ∃ j, j ≤ m ∧ c / 4 ^ (m - j) = r := by
  unfold isBegB
  rw [decide_eq_true_eq, V_ln h]
  constructor
  · rintro ⟨h1, h2⟩; exact ⟨ln r, h1, h2⟩
  · rintro ⟨j, h1, h2⟩
    have hv := V_div h (show m - j ≤ m by omega)
    rw [h2, show m - (m - j) = j by omega] at hv
    rw [V_ln hv]
    exact ⟨h1, h2⟩
theorem Sk_lt {P : Nat → Nat} (ho : POs P) {k r : Nat} (hk : k ≤ 8) (h : Sk P k r) : r < 524288 ∧ 1 ≤ r := by
  rcases h with h | ⟨p, h1, h2, h3⟩
  · omega
  · obtain ⟨q1, q2, q3⟩ := PO_V (ho p (by omega)) h2
    obtain ⟨j, j1, j2⟩ := (isBegB_iff q3).mp h3
    have hv := V_div q3 (show ln (P p) - j ≤ ln (P p) by omega)
    rw [j2, show ln (P p) - (ln (P p) - j) = j by omega] at hv
    exact ⟨V_lt hv (by omega), V_pos hv⟩
theorem Sj_lt {P : Nat → Nat} (ho : POs P) {k x r : Nat} (hk : k < 8) (h0 : P k ≠ 0) (hx : x ≤ ln (P k) + 1) (h : Sj P k x r) : r < 524288 ∧ 1 ≤ r := by
  rcases h with h | ⟨j, h1, h2, h3⟩
  · exact Sk_lt ho (by omega) h
  · obtain ⟨q1, q2, q3⟩ := PO_V (ho k hk) h0
    have hv := V_div q3 (show ln (P k) - j ≤ ln (P k) by omega)
    rw [h3, show ln (P k) - (ln (P k) - j) = j by omega] at hv
    exact ⟨V_lt hv (by omega), V_pos hv⟩
theorem Sj_1 {P : Nat → Nat} {k r : Nat} : Sj P k 1 r ↔ Sk P k r := ⟨fun h => h.elim id (fun ⟨j, h1, h2, _⟩ => by omega), Or.inl⟩
theorem Sj_s {P : Nat → Nat} {k x r : Nat} (hx : 1 ≤ x) : (Sj P k x r ∨ r = P k / 4 ^ (ln (P k) - x)) ↔ Sj P k (x + 1) r := by
  constructor
  · rintro ((h | ⟨j, h1, h2, h3⟩) | h)
    · exact Or.inl h
    · exact Or.inr ⟨j, h1, by omega, h3⟩
    · exact Or.inr ⟨x, hx, by omega, h.symm⟩
  · rintro (h | ⟨j, h1, h2, h3⟩)
    · exact Or.inl (Or.inl h)
    · by_cases e : j = x
      · subst e; exact Or.inr h3.symm
      · exact Or.inl (Or.inr ⟨j, h1, by omega, h3⟩)
theorem Sj_end {P : Nat → Nat} (ho : POs P) {k r : Nat} (hk : k < 8) (h0 : P k ≠ 0) : Sj P k (ln (P k) + 1) r ↔ Sk P (k + 1) r := by
  obtain ⟨q1, q2, q3⟩ := PO_V (ho k hk) h0
  constructor
  · rintro ((h | ⟨p, h1, h2, h3⟩) | ⟨j, h1, h2, h3⟩)
    · exact Or.inl h
    · exact Or.inr ⟨p, by omega, h2, h3⟩
    · exact Or.inr ⟨k, by omega, h0, (isBegB_iff q3).mpr ⟨j, by omega, h3⟩⟩
  · rintro (h | ⟨p, h1, h2, h3⟩)
    · exact Or.inl (Or.inl h)
    · by_cases e : p = k
      · subst e
        obtain ⟨j, j1, j2⟩ := (isBegB_iff q3).mp h3
        rcases Nat.eq_zero_or_pos j with z | z
        · subst z
          rw [Nat.sub_zero, V_end q3] at j2
          exact Or.inl (Or.inl j2.symm)
        · exact Or.inr ⟨j, z, by omega, j2⟩
      · exact Or.inl (Or.inr ⟨p, by omega, h2, h3⟩)
theorem Sk_skip {P : Nat → Nat} {k r : Nat} (h0 : P k = 0) : Sk P k r ↔ Sk P (k + 1) r := by
  constructor
  · rintro (h | ⟨p, h1, h2, h3⟩)
    · exact Or.inl h
    · exact Or.inr ⟨p, by omega, h2, h3⟩
  · rintro (h | ⟨p, h1, h2, h3⟩)
    · exact Or.inl h
    · by_cases e : p = k
      · subst e; exact absurd h0 h2
      · exact Or.inr ⟨p, by omega, h2, h3⟩
theorem Enum_0 {n : Nat} {g : Nat → Nat} {S : Nat → Prop} (h : Enum n g S) (h1 : S 1) : 0 < n ∧ g 0 ≤ 1 := by
  obtain ⟨i, hi, e⟩ := h.2.2 1 h1
  refine ⟨by omega, ?_⟩
  rcases Nat.eq_zero_or_pos i with z | z
  · subst z; omega
  · have := h.2.1 0 i z hi; omega
-- the class
theorem rebuild_33 {F k M : Nat} {P : Nat → Nat} {y2 : Int32} (ho : POs P) (hk : k < 8) (h0 : P k ≠ 0) (hF : 100 ≤ F) : ∀ (d x fu n : Nat) (f : Nat → Int32) (g : Nat → Nat), x + d = ln (P k) + 1 → 1 ≤ x → d < fu → AR f n g → Enum n g (Sj P k x) → n ≤ 8 * k + x → n + d ≤ M → ∃ f' n' g', AR f' n' g' ∧ Enum n' g' (Sk P (k + 1)) ∧ n' ≤ 8 * k + 9 ∧ n' ≤ M ∧ ∀ k56, L_X1_rebuild_33 F k56 y2 (nI (P k)) (nI (ln (P k))) fu (nI x) (nI n) f = k56 (nI n') f' := by
  obtain ⟨q1, q2, q3⟩ := PO_V (ho k hk) h0
  intro d
  induction d with
  | zero =>
    intro x fu n f g hx h1 hf hA hE hn hM
    obtain ⟨fu, rfl⟩ : ∃ z, fu = z + 1 := ⟨fu - 1, by omega⟩
    have hx : x = ln (P k) + 1 := by omega
    subst hx
    refine ⟨f, n, g, hA, hE.congr (fun v => Sj_end ho hk h0), by omega, by omega, fun k56 => ?_⟩
    rw [L_X1_rebuild_33, if_lt (by omega) (by omega), if_pos (by omega)]
  | succ d ih =>
    intro x fu n f g hx h1 hf hA hE hn hM
    obtain ⟨fu, rfl⟩ : ∃ z, fu = z + 1 := ⟨fu - 1, by omega⟩
    have hv := V_div q3 (show ln (P k) - x ≤ ln (P k) by omega)
    obtain ⟨f1, n1, g1, e1, e2, e3, e4⟩ := takeState1 (F := F) (r := P k / 4 ^ (ln (P k) - x)) hA hE (by omega) (V_lt hv (by omega)) (fun v hv => (Sj_lt ho hk h0 (by omega) hv).1) hF
    obtain ⟨f', n', g', r1, r2, r3, r3', r4⟩ := ih (x + 1) fu n1 f1 g1 (by omega) (by omega) (by omega) e2 (e3.congr (fun v => Sj_s h1)) (by omega) (by omega)
    refine ⟨f', n', g', r1, r2, r3, r3', fun k56 => ?_⟩
    rw [L_X1_rebuild_33, if_lt (by omega) (by omega), if_neg (by omega), beginning3 q3 (by omega) (by omega) (by omega)]
    simp only [bnd]
    rw [e1]
    simp only [nm]
    rw [nI_1]
    exact r4 k56
theorem rebuild_12 {F M : Nat} {P : Nat → Nat} {p : Nat → Int32} (hs : SP p P) (ho : POs P) (hF : 100 ≤ F) : ∀ (d k fu n : Nat) (f : Nat → Int32) (g : Nat → Nat), k + d = 8 → d < fu → AR f n g → Enum n g (Sk P k) → n ≤ 8 * k + 1 → n + sumF (fun p => ln (P p)) d k ≤ M → ∃ f' n' g', AR f' n' g' ∧ Enum n' g' (Sk P 8) ∧ n' ≤ 65 ∧ n' ≤ M ∧ ∀ k62, L_X1_rebuild_12 F k62 p fu (nI k) (nI n) f = k62 (nI n') f' := by
  intro d
  induction d with
  | zero =>
    intro k fu n f g hk hf hA hE hn hM
    simp only [sumF] at hM
    obtain ⟨fu, rfl⟩ : ∃ z, fu = z + 1 := ⟨fu - 1, by omega⟩
    have hk : k = 8 := by omega
    subst hk
    refine ⟨f, n, g, hA, hE, hn, by omega, fun k62 => ?_⟩
    rw [L_X1_rebuild_12, if_pos (show (8 : Int32) ≤ nI 8 from by decide)]
  | succ d ih =>
    intro k fu n f g hk hf hA hE hn hM
    simp only [sumF] at hM
    obtain ⟨fu, rfl⟩ : ∃ z, fu = z + 1 := ⟨fu - 1, by omega⟩
    by_cases h0 : P k = 0
    · obtain ⟨f', n', g', r1, r2, r3, r3', r4⟩ := ih (k + 1) fu n f g (by omega) (by omega) hA (hE.congr (fun v => Sk_skip h0)) (by omega) (by omega)
      refine ⟨f', n', g', r1, r2, r3, r3', fun k62 => ?_⟩
      rw [L_X1_rebuild_12, if_neg (show ¬ (8 : Int32) ≤ nI k from nI_ge (a := k) (b := 8) (by omega) (by omega)), at_in (show k < 8 by omega) (by decide), hs k (by omega), h0]
      simp only [bnd]
      rw [show nI 0 = 0 from rfl, len3_0 (by omega)]
      simp only []
      obtain ⟨F, rfl⟩ : ∃ z, F = z + 1 := ⟨F - 1, by omega⟩
      rw [L_X1_rebuild_33, if_pos (show (0 : Int32) < 1 from by decide)]
      simp only [nm]
      rw [nI_1]
      exact r4 k62
    · obtain ⟨q1, q2, q3⟩ := PO_V (ho k (by omega)) h0
      obtain ⟨f1, n1, g1, e1, e2, e3, e3', e4⟩ := rebuild_33 (F := F) (M := n + ln (P k)) (y2 := nI k) ho (show k < 8 by omega) h0 hF (ln (P k)) 1 F n f g (by omega) (by omega) (by omega) hA (hE.congr (fun v => Sj_1.symm)) (by omega) (by omega)
      obtain ⟨f', n', g', r1, r2, r3, r3', r4⟩ := ih (k + 1) fu n1 f1 g1 (by omega) (by omega) e1 e2 (by omega) (by omega)
      refine ⟨f', n', g', r1, r2, r3, r3', fun k62 => ?_⟩
      rw [L_X1_rebuild_12, if_neg (show ¬ (8 : Int32) ≤ nI k from nI_ge (a := k) (b := 8) (by omega) (by omega)), at_in (show k < 8 by omega) (by decide), hs k (by omega)]
      simp only [bnd]
      rw [len3 q3 (by omega) (by omega)]
      simp only []
      refine Eq.trans (e4 _) ?_
      simp only [nm]
      rw [nI_1]
      exact r4 k62

