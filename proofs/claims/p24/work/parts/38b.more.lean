theorem oI_ne {m : Nat} (h : m ≤ 60) : ¬ nI m = (-1 : Int32) := by
  have key : ∀ m, m ≤ 60 → ¬ nI m = (-1 : Int32) := by decide
  exact key m h
def P0 : Nat → Nat := fun _ => 0
theorem isSt_P0 {r : Nat} : isSt P0 r = true ↔ r = 1 := by
  rw [isSt_iff]
  constructor
  · intro h
    rcases h with e | ⟨p, _, h2, _⟩
    · exact e
    · exact absurd rfl h2
  · intro e
    exact Or.inl e
theorem MO_init {xr xs xe xl : Nat → Int32} (h1 : xr 0 = 1) (h2 : xs 0 = -1) (h3 : xe 0 = 0) (h4 : ∀ i, i < 4 → xl i = 0) : MO P0 1 (fun _ => 1) xr xs xe xl := by
  refine ⟨⟨⟨fun i _ => isSt_P0.mpr rfl, fun i j hij hj => by omega, fun v hv => ⟨0, by omega, (isSt_P0.mp hv).symm⟩⟩, by omega, by omega, fun p _ => Or.inl rfl⟩, fun i hi => ?_, ⟨fun κ hκ hκ2 => ?_, fun κ hκ hκ2 => by omega, fun t κ ht1 ht2 => by omega, h2⟩, fun i hi => ?_⟩
  · have : i = 0 := by omega
    subst this
    exact h1
  · refine ⟨0, by omega, h4 κ (by omega), ?_⟩
    have hd : κ % 4 < 4 := Nat.mod_lt _ (by decide)
    exact (dl_1 hd (fun e => by have := isSt_P0.mp e; omega)).symm
  · have : i = 0 := by omega
    subst this
    exact h3
theorem add_53 {F ad : Nat} {y : Int32} {dr : Nat → Int32} : ∀ (c k fu : Nat) (np : Nat → Int32), k + c = 8 → c < fu → (∀ i, i < k → np i = dr i) → ∃ np', (∀ k84, L_X5_add_53 F k84 ad y dr fu (nI k) np = k84 np') ∧ EQ8 np' dr := by
  intro c
  induction c with
  | zero =>
    intro k fu np hk hf h
    obtain ⟨fu, rfl⟩ : ∃ z, fu = z + 1 := ⟨fu - 1, by omega⟩
    have hk : k = 8 := by omega
    subst hk
    exact ⟨np, fun k84 => by rw [L_X5_add_53, if_pos (show (8 : Int32) ≤ nI 8 from by decide)], h⟩
  | succ c ih =>
    intro k fu np hk hf h
    obtain ⟨fu, rfl⟩ : ∃ z, fu = z + 1 := ⟨fu - 1, by omega⟩
    obtain ⟨np', i1, i2⟩ := ih (k + 1) fu (upd np k (dr k)) (by omega) (by omega) (fun i hi => by
      unfold upd
      by_cases e : i = k
      · rw [if_pos e, e]
      · rw [if_neg e]; exact h i (by omega))
    refine ⟨np', fun k84 => ?_, i2⟩
    rw [L_X5_add_53, if_neg (show ¬ (8 : Int32) ≤ nI k from nI_ge (a := k) (b := 8) (by omega) (by omega)), at_in (by omega) (by decide)]
    simp only [bnd, nm]
    rw [put_in (by omega) (by decide)]
    simp only []
    rw [nI_1]
    exact i1 k84
theorem kk_le {k : Nat} (h : k ≤ 6) : kk k ≤ 6 ∧ 1 ≤ kk k := by
  unfold kk
  by_cases e : k = 6
  · rw [if_pos e]; omega
  · rw [if_neg e]; omega
theorem oo_lt {k o : Nat} (h : o < 6) : oo k o < 6 := by
  unfold oo
  by_cases e : k = 6
  · rw [if_pos e]; omega
  · rw [if_neg e]; exact h
theorem sl_lt (k o : Nat) : sl k o < 6 := by
  unfold sl
  by_cases e : k = 6
  · rw [if_pos e]; omega
  · rw [if_neg e]; omega
theorem setP_PO {P : Nat → Nat} (h : POs P) (p : Nat) : POs (setP P p 0) := h.set p (Or.inl rfl)
