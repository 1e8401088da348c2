def P0 : Nat → Nat := fun _ => 0
theorem isSt_P0 {r : Nat} : isSt P0 r = true ↔ r = 1 := by
  rw [isSt_iff]
  constructor
  · intro h
    rcases h with e | ⟨p, _, h2, _⟩
    · exact e
    · exact absurd rfl h2
  · intro e
    exact Or.inl e
theorem MO_init {xr xs xe xl : Nat → Int32} (h1 : xr 0 = 1) (h2 : xs 0 = -1) (h3 : xe 0 = 0) (h4 : ∀ i, i < 4 → xl i = 0) : MO P0 1 (fun _ => 1) xr xs xe xl := by
  refine ⟨⟨⟨fun i _ => isSt_P0.mpr rfl, fun i j hij hj => by omega, fun v hv => ⟨0, by omega, (isSt_P0.mp hv).symm⟩⟩, by omega, by omega, fun p _ => Or.inl rfl⟩, fun i hi => ?_, ⟨fun κ hκ hκ2 => ?_, fun κ hκ hκ2 => by omega, fun t κ ht1 ht2 => by omega, h2⟩, fun i hi => ?_⟩
  · have : i = 0 := by omega
    subst this
    exact h1
  · refine ⟨0, by omega, h4 κ (by omega), ?_⟩
    have hd : κ % 4 < 4 := Nat.mod_lt _ (by decide)
    exact (dl_1 hd (fun e => by have := isSt_P0.mp e; omega)).symm
  · have : i = 0 := by omega
    subst this
    exact h3
theorem st_init {np nc nl xr xs xe xl s : Nat → Int32} (h1 : xr 0 = 1) (h2 : xs 0 = -1) (h3 : xe 0 = 0) (h4 : ∀ i, i < 4 → xl i = 0) (n1 : ∀ p, p < 8 → np p = 0) (n2 : ∀ p, p < 8 → nc p = 0) (n3 : ∀ p, p < 8 → nl p = -1) (s1 : ∀ p, p < 8 → s p = 0) (s2 : ∀ p, p < 8 → s (8 + p) = 0) (s3 : ∀ p, p < 8 → s (16 + p) = -1) (s24 : s 24 = 0) (s25 : s 25 = 0) (s26 : s 26 = 0) (s27 : s 27 = 0) (s28 : s 28 = -1) (s29 : s 29 = 0) (s30 : s 30 = 0) : RV np nc nl 0 1 0 0 (-1) 0 0 xr xs xe xl 1 s :=
  ⟨P0, 1, _, ⟨n1, 0, 0, 1, rfl, rfl, rfl, by omega, ⟨s1, fun p _ => Or.inl rfl, by omega, s24, s25, V_0, s26⟩, s27, s28, s29, s30, fun p hp => ⟨(s2 p hp).trans (n2 p hp).symm, (s3 p hp).trans (n3 p hp).symm⟩⟩, rfl, MO_init h1 h2 h3 h4⟩
theorem RK_init {mp mc ml : Nat → Nat → Int32} {mru mre mrd mto mla mfa mmo : Nat → Int32} {sv : Nat → Int32} : RK 0 0 0 mp mc ml mru mre mrd mto mla mfa mmo sv := ⟨0, 0, by omega, by omega, rfl, rfl, rfl, fun j hj => by omega⟩
theorem RB_init {bc tx : Nat → Int32} : RB bc tx 0 0 := ⟨0, fun _ => 0, rfl, rfl, by omega, fun i hi => by omega⟩
