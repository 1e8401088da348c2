theorem inb_nI {i n : Nat} (h : i < n) (hn : n < 2 ^ 31) : inb (nI i) n = true := by
  unfold inb
  rw [Bool.and_eq_true, decide_eq_true_eq, decide_eq_true_eq, nI_clamp (by omega)]
  exact ⟨nI_pos' (by omega), h⟩
theorem grd_t {β : Type} {b : Bool} {x : Option β} (h : b = true) : grd b x = x := by subst h; rfl
theorem nI_a0 (a : Nat) : nI a + 0 = nI a := nI_add a 0
theorem nI_0a (a : Nat) : (0 : Int32) + nI a = nI a := by
  have := nI_add 0 a
  rw [Nat.zero_add] at this
  exact this
theorem nI_m1 {a : Nat} (h : 1 ≤ a) : nI a + -1 = nI (a - 1) := by
  obtain ⟨b, rfl⟩ : ∃ b, a = b + 1 := ⟨a - 1, by omega⟩
  exact pk_m1 b
theorem nI_s1 {a : Nat} (h : 1 ≤ a) : nI a - 1 = nI (a - 1) := pk_sub (a := a) (b := 1) h
theorem at_in {F n i : Nat} {f : Nat → Int32} (h : i < n) (hn : n < 2 ^ 31) : D_X5_at F n (nI i) f = some (f i) := by
  unfold D_X5_at
  rw [if_neg (nI_pos (by omega)), if_neg (show ¬ Int32.ofNat n ≤ nI i from nI_ge h hn), grd_t (inb_nI h hn), nI_clamp (by omega)]
theorem at_out {F n i : Nat} {f : Nat → Int32} (h : n ≤ i) (hi : i < 2 ^ 31) : D_X5_at F n (nI i) f = some 0 := by
  unfold D_X5_at
  rw [if_neg (nI_pos (by omega)), if_pos (show Int32.ofNat n ≤ nI i from nI_le h hi)]
theorem put_in {F n i : Nat} {x : Int32} {f : Nat → Int32} (h : i < n) (hn : n < 2 ^ 31) : D_X5_put F n (nI i) x f = some (upd f i x) := by
  unfold D_X5_put
  rw [if_neg (nI_pos (by omega)), if_neg (show ¬ Int32.ofNat n ≤ nI i from nI_ge h hn), grd_t (inb_nI h hn), nI_clamp (by omega)]
  rfl
/-- the first eight places of a row hold the patterns -/
def SP (s : Nat → Int32) (P : Nat → Nat) : Prop := ∀ p, p < 8 → s p = nI (P p)
def POs (P : Nat → Nat) : Prop := ∀ p, p < 8 → PO (P p)
theorem PO_V {c : Nat} (h : PO c) (h0 : c ≠ 0) : 1 ≤ ln c ∧ ln c ≤ 8 ∧ V (ln c) c := by
  rcases h with h | ⟨n, h1, h2, h3⟩
  · exact absurd h h0
  · rw [V_ln h3]; exact ⟨h1, h2, h3⟩
theorem nI_4 (q a : Nat) : (4 : Int32) * nI q + nI a = nI (4 * q + a) := by
  have := pk_mul 4 q
  rw [show (4 : Int32) * nI q = nI (4 * q) from this, nI_add]
