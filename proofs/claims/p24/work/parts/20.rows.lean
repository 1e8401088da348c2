/-! rows of letters as numbers: a 1, and each letter behind it as a digit to the base 4 -/
def V (n r : Nat) : Prop := 4 ^ n ≤ r ∧ r < 2 * 4 ^ n
def suf (r n : Nat) : Nat := 4 ^ n + r % 4 ^ n
theorem p4_2 (n : Nat) : (2 : Nat) ^ (2 * n) = 4 ^ n := by rw [Nat.pow_mul]
theorem p4_pos (n : Nat) : 0 < 4 ^ n := Nat.pow_pos (by decide)
theorem p4_lt {n : Nat} (h : n ≤ 9) : 4 ^ n ≤ 262144 := by
  have : (4 : Nat) ^ n ≤ 4 ^ 9 := Nat.pow_le_pow_right (by decide) h
  exact this
theorem V_lt {n r : Nat} (h : V n r) (hn : n ≤ 9) : r < 524288 := by
  have := p4_lt hn
  have := h.2
  omega
theorem V_pos {n r : Nat} (h : V n r) : 1 ≤ r := Nat.le_trans (p4_pos n) h.1
theorem V_0 : V 0 1 := ⟨by decide, by decide⟩
theorem V_0e {r : Nat} (h : V 0 r) : r = 1 := by
  have h1 := h.1
  have h2 := h.2
  simp at h1 h2
  omega
theorem V_div {n r j : Nat} (h : V n r) (hj : j ≤ n) : V (n - j) (r / 4 ^ j) := by
  have e : 4 ^ n = 4 ^ (n - j) * 4 ^ j := by rw [← Nat.pow_add]; congr 1; omega
  refine ⟨(Nat.le_div_iff_mul_le (p4_pos j)).mpr (by rw [← e]; exact h.1), Nat.div_lt_of_lt_mul ?_⟩
  have h2 := h.2
  rw [e] at h2
  calc r < 2 * (4 ^ (n - j) * 4 ^ j) := h2
    _ = 4 ^ j * (2 * 4 ^ (n - j)) := by rw [← Nat.mul_assoc, Nat.mul_comm]
theorem V_end {n r : Nat} (h : V n r) : r / 4 ^ n = 1 := by
  have := V_div h (Nat.le_refl n)
  rw [Nat.sub_self] at this
  exact V_0e this
theorem V_big {n r j : Nat} (h : V n r) (hj : j < n) : 1 < r / 4 ^ j := by
  have h1 := (V_div h (Nat.le_of_lt hj)).1
  have h2 : 4 ^ 1 ≤ 4 ^ (n - j) := Nat.pow_le_pow_right (by decide) (by omega)
  omega
theorem V_inj {n m r : Nat} (h : V n r) (k : V m r) : n = m := by
  rcases Nat.lt_trichotomy n m with q | q | q
  · have := V_big k q; rw [V_end h] at this; omega
  · exact q
  · have := V_big h q; rw [V_end k] at this; omega
theorem V_suf (r n : Nat) : V n (suf r n) := by
  have := Nat.mod_lt r (p4_pos n)
  exact ⟨Nat.le_add_right _ _, by unfold suf; omega⟩
theorem V_succ {n r a : Nat} (h : V n r) (ha : a < 4) : V (n + 1) (4 * r + a) := by
  have h1 := h.1
  have h2 := h.2
  unfold V
  rw [Nat.pow_succ]
  omega
theorem V_le {n m r q : Nat} (h : V n r) (k : V m q) (hl : n < m) : r < q := by
  have h2 := h.2
  have k1 := k.1
  have : 4 ^ (n + 1) ≤ 4 ^ m := Nat.pow_le_pow_right (by decide) hl
  rw [Nat.pow_succ] at this
  have := p4_pos n
  omega
theorem suf_self {n r : Nat} (h : V n r) : suf r n = r := by
  have e := V_end h
  have := Nat.div_add_mod r (4 ^ n)
  rw [e, Nat.mul_one] at this
  exact this
theorem suf_suf (r : Nat) {n m : Nat} (h : n ≤ m) : suf (suf r m) n = suf r n := by
  have e : 4 ^ m = 4 ^ n * 4 ^ (m - n) := by rw [← Nat.pow_add]; congr 1; omega
  unfold suf
  rw [e, Nat.mul_add_mod, Nat.mod_mul_right_mod]
theorem suf_succ (r a n : Nat) (ha : a < 4) : suf (4 * r + a) (n + 1) = 4 * suf r n + a := by
  unfold suf
  rw [Nat.pow_succ, Nat.mul_comm (4 ^ n) 4]
  have h1 : (4 * r + a) % (4 * 4 ^ n) = 4 * (r % 4 ^ n) + a := by
    have h2 := Nat.div_add_mod r (4 ^ n)
    have h3 := Nat.mod_lt r (p4_pos n)
    have h4 : 4 * r + a = 4 * 4 ^ n * (r / 4 ^ n) + (4 * (r % 4 ^ n) + a) := by
      calc 4 * r + a = 4 * (4 ^ n * (r / 4 ^ n) + r % 4 ^ n) + a := by rw [h2]
        _ = 4 * 4 ^ n * (r / 4 ^ n) + (4 * (r % 4 ^ n) + a) := by rw [Nat.mul_add, ← Nat.mul_assoc, Nat.add_assoc]
    rw [h4, Nat.mul_add_mod, Nat.mod_eq_of_lt (by omega)]
  rw [h1]
  omega
theorem suf_0 (r : Nat) : suf r 0 = 1 := by
  unfold suf
  simp [Nat.mod_one]
theorem suf_div {r n : Nat} : suf r (n + 1) / 4 = suf (r / 4) n := by
  have h1 : r = 4 * (r / 4) + r % 4 := (Nat.div_add_mod r 4).symm
  have h3 : r % 4 < 4 := Nat.mod_lt _ (by decide)
  have h2 := suf_succ (r / 4) (r % 4) n h3
  rw [← h1] at h2
  rw [h2]
  omega
-- numbers of the machine
theorem nI_sh : ∀ j, j < 16 → ((((2 : Int32) * nI j) &&& 31).toBitVec.smod 32).toNat = 2 * j := by decide +kernel
theorem nI_shr {r j : Nat} (hr : r < 2 ^ 31) (hj : j < 16) : nI r >>> (((2 : Int32) * nI j) &&& 31) = nI (r / 4 ^ j) := by
  rw [pk_shrN hr _ (2 * j) (nI_sh j hj), p4_2]
theorem nI_shl {j : Nat} (hj : j < 15) : (1 : Int32) <<< (((2 : Int32) * nI j) &&& 31) = nI (4 ^ j) := by
  have h := pk_shlN (n := 1) (((2 : Int32) * nI j) &&& 31) (2 * j) (nI_sh j (by omega)) (by
    rw [Nat.one_mul]
    exact Nat.pow_lt_pow_right (by decide) (by omega))
  rw [Nat.one_mul, p4_2] at h
  exact h
theorem nI_mod {r j : Nat} (hr : r < 2 ^ 31) (hj : j < 15) : nI r - nI r / nI (4 ^ j) * nI (4 ^ j) = nI (r % 4 ^ j) := by
  refine pk_rem hr (p4_pos j) ?_
  rw [← p4_2]
  exact Nat.pow_lt_pow_right (by decide) (by omega)
theorem len3_loop {n r : Nat} (h : V n r) (hn : n ≤ 9) (F : Nat) : ∀ (k j f : Nat), j + k = n → k < f → L_X3_lengthOf_2 F (nI r) f (nI j) = some (nI n) := by
  intro k
  induction k with
  | zero =>
    intro j f hj hf
    obtain ⟨f, rfl⟩ : ∃ g, f = g + 1 := ⟨f - 1, by omega⟩
    have hj : j = n := by omega
    subst hj
    rw [L_X3_lengthOf_2, nI_shr (by have := V_lt h hn; omega) (by omega), V_end h]
    rw [if_pos (show nI 1 ≤ 1 from by decide)]
    split <;> rfl
  | succ k ih =>
    intro j f hj hf
    obtain ⟨f, rfl⟩ : ∃ g, f = g + 1 := ⟨f - 1, by omega⟩
    have hb := V_big h (show j < n by omega)
    have hl : r / 4 ^ j ≤ r := Nat.div_le_self _ _
    have hr := V_lt h hn
    rw [L_X3_lengthOf_2, nI_shr (by omega) (by omega)]
    rw [if_neg (show ¬ (8 : Int32) < nI j from nI_nlt (a := 8) (by omega) (by omega)), if_neg (show ¬ nI (r / 4 ^ j) ≤ 1 from nI_ge (a := 1) hb (by omega))]
    show L_X3_lengthOf_2 F (nI r) f (nI j + 1) = _
    rw [nI_1]
    exact ih (j + 1) f (by omega) (by omega)
theorem len3 {n r F : Nat} (h : V n r) (hn : n ≤ 9) (hF : 20 ≤ F) : D_X3_lengthOf F (nI r) = some (nI n) := len3_loop h hn F n 0 F (by omega) (by omega)
