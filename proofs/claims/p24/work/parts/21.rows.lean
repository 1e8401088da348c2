def b2 (b : Bool) : Int32 := if b then 1 else 0
theorem if_lt {β : Type} {a b : Nat} {i : Decidable (nI a < nI b)} {x y : β} (ha : a < 2 ^ 31) (hb : b < 2 ^ 31) : (@ite β (nI a < nI b) i x y) = (if a < b then x else y) := by
  by_cases h : a < b
  · rw [if_pos h, if_pos ((nI_ltI ha hb).mpr h)]
  · rw [if_neg h, if_neg (fun q => h ((nI_ltI ha hb).mp q))]
theorem if_le {β : Type} {a b : Nat} {i : Decidable (nI a ≤ nI b)} {x y : β} (ha : a < 2 ^ 31) (hb : b < 2 ^ 31) : (@ite β (nI a ≤ nI b) i x y) = (if a ≤ b then x else y) := by
  by_cases h : a ≤ b
  · rw [if_pos h, if_pos ((nI_leI ha hb).mpr h)]
  · rw [if_neg h, if_neg (fun q => h ((nI_leI ha hb).mp q))]
theorem if_eq {β : Type} {a b : Nat} {i : Decidable (nI a = nI b)} {x y : β} (ha : a < 2 ^ 31) (hb : b < 2 ^ 31) : (@ite β (nI a = nI b) i x y) = (if a = b then x else y) := by
  by_cases h : a = b
  · rw [if_pos h, if_pos ((nI_eq ha hb).mpr h)]
  · rw [if_neg h, if_neg (fun q => h ((nI_eq ha hb).mp q))]
theorem b2_t : ¬ b2 true = 0 := by decide
theorem b2_f : b2 false = 0 := rfl
theorem if_b2 {β : Type} {b : Bool} {i : Decidable (b2 b = 0)} {x y : β} : (@ite β (b2 b = 0) i x y) = (if b = true then y else x) := by
  cases b
  · rw [if_pos b2_f]; rfl
  · rw [if_neg b2_t]; rfl
def ln (r : Nat) : Nat := Nat.log2 r / 2
theorem V_ln {n r : Nat} (h : V n r) : ln r = n := by
  have hp := V_pos h
  have h1 : 2 * n ≤ Nat.log2 r := (Nat.le_log2 (by omega)).mpr (by rw [p4_2]; exact h.1)
  have h2 : Nat.log2 r < 2 * n + 1 := (Nat.log2_lt (by omega)).mpr (by rw [Nat.pow_succ, p4_2, Nat.mul_comm]; exact h.2)
  unfold ln
  omega
theorem ln_0 : ln 0 = 0 := by decide
theorem b2_0 (b : Bool) : b2 b = 0 ↔ b = false := by cases b <;> decide
theorem b2_0' (b : Bool) : (b2 b = 0) = (b = false) := propext (b2_0 b)
theorem b2_le (b : Bool) : b2 b ≤ 0 ↔ b = false := by cases b <;> decide
theorem b2_bo (b : Bool) : bo (b2 b) = true := by cases b <;> decide
theorem b2_ite {c : Prop} [Decidable c] : (if c then some (1 : Int32) else some 0) = some (b2 (decide c)) := by
  by_cases h : c <;> simp [h, b2]
def isEndB (r e : Nat) : Bool := decide (ln e ≤ ln r ∧ suf r (ln e) = e)
def isBegB (c r : Nat) : Bool := decide (ln r ≤ ln c ∧ c / 4 ^ (ln c - ln r) = r)
theorem nI_ne0' {n : Nat} (h0 : 0 < n) (h : n < 2 ^ 31) : (!decide (nI n = 0)) = true := by
  simp only [Bool.not_eq_true', decide_eq_false_iff_not]
  exact nI_ne0 h0 h
theorem p4_lt31 {n : Nat} (h : n ≤ 9) : 4 ^ n < 2 ^ 31 := Nat.lt_of_le_of_lt (p4_lt h) (by decide)
theorem suf_lt {r n : Nat} (h : n ≤ 9) : suf r n < 524288 := V_lt (V_suf r n) h
-- the class's
theorem nI_or {a k : Nat} (hk : k < 31) (h : a < 2 ^ k) : nI (2 ^ k) ||| nI a = nI (2 ^ k + a) := by
  have h1 : 2 ^ k + a = 2 ^ k ||| a := by
    have := Nat.two_pow_add_eq_or_of_lt h 1
    simpa using this
  rw [h1]
  apply Int32.toBitVec_inj.mp
  show (Int32.ofNat (2 ^ k)).toBitVec ||| (Int32.ofNat a).toBitVec = (Int32.ofNat (2 ^ k ||| a)).toBitVec
  apply BitVec.eq_of_toNat_eq
  simp only [Int32.toBitVec_ofNat', BitVec.toNat_or, BitVec.toNat_ofNat]
  have h2 : a < 2 ^ 32 := Nat.lt_trans h (Nat.pow_lt_pow_right (by decide) (by omega))
  have h3 : 2 ^ k < 2 ^ 32 := Nat.pow_lt_pow_right (by decide) (by omega)
  rw [Nat.mod_eq_of_lt h2, Nat.mod_eq_of_lt h3, Nat.mod_eq_of_lt (Nat.or_lt_two_pow h3 h2)]
theorem nI_and {r k : Nat} (hr : r < 2 ^ 32) (hk : k < 31) : nI r &&& (nI (2 ^ k) - 1) = nI (r % 2 ^ k) := by
  have e : nI (2 ^ k) - 1 = nI (2 ^ k - 1) := pk_sub (a := 2 ^ k) (b := 1) (Nat.pow_pos (by decide))
  rw [e]
  refine pk_andN hr k (pk_tn ?_)
  have h3 : 2 ^ k < 2 ^ 32 := Nat.pow_lt_pow_right (by decide) (by omega)
  omega
theorem end3 {r n F : Nat} (hr : r < 2 ^ 31) (hn : n ≤ 9) : D_X3_end F (nI r) (nI n) = some (nI (suf r n)) := by
  unfold D_X3_end
  simp only [nm]
  rw [nI_shl (show n < 15 by omega), ← p4_2, nI_and (by omega) (by omega), nI_or (by omega) (Nat.mod_lt _ (Nat.pow_pos (by decide))), p4_2]
  rfl
theorem beginning3 {r n k F : Nat} (h : V n r) (hn : n ≤ 9) (hk : k ≤ n) (hF : 20 ≤ F) : D_X3_beginning F (nI r) (nI k) = some (nI (r / 4 ^ (n - k))) := by
  unfold D_X3_beginning
  rw [len3 h hn hF]
  show some (nI r >>> (((2 : Int32) * (nI n - nI k)) &&& 31)) = _
  rw [pk_sub hk, nI_shr (by have := V_lt h hn; omega) (by omega)]
theorem endsWith3 {r n e m F : Nat} (h : V n r) (hn : n ≤ 9) (he : V m e) (hm : m ≤ 9) (hF : 20 ≤ F) : D_X3_endsWith F (nI r) (nI e) = some (b2 (isEndB r e)) := by
  unfold D_X3_endsWith isEndB
  rw [V_ln h, V_ln he, len3 he hm hF]
  show bnd (D_X3_lengthOf F (nI r)) _ = _
  rw [len3 h hn hF]
  show (if nI n < nI m then _ else _) = _
  rw [if_lt (by omega) (by omega)]
  by_cases hl : n < m
  · rw [if_pos hl]
    simp [show ¬ m ≤ n by omega, b2]
  · rw [if_neg hl, end3 (by have := V_lt h hn; omega) hm]
    show (if nI (suf r m) = nI e then _ else _) = _
    rw [if_eq (by have := suf_lt (r := r) hm; omega) (by have := V_lt he hm; omega)]
    rw [b2_ite]
    simp [show m ≤ n by omega]
theorem beginsWith3 {r n e m F : Nat} (h : V n r) (hn : n ≤ 9) (he : V m e) (hm : m ≤ 9) (hF : 20 ≤ F) : D_X3_beginsWith F (nI r) (nI e) = some (b2 (isBegB r e)) := by
  unfold D_X3_beginsWith isBegB nm
  rw [V_ln h, V_ln he, len3 h hn hF]
  show bnd (D_X3_lengthOf F (nI e)) _ = _
  rw [len3 he hm hF]
  show (if nI n - nI m < 0 then _ else _) = _
  by_cases hl : n < m
  · rw [if_pos (pk_sneg (by omega) hl)]
    simp [show ¬ m ≤ n by omega, b2]
  · rw [pk_sub (by omega), if_neg (nI_pos (by omega)), nI_shr (by have := V_lt h hn; omega) (by omega)]
    have hd : r / 4 ^ (n - m) ≤ r := Nat.div_le_self _ _
    rw [if_eq (by have := V_lt h hn; omega) (by have := V_lt he hm; omega)]
    rw [b2_ite]
    simp [show m ≤ n by omega]
theorem behind3 {r a F : Nat} (hr : r < 524288) (ha : a < 4) : D_X3_behind F (nI r) (nI a) = some (nI (4 * r + a)) := by
  unfold D_X3_behind
  have h1 : nI r <<< ((2 : Int32) &&& 31) = nI (r * 2 ^ 2) := pk_shlN _ 2 (by decide) (by omega)
  have h2 : nI a &&& 3 = nI (a % 2 ^ 2) := pk_andN (by omega) 2 (by decide)
  have h3 : ∀ k : Nat, k < 2 ^ 30 → ∀ b : Nat, b < 4 → nI (k * 2 ^ 2) ||| nI b = nI (4 * k + b) := by
    intro k hk b hb
    have e : 4 * k + b = k * 2 ^ 2 ||| b := by
      have := Nat.two_pow_add_eq_or_of_lt (show b < 2 ^ 2 from hb) k
      rw [show (2 : Nat) ^ 2 = 4 from rfl] at this ⊢
      rw [Nat.mul_comm k 4]
      exact this
    rw [e]
    apply Int32.toBitVec_inj.mp
    show (Int32.ofNat (k * 2 ^ 2)).toBitVec ||| (Int32.ofNat b).toBitVec = (Int32.ofNat (k * 2 ^ 2 ||| b)).toBitVec
    apply BitVec.eq_of_toNat_eq
    simp only [Int32.toBitVec_ofNat', BitVec.toNat_or, BitVec.toNat_ofNat]
    have q1 : k * 2 ^ 2 < 2 ^ 32 := by omega
    have q2 : b < 2 ^ 32 := by omega
    rw [Nat.mod_eq_of_lt q1, Nat.mod_eq_of_lt q2, Nat.mod_eq_of_lt (Nat.or_lt_two_pow q1 q2)]
  rw [h1, h2, Nat.mod_eq_of_lt (show a < 2 ^ 2 from ha), h3 r (by omega) a ha]
theorem last3 {r F : Nat} (hr : r < 524288) : D_X3_lastLetter F (nI r) = some (nI (r % 4)) := by
  unfold D_X3_lastLetter
  have h2 : nI r &&& 3 = nI (r % 2 ^ 2) := pk_andN (by omega) 2 (by decide)
  rw [h2]
theorem latest3 {r n F : Nat} (h : V n r) (hn : n ≤ 9) (hF : 20 ≤ F) : D_X3_latest F (nI r) = some (nI (if n ≤ 8 then r else suf r 8)) := by
  unfold D_X3_latest
  rw [len3 h hn hF]
  show (if nI n ≤ nI 8 then _ else _) = _
  rw [if_le (by omega) (by omega)]
  by_cases hl : n ≤ 8
  · rw [if_pos hl, if_pos hl]
  · rw [if_neg hl, if_neg hl]
    show bnd (D_X3_end F (nI r) (nI 8)) _ = _
    rw [end3 (by have := V_lt h hn; omega) (by omega)]
    rfl
theorem len3_0 {F : Nat} (hF : 20 ≤ F) : D_X3_lengthOf F 0 = some 0 := by
  obtain ⟨f, rfl⟩ : ∃ g, F = g + 1 := ⟨F - 1, by omega⟩
  unfold D_X3_lengthOf
  rw [L_X3_lengthOf_2]
  rfl
theorem letterAt3 {r n k F : Nat} (h : V n r) (hn : n ≤ 9) (hk : k < 16) (hF : 20 ≤ F) : D_X3_letterAt F (nI r) (nI k) = some (if k < n then nI (r / 4 ^ (n - 1 - k) % 4) else -1) := by
  unfold D_X3_letterAt
  rw [len3 h hn hF]
  show (if nI n ≤ nI k then _ else _) = _
  rw [if_le (by omega) (by omega)]
  by_cases hl : n ≤ k
  · rw [if_pos hl, if_neg (by omega)]
  · rw [if_neg hl, if_pos (by omega)]
    have e1 : nI n - 1 - nI k = nI (n - 1 - k) := by
      rw [show nI n - 1 = nI (n - 1) from pk_sub (a := n) (b := 1) (by omega), pk_sub (by omega)]
    rw [e1, nI_shr (by have := V_lt h hn; omega) (by omega)]
    have hd : r / 4 ^ (n - 1 - k) ≤ r := Nat.div_le_self _ _
    rw [last3 (by have := V_lt h hn; omega)]
    rfl
theorem letterAt3_0 {k F : Nat} (hk : k < 16) (hF : 20 ≤ F) : D_X3_letterAt F 0 (nI k) = some (-1) := by
  unfold D_X3_letterAt
  rw [len3_0 hF]
  show (if (0 : Int32) ≤ nI k then _ else _) = _
  rw [if_pos (nI_pos' (by omega))]

