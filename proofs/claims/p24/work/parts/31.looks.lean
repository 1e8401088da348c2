theorem V_beg {n r k : Nat} (h : V n r) (hk : k ≤ n) : V k (r / 4 ^ (n - k)) := by
  have := V_div h (show n - k ≤ n by omega)
  rw [show n - (n - k) = k by omega] at this
  exact this
theorem patternIn5 {F p : Nat} {pats : Nat → Int32} {P : Nat → Nat} (hs : SP pats P) (hp : p < 8) : D_X5_patternIn F (nI p) pats = some (nI (P p)) := by
  unfold D_X5_patternIn
  rw [at_in hp (by decide), hs p hp]
  rfl
theorem if_nI0 {β : Type} {a : Nat} {i : Decidable (nI a = 0)} {x y : β} (ha : a < 2 ^ 31) : (@ite β (nI a = 0) i x y) = (if a = 0 then x else y) := by
  by_cases h : a = 0
  · rw [if_pos h]; subst h; exact if_pos rfl
  · rw [if_neg h]; exact if_neg (nI_ne0 (by omega) ha)
/-- the state of a pattern is the pattern -/
theorem sa_self {P : Nat → Nat} {m r : Nat} (hr : V m r) (h : isSt P r = true) : sa P r m = r := by
  cases m with
  | zero => rw [V_0e hr]; exact suf_0 _
  | succ m =>
    simp only [sa]
    rw [suf_self hr, if_pos h]

