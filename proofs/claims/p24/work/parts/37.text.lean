def CO (codes text : Nat → Int32) (b : Nat) (C : Nat → Nat) : Prop := b ≤ 60 ∧ ∀ i, i < b → codes i = nI (C i) ∧ text i = nI (C i) ∧ C i < 127
def isL (c : Nat) : Bool := decide (97 ≤ c ∧ c ≤ 100)
def isT (c : Nat) : Bool := decide (50 ≤ c ∧ c ≤ 57)
theorem isL_iff {c : Nat} : isL c = true ↔ 97 ≤ c ∧ c ≤ 100 := by unfold isL; exact decide_eq_true_iff
theorem isT_iff {c : Nat} : isT c = true ↔ 50 ≤ c ∧ c ≤ 57 := by unfold isT; exact decide_eq_true_iff
theorem rng {c lo hi : Nat} (hc : c < 2 ^ 31) (hl : lo < 2 ^ 31) (hh : hi < 2 ^ 31) : (if nI c < nI lo then some (0 : Int32) else (if nI hi < nI c then some 0 else some 1)) = some (b2 (decide (lo ≤ c ∧ c ≤ hi))) := by
  rw [if_lt hc hl, if_lt hh hc]
  by_cases h1 : c < lo
  · rw [if_pos h1]
    rw [show decide (lo ≤ c ∧ c ≤ hi) = false from decide_eq_false (by omega)]
    rfl
  · rw [if_neg h1]
    by_cases h2 : hi < c
    · rw [if_pos h2, show decide (lo ≤ c ∧ c ≤ hi) = false from decide_eq_false (by omega)]
      rfl
    · rw [if_neg h2, show decide (lo ≤ c ∧ c ≤ hi) = true from decide_eq_true (by omega)]
      rfl
theorem isLetterCode0 {F c : Nat} (hc : c < 127) : D_X0_isLetterCode F (nI c) = some (b2 (isL c)) := rng (lo := 97) (hi := 100) (by omega) (by decide) (by decide)
/-- the parts of the rest of a text, the last one even if it is empty -/
def mp (C : Nat → Nat) : Nat → Nat → Nat → List Nat
  | 0, _, row => [row]
  | c + 1, k, row => if C k = 59 then row :: mp C c (k + 1) 1 else mp C c (k + 1) (4 * row + (C k - 97))
def fr (C : Nat → Nat) : Nat → Nat → Nat → Nat
  | 0, _, row => row
  | c + 1, k, row => if C k = 59 then fr C c (k + 1) 1 else fr C c (k + 1) (4 * row + (C k - 97))
/-- no error in the rest of a text -/
def OKt (C : Nat → Nat) : Nat → Nat → Nat → Prop
  | 0, _, _ => True
  | c + 1, k, row => if C k = 59 then row ≠ 1 ∧ OKt C c (k + 1) 1 else (isL (C k) = true ∧ ln row < 8) ∧ OKt C c (k + 1) (4 * row + (C k - 97))
theorem mp_len (C : Nat → Nat) : ∀ (c k row : Nat), 1 ≤ (mp C c k row).length := by
  intro c
  induction c with
  | zero => intro k row; exact Nat.le_refl 1
  | succ c ih =>
    intro k row
    unfold mp
    by_cases h : C k = 59
    · rw [if_pos h]; simp
    · rw [if_neg h]; exact ih _ _
