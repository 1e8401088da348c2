def CO (codes text : Nat → Int32) (b : Nat) (C : Nat → Nat) : Prop := b ≤ 60 ∧ ∀ i, i < b → codes i = nI (C i) ∧ text i = nI (C i) ∧ C i < 127
def isL (c : Nat) : Bool := decide (97 ≤ c ∧ c ≤ 100)
def isT (c : Nat) : Bool := decide (50 ≤ c ∧ c ≤ 57)
theorem isL_iff {c : Nat} : isL c = true ↔ 97 ≤ c ∧ c ≤ 100 := by unfold isL; exact decide_eq_true_iff
theorem isT_iff {c : Nat} : isT c = true ↔ 50 ≤ c ∧ c ≤ 57 := by unfold isT; exact decide_eq_true_iff
theorem rng {c lo hi : Nat} (hc : c < 2 ^ 31) (hl : lo < 2 ^ 31) (hh : hi < 2 ^ 31) : (if nI c < nI lo then some (0 : Int32) else (if nI hi < nI c then some 0 else some 1)) = some (b2 (decide (lo ≤ c ∧ c ≤ hi))) := by
  rw [if_lt hc hl, if_lt hh hc]
  by_cases h1 : c < lo
  · rw [if_pos h1]
    rw [show decide (lo ≤ c ∧ c ≤ hi) = false from decide_eq_false (by omega)]
    rfl
  · rw [if_neg h1]
    by_cases h2 : hi < c
    · rw [if_pos h2, show decide (lo ≤ c ∧ c ≤ hi) = false from decide_eq_false (by omega)]
      rfl
    · rw [if_neg h2, show decide (lo ≤ c ∧ c ≤ hi) = true from decide_eq_true (by omega)]
      rfl
theorem isLetterCode0 {F c : Nat} (hc : c < 127) : D_X0_isLetterCode F (nI c) = some (b2 (isL c)) := rng (lo := 97) (hi := 100) (by omega) (by decide) (by decide)
theorem isTimesCode0 {F c : Nat} (hc : c < 127) : D_X0_isTimesCode F (nI c) = some (b2 (isT c)) := rng (lo := 50) (hi := 57) (by omega) (by decide) (by decide)
theorem in6L {F c : Nat} (hc : c < 127) : D_X6_in F (nI c) 97 100 = some (b2 (isL c)) := rng (lo := 97) (hi := 100) (by omega) (by decide) (by decide)
theorem in6T {F c : Nat} (hc : c < 127) : D_X6_in F (nI c) 50 57 = some (b2 (isT c)) := rng (lo := 50) (hi := 57) (by omega) (by decide) (by decide)
theorem lettersOf0 {F c : Nat} (hc : c < 127) : D_X0_lettersOf F (nI c) = some (nI (if isT c = true then c - 49 else 1)) := by
  unfold D_X0_lettersOf
  rw [isTimesCode0 hc]
  simp only [bnd]
  rw [if_b2]
  by_cases h : isT c = true
  · rw [if_pos h, if_pos h]
    have := isT_iff.mp h
    exact congrArg some (pk_sub (a := c) (b := 49) (by omega))
  · rw [if_neg h, if_neg h]
    rfl
/-- the row behind one more code -/
def nr (C : Nat → Nat) (k row : Nat) : Nat := if C k = 59 then 1 else 4 * row + (C k - 97)
/-- the parts of the rest of a text, the last one even if it is empty -/
def mp (C : Nat → Nat) : Nat → Nat → Nat → List Nat
  | 0, _, row => [row]
  | c + 1, k, row => if C k = 59 then row :: mp C c (k + 1) 1 else mp C c (k + 1) (4 * row + (C k - 97))
def fr (C : Nat → Nat) : Nat → Nat → Nat → Nat
  | 0, _, row => row
  | c + 1, k, row => if C k = 59 then fr C c (k + 1) 1 else fr C c (k + 1) (4 * row + (C k - 97))
/-- no error in the rest of a text -/
def OKt (C : Nat → Nat) : Nat → Nat → Nat → Prop
  | 0, _, _ => True
  | c + 1, k, row => if C k = 59 then row ≠ 1 ∧ OKt C c (k + 1) 1 else (isL (C k) = true ∧ ln row < 8) ∧ OKt C c (k + 1) (4 * row + (C k - 97))
/-- the array from a place on is the list -/
def LR (rows : Nat → Int32) : Nat → List Nat → Prop
  | _, [] => True
  | j, r :: rs => rows j = nI r ∧ LR rows (j + 1) rs
theorem LR.cong {rows rows' : Nat → Int32} : ∀ (l : List Nat) (j : Nat), LR rows j l → (∀ i, j ≤ i → i < j + l.length → rows' i = rows i) → LR rows' j l := by
  intro l
  induction l with
  | nil => intro j _ _; exact trivial
  | cons r rs ih =>
    intro j h hc
    exact ⟨(hc j (Nat.le_refl j) (by simp)).trans h.1, ih (j + 1) h.2 (fun i q1 q2 => hc i (by omega) (by simp only [List.length_cons]; omega))⟩
theorem mp_len (C : Nat → Nat) : ∀ (c k row : Nat), 1 ≤ (mp C c k row).length := by
  intro c
  induction c with
  | zero => intro k row; exact Nat.le_refl 1
  | succ c ih =>
    intro k row
    unfold mp
    by_cases h : C k = 59
    · rw [if_pos h]; simp
    · rw [if_neg h]; exact ih _ _
def kGP : Int32 → Int32 → Int32 → Int32 → (Nat → Int32) → Option (Int32 × Int32 × Int32 × (Nat → Int32)) := fun x1_39 v_at_40 v_isWrong_41 v_manyRows_42 v_rows_43 => grd (inb v_manyRows_42 31) (nm (upd v_rows_43 v_manyRows_42.toNatClampNeg x1_39) (fun v_rows_74 => nm (v_manyRows_42 + 1) (fun f_manyRows_75 => some (v_at_40, v_isWrong_41, f_manyRows_75, v_rows_74))))
/-- the first error in patterns, and the rows before it -/
theorem fep_sim {F b : Nat} {codes text : Nat → Int32} {C : Nat → Nat} (hC : CO codes text b C) (hF : 300 ≤ F) : ∀ (c k fu fv n row m : Nat) (rows : Nat → Int32), k + c = b → c < fu → c < fv → V n row → n ≤ 8 → 2 * m + n ≤ k → ∃ t w M rows', L_X0_firstErrorInPatterns_4 F (nI b) codes fu (nI n) (nI k) = some (nI t) ∧ L_X6_goPatterns_17 F kGP (nI b) text fv (nI row) (nI k) 0 (nI m) rows = some (nI t, b2 w, nI M, rows') ∧ m < M ∧ M ≤ 31 ∧ (∀ i, i < m → rows' i = rows i) ∧ t ≤ b ∧ (w = true → t < b) ∧ (w = false → t = b ∧ OKt C c k row ∧ LR rows' m (mp C c k row) ∧ M = m + (mp C c k row).length ∧ rows' (M - 1) = nI (fr C c k row)) := by
  intro c
  have hb := hC.1
  induction c with
  | zero =>
    intro k fu fv n row m rows hk hf hv hV hn hm
    obtain ⟨fu, rfl⟩ : ∃ z, fu = z + 1 := ⟨fu - 1, by omega⟩
    obtain ⟨fv, rfl⟩ : ∃ z, fv = z + 1 := ⟨fv - 1, by omega⟩
    have hk : k = b := by omega
    subst hk
    refine ⟨k, false, m + 1, upd rows m (nI row), ?_, ?_, by omega, by omega, fun i hi => ?_, Nat.le_refl k, fun h => (by cases h), fun _ => ⟨rfl, trivial, ⟨?_, trivial⟩, rfl, ?_⟩⟩
    · rw [L_X0_firstErrorInPatterns_4, if_pos (nI_le (Nat.le_refl _) (by omega))]
    · rw [L_X6_goPatterns_17, if_pos (nI_le (Nat.le_refl _) (by omega))]
      unfold kGP
      rw [grd_t (inb_nI (by omega) (by decide)), nI_clamp (by omega)]
      simp only [nm]
      rw [nI_1]
      rfl
    · unfold upd; rw [if_neg (by omega)]
    · unfold upd; rw [if_pos rfl]
    · rw [show m + 1 - 1 = m from rfl]; unfold upd; rw [if_pos rfl]; rfl
  | succ c ih =>
    intro k fu fv n row m rows hk hf hv hV hn hm
    obtain ⟨fu, rfl⟩ : ∃ z, fu = z + 1 := ⟨fu - 1, by omega⟩
    obtain ⟨fv, rfl⟩ : ∃ z, fv = z + 1 := ⟨fv - 1, by omega⟩
    obtain ⟨c1, c2, c3⟩ := hC.2 k (by omega)
    have hVl := V_ln hV
    have hrow := V_lt hV (by omega)
    rw [L_X0_firstErrorInPatterns_4, if_neg (nI_ge (by omega) (by omega)), at_in (by omega) (by decide), c1]
    simp only [bnd]
    rw [isLetterCode0 c3]
    simp only [jp, nm]
    rw [if_b2, L_X6_goPatterns_17, if_neg (nI_ge (by omega) (by omega)), if_pos rfl, grd_t (inb_nI (by omega) (by decide)), nI_clamp (by omega), c2]
    simp only [nm]
    rw [in6L c3]
    simp only [bnd, jp]
    rw [if_b2]
    have e8 : ∀ {β : Type} {x y : β} {i : Decidable ((8 : Int32) ≤ nI n)}, (@ite β ((8 : Int32) ≤ nI n) i x y) = (if 8 ≤ n then x else y) := fun {β x y i} => if_le (a := 8) (b := n) (by decide) (by omega)
    have e59 : ∀ {β : Type} {x y : β} {i : Decidable (nI (C k) = 59)}, (@ite β (nI (C k) = 59) i x y) = (if C k = 59 then x else y) := fun {β x y i} => if_eq (a := C k) (b := 59) (by omega) (by decide)
    have er1 : ∀ {β : Type} {x y : β} {i : Decidable (nI row = 1)}, (@ite β (nI row = 1) i x y) = (if row = 1 then x else y) := fun {β x y i} => if_eq (a := row) (b := 1) (by omega) (by decide)
    have en0 : ∀ {β : Type} {x y : β} {i : Decidable (nI n ≤ 0)}, (@ite β (nI n ≤ 0) i x y) = (if n ≤ 0 then x else y) := fun {β x y i} => if_le (a := n) (b := 0) (by omega) (by decide)
    have hn1 : row = 1 ↔ n = 0 := ⟨fun e => by subst e; exact V_inj hV V_0, fun e => by subst e; exact V_0e hV⟩
    rw [len6 hV (by omega) (by omega)]
    simp only []
    rw [e8, e8, e59, e59, er1, en0]
    -- an error here
    have bad : ∀ (x : Option (Int32 × Int32 × Int32 × (Nat → Int32))), x = some (nI k, b2 true, nI (m + 1), upd rows m (nI row)) → ∃ t w M rows', some (nI k) = some (nI t) ∧ x = some (nI t, b2 w, nI M, rows') ∧ m < M ∧ M ≤ 31 ∧ (∀ i, i < m → rows' i = rows i) ∧ t ≤ b ∧ (w = true → t < b) ∧ (w = false → t = b ∧ OKt C (c + 1) k row ∧ LR rows' m (mp C (c + 1) k row) ∧ M = m + (mp C (c + 1) k row).length ∧ rows' (M - 1) = nI (fr C (c + 1) k row)) := by
      intro x hx
      exact ⟨k, true, m + 1, upd rows m (nI row), rfl, hx, by omega, by omega, fun i hi => by unfold upd; rw [if_neg (by omega)], by omega, fun _ => by omega, fun h => by cases h⟩
    have bad2 : (grd (bo 1) (L_X6_goPatterns_17 F kGP (nI b) text fv (nI row) (nI k + 0) 1 (nI m) rows)) = some (nI k, b2 true, nI (m + 1), upd rows m (nI row)) := by
      obtain ⟨fv, rfl⟩ : ∃ z, fv = z + 1 := ⟨fv - 1, by omega⟩
      rw [grd_t (show bo 1 = true by decide), nI_a0, L_X6_goPatterns_17, if_neg (nI_ge (by omega) (by omega)), if_neg (show ¬ (1 : Int32) = 0 by decide)]
      unfold kGP
      rw [grd_t (inb_nI (by omega) (by decide)), nI_clamp (by omega)]
      simp only [nm]
      rw [nI_1]
      rfl
    by_cases hl : isL (C k) = true
    · have hlr := isL_iff.mp hl
      have h59 : ¬ C k = 59 := by omega
      rw [if_pos hl, if_pos hl]
      by_cases h8 : 8 ≤ n
      · rw [if_pos h8, if_pos h8, if_neg h59]
        refine bad _ ?_
        rw [if_pos True.intro, if_neg h59, if_pos True.intro]
        exact bad2
      · rw [if_neg h8, if_neg h8]
        obtain ⟨t, w, M, rows', i1, i2, i3, i3', i4, i5, i6, i7⟩ := ih (k + 1) fu fv (n + 1) (4 * row + (C k - 97)) m rows (by omega) (by omega) (by omega) (V_succ hV (by omega)) (by omega) (by omega)
        refine ⟨t, w, M, rows', ?_, ?_, i3, i3', i4, i5, i6, fun hw => ?_⟩
        · rw [nI_1, nI_1]
          exact i1
        · rw [if_neg (show ¬ (1 : Int32) = 0 by decide), grd_t (show bo 0 = true by decide), if_neg (show ¬ (1 : Int32) = 0 by decide), if_pos True.intro, nI_4, show (97 : Int32) = nI 97 from rfl, pk_sub (by omega), nI_1, show 4 * row + C k - 97 = 4 * row + (C k - 97) by omega]
          exact i2
        · obtain ⟨j1, j2, j3, j4, j5⟩ := i7 hw
          refine ⟨j1, ?_, ?_, ?_, ?_⟩
          · unfold OKt; rw [if_neg h59]; exact ⟨⟨hl, by omega⟩, j2⟩
          · unfold mp; rw [if_neg h59]; exact j3
          · unfold mp; rw [if_neg h59]; exact j4
          · unfold fr; rw [if_neg h59]; exact j5
    · rw [if_neg hl, if_neg hl, if_pos True.intro]
      by_cases h59 : C k = 59
      · rw [if_pos h59, if_pos h59]
        by_cases h0 : n ≤ 0
        · have h1 : row = 1 := hn1.mpr (by omega)
          rw [if_pos h0, if_pos h1]
          refine bad _ ?_
          rw [if_pos True.intro, if_neg (show ¬ (1 : Int32) = 0 by decide), if_neg (show ¬ (1 : Int32) = 0 by decide)]
          exact bad2
        · have h1 : ¬ row = 1 := fun e => by have := hn1.mp e; omega
          rw [if_neg h0, if_neg h1]
          obtain ⟨t, w, M, rows', i1, i2, i3, i3', i4, i5, i6, i7⟩ := ih (k + 1) fu fv 0 1 (m + 1) (upd rows m (nI row)) (by omega) (by omega) (by omega) V_0 (by omega) (by omega)
          refine ⟨t, w, M, rows', ?_, ?_, by omega, i3', fun i hi => ?_, i5, i6, fun hw => ?_⟩
          · rw [nI_1]
            exact i1
          · rw [grd_t (show bo 0 = true by decide), if_pos True.intro, if_pos True.intro, if_pos True.intro, grd_t (inb_nI (by omega) (by decide)), nI_clamp (by omega), nI_1, nI_1]
            exact i2
          · rw [i4 i (by omega)]; unfold upd; rw [if_neg (by omega)]
          · obtain ⟨j1, j2, j3, j4, j5⟩ := i7 hw
            refine ⟨j1, ?_, ?_, ?_, ?_⟩
            · unfold OKt; rw [if_pos h59]; exact ⟨h1, j2⟩
            · unfold mp; rw [if_pos h59]; exact ⟨by rw [i4 m (by omega)]; unfold upd; rw [if_pos rfl], j3⟩
            · unfold mp; rw [if_pos h59, List.length_cons]; omega
            · unfold fr; rw [if_pos h59]; exact j5
      · rw [if_neg h59, if_neg h59]
        refine bad _ ?_
        rw [if_pos True.intro, if_neg (show ¬ (1 : Int32) = 0 by decide), if_neg (show ¬ (1 : Int32) = 0 by decide)]
        exact bad2
