theorem bit_and : ∀ m, m < 256 → ∀ p, p < 8 → (decide (nI m &&& ((1 : Int32) <<< (nI p &&& 31)) = 0)) = !(m.testBit p) := by decide +kernel
theorem bit_shr : ∀ m, m < 256 → ∀ p, p < 8 → ((nI m >>> (nI p &&& 31)) &&& 1) = nI (if m.testBit p then 1 else 0) := by decide +kernel
def pc (m : Nat) : Nat := cntF m.testBit 8 0
theorem pc_0 : ∀ m, m < 256 → (pc m = 0 ↔ m = 0) := by decide +kernel
theorem bitCount6 : ∀ m, m < 256 → ∀ F, D_J6_bitCount_0f7a4 F (nI m) = some (nI (pc m)) := by
  intro m hm F
  have h : ∀ m, m < 256 → D_J6_bitCount_0f7a4 0 (nI m) = some (nI (pc m)) := by decide +kernel
  exact h m hm
theorem bit_iff {m p : Nat} (hm : m < 256) (hp : p < 8) : (nI m &&& ((1 : Int32) <<< (nI p &&& 31)) = 0) ↔ m.testBit p = false := by
  have h := bit_and m hm p hp
  constructor
  · intro q
    rw [decide_eq_true q] at h
    cases e : m.testBit p with
    | false => rfl
    | true => rw [e] at h; cases h
  · intro q
    rw [q] at h
    exact of_decide_eq_true h
theorem if_bit {β : Type} {m p : Nat} {i : Decidable (nI m &&& ((1 : Int32) <<< (nI p &&& 31)) = 0)} {x y : β} (hm : m < 256) (hp : p < 8) : (@ite β (nI m &&& ((1 : Int32) <<< (nI p &&& 31)) = 0) i x y) = (if m.testBit p = true then y else x) := by
  cases e : m.testBit p with
  | true => exact if_neg (fun q => by rw [(bit_iff hm hp).mp q] at e; cases e)
  | false => exact if_pos ((bit_iff hm hp).mpr e)
theorem if_bit1 {β : Type} {m p : Nat} {i : Decidable ((nI m >>> (nI p &&& 31)) &&& 1 = 1)} {x y : β} (hm : m < 256) (hp : p < 8) : (@ite β ((nI m >>> (nI p &&& 31)) &&& 1 = 1) i x y) = (if m.testBit p = true then x else y) := by
  have h := bit_shr m hm p hp
  by_cases q : m.testBit p = true
  · rw [if_pos q]
    rw [if_pos q] at h
    rw [if_pos (by rw [h]; decide)]
  · rw [if_neg q]
    rw [if_neg q] at h
    rw [if_neg (by rw [h]; decide)]
def lw (m : Nat) : Int32 := (List.range 8).foldr (fun p x => if m.testBit p then nI p else x) (-1)
theorem lowestSlot5 {m F : Nat} (hm : m < 256) (hF : 20 ≤ F) : D_X5_lowestSlot F (nI m) = some (lw m) := by
  have key : ∀ c k fu, k + c = 8 → c < fu → L_X5_lowestSlot_2 F (nI m) fu (nI k) = some ((List.range' k c).foldr (fun p x => if m.testBit p then nI p else x) (-1)) := by
    intro c
    induction c with
    | zero =>
      intro k fu hk hf
      obtain ⟨fu, rfl⟩ : ∃ z, fu = z + 1 := ⟨fu - 1, by omega⟩
      have hk : k = 8 := by omega
      subst hk
      rw [L_X5_lowestSlot_2, if_pos (show (8 : Int32) ≤ nI 8 from by decide)]
      rfl
    | succ c ih =>
      intro k fu hk hf
      obtain ⟨fu, rfl⟩ : ∃ z, fu = z + 1 := ⟨fu - 1, by omega⟩
      rw [L_X5_lowestSlot_2, if_neg (show ¬ (8 : Int32) ≤ nI k from nI_ge (a := k) (b := 8) (by omega) (by omega)), if_bit hm (by omega)]
      simp only [nm]
      rw [nI_1, ih (k + 1) fu (by omega) (by omega), List.range'_succ, List.foldr_cons]
      by_cases h : m.testBit k = true
      · rw [if_pos h, if_pos h]
      · rw [if_neg h, if_neg h]
  have := key 8 0 F (by omega) (by omega)
  exact this
-- which matches count
def better (P : Nat → Nat) (cur : Option Nat) (p : Nat) : Bool := match cur with
  | none => true
  | some q => decide (ln (P q) < ln (P p))
def best (P : Nat → Nat) (ok : Nat → Bool) : Nat → Nat → Option Nat → Option Nat
  | 0, _, cur => cur
  | c + 1, k, cur => best P ok c (k + 1) (if ok k && better P cur k then some k else cur)
def okM (P : Nat → Nat) (ρ m : Nat) (place last : Int32) (p : Nat) : Bool := m.testBit p && (decide (ρ ≠ 2) || !decide (place - nI (ln (P p)) + 1 ≤ last))
def cM (P : Nat → Nat) (ρ m : Nat) (place last : Int32) : Nat := if ρ = 0 then m else match best P (okM P ρ m place last) 8 0 none with
  | none => 0
  | some p => 2 ^ p
theorem best_lt {P : Nat → Nat} {ok : Nat → Bool} : ∀ (c k : Nat) (cur : Option Nat), k + c = 8 → (∀ q, cur = some q → q < 8) → ∀ q, best P ok c k cur = some q → q < 8 := by
  intro c
  induction c with
  | zero => intro k cur _ h; exact h
  | succ c ih =>
    intro k cur hk h
    refine ih (k + 1) _ (by omega) (fun q hq => ?_)
    by_cases e : (ok k && better P cur k) = true
    · rw [if_pos e] at hq; cases hq; omega
    · rw [if_neg e] at hq; exact h q hq
theorem cM_lt {P : Nat → Nat} {ρ m : Nat} {place last : Int32} (hm : m < 256) : cM P ρ m place last < 256 := by
  unfold cM
  split
  · exact hm
  · split
    · omega
    · rename_i p hp
      have := best_lt 8 0 none (by omega) (fun q hq => by cases hq) p hp
      exact Nat.pow_lt_pow_right (n := 8) (a := 2) (by decide) this
def bl (P : Nat → Nat) (cur : Option Nat) : Nat := match cur with
  | none => 0
  | some q => ln (P q)
def bm (cur : Option Nat) : Nat := match cur with
  | none => 0
  | some q => 2 ^ q
def bi (cur : Option Nat) : Int32 := match cur with
  | none => -1
  | some q => nI q
theorem len3P {P : Nat → Nat} (ho : POs P) {p F : Nat} (hp : p < 8) (hF : 20 ≤ F) : D_X3_lengthOf F (nI (P p)) = some (nI (ln (P p))) ∧ ln (P p) ≤ 8 := by
  by_cases h0 : P p = 0
  · rw [h0]; exact ⟨len3_0 hF, by decide⟩
  · obtain ⟨q1, q2, q3⟩ := PO_V (ho p hp) h0
    exact ⟨len3 q3 (by omega) hF, q2⟩
theorem matches_35 {F ρ m : Nat} {P : Nat → Nat} {pats : Nat → Int32} {y2 y3 : Int32} (hs : SP pats P) (ho : POs P) (hm : m < 256) (hρ : ρ ≤ 2) (hF : 100 ≤ F) (hmP : ∀ p, p < 8 → m.testBit p = true → P p ≠ 0) : ∀ (c k fu : Nat) (cur : Option Nat), k + c = 8 → c < fu → (∀ q, cur = some q → q < 8) → L_X5_matchesThatCount_35 F y2 y3 (nI m) (nI ρ) pats fu (nI (bl P cur)) (nI (bm cur)) (nI k) = some (nI (bm (best P (okM P ρ m y2 y3) c k cur))) := by
  intro c
  induction c with
  | zero =>
    intro k fu cur hk hf _
    obtain ⟨fu, rfl⟩ : ∃ z, fu = z + 1 := ⟨fu - 1, by omega⟩
    have hk : k = 8 := by omega
    subst hk
    rw [L_X5_matchesThatCount_35, if_pos (show (8 : Int32) ≤ nI 8 from by decide)]
    rfl
  | succ c ih =>
    intro k fu cur hk hf hcur
    obtain ⟨fu, rfl⟩ : ∃ z, fu = z + 1 := ⟨fu - 1, by omega⟩
    obtain ⟨l1, l2⟩ := len3P (F := F) ho (show k < 8 by omega) (by omega)
    rw [L_X5_matchesThatCount_35, if_neg (show ¬ (8 : Int32) ≤ nI k from nI_ge (a := k) (b := 8) (by omega) (by omega))]
    have e1 : D_X5_patternIn F (nI k) pats = some (nI (P k)) := by
      unfold D_X5_patternIn
      rw [at_in (show k < 8 by omega) (by decide), hs k (by omega)]
      rfl
    rw [e1]
    simp only [bnd]
    rw [l1]
    simp only [jp, nm]
    have hbl : bl P cur ≤ 8 := by
      cases cur with
      | none => exact Nat.zero_le _
      | some q => exact (len3P (F := F) ho (hcur q rfl) (by omega)).2
    have hnext : ∀ x, L_X5_matchesThatCount_35 F y2 y3 (nI m) (nI ρ) pats fu (nI (bl P x)) (nI (bm x)) (nI k + 1) = L_X5_matchesThatCount_35 F y2 y3 (nI m) (nI ρ) pats fu (nI (bl P x)) (nI (bm x)) (nI (k + 1)) := fun x => by rw [nI_1]
    have hcur2 : ∀ q, (if (okM P ρ m y2 y3 k && better P cur k) = true then some k else cur) = some q → q < 8 := by
      intro q hq
      by_cases e : (okM P ρ m y2 y3 k && better P cur k) = true
      · rw [if_pos e] at hq; cases hq; omega
      · rw [if_neg e] at hq; exact hcur q hq
    have fin := ih (k + 1) fu _ (by omega) (by omega) hcur2
    rw [show best P (okM P ρ m y2 y3) (c + 1) k cur = best P (okM P ρ m y2 y3) c (k + 1) (if (okM P ρ m y2 y3 k && better P cur k) = true then some k else cur) from rfl, ← fin]
    have hbody : ∀ t : Bool, t = (decide (ρ ≠ 2) || !decide (y2 - nI (ln (P k)) + 1 ≤ y3)) → (if (nI m &&& ((1 : Int32) <<< (nI k &&& 31))) = 0 then L_X5_matchesThatCount_35 F y2 y3 (nI m) (nI ρ) pats fu (nI (bl P cur)) (nI (bm cur)) (nI k + 1) else (if b2 t = 0 then L_X5_matchesThatCount_35 F y2 y3 (nI m) (nI ρ) pats fu (nI (bl P cur)) (nI (bm cur)) (nI k + 1) else (if nI (ln (P k)) ≤ nI (bl P cur) then L_X5_matchesThatCount_35 F y2 y3 (nI m) (nI ρ) pats fu (nI (bl P cur)) (nI (bm cur)) (nI k + 1) else L_X5_matchesThatCount_35 F y2 y3 (nI m) (nI ρ) pats fu (nI (ln (P k))) ((1 : Int32) <<< (nI k &&& 31)) (nI k + 1)))) = L_X5_matchesThatCount_35 F y2 y3 (nI m) (nI ρ) pats fu (nI (bl P (if (okM P ρ m y2 y3 k && better P cur k) = true then some k else cur))) (nI (bm (if (okM P ρ m y2 y3 k && better P cur k) = true then some k else cur))) (nI (k + 1)) := by
      intro t ht
      rw [if_bit hm (by omega), if_b2, if_le (by omega) (by omega), nI_bit (by omega), nI_1]
      have hok : okM P ρ m y2 y3 k = (m.testBit k && t) := by rw [ht]; rfl
      rw [hok]
      by_cases h1 : m.testBit k = true
      · rw [if_pos h1, h1]
        cases t with
        | false => rfl
        | true =>
          rw [if_pos rfl]
          have hlen : 1 ≤ ln (P k) := (PO_V (ho k (by omega)) (hmP k (by omega) h1)).1
          have hbe : better P cur k = decide (bl P cur < ln (P k)) := by
            cases cur with
            | none => exact (decide_eq_true (show bl P none < ln (P k) from hlen)).symm
            | some q => rfl
          rw [hbe]
          by_cases h2 : bl P cur < ln (P k)
          · rw [if_neg (by omega)]
            have hb : (true && true && decide (bl P cur < ln (P k))) = true := by simp [h2]
            rw [if_pos hb]
            rfl
          · rw [if_pos (by omega)]
            have hb : ¬ (true && true && decide (bl P cur < ln (P k))) = true := by simp [h2]
            rw [if_neg hb]
      · rw [if_neg h1]
        simp [h1]
    have h2 : (nI ρ = 2) = (ρ = 2) := propext (nI_eq (a := ρ) (b := 2) (by omega) (by omega))
    by_cases h3 : ρ = 2
    · rw [if_pos (show nI ρ = 2 by rw [h3]; rfl)]
      by_cases h4 : y2 - nI (ln (P k)) + 1 ≤ y3
      · rw [if_pos h4]; exact hbody false (by simp [h3, h4])
      · rw [if_neg h4]; exact hbody true (by simp [h4])
    · rw [if_neg (by rw [h2]; exact h3)]; exact hbody true (by simp [h3])
theorem matches5 {F ρ m i : Nat} {P : Nat → Nat} {pats en : Nat → Int32} {y2 y3 : Int32} (hs : SP pats P) (ho : POs P) (hm : m < 256) (hρ : ρ ≤ 2) (hF : 100 ≤ F) (hmP : ∀ p, p < 8 → m.testBit p = true → P p ≠ 0) (hi : i < 65) (hen : en i = nI m) : D_X5_matchesThatCount F (nI i) y2 y3 en (nI ρ) pats = some (nI (cM P ρ m y2 y3)) := by
  unfold D_X5_matchesThatCount cM
  rw [at_in hi (by decide), hen]
  simp only [bnd]
  by_cases h : ρ = 0
  · subst h
    rw [if_pos (show nI 0 = 0 from rfl), if_pos rfl]
  · rw [if_neg (nI_ne0 (by omega) (by omega)), if_neg h]
    have := matches_35 (F := F) (y2 := y2) (y3 := y3) hs ho hm hρ hF hmP 8 0 F none (by omega) (by omega) (fun q hq => by cases hq)
    refine Eq.trans this ?_
    cases best P (okM P ρ m y2 y3) 8 0 none <;> rfl
