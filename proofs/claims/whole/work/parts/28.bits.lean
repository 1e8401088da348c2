theorem bit_and : ∀ m, m < 256 → ∀ p, p < 8 → (decide (nI m &&& ((1 : Int32) <<< (nI p &&& 31)) = 0)) = !(m.testBit p) := by decide +kernel
theorem bit_shr : ∀ m, m < 256 → ∀ p, p < 8 → ((nI m >>> (nI p &&& 31)) &&& 1) = nI (if m.testBit p then 1 else 0) := by decide +kernel
def pc (m : Nat) : Nat := cntF m.testBit 8 0
theorem pc_0 : ∀ m, m < 256 → (pc m = 0 ↔ m = 0) := by decide +kernel
theorem bitCount6 : ∀ m, m < 256 → ∀ F, D_J6_bitCount_0f7a4 F (nI m) = some (nI (pc m)) := by
  intro m hm F
  have h : ∀ m, m < 256 → D_J6_bitCount_0f7a4 0 (nI m) = some (nI (pc m)) := by decide +kernel
  exact h m hm
theorem bit_iff {m p : Nat} (hm : m < 256) (hp : p < 8) : (nI m &&& ((1 : Int32) <<< (nI p &&& 31)) = 0) ↔ m.testBit p = false := by
  have h := bit_and m hm p hp
  constructor
  · intro q
    rw [decide_eq_true q] at h
    cases e : m.testBit p with
    | false => rfl
    | true => rw [e] at h; cases h
  · intro q
    rw [q] at h
    exact of_decide_eq_true h
theorem if_bit {β : Type} {m p : Nat} {i : Decidable (nI m &&& ((1 : Int32) <<< (nI p &&& 31)) = 0)} {x y : β} (hm : m < 256) (hp : p < 8) : (@ite β (nI m &&& ((1 : Int32) <<< (nI p &&& 31)) = 0) i x y) = (if m.testBit p = true then y else x) := by
  cases e : m.testBit p with
  | true => exact if_neg (fun q => by rw [(bit_iff hm hp).mp q] at e; cases e)
  | false => exact if_pos ((bit_iff hm hp).mpr e)
theorem if_bit1 {β : Type} {m p : Nat} {i : Decidable ((nI m >>> (nI p &&& 31)) &&& 1 = 1)} {x y : β} (hm : m < 256) (hp : p < 8) : (@ite β ((nI m >>> (nI p &&& 31)) &&& 1 = 1) i x y) = (if m.testBit p = true then x else y) := by
  have h := bit_shr m hm p hp
  by_cases q : m.testBit p = true
  · rw [if_pos q]
    rw [if_pos q] at h
    rw [if_pos (by rw [h]; decide)]
  · rw [if_neg q]
    rw [if_neg q] at h
    rw [if_neg (by rw [h]; decide)]
theorem bitsOf6 {m F : Nat} (hm : m < 256) (hF : 20 ≤ F) : D_X6_bitsOf F (nI m) = some (nI (pc m)) := by
  have key : ∀ c k acc fu, k + c = 8 → c < fu → L_X6_bitsOf_4 F (nI m) fu (nI acc) (nI k) = some (nI (acc + cntF m.testBit c k)) := by
    intro c
    induction c with
    | zero =>
      intro k acc fu hk hf
      obtain ⟨fu, rfl⟩ : ∃ z, fu = z + 1 := ⟨fu - 1, by omega⟩
      have hk : k = 8 := by omega
      subst hk
      rw [L_X6_bitsOf_4, if_pos (show (8 : Int32) ≤ nI 8 from by decide)]
      rfl
    | succ c ih =>
      intro k acc fu hk hf
      obtain ⟨fu, rfl⟩ : ∃ z, fu = z + 1 := ⟨fu - 1, by omega⟩
      rw [L_X6_bitsOf_4, if_neg (show ¬ (8 : Int32) ≤ nI k from nI_ge (a := k) (b := 8) (by omega) (by omega)), bit_shr m hm k (by omega)]
      simp only [nm, cntF]
      rw [nI_add, nI_1, ih (k + 1) _ fu (by omega) (by omega), Nat.add_assoc]
  have := key 8 0 0 F (by omega) (by omega)
  rw [Nat.zero_add] at this
  exact this
def lw (m : Nat) : Int32 := (List.range 8).foldr (fun p x => if m.testBit p then nI p else x) (-1)
theorem lowestSlot5 {m F : Nat} (hm : m < 256) (hF : 20 ≤ F) : D_X5_lowestSlot F (nI m) = some (lw m) := by
  have key : ∀ c k fu, k + c = 8 → c < fu → L_X5_lowestSlot_2 F (nI m) fu (nI k) = some ((List.range' k c).foldr (fun p x => if m.testBit p then nI p else x) (-1)) := by
    intro c
    induction c with
    | zero =>
      intro k fu hk hf
      obtain ⟨fu, rfl⟩ : ∃ z, fu = z + 1 := ⟨fu - 1, by omega⟩
      have hk : k = 8 := by omega
      subst hk
      rw [L_X5_lowestSlot_2, if_pos (show (8 : Int32) ≤ nI 8 from by decide)]
      rfl
    | succ c ih =>
      intro k fu hk hf
      obtain ⟨fu, rfl⟩ : ∃ z, fu = z + 1 := ⟨fu - 1, by omega⟩
      rw [L_X5_lowestSlot_2, if_neg (show ¬ (8 : Int32) ≤ nI k from nI_ge (a := k) (b := 8) (by omega) (by omega)), if_bit hm (by omega)]
      simp only [nm]
      rw [nI_1, ih (k + 1) fu (by omega) (by omega), List.range'_succ, List.foldr_cons]
      by_cases h : m.testBit k = true
      · rw [if_pos h, if_pos h]
      · rw [if_neg h, if_neg h]
  have := key 8 0 F (by omega) (by omega)
  exact this
theorem fed_39 {F m : Nat} {y1 y2 y3 y4 : Int32} (hm : m < 256) : ∀ (c fu : Nat) (x : Int32), c ≤ 8 → c < fu → ∀ k70, L_X6_fed_39 F k70 y1 y2 y3 y4 (nI m) fu x (nI c - 1) = k70 ((List.range c).foldr (fun p x => if m.testBit p then nI p else x) x) := by
  intro c
  induction c with
  | zero =>
    intro fu x hc hf k70
    obtain ⟨fu, rfl⟩ : ∃ z, fu = z + 1 := ⟨fu - 1, by omega⟩
    rw [L_X6_fed_39, if_pos (show nI 0 - 1 < 0 from by decide)]
    rfl
  | succ c ih =>
    intro fu x hc hf k70
    obtain ⟨fu, rfl⟩ : ∃ z, fu = z + 1 := ⟨fu - 1, by omega⟩
    rw [nI_s1 (by omega), Nat.add_sub_cancel, L_X6_fed_39, if_neg (nI_pos (by omega)), if_bit1 hm (by omega)]
    simp only [nm]
    have e : nI c + -1 = nI c - 1 := by rw [Int32.sub_eq_add_neg]
    rw [e, ih fu _ (by omega) (by omega), ih fu _ (by omega) (by omega), List.range_succ, List.foldr_append]
    by_cases h : m.testBit c = true
    · rw [if_pos h]; simp [h]
    · rw [if_neg h]; simp [h]
-- which matches count
def better (P : Nat → Nat) (cur : Option Nat) (p : Nat) : Bool := match cur with
  | none => true
  | some q => decide (ln (P q) < ln (P p))
def best (P : Nat → Nat) (ok : Nat → Bool) : Nat → Nat → Option Nat → Option Nat
  | 0, _, cur => cur
  | c + 1, k, cur => best P ok c (k + 1) (if ok k && better P cur k then some k else cur)
def okM (P : Nat → Nat) (ρ m : Nat) (place last : Int32) (p : Nat) : Bool := m.testBit p && (decide (ρ ≠ 2) || !decide (place - nI (ln (P p)) + 1 ≤ last))
def cM (P : Nat → Nat) (ρ m : Nat) (place last : Int32) : Nat := if ρ = 0 then m else match best P (okM P ρ m place last) 8 0 none with
  | none => 0
  | some p => 2 ^ p
theorem best_lt {P : Nat → Nat} {ok : Nat → Bool} : ∀ (c k : Nat) (cur : Option Nat), k + c = 8 → (∀ q, cur = some q → q < 8) → ∀ q, best P ok c k cur = some q → q < 8 := by
  intro c
  induction c with
  | zero => intro k cur _ h; exact h
  | succ c ih =>
    intro k cur hk h
    refine ih (k + 1) _ (by omega) (fun q hq => ?_)
    by_cases e : (ok k && better P cur k) = true
    · rw [if_pos e] at hq; cases hq; omega
    · rw [if_neg e] at hq; exact h q hq
theorem cM_lt {P : Nat → Nat} {ρ m : Nat} {place last : Int32} (hm : m < 256) : cM P ρ m place last < 256 := by
  unfold cM
  split
  · exact hm
  · split
    · omega
    · rename_i p hp
      have := best_lt 8 0 none (by omega) (fun q hq => by cases hq) p hp
      exact Nat.pow_lt_pow_right (n := 8) (a := 2) (by decide) this
def bl (P : Nat → Nat) (cur : Option Nat) : Nat := match cur with
  | none => 0
  | some q => ln (P q)
def bm (cur : Option Nat) : Nat := match cur with
  | none => 0
  | some q => 2 ^ q
def bi (cur : Option Nat) : Int32 := match cur with
  | none => -1
  | some q => nI q
theorem len3P {P : Nat → Nat} (ho : POs P) {p F : Nat} (hp : p < 8) (hF : 20 ≤ F) : D_X3_lengthOf F (nI (P p)) = some (nI (ln (P p))) ∧ ln (P p) ≤ 8 := by
  by_cases h0 : P p = 0
  · rw [h0]; exact ⟨len3_0 hF, by decide⟩
  · obtain ⟨q1, q2, q3⟩ := PO_V (ho p hp) h0
    exact ⟨len3 q3 (by omega) hF, q2⟩
theorem matches_35 {F ρ m : Nat} {P : Nat → Nat} {pats : Nat → Int32} {y2 y3 : Int32} (hs : SP pats P) (ho : POs P) (hm : m < 256) (hρ : ρ ≤ 2) (hF : 100 ≤ F) (hmP : ∀ p, p < 8 → m.testBit p = true → P p ≠ 0) : ∀ (c k fu : Nat) (cur : Option Nat), k + c = 8 → c < fu → (∀ q, cur = some q → q < 8) → L_X5_matchesThatCount_35 F y2 y3 (nI m) (nI ρ) pats fu (nI (bl P cur)) (nI (bm cur)) (nI k) = some (nI (bm (best P (okM P ρ m y2 y3) c k cur))) := by
  intro c
  induction c with
  | zero =>
    intro k fu cur hk hf _
    obtain ⟨fu, rfl⟩ : ∃ z, fu = z + 1 := ⟨fu - 1, by omega⟩
    have hk : k = 8 := by omega
    subst hk
    rw [L_X5_matchesThatCount_35, if_pos (show (8 : Int32) ≤ nI 8 from by decide)]
    rfl
  | succ c ih =>
    intro k fu cur hk hf hcur
    obtain ⟨fu, rfl⟩ : ∃ z, fu = z + 1 := ⟨fu - 1, by omega⟩
    obtain ⟨l1, l2⟩ := len3P (F := F) ho (show k < 8 by omega) (by omega)
    rw [L_X5_matchesThatCount_35, if_neg (show ¬ (8 : Int32) ≤ nI k from nI_ge (a := k) (b := 8) (by omega) (by omega))]
    have e1 : D_X5_patternIn F (nI k) pats = some (nI (P k)) := by
      unfold D_X5_patternIn
      rw [at_in (show k < 8 by omega) (by decide), hs k (by omega)]
      rfl
    rw [e1]
    simp only [bnd]
    rw [l1]
    simp only [jp, nm]
    have hbl : bl P cur ≤ 8 := by
      cases cur with
      | none => exact Nat.zero_le _
      | some q => exact (len3P (F := F) ho (hcur q rfl) (by omega)).2
    have hnext : ∀ x, L_X5_matchesThatCount_35 F y2 y3 (nI m) (nI ρ) pats fu (nI (bl P x)) (nI (bm x)) (nI k + 1) = L_X5_matchesThatCount_35 F y2 y3 (nI m) (nI ρ) pats fu (nI (bl P x)) (nI (bm x)) (nI (k + 1)) := fun x => by rw [nI_1]
    have hcur2 : ∀ q, (if (okM P ρ m y2 y3 k && better P cur k) = true then some k else cur) = some q → q < 8 := by
      intro q hq
      by_cases e : (okM P ρ m y2 y3 k && better P cur k) = true
      · rw [if_pos e] at hq; cases hq; omega
      · rw [if_neg e] at hq; exact hcur q hq
    have fin := ih (k + 1) fu _ (by omega) (by omega) hcur2
    rw [show best P (okM P ρ m y2 y3) (c + 1) k cur = best P (okM P ρ m y2 y3) c (k + 1) (if (okM P ρ m y2 y3 k && better P cur k) = true then some k else cur) from rfl, ← fin]
    have hbody : ∀ t : Bool, t = (decide (ρ ≠ 2) || !decide (y2 - nI (ln (P k)) + 1 ≤ y3)) → (if (nI m &&& ((1 : Int32) <<< (nI k &&& 31))) = 0 then L_X5_matchesThatCount_35 F y2 y3 (nI m) (nI ρ) pats fu (nI (bl P cur)) (nI (bm cur)) (nI k + 1) else (if b2 t = 0 then L_X5_matchesThatCount_35 F y2 y3 (nI m) (nI ρ) pats fu (nI (bl P cur)) (nI (bm cur)) (nI k + 1) else (if nI (ln (P k)) ≤ nI (bl P cur) then L_X5_matchesThatCount_35 F y2 y3 (nI m) (nI ρ) pats fu (nI (bl P cur)) (nI (bm cur)) (nI k + 1) else L_X5_matchesThatCount_35 F y2 y3 (nI m) (nI ρ) pats fu (nI (ln (P k))) ((1 : Int32) <<< (nI k &&& 31)) (nI k + 1)))) = L_X5_matchesThatCount_35 F y2 y3 (nI m) (nI ρ) pats fu (nI (bl P (if (okM P ρ m y2 y3 k && better P cur k) = true then some k else cur))) (nI (bm (if (okM P ρ m y2 y3 k && better P cur k) = true then some k else cur))) (nI (k + 1)) := by
      intro t ht
      rw [if_bit hm (by omega), if_b2, if_le (by omega) (by omega), nI_bit (by omega), nI_1]
      have hok : okM P ρ m y2 y3 k = (m.testBit k && t) := by rw [ht]; rfl
      rw [hok]
      by_cases h1 : m.testBit k = true
      · rw [if_pos h1, h1]
        cases t with
        | false => rfl
        | true =>
          rw [if_pos rfl]
          have hlen : 1 ≤ ln (P k) := (PO_V (ho k (by omega)) (hmP k (by omega) h1)).1
          have hbe : better P cur k = decide (bl P cur < ln (P k)) := by
            cases cur with
            | none => exact (decide_eq_true (show bl P none < ln (P k) from hlen)).symm
            | some q => rfl
          rw [hbe]
          by_cases h2 : bl P cur < ln (P k)
          · rw [if_neg (by omega)]
            have hb : (true && true && decide (bl P cur < ln (P k))) = true := by simp [h2]
            rw [if_pos hb]
            rfl
          · rw [if_pos (by omega)]
            have hb : ¬ (true && true && decide (bl P cur < ln (P k))) = true := by simp [h2]
            rw [if_neg hb]
      · rw [if_neg h1]
        simp [h1]
    have h2 : (nI ρ = 2) = (ρ = 2) := propext (nI_eq (a := ρ) (b := 2) (by omega) (by omega))
    by_cases h3 : ρ = 2
    · rw [if_pos (show nI ρ = 2 by rw [h3]; rfl)]
      by_cases h4 : y2 - nI (ln (P k)) + 1 ≤ y3
      · rw [if_pos h4]; exact hbody false (by simp [h3, h4])
      · rw [if_neg h4]; exact hbody true (by simp [h4])
    · rw [if_neg (by rw [h2]; exact h3)]; exact hbody true (by simp [h3])
theorem matches5 {F ρ m i : Nat} {P : Nat → Nat} {pats en : Nat → Int32} {y2 y3 : Int32} (hs : SP pats P) (ho : POs P) (hm : m < 256) (hρ : ρ ≤ 2) (hF : 100 ≤ F) (hmP : ∀ p, p < 8 → m.testBit p = true → P p ≠ 0) (hi : i < 65) (hen : en i = nI m) : D_X5_matchesThatCount F (nI i) y2 y3 en (nI ρ) pats = some (nI (cM P ρ m y2 y3)) := by
  unfold D_X5_matchesThatCount cM
  rw [at_in hi (by decide), hen]
  simp only [bnd]
  by_cases h : ρ = 0
  · subst h
    rw [if_pos (show nI 0 = 0 from rfl), if_pos rfl]
  · rw [if_neg (nI_ne0 (by omega) (by omega)), if_neg h]
    have := matches_35 (F := F) (y2 := y2) (y3 := y3) hs ho hm hρ hF hmP 8 0 F none (by omega) (by omega) (fun q hq => by cases hq)
    refine Eq.trans this ?_
    cases best P (okM P ρ m y2 y3) 8 0 none <;> rfl
theorem counting_5 {F ρ m : Nat} {P : Nat → Nat} {s : Nat → Int32} {y2 : Int32} (hs : SP s P) (ho : POs P) (hm : m < 256) (hρ : ρ ≤ 2) (h24 : s 24 = nI ρ) (hF : 100 ≤ F) (hmP : ∀ p, p < 8 → m.testBit p = true → P p ≠ 0) : ∀ (c k fu : Nat) (cur : Option Nat), k + c = 8 → c < fu → (∀ q, cur = some q → q < 8 ∧ P q ≠ 0) → ∀ k118, L_X6_counting_5 F k118 (nI m) y2 s fu (bi cur) (nI k) = k118 (bi (best P (okM P ρ m y2 (s 28)) c k cur)) := by
  intro c
  induction c with
  | zero =>
    intro k fu cur hk hf _ k118
    obtain ⟨fu, rfl⟩ : ∃ z, fu = z + 1 := ⟨fu - 1, by omega⟩
    have hk : k = 8 := by omega
    subst hk
    rw [L_X6_counting_5, if_pos (show (8 : Int32) ≤ nI 8 from by decide)]
    rfl
  | succ c ih =>
    intro k fu cur hk hf hcur k118
    obtain ⟨fu, rfl⟩ : ∃ z, fu = z + 1 := ⟨fu - 1, by omega⟩
    rw [L_X6_counting_5, if_neg (show ¬ (8 : Int32) ≤ nI k from nI_ge (a := k) (b := 8) (by omega) (by omega))]
    simp only [jp, nm, bnd]
    have e24 : s (24 : Int32).toNatClampNeg = nI ρ := h24
    have e28 : s (28 : Int32).toNatClampNeg = s 28 := rfl
    rw [grd_t (show inb 24 31 = true by decide), grd_t (show inb 28 31 = true by decide), e24, e28, nI_0a, grd_t (inb_nI (show k < 31 by omega) (by decide)), nI_clamp (by omega), hs k (by omega), if_bit1 hm (by omega), nI_1]
    have hcur2 : ∀ q, (if (okM P ρ m y2 (s 28) k && better P cur k) = true then some k else cur) = some q → q < 8 ∧ P q ≠ 0 := by
      intro q hq
      by_cases e : (okM P ρ m y2 (s 28) k && better P cur k) = true
      · rw [if_pos e] at hq
        cases hq
        rw [Bool.and_eq_true] at e
        have := e.1
        unfold okM at this
        rw [Bool.and_eq_true] at this
        exact ⟨by omega, hmP k (by omega) this.1⟩
      · rw [if_neg e] at hq; exact hcur q hq
    have fin := ih (k + 1) fu _ (by omega) (by omega) hcur2 k118
    rw [show best P (okM P ρ m y2 (s 28)) (c + 1) k cur = best P (okM P ρ m y2 (s 28)) c (k + 1) (if (okM P ρ m y2 (s 28) k && better P cur k) = true then some k else cur) from rfl, ← fin]
    by_cases h1 : m.testBit k = true
    · rw [if_pos h1]
      obtain ⟨l1, l2, l3⟩ := PO_V (ho k (by omega)) (hmP k (by omega) h1)
      rw [len6 l3 (by omega) (by omega)]
      simp only []
      rw [if_neg (show ¬ nI (ln (P k)) ≤ 0 from nI_nle (by omega) (by omega))]
      have hlast : (if bi cur = -1 then L_X6_counting_5 F k118 (nI m) y2 s fu (nI k) (nI (k + 1)) else grd (inb (0 + bi cur) 31) (bnd (D_X6_lengthOf F (s ((0 : Int32) + bi cur).toNatClampNeg)) (fun a => if nI (ln (P k)) ≤ a then L_X6_counting_5 F k118 (nI m) y2 s fu (bi cur) (nI (k + 1)) else L_X6_counting_5 F k118 (nI m) y2 s fu (nI k) (nI (k + 1))))) = L_X6_counting_5 F k118 (nI m) y2 s fu (bi (if better P cur k = true then some k else cur)) (nI (k + 1)) := by
        cases cur with
        | none => rfl
        | some q =>
          obtain ⟨c1, c2⟩ := hcur q rfl
          obtain ⟨d1, d2, d3⟩ := PO_V (ho q c1) c2
          show (if nI q = -1 then _ else _) = _
          have hq1 : ¬ nI q = -1 := by
            intro e
            have := nI_pos' (n := q) (by omega)
            rw [e] at this
            exact absurd this (by decide)
          rw [if_neg hq1]
          show grd (inb ((0 : Int32) + nI q) 31) (bnd (D_X6_lengthOf F (s ((0 : Int32) + nI q).toNatClampNeg)) (fun a => if nI (ln (P k)) ≤ a then L_X6_counting_5 F k118 (nI m) y2 s fu (nI q) (nI (k + 1)) else L_X6_counting_5 F k118 (nI m) y2 s fu (nI k) (nI (k + 1)))) = _
          rw [nI_0a, grd_t (inb_nI (show q < 31 by omega) (by decide)), nI_clamp (by omega), hs q c1, len6 d3 (by omega) (by omega)]
          simp only [bnd]
          rw [if_le (by omega) (by omega), show better P (some q) k = decide (ln (P q) < ln (P k)) from rfl]
          by_cases z : ln (P k) ≤ ln (P q)
          · rw [if_pos z, if_neg (by simp; omega)]; rfl
          · rw [if_neg z, if_pos (by simp; omega)]; rfl
      have hno : (if (0 : Int32) = 0 then L_X6_counting_5 F k118 (nI m) y2 s fu (bi cur) (nI (k + 1)) else L_X6_counting_5 F k118 (nI m) y2 s fu (nI k) (nI (k + 1))) = L_X6_counting_5 F k118 (nI m) y2 s fu (bi cur) (nI (k + 1)) := if_pos rfl
      have h2 : (nI ρ < 2) = (ρ < 2) := propext (nI_ltI (a := ρ) (b := 2) (by omega) (by omega))
      by_cases h3 : ρ < 2
      · rw [if_pos (by rw [h2]; exact h3)]
        have hok : okM P ρ m y2 (s 28) k = true := by unfold okM; rw [h1]; simp [show ρ ≠ 2 by omega]
        rw [hok, Bool.true_and, grd_t (show inb 24 31 = true by decide), if_neg (show ¬ (1 : Int32) = 0 by decide)]
        exact hlast
      · rw [if_neg (by rw [h2]; exact h3)]
        have h4 : ρ = 2 := by omega
        by_cases h5 : y2 - nI (ln (P k)) + 1 ≤ s 28
        · rw [if_pos h5]
          have hok : okM P ρ m y2 (s 28) k = false := by unfold okM; rw [h1]; simp [h4, h5]
          rw [hok, Bool.false_and]
          rfl
        · rw [if_neg h5]
          have hok : okM P ρ m y2 (s 28) k = true := by unfold okM; rw [h1]; simp [h5]
          rw [hok, Bool.true_and, grd_t (show inb 24 31 = true by decide), grd_t (show inb 28 31 = true by decide), if_neg (show ¬ (1 : Int32) = 0 by decide)]
          exact hlast
    · rw [if_neg h1]
      have hok : okM P ρ m y2 (s 28) k = false := by unfold okM; simp [h1]
      rw [hok, Bool.false_and]
      rfl
theorem counting6 {F ρ m : Nat} {P : Nat → Nat} {s : Nat → Int32} {y2 : Int32} (hs : SP s P) (ho : POs P) (hm : m < 256) (hρ : ρ ≤ 2) (h24 : s 24 = nI ρ) (hF : 100 ≤ F) (hmP : ∀ p, p < 8 → m.testBit p = true → P p ≠ 0) : D_X6_counting F (nI m) y2 s = some (nI (cM P ρ m y2 (s 28))) := by
  unfold D_X6_counting cM
  have e := counting_5 (F := F) (y2 := y2) hs ho hm hρ h24 hF hmP 8 0 F none (by omega) (by omega) (fun q hq => by cases hq)
  refine Eq.trans (e _) ?_
  have e24 : s (24 : Int32).toNatClampNeg = nI ρ := h24
  rw [grd_t (show inb 24 31 = true by decide), e24]
  by_cases h : ρ = 0
  · subst h
    rw [if_pos (show nI 0 = 0 from rfl), if_pos rfl]
  · rw [if_neg (nI_ne0 (by omega) (by omega)), if_neg h]
    cases hb : best P (okM P ρ m y2 (s 28)) 8 0 none with
    | none => rfl
    | some p =>
      have hp := best_lt 8 0 none (by omega) (fun q hq => by cases hq) p hb
      have hq1 : ¬ nI p = -1 := by
        intro e
        have := nI_pos' (n := p) (by omega)
        rw [e] at this
        exact absurd this (by decide)
      show (if nI p = -1 then _ else _) = _
      rw [if_neg hq1]
      show some ((1 : Int32) <<< (nI p &&& 31)) = _
      rw [nI_bit (by omega)]
