def Enum (n : Nat) (g : Nat → Nat) (S : Nat → Prop) : Prop := (∀ i, i < n → S (g i)) ∧ (∀ i j, i < j → j < n → g i < g j) ∧ ∀ v, S v → ∃ i, i < n ∧ g i = v
def AR (f : Nat → Int32) (n : Nat) (g : Nat → Nat) : Prop := ∀ i, i < n → f i = nI (g i)
theorem Enum.inj {n : Nat} {g : Nat → Nat} {S : Nat → Prop} (h : Enum n g S) {i j : Nat} (hi : i < n) (hj : j < n) (e : g i = g j) : i = j := by
  rcases Nat.lt_trichotomy i j with q | q | q
  · have := h.2.1 i j q hj; omega
  · exact q
  · have := h.2.1 j i q hi; omega
theorem Enum.congr {n : Nat} {g : Nat → Nat} {S T : Nat → Prop} (h : Enum n g S) (e : ∀ v, S v ↔ T v) : Enum n g T := ⟨fun i hi => (e _).mp (h.1 i hi), h.2.1, fun v hv => h.2.2 v ((e v).mpr hv)⟩
theorem Enum.uniq {n m : Nat} {g k : Nat → Nat} {S : Nat → Prop} (h : Enum n g S) (q : Enum m k S) : n = m ∧ ∀ i, i < n → g i = k i := by
  have key : ∀ {n m : Nat} {g k : Nat → Nat}, Enum n g S → Enum m k S → ∀ i, i < n → i < m ∧ g i = k i := by
    intro n m g k h q i
    induction i using Nat.strongRecOn with
    | ind i ih =>
      intro hi
      obtain ⟨j, hj, ej⟩ := q.2.2 (g i) (h.1 i hi)
      rcases Nat.lt_trichotomy j i with c | c | c
      · have h1 := (ih j c (by omega)).2
        have h2 := h.2.1 j i c hi
        omega
      · subst c; exact ⟨hj, ej.symm⟩
      · have him : i < m := by omega
        obtain ⟨l, hl, el⟩ := h.2.2 (k i) (q.1 i him)
        have h1 := q.2.1 i j c hj
        rcases Nat.lt_trichotomy l i with d | d | d
        · have h2 := (ih l d hl).2
          have := q.inj (show l < m by omega) him (by omega)
          omega
        · subst d; omega
        · have := h.2.1 i l d hl; omega
  have hnm : n = m := by
    rcases Nat.lt_trichotomy n m with c | c | c
    · have := (key q h n c).1; omega
    · exact c
    · have := (key h q m c).1; omega
  exact ⟨hnm, fun i hi => (key h q i hi).2⟩
/-- a number put at its place among sorted ones -/
def insg (g : Nat → Nat) (c r : Nat) : Nat → Nat := fun i => if i < c then g i else if i = c then r else g (i - 1)
theorem Enum.ins {n c r : Nat} {g : Nat → Nat} {S : Nat → Prop} (h : Enum n g S) (hc : c ≤ n) (h1 : ∀ i, i < c → g i < r) (h2 : ∀ i, c ≤ i → i < n → r < g i) : Enum (n + 1) (insg g c r) (fun v => S v ∨ v = r) := by
  refine ⟨fun i hi => ?_, fun i j hij hj => ?_, fun v hv => ?_⟩
  · unfold insg
    by_cases q1 : i < c
    · rw [if_pos q1]; exact Or.inl (h.1 i (by omega))
    · rw [if_neg q1]
      by_cases q2 : i = c
      · rw [if_pos q2]; exact Or.inr rfl
      · rw [if_neg q2]; exact Or.inl (h.1 (i - 1) (by omega))
  · unfold insg
    by_cases q1 : j < c
    · rw [if_pos q1, if_pos (by omega)]; exact h.2.1 i j hij (by omega)
    · rw [if_neg q1]
      by_cases q2 : j = c
      · rw [if_pos q2, if_pos (by omega)]; exact h1 i (by omega)
      · rw [if_neg q2]
        by_cases q3 : i < c
        · rw [if_pos q3]; exact h.2.1 i (j - 1) (by omega) (by omega)
        · rw [if_neg q3]
          by_cases q4 : i = c
          · rw [if_pos q4]; exact h2 (j - 1) (by omega) (by omega)
          · rw [if_neg q4]; exact h.2.1 (i - 1) (j - 1) (by omega) (by omega)
  · rcases hv with hv | hv
    · obtain ⟨i, hi, e⟩ := h.2.2 v hv
      by_cases q : i < c
      · exact ⟨i, by omega, by unfold insg; rw [if_pos q]; exact e⟩
      · exact ⟨i + 1, by omega, by unfold insg; rw [if_neg (by omega), if_neg (by omega)]; exact e⟩
    · exact ⟨c, by omega, by unfold insg; rw [if_neg (by omega), if_pos rfl]; exact hv.symm⟩
def shf (f : Nat → Int32) (c d : Nat) : Nat → Int32 := fun i => if c < i ∧ i ≤ c + d then f (i - 1) else f i
theorem shf_0 (f : Nat → Int32) (c : Nat) : shf f c 0 = f := by
  funext i
  unfold shf
  rw [if_neg (by omega)]
theorem shf_s (f : Nat → Int32) (c d : Nat) : shf (upd f (c + d + 1) (f (c + d))) c d = shf f c (d + 1) := by
  funext i
  unfold shf upd
  by_cases q : c < i ∧ i ≤ c + d
  · rw [if_pos q, if_neg (by omega), if_pos (by omega)]
  · rw [if_neg q]
    by_cases q2 : i = c + d + 1
    · rw [if_pos q2, if_pos (by omega), q2]; rfl
    · rw [if_neg q2, if_neg (by omega)]
theorem AR_ins {f : Nat → Int32} {n c r : Nat} {g : Nat → Nat} (h : AR f n g) (hc : c ≤ n) : AR (upd (shf f c (n - c)) c (nI r)) (n + 1) (insg g c r) := by
  intro i hi
  unfold upd shf insg
  by_cases q1 : i = c
  · rw [if_pos q1, if_neg (by omega), if_pos q1]
  · rw [if_neg q1]
    by_cases q2 : i < c
    · rw [if_pos q2, if_neg (by omega)]; exact h i (by omega)
    · rw [if_neg q2, if_neg q1, if_pos (by omega)]; exact h (i - 1) (by omega)
-- the class puts a state
theorem takeState_5 {F n r : Nat} {f : Nat → Int32} {g : Nat → Nat} (hA : AR f n g) (hs : ∀ i j, i < j → j < n → g i < g j) (hn : n ≤ 65) (hr : r < 524288) (hb : ∀ i, i < n → g i < 524288) : ∀ (c0 fu : Nat), c0 ≤ n → c0 < fu → (∀ i, c0 ≤ i → i < n → r ≤ g i) → ∃ c, c ≤ c0 ∧ (∀ i, i < c → g i < r) ∧ (∀ i, c ≤ i → i < n → r ≤ g i) ∧ ∀ k29 : Int32 → Option ((Nat → Int32) × Int32), L_X1_takeState_5 F k29 (nI r) f fu (nI c0) = k29 (nI c) := by
  intro c0
  induction c0 with
  | zero =>
    intro fu _ hf h
    obtain ⟨fu, rfl⟩ : ∃ z, fu = z + 1 := ⟨fu - 1, by omega⟩
    refine ⟨0, Nat.le_refl 0, fun i hi => absurd hi (by omega), h, fun k29 => ?_⟩
    rw [L_X1_takeState_5, if_pos (show nI 0 ≤ 0 from by decide)]
  | succ c0 ih =>
    intro fu hc hf h
    obtain ⟨fu, rfl⟩ : ∃ z, fu = z + 1 := ⟨fu - 1, by omega⟩
    have e : ∀ k29 : Int32 → Option ((Nat → Int32) × Int32), L_X1_takeState_5 F k29 (nI r) f (fu + 1) (nI (c0 + 1)) = if g c0 < r then k29 (nI (c0 + 1)) else L_X1_takeState_5 F k29 (nI r) f fu (nI c0) := by
      intro k29
      rw [L_X1_takeState_5, if_neg (show ¬ nI (c0 + 1) ≤ 0 from nI_nle (by omega) (by omega)), nI_s1 (by omega), Nat.add_sub_cancel, at_in (show c0 < 65 by omega) (by decide), hA c0 (by omega)]
      simp only [bnd, nm]
      rw [if_lt (by have := hb c0 (by omega); omega) (by omega), nI_m1 (by omega), Nat.add_sub_cancel]
    by_cases hlt : g c0 < r
    · refine ⟨c0 + 1, Nat.le_refl _, fun i hi => ?_, h, fun k29 => by rw [e, if_pos hlt]⟩
      rcases Nat.lt_or_ge i c0 with q | q
      · have := hs i c0 q (by omega); omega
      · have : i = c0 := by omega
        subst this; exact hlt
    · obtain ⟨c, h1, h2, h3, h4⟩ := ih fu (by omega) (by omega) (fun i q1 q2 => by
        rcases Nat.eq_or_lt_of_le q1 with e | e
        · subst e; omega
        · exact h i e q2)
      exact ⟨c, by omega, h2, h3, fun k29 => by rw [e, if_neg hlt]; exact h4 k29⟩
theorem takeState_55 {F c : Nat} {k84 : (Nat → Int32) → Option ((Nat → Int32) × Int32)} {y1 : Int32} : ∀ (d fu : Nat) (f : Nat → Int32), c + d ≤ 64 → d < fu → L_X1_takeState_55 F k84 y1 (nI c) fu (nI (c + d)) f = k84 (shf f c d) := by
  intro d
  induction d with
  | zero =>
    intro fu f hc hf
    obtain ⟨fu, rfl⟩ : ∃ z, fu = z + 1 := ⟨fu - 1, by omega⟩
    rw [L_X1_takeState_55, if_pos (show nI (c + 0) ≤ nI c from nI_le (by omega) (by omega)), shf_0]
  | succ d ih =>
    intro fu f hc hf
    obtain ⟨fu, rfl⟩ : ∃ z, fu = z + 1 := ⟨fu - 1, by omega⟩
    rw [L_X1_takeState_55, if_neg (show ¬ nI (c + (d + 1)) ≤ nI c from nI_ge (by omega) (by omega)), nI_s1 (by omega), at_in (show c + (d + 1) - 1 < 65 by omega) (by decide)]
    simp only [bnd, nm]
    rw [put_in (show c + (d + 1) < 65 by omega) (by decide)]
    simp only []
    rw [nI_m1 (by omega), show c + (d + 1) - 1 = c + d by omega, ih fu _ (by omega) (by omega), ← shf_s]
    rfl
theorem takeState1 {F n r : Nat} {f : Nat → Int32} {g : Nat → Nat} {S : Nat → Prop} (hA : AR f n g) (hE : Enum n g S) (hn : n ≤ 64) (hr : r < 524288) (hS : ∀ v, S v → v < 524288) (hF : 100 ≤ F) : ∃ f' n' g', D_X1_takeState F (nI r) (nI n) f = some (f', nI n') ∧ AR f' n' g' ∧ Enum n' g' (fun v => S v ∨ v = r) ∧ n' ≤ n + 1 := by
  unfold D_X1_takeState
  have hb : ∀ i, i < n → g i < 524288 := fun i hi => hS _ (hE.1 i hi)
  obtain ⟨c, c1, c2, c3, c4⟩ := takeState_5 (F := F) hA hE.2.1 (by omega) hr hb n F (Nat.le_refl n) (by omega) (fun i q1 q2 => by omega)
  have hput : ∀ hne : (∀ i, c ≤ i → i < n → r < g i), ∃ f' n' g', L_X1_takeState_55 F (fun (v_rows_25 : (Nat → Int32)) => bnd (D_X5_put F 65 (nI c) (nI r) v_rows_25) (fun v_rows_33 => nm (nI n + 1) (fun f_size_35 => some (v_rows_33, f_size_35)))) (nI r) (nI c) F (nI n) f = some (f', nI n') ∧ AR f' n' g' ∧ Enum n' g' (fun v => S v ∨ v = r) ∧ n' ≤ n + 1 := by
    intro hne
    have e := takeState_55 (F := F) (c := c) (y1 := nI r) (k84 := fun (v_rows_25 : (Nat → Int32)) => bnd (D_X5_put F 65 (nI c) (nI r) v_rows_25) (fun v_rows_33 => nm (nI n + 1) (fun f_size_35 => some (v_rows_33, f_size_35)))) (n - c) F f (by omega) (by omega)
    rw [show c + (n - c) = n by omega] at e
    rw [e, put_in (show c < 65 by omega) (by decide)]
    simp only [bnd, nm]
    rw [nI_1]
    exact ⟨_, _, insg g c r, rfl, AR_ins hA c1, hE.ins c1 c2 hne, Nat.le_refl _⟩
  rw [c4]
  simp only [jp]
  rw [if_le (by omega) (by omega)]
  by_cases h1 : n ≤ c
  · rw [if_pos h1]
    exact hput (fun i q1 q2 => by omega)
  · rw [if_neg h1, at_in (show c < 65 by omega) (by decide), hA c (by omega)]
    simp only [bnd]
    rw [if_eq (by have := hb c (by omega); omega) (by omega)]
    by_cases h2 : g c = r
    · rw [if_pos h2]
      refine ⟨f, n, g, rfl, hA, hE.congr (fun v => ⟨Or.inl, fun q => ?_⟩), by omega⟩
      rcases q with q | q
      · exact q
      · rw [q, ← h2]; exact hE.1 c (by omega)
    · rw [if_neg h2]
      refine hput (fun i q1 q2 => ?_)
      have h3 := c3 c (Nat.le_refl c) (by omega)
      rcases Nat.eq_or_lt_of_le q1 with e | e
      · subst e; omega
      · have := hE.2.1 c i e q2; omega
