/-- the rest of a text is whole: no error, and its last part is not empty -/
def WF (C : Nat → Nat) (c k row : Nat) : Prop := OKt C c k row ∧ fr C c k row ≠ 1
theorem WF.semi {C : Nat → Nat} {c k row : Nat} (h : WF C (c + 1) k row) (h59 : C k = 59) : row ≠ 1 ∧ WF C c (k + 1) 1 := by
  obtain ⟨h1, h2⟩ := h
  unfold OKt at h1
  unfold fr at h2
  rw [if_pos h59] at h1 h2
  exact ⟨h1.1, h1.2, h2⟩
theorem WF.lett {C : Nat → Nat} {c k row : Nat} (h : WF C (c + 1) k row) (h59 : ¬ C k = 59) : isL (C k) = true ∧ ln row < 8 ∧ WF C c (k + 1) (4 * row + (C k - 97)) := by
  obtain ⟨h1, h2⟩ := h
  unfold OKt at h1
  unfold fr at h2
  rw [if_neg h59] at h1 h2
  exact ⟨h1.1.1, h1.1.2, h1.2, h2⟩
theorem WF.pos {C : Nat → Nat} {c k : Nat} (h : WF C c k 1) : 0 < c ∧ C k ≠ 59 := by
  cases c with
  | zero => exact absurd rfl h.2
  | succ c =>
    refine ⟨Nat.succ_pos c, fun h59 => ?_⟩
    exact (h.semi h59).1 rfl
theorem mp_V {C : Nat → Nat} : ∀ (c k n row : Nat), WF C c k row → V n row → n ≤ 8 → ∀ r, r ∈ mp C c k row → ∃ m, 1 ≤ m ∧ m ≤ 8 ∧ V m r := by
  intro c
  induction c with
  | zero =>
    intro k n row h hV hn r hr
    unfold mp at hr
    rw [List.mem_singleton] at hr
    subst hr
    refine ⟨n, ?_, hn, hV⟩
    rcases Nat.eq_zero_or_pos n with z | z
    · subst z
      exact absurd (V_0e hV) h.2
    · exact z
  | succ c ih =>
    intro k n row h hV hn r hr
    unfold mp at hr
    by_cases h59 : C k = 59
    · rw [if_pos h59] at hr
      obtain ⟨h1, h2⟩ := h.semi h59
      rcases List.mem_cons.mp hr with e | e
      · subst e
        refine ⟨n, ?_, hn, hV⟩
        rcases Nat.eq_zero_or_pos n with z | z
        · subst z
          exact absurd (V_0e hV) h1
        · exact z
      · exact ih (k + 1) 0 1 h2 V_0 (by omega) r e
    · rw [if_neg h59] at hr
      obtain ⟨h1, h2, h3⟩ := h.lett h59
      have := isL_iff.mp h1
      rw [V_ln hV] at h2
      exact ih (k + 1) (n + 1) _ h3 (V_succ hV (by omega)) (by omega) r hr
/-- the first place from k on where f holds -/
def ffst (f : Nat → Bool) : Nat → Nat → Nat
  | 0, k => k
  | c + 1, k => if f k = true then k else ffst f c (k + 1)
theorem ffst_le (f : Nat → Bool) : ∀ c k, k ≤ ffst f c k ∧ ffst f c k ≤ k + c := by
  intro c
  induction c with
  | zero => intro k; exact ⟨Nat.le_refl _, Nat.le_refl _⟩
  | succ c ih =>
    intro k
    have := ih (k + 1)
    unfold ffst
    by_cases h : f k = true
    · rw [if_pos h]; omega
    · rw [if_neg h]; omega
def slotOf (P : Nat → Nat) (r : Nat) : Nat := ffst (fun p => decide (P p = r)) 8 0
theorem draftSlotOf5 {F r : Nat} {d : Nat → Int32} {P : Nat → Nat} (hs : SP d P) (ho : POs P) (hr : r < 2 ^ 31) (hF : 100 ≤ F) : D_X5_draftSlotOf F (nI r) d = some (if slotOf P r = 8 then -1 else nI (slotOf P r)) := by
  have key : ∀ (c k fu : Nat), k + c = 8 → c < fu → L_X5_draftSlotOf_2 F (nI r) d fu (nI k) = some (if ffst (fun p => decide (P p = r)) c k = 8 then -1 else nI (ffst (fun p => decide (P p = r)) c k)) := by
    intro c
    induction c with
    | zero =>
      intro k fu hk hf
      obtain ⟨fu, rfl⟩ : ∃ z, fu = z + 1 := ⟨fu - 1, by omega⟩
      have hk : k = 8 := by omega
      subst hk
      rw [L_X5_draftSlotOf_2, if_pos (show (8 : Int32) ≤ nI 8 from by decide)]
      rfl
    | succ c ih =>
      intro k fu hk hf
      obtain ⟨fu, rfl⟩ : ∃ z, fu = z + 1 := ⟨fu - 1, by omega⟩
      rw [L_X5_draftSlotOf_2, if_neg (show ¬ (8 : Int32) ≤ nI k from nI_ge (a := k) (b := 8) (by omega) (by omega)), at_in (by omega) (by decide), hs k (by omega)]
      simp only [bnd, nm]
      have := PO_lt (ho k (by omega))
      rw [if_eq (a := P k) (b := r) (by omega) (by omega), ffst]
      by_cases h : P k = r
      · rw [if_pos h, if_pos (decide_eq_true h), if_neg (by omega)]
      · rw [if_neg h, if_neg (show ¬ decide (P k = r) = true by simp [h]), nI_1]
        exact ih (k + 1) fu (by omega) (by omega)
  exact key 8 0 F (by omega) (by omega)
/-- the patterns behind one more row in slot q -/
def setP (P : Nat → Nat) (q r : Nat) : Nat → Nat := fun p => if p = q then r else P p
theorem SP.set {s : Nat → Int32} {P : Nat → Nat} (h : SP s P) (q r : Nat) : SP (upd s q (nI r)) (setP P q r) := by
  intro p hp
  unfold upd setP
  by_cases e : p = q
  · rw [if_pos e, if_pos e]
  · rw [if_neg e, if_neg e]; exact h p hp
theorem POs.set {P : Nat → Nat} (h : POs P) (q : Nat) {r : Nat} (hr : PO r) : POs (setP P q r) := by
  intro p hp
  unfold setP
  by_cases e : p = q
  · rw [if_pos e]; exact hr
  · rw [if_neg e]; exact h p hp
/-- rows into empty slots: how many are new, and the patterns behind -/
def addF : List Nat → (Nat → Nat) → Nat → Option Nat × (Nat → Nat)
  | [], P, m => (some m, P)
  | r :: rs, P, m => if slotOf P r = 8 then (if slotOf P 0 = 8 then (none, P) else addF rs (setP P (slotOf P 0) r) (m + 1)) else addF rs P m
def oI (o : Option Nat) : Int32 := match o with
  | none => -1
  | some m => nI m
theorem addF_PO : ∀ (l : List Nat) (P : Nat → Nat) (m : Nat), POs P → (∀ r, r ∈ l → PO r) → POs (addF l P m).2 := by
  intro l
  induction l with
  | nil => intro P m h _; exact h
  | cons r rs ih =>
    intro P m h hl
    unfold addF
    by_cases h1 : slotOf P r = 8
    · rw [if_pos h1]
      by_cases h2 : slotOf P 0 = 8
      · rw [if_pos h2]; exact h
      · rw [if_neg h2]
        exact ih _ _ (h.set _ (hl r (List.mem_cons_self ..))) (fun q hq => hl q (List.mem_cons_of_mem _ hq))
    · rw [if_neg h1]
      exact ih _ _ h (fun q hq => hl q (List.mem_cons_of_mem _ hq))
theorem addF_le : ∀ (l : List Nat) (P : Nat → Nat) (m x : Nat), (addF l P m).1 = some x → x ≤ m + l.length := by
  intro l
  induction l with
  | nil =>
    intro P m x h
    have : m = x := Option.some.inj h
    simp only [List.length_nil]
    omega
  | cons r rs ih =>
    intro P m x h
    unfold addF at h
    rw [List.length_cons]
    by_cases h1 : slotOf P r = 8
    · rw [if_pos h1] at h
      by_cases h2 : slotOf P 0 = 8
      · rw [if_pos h2] at h; cases h
      · rw [if_neg h2] at h
        have := ih _ _ _ h
        omega
    · rw [if_neg h1] at h
      have := ih _ _ _ h
      omega
theorem slotOf_le (P : Nat → Nat) (r : Nat) : slotOf P r ≤ 8 := (ffst_le _ 8 0).2
theorem endsPart0 {F b k : Nat} {codes text : Nat → Int32} {C : Nat → Nat} (hC : CO codes text b C) (hk : k < b) : D_X0_endsPart F (nI k) codes (nI b) = some (b2 (decide (C k ≠ 59 ∧ (k + 1 = b ∨ C (k + 1) = 59)))) := by
  have hb := hC.1
  obtain ⟨c1, c2, c3⟩ := hC.2 k hk
  have e59 : ∀ {i : Nat} {β : Type} {x y : β} {d : Decidable (nI (C i) = 59)}, C i < 127 → (@ite β (nI (C i) = 59) d x y) = (if C i = 59 then x else y) := fun {i β x y d} h => if_eq (a := C i) (b := 59) (by omega) (by decide)
  unfold D_X0_endsPart
  rw [at_in (by omega) (by decide), c1]
  simp only [bnd]
  rw [e59 c3, nI_1, if_le (by omega) (by omega)]
  by_cases h1 : C k = 59
  · rw [if_pos h1, show decide (C k ≠ 59 ∧ (k + 1 = b ∨ C (k + 1) = 59)) = false from decide_eq_false (fun h => h.1 h1)]
    rfl
  · rw [if_neg h1]
    by_cases h2 : b ≤ k + 1
    · rw [if_pos h2, show decide (C k ≠ 59 ∧ (k + 1 = b ∨ C (k + 1) = 59)) = true from decide_eq_true ⟨h1, Or.inl (by omega)⟩]
      rfl
    · obtain ⟨d1, d2, d3⟩ := hC.2 (k + 1) (by omega)
      rw [if_neg h2, at_in (by omega) (by decide), d1]
      simp only []
      rw [e59 d3]
      by_cases h3 : C (k + 1) = 59
      · rw [if_pos h3, show decide (C k ≠ 59 ∧ (k + 1 = b ∨ C (k + 1) = 59)) = true from decide_eq_true ⟨h1, Or.inr h3⟩]
        rfl
      · rw [if_neg h3, show decide (C k ≠ 59 ∧ (k + 1 = b ∨ C (k + 1) = 59)) = false from decide_eq_false (fun h => by rcases h.2 with e | e <;> omega)]
        rfl
/-- the parts that are still to be put, where the row has been read up to k -/
def cq (C : Nat → Nat) : Nat → Nat → Nat → List Nat
  | 0, _, _ => []
  | c + 1, k, row => if C k = 59 then mp C c (k + 1) 1 else mp C (c + 1) k row
theorem draft_33 {F b : Nat} {codes text : Nat → Int32} {C : Nat → Nat} (hC : CO codes text b C) (hF : 300 ≤ F) : ∀ (c k fu n row m : Nat) (P : Nat → Nat) (d : Nat → Int32), k + c = b → c < fu → V n row → n ≤ 8 → WF C c k row → SP d P → POs P → ∃ d', L_X5_draftPatterns_33 F (nI b) codes fu (nI m) (nI row) (nI k) d = some (oI (addF (cq C c k row) P m).1, d') ∧ SP d' (addF (cq C c k row) P m).2 := by
  intro c
  have hb := hC.1
  induction c with
  | zero =>
    intro k fu n row m P d hk hf hV hn hW hs ho
    obtain ⟨fu, rfl⟩ : ∃ z, fu = z + 1 := ⟨fu - 1, by omega⟩
    have hk : k = b := by omega
    subst hk
    refine ⟨d, ?_, hs⟩
    rw [L_X5_draftPatterns_33, if_pos (nI_le (Nat.le_refl _) (by omega))]
    rfl
  | succ c ih =>
    intro k fu n row m P d hk hf hV hn hW hs ho
    obtain ⟨fu, rfl⟩ : ∃ z, fu = z + 1 := ⟨fu - 1, by omega⟩
    obtain ⟨c1, c2, c3⟩ := hC.2 k (by omega)
    have hrow := V_lt hV (by omega)
    have e59 : ∀ {β : Type} {x y : β} {i : Decidable (nI (C k) = 59)}, (@ite β (nI (C k) = 59) i x y) = (if C k = 59 then x else y) := fun {β x y i} => if_eq (a := C k) (b := 59) (by omega) (by decide)
    rw [L_X5_draftPatterns_33, if_neg (nI_ge (by omega) (by omega)), at_in (by omega) (by decide), c1]
    simp only [bnd, jp, nm]
    rw [e59]
    by_cases h59 : C k = 59
    · rw [if_pos h59, endsPart0 hC (by omega), show decide (C k ≠ 59 ∧ (k + 1 = b ∨ C (k + 1) = 59)) = false from decide_eq_false (fun h => h.1 h59)]
      simp only []
      rw [if_pos b2_f]
      obtain ⟨h1, h2⟩ := hW.semi h59
      obtain ⟨p1, p2⟩ := h2.pos
      have hq : cq C (c + 1) k row = cq C c (k + 1) 1 := by
        obtain ⟨c, rfl⟩ : ∃ z, c = z + 1 := ⟨c - 1, by omega⟩
        rw [cq, if_pos h59, cq, if_neg p2]
      rw [hq, nI_1]
      exact ih (k + 1) fu 0 1 m P d (by omega) (by omega) V_0 (by omega) h2 hs ho
    · obtain ⟨h1, h2, h3⟩ := hW.lett h59
      have hl := isL_iff.mp h1
      rw [V_ln hV] at h2
      have hV' := V_succ (a := C k - 97) hV (by omega)
      have hPO : PO (4 * row + (C k - 97)) := Or.inr ⟨n + 1, by omega, by omega, hV'⟩
      have hlt := PO_lt hPO
      rw [if_neg h59, show (97 : Int32) = nI 97 from rfl, pk_sub (by omega), behind3 hrow (by omega)]
      simp only []
      rw [endsPart0 hC (by omega)]
      simp only []
      rw [if_b2]
      have hq : cq C (c + 1) k row = mp C c (k + 1) (4 * row + (C k - 97)) := by
        rw [cq, if_neg h59, mp, if_neg h59]
      rw [hq]
      by_cases he : k + 1 = b ∨ C (k + 1) = 59
      · rw [show decide (C k ≠ 59 ∧ (k + 1 = b ∨ C (k + 1) = 59)) = true from decide_eq_true ⟨h59, he⟩, if_pos rfl, draftSlotOf5 hs ho (by omega) (by omega)]
        have hq2 : mp C c (k + 1) (4 * row + (C k - 97)) = (4 * row + (C k - 97)) :: cq C c (k + 1) (4 * row + (C k - 97)) := by
          cases c with
          | zero => rfl
          | succ c =>
            have : C (k + 1) = 59 := by
              rcases he with e | e
              · omega
              · exact e
            rw [mp, if_pos this, cq, if_pos this]
        rw [hq2, addF]
        simp only []
        have hn8 : ∀ x, x ≤ 8 → ¬ x = 8 → ¬ nI x = (-1 : Int32) := by decide
        by_cases s1 : slotOf P (4 * row + (C k - 97)) = 8
        · rw [if_pos s1, if_pos rfl, if_pos s1, show (0 : Int32) = nI 0 from rfl, draftSlotOf5 hs ho (by omega) (by omega)]
          simp only []
          by_cases s2 : slotOf P 0 = 8
          · rw [if_pos s2, if_pos rfl, if_pos s2]
            exact ⟨d, rfl, hs⟩
          · have hle := slotOf_le P 0
            rw [if_neg s2, if_neg (hn8 _ hle s2), if_neg s2, put_in (by omega) (by decide)]
            simp only []
            rw [nI_1, nI_1]
            exact ih (k + 1) fu (n + 1) _ (m + 1) _ _ (by omega) (by omega) hV' (by omega) h3 (hs.set _ _) (ho.set _ hPO)
        · have hle := slotOf_le P (4 * row + (C k - 97))
          rw [if_neg s1, if_neg (hn8 _ hle s1), if_neg s1, nI_1]
          exact ih (k + 1) fu (n + 1) _ m P d (by omega) (by omega) hV' (by omega) h3 hs ho
      · rw [show decide (C k ≠ 59 ∧ (k + 1 = b ∨ C (k + 1) = 59)) = false from decide_eq_false (fun h => he h.2), if_neg (show ¬ false = true by decide)]
        have hq2 : mp C c (k + 1) (4 * row + (C k - 97)) = cq C c (k + 1) (4 * row + (C k - 97)) := by
          cases c with
          | zero => exact absurd (Or.inl (by omega)) he
          | succ c =>
            rw [cq, if_neg (fun e => he (Or.inr e))]
        rw [hq2, nI_1]
        exact ih (k + 1) fu (n + 1) _ m P d (by omega) (by omega) hV' (by omega) h3 hs ho
theorem draft_2 {F : Nat} {pats : Nat → Int32} {P : Nat → Nat} (hs : SP pats P) : ∀ (c k fu : Nat) (d : Nat → Int32), k + c = 8 → c < fu → (∀ i, i < k → d i = nI (P i)) → ∃ d', (∀ k27, L_X5_draftPatterns_2 F k27 pats fu (nI k) d = k27 d') ∧ SP d' P := by
  intro c
  induction c with
  | zero =>
    intro k fu d hk hf hd
    obtain ⟨fu, rfl⟩ : ∃ z, fu = z + 1 := ⟨fu - 1, by omega⟩
    have hk : k = 8 := by omega
    subst hk
    exact ⟨d, fun k27 => by rw [L_X5_draftPatterns_2, if_pos (show (8 : Int32) ≤ nI 8 from by decide)], hd⟩
  | succ c ih =>
    intro k fu d hk hf hd
    obtain ⟨fu, rfl⟩ : ∃ z, fu = z + 1 := ⟨fu - 1, by omega⟩
    obtain ⟨d', i1, i2⟩ := ih (k + 1) fu (upd d k (nI (P k))) (by omega) (by omega) (fun i hi => by
      unfold upd
      by_cases e : i = k
      · rw [if_pos e, e]
      · rw [if_neg e]; exact hd i (by omega))
    refine ⟨d', fun k27 => ?_, i2⟩
    rw [L_X5_draftPatterns_2, if_neg (show ¬ (8 : Int32) ≤ nI k from nI_ge (a := k) (b := 8) (by omega) (by omega)), patternIn5 hs (by omega)]
    simp only [bnd, nm]
    rw [put_in (by omega) (by decide)]
    simp only []
    rw [nI_1]
    exact i1 k27
theorem fr_last (C : Nat → Nat) : ∀ (c k n row : Nat), V n row → 0 < c → OKt C c k row → ((fr C c k row = 1) ↔ C (k + c - 1) = 59) := by
  intro c
  induction c with
  | zero => intro k n row _ h _; omega
  | succ c ih =>
    intro k n row hV _ hO
    rw [fr, show k + (c + 1) - 1 = k + c by omega]
    unfold OKt at hO
    by_cases h59 : C k = 59
    · rw [if_pos h59]
      rw [if_pos h59] at hO
      rcases Nat.eq_zero_or_pos c with z | z
      · subst z
        exact ⟨fun _ => h59, fun _ => rfl⟩
      · have := ih (k + 1) 0 1 V_0 z hO.2
        rw [show k + 1 + c - 1 = k + c by omega] at this
        exact this
    · rw [if_neg h59]
      rw [if_neg h59] at hO
      have hl := isL_iff.mp hO.1.1
      rcases Nat.eq_zero_or_pos c with z | z
      · subst z
        have := V_pos hV
        refine ⟨fun e => ?_, fun e => absurd e h59⟩
        rw [fr] at e
        omega
      · have := ih (k + 1) (n + 1) _ (V_succ hV (by omega)) z hO.2
        rw [show k + 1 + c - 1 = k + c by omega] at this
        exact this
/-- the class's draft -/
theorem draft_sim {F b : Nat} {codes text pats d : Nat → Int32} {C : Nat → Nat} {P : Nat → Nat} (hC : CO codes text b C) (hs : SP pats P) (ho : POs P) (hW : WF C b 0 1) (hF : 300 ≤ F) : ∃ d', D_X5_draftPatterns F (nI b) codes d pats = some (oI (addF (mp C b 0 1) P 0).1, d') ∧ SP d' (addF (mp C b 0 1) P 0).2 := by
  have hb := hC.1
  obtain ⟨d1, a1, a2⟩ := draft_2 (F := F) hs 8 0 F d (by omega) (by omega) (fun i hi => by omega)
  obtain ⟨d2, b1, b2⟩ := draft_33 hC hF b 0 F 0 1 0 P d1 (by omega) (by omega) V_0 (by omega) hW a2 ho
  have hq : cq C b 0 1 = mp C b 0 1 := by
    obtain ⟨p1, p2⟩ := hW.pos
    obtain ⟨b, rfl⟩ : ∃ z, b = z + 1 := ⟨b - 1, by omega⟩
    rw [cq, if_neg p2]
  rw [hq] at b1 b2
  refine ⟨d2, ?_, b2⟩
  unfold D_X5_draftPatterns
  refine Eq.trans (a1 _) ?_
  exact b1

