def prt (r e : Nat) : Bool := decide (r ≠ 0) && (decide (e ≠ 0) && anyF (fun k => isEndB (r / 4 ^ (ln r - k)) e) (ln r + 1 - ln e) (ln e))
theorem V_beg {n r k : Nat} (h : V n r) (hk : k ≤ n) : V k (r / 4 ^ (n - k)) := by
  have := V_div h (show n - k ≤ n by omega)
  rw [show n - (n - k) = k by omega] at this
  exact this
theorem isPart3 {F r e : Nat} (hr : PO r) (he : PO e) (hF : 100 ≤ F) : D_X3_isPart F (nI e) (nI r) = some (b2 (prt r e)) := by
  unfold D_X3_isPart prt
  by_cases h0 : e = 0
  · subst h0
    rw [if_pos (show nI 0 = 0 from rfl)]
    simp [b2]
  · obtain ⟨q1, q2, q3⟩ := PO_V he h0
    rw [if_neg (nI_ne0 (by omega) (by have := PO_lt he; omega))]
    have key : ∀ (n : Nat) (hn : n ≤ 8) (hv : V n r ∨ n = 0), ∀ (c k fu : Nat), n + 1 - k = c → 1 ≤ k → k ≤ 9 → c < fu → L_X3_isPart_16 F (nI e) (nI r) (nI n) fu (nI k) = some (b2 (anyF (fun k => isEndB (r / 4 ^ (n - k)) e) c k)) := by
      intro n hn hv c
      induction c with
      | zero =>
        intro k fu hk hk2 hk9 hf
        obtain ⟨fu, rfl⟩ : ∃ z, fu = z + 1 := ⟨fu - 1, by omega⟩
        rw [L_X3_isPart_16, if_lt (by omega) (by omega), if_pos (by omega)]
        rfl
      | succ c ih =>
        intro k fu hk hk2 hk9 hf
        obtain ⟨fu, rfl⟩ : ∃ z, fu = z + 1 := ⟨fu - 1, by omega⟩
        have hv : V n r := by
          rcases hv with h | h
          · exact h
          · exfalso; omega
        rw [L_X3_isPart_16, if_lt (by omega) (by omega), if_neg (by omega), beginning3 hv (by omega) (by omega) (by omega)]
        simp only [bnd]
        rw [endsWith3 (V_beg hv (by omega)) (by omega) q3 (by omega) (by omega)]
        simp only [nm]
        rw [if_b2, nI_1, ih (k + 1) fu (by omega) (by omega) (by omega) (by omega)]
        simp only [anyF]
        by_cases hb : isEndB (r / 4 ^ (n - k)) e = true
        · rw [if_pos hb, hb]; rfl
        · rw [if_neg hb]; simp [hb]
    by_cases h1 : r = 0
    · subst h1
      rw [show nI 0 = 0 from rfl, len3_0 (by omega)]
      simp only [bnd]
      rw [len3 q3 (by omega) (by omega)]
      simp only []
      have := key 0 (by omega) (Or.inr rfl) 0 (ln e) F (by omega) (by omega) (by omega) (by omega)
      refine Eq.trans this ?_
      simp [anyF, b2]
    · obtain ⟨p1, p2, p3⟩ := PO_V hr h1
      rw [len3 p3 (by omega) (by omega)]
      simp only [bnd]
      rw [len3 q3 (by omega) (by omega)]
      simp only []
      rw [key (ln r) p2 (Or.inl p3) (ln r + 1 - ln e) (ln e) F rfl (by omega) (by omega) (by omega)]
      simp [h0, h1]
theorem isPart6 {F r e : Nat} (hr : PO r) (h1 : r ≠ 0) (he : PO e) (h0 : e ≠ 0) (hF : 100 ≤ F) : D_X6_isPart F (nI r) (nI e) = some (b2 (prt r e)) := by
  obtain ⟨q1, q2, q3⟩ := PO_V he h0
  obtain ⟨p1, p2, p3⟩ := PO_V hr h1
  have key : ∀ (c k fu : Nat) (acc : Bool), ln r + 1 - k = c → k ≤ 9 → c < fu → L_X6_isPart_7 F (nI r) (nI e) fu (b2 acc) (nI k) = some (b2 (acc || anyF (fun k => isEndB (r / 4 ^ (ln r - k)) e) c k)) := by
    intro c
    induction c with
    | zero =>
      intro k fu acc hk hk9 hf
      obtain ⟨fu, rfl⟩ : ∃ z, fu = z + 1 := ⟨fu - 1, by omega⟩
      rw [L_X6_isPart_7, len6 p3 (by omega) (by omega)]
      simp only [bnd]
      rw [if_lt (by omega) (by omega), if_pos (by omega), grd_t (b2_bo acc)]
      simp [anyF]
    | succ c ih =>
      intro k fu acc hk hk9 hf
      obtain ⟨fu, rfl⟩ : ∃ z, fu = z + 1 := ⟨fu - 1, by omega⟩
      rw [L_X6_isPart_7, len6 p3 (by omega) (by omega)]
      simp only [bnd, nm]
      rw [if_lt (by omega) (by omega), if_neg (by omega), if_b2, nI_1]
      have e1 := ih (k + 1) fu true (by omega) (by omega) (by omega)
      have e0 := ih (k + 1) fu false (by omega) (by omega) (by omega)
      rw [show b2 true = 1 from rfl] at e1
      rw [show b2 false = 0 from rfl] at e0
      simp only [anyF]
      cases acc with
      | true => rw [if_pos rfl, e1]; simp
      | false =>
        rw [if_neg (by decide), beginOf6 p3 (by omega) (by omega) (by omega)]
        simp only []
        rw [isEnd6 (V_beg p3 (by omega)) (by omega) q3 (by omega) (by omega)]
        simp only []
        rw [if_b2, e1, e0]
        by_cases hb : isEndB (r / 4 ^ (ln r - k)) e = true
        · rw [if_pos hb]; simp [hb]
        · rw [if_neg hb]; simp [hb]
  unfold D_X6_isPart prt
  rw [len6 q3 (by omega) (by omega)]
  simp only [bnd]
  have := key (ln r + 1 - ln e) (ln e) F false rfl (by omega) (by omega)
  refine Eq.trans this ?_
  simp [h0, h1]
theorem patternIn5 {F p : Nat} {pats : Nat → Int32} {P : Nat → Nat} (hs : SP pats P) (hp : p < 8) : D_X5_patternIn F (nI p) pats = some (nI (P p)) := by
  unfold D_X5_patternIn
  rw [at_in hp (by decide), hs p hp]
  rfl
theorem if_nI0 {β : Type} {a : Nat} {i : Decidable (nI a = 0)} {x y : β} (ha : a < 2 ^ 31) : (@ite β (nI a = 0) i x y) = (if a = 0 then x else y) := by
  by_cases h : a = 0
  · rw [if_pos h]; subst h; exact if_pos rfl
  · rw [if_neg h]; exact if_neg (nI_ne0 (by omega) ha)
def inside (P : Nat → Nat) (p : Nat) : Nat := cntF (fun q => decide (q ≠ p) && prt (P p) (P q)) 8 0
def around (P : Nat → Nat) (p : Nat) : Nat := cntF (fun q => decide (q ≠ p) && prt (P q) (P p)) 8 0
theorem othersInside5 {F p : Nat} {pats : Nat → Int32} {P : Nat → Nat} (hs : SP pats P) (ho : POs P) (hp : p < 8) (hF : 100 ≤ F) : D_X5_othersInside F (nI p) pats = some (nI (inside P p)) := by
  have key : ∀ (c k acc fu : Nat), k + c = 8 → c < fu → L_X5_othersInside_4 F (nI p) pats fu (nI acc) (nI k) = some (nI (acc + cntF (fun q => decide (q ≠ p) && prt (P p) (P q)) c k)) := by
    intro c
    induction c with
    | zero =>
      intro k acc fu hk hf
      obtain ⟨fu, rfl⟩ : ∃ z, fu = z + 1 := ⟨fu - 1, by omega⟩
      have hk : k = 8 := by omega
      subst hk
      rw [L_X5_othersInside_4, if_pos (show (8 : Int32) ≤ nI 8 from by decide)]
      rfl
    | succ c ih =>
      intro k acc fu hk hf
      obtain ⟨fu, rfl⟩ : ∃ z, fu = z + 1 := ⟨fu - 1, by omega⟩
      rw [L_X5_othersInside_4, if_neg (show ¬ (8 : Int32) ≤ nI k from nI_ge (a := k) (b := 8) (by omega) (by omega)), if_eq (by omega) (by omega), patternIn5 hs (by omega)]
      simp only [bnd, nm]
      rw [patternIn5 hs hp]
      simp only []
      rw [isPart3 (ho p hp) (ho k (by omega)) hF]
      simp only []
      rw [if_b2, nI_1, nI_1, ih (k + 1) acc fu (by omega) (by omega), ih (k + 1) (acc + 1) fu (by omega) (by omega)]
      simp only [cntF]
      by_cases h1 : k = p
      · rw [if_pos h1]; simp [h1]
      · rw [if_neg h1]
        by_cases h2 : prt (P p) (P k) = true <;> simp [h1, h2, Nat.add_assoc]
  have := key 8 0 0 F (by omega) (by omega)
  rw [Nat.zero_add] at this
  exact this
theorem othersAround5 {F p : Nat} {pats : Nat → Int32} {P : Nat → Nat} (hs : SP pats P) (ho : POs P) (hp : p < 8) (hF : 100 ≤ F) : D_X5_othersAround F (nI p) pats = some (nI (around P p)) := by
  have key : ∀ (c k acc fu : Nat), k + c = 8 → c < fu → L_X5_othersAround_4 F (nI p) pats fu (nI acc) (nI k) = some (nI (acc + cntF (fun q => decide (q ≠ p) && prt (P q) (P p)) c k)) := by
    intro c
    induction c with
    | zero =>
      intro k acc fu hk hf
      obtain ⟨fu, rfl⟩ : ∃ z, fu = z + 1 := ⟨fu - 1, by omega⟩
      have hk : k = 8 := by omega
      subst hk
      rw [L_X5_othersAround_4, if_pos (show (8 : Int32) ≤ nI 8 from by decide)]
      rfl
    | succ c ih =>
      intro k acc fu hk hf
      obtain ⟨fu, rfl⟩ : ∃ z, fu = z + 1 := ⟨fu - 1, by omega⟩
      rw [L_X5_othersAround_4, if_neg (show ¬ (8 : Int32) ≤ nI k from nI_ge (a := k) (b := 8) (by omega) (by omega)), if_eq (by omega) (by omega), patternIn5 hs hp]
      simp only [bnd, nm]
      rw [patternIn5 hs (by omega)]
      simp only []
      rw [isPart3 (ho k (by omega)) (ho p hp) hF]
      simp only []
      rw [if_b2, nI_1, nI_1, ih (k + 1) acc fu (by omega) (by omega), ih (k + 1) (acc + 1) fu (by omega) (by omega)]
      simp only [cntF]
      by_cases h1 : k = p
      · rw [if_pos h1]; simp [h1]
      · rw [if_neg h1]
        by_cases h2 : prt (P k) (P p) = true <;> simp [h1, h2, Nat.add_assoc]
  have := key 8 0 0 F (by omega) (by omega)
  rw [Nat.zero_add] at this
  exact this
theorem parts6 {F p : Nat} {s : Nat → Int32} {P : Nat → Nat} (o : Bool) (hs : SP s P) (ho : POs P) (hp : p < 8) (h0 : P p ≠ 0) (hF : 100 ≤ F) : D_X6_parts F (nI p) (b2 o) s = some (nI (if o = true then around P p else inside P p)) := by
  have hsp : ∀ q, q < 8 → s ((0 : Int32) + nI q).toNatClampNeg = nI (P q) := fun q hq => by rw [nI_0a, nI_clamp (by omega)]; exact hs q hq
  have hin : ∀ q, q < 8 → inb ((0 : Int32) + nI q) 31 = true := fun q hq => by rw [nI_0a]; exact inb_nI (by omega) (by decide)
  have key : ∀ (c k acc fu : Nat), k + c = 8 → c < fu → L_X6_parts_5 F (nI p) (b2 o) s fu (nI acc) (nI k) = some (nI (acc + cntF (fun q => decide (q ≠ p) && prt (if o = true then P q else P p) (if o = true then P p else P q)) c k)) := by
    intro c
    induction c with
    | zero =>
      intro k acc fu hk hf
      obtain ⟨fu, rfl⟩ : ∃ z, fu = z + 1 := ⟨fu - 1, by omega⟩
      have hk : k = 8 := by omega
      subst hk
      rw [L_X6_parts_5, if_pos (show (8 : Int32) ≤ nI 8 from by decide)]
      rfl
    | succ c ih =>
      intro k acc fu hk hf
      obtain ⟨fu, rfl⟩ : ∃ z, fu = z + 1 := ⟨fu - 1, by omega⟩
      have hk8 : k < 8 := by omega
      have e0 := ih (k + 1) acc fu (by omega) (by omega)
      have e1 := ih (k + 1) (acc + 1) fu (by omega) (by omega)
      rw [L_X6_parts_5, if_neg (show ¬ (8 : Int32) ≤ nI k from nI_ge (a := k) (b := 8) (by omega) (by omega))]
      simp only [jp, nm]
      have fin : ∀ r e : Nat, r < 8 → e < 8 → (P k ≠ 0 → P r ≠ 0 ∧ P e ≠ 0) → (prt (P r) (P e) = prt (if o = true then P k else P p) (if o = true then P p else P k)) → (if nI k = nI p then L_X6_parts_5 F (nI p) (b2 o) s fu (nI acc + 0) (nI k + 1) else bnd (D_X6_isThere F (nI k) s) (fun r_11 => if r_11 = 0 then L_X6_parts_5 F (nI p) (b2 o) s fu (nI acc + 0) (nI k + 1) else bnd (D_X6_isPart F (nI (P r)) (nI (P e))) (fun r_15 => if r_15 = 0 then L_X6_parts_5 F (nI p) (b2 o) s fu (nI acc + 0) (nI k + 1) else L_X6_parts_5 F (nI p) (b2 o) s fu (nI acc + 1) (nI k + 1)))) = some (nI (acc + cntF (fun q => decide (q ≠ p) && prt (if o = true then P q else P p) (if o = true then P p else P q)) (c + 1) k)) := by
        intro r e hr he hne hprt
        rw [if_eq (by omega) (by omega), isThere6 hs ho hk8]
        simp only [bnd]
        rw [if_b2, nI_a0, nI_1, nI_1, e0, e1]
        simp only [cntF]
        by_cases h1 : k = p
        · rw [if_pos h1]; simp [h1]
        · rw [if_neg h1]
          by_cases h2 : P k = 0
          · have : prt (if o = true then P k else P p) (if o = true then P p else P k) = false := by
              cases o <;> simp [prt, h2]
            rw [if_neg (by simp [h2])]
            have hn : ¬ (fun q => decide (q ≠ p) && prt (if o = true then P q else P p) (if o = true then P p else P q)) k = true := by
              show ¬ (decide (k ≠ p) && prt (if o = true then P k else P p) (if o = true then P p else P k)) = true
              rw [this, Bool.and_false]
              decide
            have hc := cntF_n (f := fun q => decide (q ≠ p) && prt (if o = true then P q else P p) (if o = true then P p else P q)) (k := k) (c := c) hn
            simp only [cntF] at hc
            rw [hc]
          · obtain ⟨z1, z2⟩ := hne h2
            rw [if_pos (by simp [h2]), isPart6 (ho r hr) z1 (ho e he) z2 hF]
            simp only []
            rw [if_b2, hprt]
            by_cases h3 : prt (if o = true then P k else P p) (if o = true then P p else P k) = true
            · rw [if_pos h3]; simp [h1, h3, Nat.add_assoc]
            · rw [if_neg h3]; simp [h3]
      cases o with
      | false =>
        rw [if_pos (show b2 false = 0 from rfl)]
        rw [grd_t (hin p hp), hsp p hp, if_pos (show b2 false = 0 from rfl), grd_t (hin k hk8), hsp k hk8]
        exact fin p k hp hk8 (fun h => ⟨h0, h⟩) rfl
      | true =>
        rw [if_neg (show ¬ b2 true = 0 by decide)]
        rw [grd_t (hin k hk8), hsp k hk8, if_neg (show ¬ b2 true = 0 by decide), grd_t (hin p hp), hsp p hp]
        exact fin k p hk8 hp (fun h => ⟨h, h0⟩) rfl
  have := key 8 0 0 F (by omega) (by omega)
  rw [Nat.zero_add] at this
  refine Eq.trans this ?_
  cases o <;> rfl
theorem inside_0 {P : Nat → Nat} {p : Nat} (h : P p = 0) : inside P p = 0 := by
  unfold inside
  rcases Nat.eq_zero_or_pos (cntF (fun q => decide (q ≠ p) && prt (P p) (P q)) 8 0) with e | e
  · exact e
  · obtain ⟨q, _, _, h3⟩ := cntF_pos.mp e
    simp [prt, h] at h3
theorem around_0 {P : Nat → Nat} {p : Nat} (h : P p = 0) : around P p = 0 := by
  unfold around
  rcases Nat.eq_zero_or_pos (cntF (fun q => decide (q ≠ p) && prt (P q) (P p)) 8 0) with e | e
  · exact e
  · obtain ⟨q, _, _, h3⟩ := cntF_pos.mp e
    simp [prt, h] at h3
/-- the state of a pattern is the pattern -/
theorem sa_self {P : Nat → Nat} {m r : Nat} (hr : V m r) (h : isSt P r = true) : sa P r m = r := by
  cases m with
  | zero => rw [V_0e hr]; exact suf_0 _
  | succ m =>
    simp only [sa]
    rw [suf_self hr, if_pos h]
/-- a pattern's properties are told alike -/
theorem pattern_sim {F n p w : Nat} {P : Nat → Nat} {g : Nat → Nat} {pats rows sh en l cnt lat s st : Nat → Int32} (hs : SP pats P) (hs6 : SP s P) (hM : MO P n g rows sh en l) (hst : AR st n g) (hc : ∀ p, p < 8 → s (8 + p) = cnt p) (hl : ∀ p, p < 8 → s (16 + p) = lat p) (hp : p < 8) (hw : w ≤ 5) (hF : 300 ≤ F) : ∃ r, D_X5_patternProperty F (nI p) (nI w) pats l lat cnt = some r ∧ D_X6_patternOf F (nI p) (nI w) s st = some r ∧ (w = 0 → r = nI (ln (P p))) := by
  obtain ⟨hE, hA, hB, hen⟩ := hM
  have ho := hE.2.2.2
  have h9 := hE.2.1
  have e8 : s ((8 : Int32) + nI p).toNatClampNeg = cnt p := by rw [show (8 : Int32) + nI p = nI (8 + p) from nI_add 8 p, nI_clamp (by omega)]; exact hc p hp
  have e16 : s ((16 : Int32) + nI p).toNatClampNeg = lat p := by rw [show (16 : Int32) + nI p = nI (16 + p) from nI_add 16 p, nI_clamp (by omega)]; exact hl p hp
  have g8 : inb ((8 : Int32) + nI p) 31 = true := by rw [show (8 : Int32) + nI p = nI (8 + p) from nI_add 8 p]; exact inb_nI (by omega) (by decide)
  have g16 : inb ((16 : Int32) + nI p) 31 = true := by rw [show (16 : Int32) + nI p = nI (16 + p) from nI_add 16 p]; exact inb_nI (by omega) (by decide)
  have e0 : s ((0 : Int32) + nI p).toNatClampNeg = nI (P p) := by rw [nI_0a, nI_clamp (by omega)]; exact hs6 p hp
  have g0 : inb ((0 : Int32) + nI p) 31 = true := by rw [nI_0a]; exact inb_nI (by omega) (by decide)
  unfold D_X5_patternProperty D_X6_patternOf
  rw [patternIn5 hs hp, isThere6 hs6 ho hp, e8, e16, e0, grd_t g8, grd_t g16]
  simp only [bnd, jp]
  rw [if_b2, if_b2, if_b2, if_nI0 (a := P p) (by have := PO_lt (ho p hp); omega)]
  have hlt := PO_lt (ho p hp)
  rcases (show w = 0 ∨ w = 1 ∨ w = 2 ∨ w = 3 ∨ w = 4 ∨ w = 5 by omega) with e | e | e | e | e | e <;> subst e
  · refine ⟨nI (ln (P p)), ?_, ?_, fun _ => rfl⟩
    · rw [if_pos (show nI 0 = 0 from rfl), (len3P ho hp (by omega)).1]
    · rw [if_pos (show nI 0 = 0 from rfl)]
      by_cases h0 : P p = 0
      · rw [if_neg (by simp [h0]), h0]; rfl
      · obtain ⟨q1, q2, q3⟩ := PO_V (ho p hp) h0
        rw [if_pos (by simp [h0]), grd_t g0, len6 q3 (by omega) (by omega)]
  · refine ⟨cnt p, ?_, ?_, fun h => by omega⟩
    · rw [if_neg (show ¬ nI 1 = 0 by decide), if_pos (show nI 1 = 1 from rfl), at_in hp (by decide)]
    · rw [if_neg (show ¬ nI 1 = 0 by decide), if_pos (show nI 1 = 1 from rfl)]
  · refine ⟨lat p, ?_, ?_, fun h => by omega⟩
    · rw [if_neg (show ¬ nI 2 = 0 by decide), if_neg (show ¬ nI 2 = 1 by decide), if_pos (show nI 2 = 2 from rfl), at_in hp (by decide)]
    · rw [if_neg (show ¬ nI 2 = 0 by decide), if_neg (show ¬ nI 2 = 1 by decide), if_pos (show nI 2 = 2 from rfl)]
  · rw [if_neg (show ¬ nI 3 = 0 by decide), if_neg (show ¬ nI 3 = 1 by decide), if_neg (show ¬ nI 3 = 2 by decide), if_pos (show nI 3 = 3 from rfl), if_neg (show ¬ nI 3 = 0 by decide), if_neg (show ¬ nI 3 = 1 by decide), if_neg (show ¬ nI 3 = 2 by decide), if_pos (show nI 3 = 3 from rfl)]
    by_cases h0 : P p = 0
    · refine ⟨-1, by rw [if_pos h0], by rw [if_neg (by simp [h0])], fun h => by omega⟩
    · obtain ⟨q1, q2, q3⟩ := PO_V (ho p hp) h0
      obtain ⟨i, i1, i2, i3⟩ := stateBehind1 (F := F) hE hB q3 q2 (by omega)
      rw [sa_self q3 (pat_st ho hp h0)] at i2
      refine ⟨nI i, by rw [if_neg h0, i3], ?_, fun h => by omega⟩
      rw [if_pos (by simp [h0]), grd_t g0, ← i2, numberOf6 hst hE.1 h9 (fun v hv => by have := (st_lt ho hv).1; omega) i1 (by omega)]
  · refine ⟨nI (inside P p), ?_, ?_, fun h => by omega⟩
    · rw [if_neg (show ¬ nI 4 = 0 by decide), if_neg (show ¬ nI 4 = 1 by decide), if_neg (show ¬ nI 4 = 2 by decide), if_neg (show ¬ nI 4 = 3 by decide), if_pos (show nI 4 = 4 from rfl), othersInside5 hs ho hp (by omega)]
    · rw [if_neg (show ¬ nI 4 = 0 by decide), if_neg (show ¬ nI 4 = 1 by decide), if_neg (show ¬ nI 4 = 2 by decide), if_neg (show ¬ nI 4 = 3 by decide), if_neg (show ¬ nI 4 = 5 by decide)]
      by_cases h0 : P p = 0
      · rw [if_neg (by simp [h0]), inside_0 h0]; rfl
      · rw [if_pos (by simp [h0]), show (0 : Int32) = b2 false from rfl, parts6 false hs6 ho hp h0 (by omega)]
        rfl
  · refine ⟨nI (around P p), ?_, ?_, fun h => by omega⟩
    · rw [if_neg (show ¬ nI 5 = 0 by decide), if_neg (show ¬ nI 5 = 1 by decide), if_neg (show ¬ nI 5 = 2 by decide), if_neg (show ¬ nI 5 = 3 by decide), if_neg (show ¬ nI 5 = 4 by decide), othersAround5 hs ho hp (by omega)]
    · rw [if_neg (show ¬ nI 5 = 0 by decide), if_neg (show ¬ nI 5 = 1 by decide), if_neg (show ¬ nI 5 = 2 by decide), if_neg (show ¬ nI 5 = 3 by decide), if_pos (show nI 5 = 5 from rfl)]
      by_cases h0 : P p = 0
      · rw [if_neg (by simp [h0]), around_0 h0]; rfl
      · rw [if_pos (by simp [h0]), show (1 : Int32) = b2 true from rfl, parts6 true hs6 ho hp h0 (by omega)]
        rfl
