def EQ8 (f g : Nat → Int32) : Prop := ∀ p, p < 8 → f p = g p
/-- the copy of a memory -/
theorem copy2 {F : Nat} {r1 r2 c1 c2 d1 d2 t1 t2 l1 l2 f1 f2 m1 m2 : Int32} {p1 p2 n1 n2 a1 a2 : Nat → Int32} (hF : 100 ≤ F) : ∃ p' n' a', D_X2_copy F r1 r2 c1 c2 d1 d2 t1 t2 l1 l2 f1 f2 m1 m2 p1 p2 n1 n2 a1 a2 = some (r1, c1, d1, t1, l1, f1, m1, p', n', a') ∧ EQ8 p' p1 ∧ EQ8 n' n1 ∧ EQ8 a' a1 := by
  have key : ∀ (c k fu : Nat) (p2 n2 a2 : Nat → Int32), k + c = 8 → c < fu → (∀ i, i < k → p2 i = p1 i ∧ n2 i = n1 i ∧ a2 i = a1 i) → ∃ p' n' a', (∀ k62, L_X2_copy_2 F k62 p1 n1 a1 fu (nI k) p2 n2 a2 = k62 p' n' a') ∧ EQ8 p' p1 ∧ EQ8 n' n1 ∧ EQ8 a' a1 := by
    intro c
    induction c with
    | zero =>
      intro k fu p2 n2 a2 hk hf h
      obtain ⟨fu, rfl⟩ : ∃ z, fu = z + 1 := ⟨fu - 1, by omega⟩
      have hk : k = 8 := by omega
      subst hk
      exact ⟨p2, n2, a2, fun k62 => by rw [L_X2_copy_2, if_pos (show (8 : Int32) ≤ nI 8 from by decide)], fun p hp => (h p hp).1, fun p hp => (h p hp).2.1, fun p hp => (h p hp).2.2⟩
    | succ c ih =>
      intro k fu p2 n2 a2 hk hf h
      obtain ⟨fu, rfl⟩ : ∃ z, fu = z + 1 := ⟨fu - 1, by omega⟩
      obtain ⟨p', n', a', i1, i2⟩ := ih (k + 1) fu (upd p2 k (p1 k)) (upd n2 k (n1 k)) (upd a2 k (a1 k)) (by omega) (by omega) (fun i hi => by
        unfold upd
        by_cases e : i = k
        · rw [if_pos e, if_pos e, if_pos e, e]; exact ⟨rfl, rfl, rfl⟩
        · rw [if_neg e, if_neg e, if_neg e]; exact h i (by omega))
      refine ⟨p', n', a', fun k62 => ?_, i2⟩
      rw [L_X2_copy_2, if_neg (show ¬ (8 : Int32) ≤ nI k from nI_ge (a := k) (b := 8) (by omega) (by omega)), at_in (by omega) (by decide), at_in (by omega) (by decide), at_in (by omega) (by decide)]
      simp only [bnd, nm]
      rw [put_in (by omega) (by decide)]
      simp only []
      rw [put_in (by omega) (by decide)]
      simp only []
      rw [put_in (by omega) (by decide)]
      simp only []
      rw [nI_1]
      exact i1 k62
  obtain ⟨p', n', a', i1, i2⟩ := key 8 0 F p2 n2 a2 (by omega) (by omega) (fun i hi => by omega)
  exact ⟨p', n', a', by unfold D_X2_copy; exact i1 _, i2⟩
theorem mod6 {x : Nat} (hx : x < 2 ^ 31) : nI x - nI x / 6 * 6 = nI (x % 6) := pk_rem (d := 6) hx (by decide) (by decide)
theorem nI_mul (a b : Nat) : nI a * nI b = nI (a * b) := pk_mul a b
theorem grd_d {β : Type} {q : Prop} {i : Decidable q} {x : Option β} (h : q) : grd (@decide q i) x = x := grd_t (decide_eq_true h)
theorem memoryAt4 {F o t : Nat} {mems : Nat → Option Nat} (ho : o < 6) (ht : t ≤ 6) : D_X4_memoryAt F (nI t) (nI o) mems = some (mems ((o + t) % 6)) := by
  unfold D_X4_memoryAt
  rw [nI_add, mod6 (by omega)]
  simp only [nm]
  have := Nat.mod_lt (o + t) (show 0 < 6 by decide)
  rw [if_neg (nI_pos (by omega)), if_neg (show ¬ (6 : Int32) ≤ nI ((o + t) % 6) from nI_ge (b := 6) (by omega) (by omega)), grd_t (inb_nI (by omega) (by decide)), nI_clamp (by omega)]
/-- the turn and the oldest one behind one more saved memory -/
def kk (k : Nat) : Nat := if k = 6 then 6 else k + 1
def oo (k o : Nat) : Nat := if k = 6 then (o + 1) % 6 else o
/-- the place of the memory that keep writes -/
def sl (k o : Nat) : Nat := if k = 6 then ((o + 1) % 6 + 5) % 6 else (o + k) % 6
theorem keep4 {F k o ad : Nat} {mems : Nat → Option Nat} {r1 r2 c1 c2 d1 d2 t1 t2 l1 l2 f1 f2 m1 m2 : Int32} {p1 p2 n1 n2 a1 a2 : Nat → Int32} (ho : o < 6) (hk : k ≤ 6) (had : mems (sl k o) = some ad) (hF : 100 ≤ F) : ∃ p' n' a', D_X4_keep F ad (nI k) (nI o) mems r1 r2 c1 c2 d1 d2 t1 t2 l1 l2 f1 f2 m1 m2 p1 p2 n1 n2 a1 a2 = some (r1, c1, d1, t1, l1, f1, m1, p', n', a', nI (kk k), nI (oo k o)) ∧ EQ8 p' p1 ∧ EQ8 n' n1 ∧ EQ8 a' a1 := by
  obtain ⟨p', n', a', i1, i2⟩ := copy2 (F := F) (r1 := r1) (r2 := r2) (c1 := c1) (c2 := c2) (d1 := d1) (d2 := d2) (t1 := t1) (t2 := t2) (l1 := l1) (l2 := l2) (f1 := f1) (f2 := f2) (m1 := m1) (m2 := m2) (p1 := p1) (p2 := p2) (n1 := n1) (n2 := n2) (a1 := a1) (a2 := a2) hF
  refine ⟨p', n', a', ?_, i2⟩
  unfold D_X4_keep
  simp only [jp]
  rw [show (6 : Int32) = nI 6 from rfl, if_eq (a := k) (b := 6) (by omega) (by decide)]
  unfold kk oo
  unfold sl at had
  by_cases h : k = 6
  · rw [if_pos h] at had
    rw [if_pos h, if_pos h, if_pos h, h, nI_1, show nI 6 = (6 : Int32) from rfl, mod6 (by omega), show (6 : Int32) - 1 = nI 5 from rfl]
    simp only [nm]
    rw [memoryAt4 (Nat.mod_lt _ (by decide)) (by decide), had]
    simp only [bnd]
    rw [grd_d True.intro, i1]
    rfl
  · rw [if_neg h] at had
    rw [if_neg h, if_neg h, if_neg h, memoryAt4 ho hk, had]
    simp only [bnd, nm]
    rw [grd_d True.intro, i1]
    simp only []
    rw [nI_1]
theorem giveBack4 {F k o ad : Nat} {mems : Nat → Option Nat} {r1 r2 c1 c2 d1 d2 t1 t2 l1 l2 f1 f2 m1 m2 : Int32} {p1 p2 n1 n2 a1 a2 : Nat → Int32} (ho : o < 6) (hk : k ≤ 6) (hk1 : 1 ≤ k) (had : mems ((o + (k - 1)) % 6) = some ad) (hF : 100 ≤ F) : ∃ p' n' a', D_X4_giveBack F ad (nI k) (nI o) mems r1 r2 c1 c2 d1 d2 t1 t2 l1 l2 f1 f2 m1 m2 p1 p2 n1 n2 a1 a2 = some (r1, c1, d1, t1, l1, f1, m1, p', n', a', nI (k - 1)) ∧ EQ8 p' p1 ∧ EQ8 n' n1 ∧ EQ8 a' a1 := by
  obtain ⟨p', n', a', i1, i2⟩ := copy2 (F := F) (r1 := r1) (r2 := r2) (c1 := c1) (c2 := c2) (d1 := d1) (d2 := d2) (t1 := t1) (t2 := t2) (l1 := l1) (l2 := l2) (f1 := f1) (f2 := f2) (m1 := m1) (m2 := m2) (p1 := p1) (p2 := p2) (n1 := n1) (n2 := n2) (a1 := a1) (a2 := a2) hF
  refine ⟨p', n', a', ?_, i2⟩
  unfold D_X4_giveBack
  rw [nI_s1 hk1, memoryAt4 ho (by omega), had]
  simp only [bnd, nm]
  rw [grd_d True.intro, i1]
/-- a text begins, in the class -/
theorem forgetText2 {F : Nat} {a b c d e f : Int32} {cnt lat : Nat → Int32} (hF : 100 ≤ F) : ∃ cnt' lat', D_X2_forgetText F a b c d e f cnt lat = some (1, 0, 0, -1, 0, 0, cnt', lat') ∧ ∀ p, p < 8 → cnt' p = 0 ∧ lat' p = -1 := by
  have key : ∀ (c k fu : Nat) (cnt lat : Nat → Int32), k + c = 8 → c < fu → (∀ i, i < k → cnt i = 0 ∧ lat i = -1) → ∃ cnt' lat', (∀ k19, L_X2_forgetText_2 F k19 fu (nI k) cnt lat = k19 cnt' lat') ∧ ∀ p, p < 8 → cnt' p = 0 ∧ lat' p = -1 := by
    intro c
    induction c with
    | zero =>
      intro k fu cnt lat hk hf h
      obtain ⟨fu, rfl⟩ : ∃ z, fu = z + 1 := ⟨fu - 1, by omega⟩
      have hk : k = 8 := by omega
      subst hk
      exact ⟨cnt, lat, fun k19 => by rw [L_X2_forgetText_2, if_pos (show (8 : Int32) ≤ nI 8 from by decide)], h⟩
    | succ c ih =>
      intro k fu cnt lat hk hf h
      obtain ⟨fu, rfl⟩ : ∃ z, fu = z + 1 := ⟨fu - 1, by omega⟩
      obtain ⟨cnt', lat', i1, i2⟩ := ih (k + 1) fu (upd cnt k 0) (upd lat k (-1)) (by omega) (by omega) (fun i hi => by
        unfold upd
        by_cases e : i = k
        · rw [if_pos e, if_pos e]; exact ⟨rfl, rfl⟩
        · rw [if_neg e, if_neg e]; exact h i (by omega))
      refine ⟨cnt', lat', fun k19 => ?_, i2⟩
      rw [L_X2_forgetText_2, if_neg (show ¬ (8 : Int32) ≤ nI k from nI_ge (a := k) (b := 8) (by omega) (by omega))]
      unfold D_X2_forgetMatchesOf
      rw [put_in (by omega) (by decide)]
      simp only [bnd, nm]
      rw [put_in (by omega) (by decide)]
      simp only []
      rw [nI_1]
      exact i1 k19
  obtain ⟨cnt', lat', i1, i2⟩ := key 8 0 F cnt lat (by omega) (by omega) (fun i hi => by omega)
  exact ⟨cnt', lat', by unfold D_X2_forgetText; exact i1 _, i2⟩
