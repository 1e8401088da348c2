/-- what a computed value, if there is one, satisfies -/
def wpo {β : Type} (x : Option β) (Q : β → Prop) : Prop := ∃ r, x = some r ∧ Q r
theorem w_bnd {α β : Type} {o : Option α} {K : α → Option β} {a : α} {Q : β → Prop} (h : o = some a) (k : wpo (K a) Q) : wpo (bnd o K) Q := by rw [h]; exact k
theorem w_nm {α β : Type} {e : α} {K : α → Option β} {Q : β → Prop} (k : wpo (K e) Q) : wpo (nm e K) Q := k
theorem w_jp {γ β : Type} {J : γ} {f : γ → Option β} {Q : β → Prop} (h : ∀ j, j = J → wpo (f j) Q) : wpo (jp J f) Q := h J rfl
theorem w_it {β : Type} {c : Prop} {i : Decidable c} {a b : Option β} {Q : β → Prop} (h : c) (k : wpo a Q) : wpo (@ite (Option β) c i a b) Q := by rw [if_pos h]; exact k
theorem w_if {β : Type} {c : Prop} {i : Decidable c} {a b : Option β} {Q : β → Prop} (h : ¬ c) (k : wpo b Q) : wpo (@ite (Option β) c i a b) Q := by rw [if_neg h]; exact k
theorem w_some {β : Type} {r : β} {Q : β → Prop} (h : Q r) : wpo (some r) Q := ⟨r, rfl, h⟩
theorem w_eq {β : Type} {x y : Option β} {Q : β → Prop} (e : x = y) (k : wpo y Q) : wpo x Q := by rw [e]; exact k
/-- any number is a natural one's -/
theorem any_nI (x : Int32) : ∃ y, y < 2 ^ 32 ∧ x = nI y := by
  refine ⟨x.toBitVec.toNat, x.toBitVec.isLt, ?_⟩
  apply Int32.toBitVec_inj.mp
  apply BitVec.eq_of_toNat_eq
  show x.toBitVec.toNat = (Int32.ofNat x.toBitVec.toNat).toBitVec.toNat
  simp only [Int32.toBitVec_ofNat', BitVec.toNat_ofNat]
  rw [Nat.mod_eq_of_lt x.toBitVec.isLt]
theorem low3 {F : Nat} (x : Int32) (d : Nat) (h0 : 0 < d) (hd : d < 2 ^ 31) : ∃ r, r < d ∧ D_L_low F x (nI d) = some (nI r) := by
  obtain ⟨y, hy, rfl⟩ := any_nI x
  refine ⟨y % 2 ^ 31 % d, Nat.mod_lt _ h0, ?_⟩
  unfold D_L_low
  refine grd_e (nI_ne0' h0 hd) ?_
  have h2 : nI y &&& 2147483647 = nI (y % 2 ^ 31) := pk_andN hy 31 (by decide)
  rw [h2]
  exact congrArg some (pk_rem (Nat.mod_lt _ (by decide)) h0 hd)
theorem and7 (x : Int32) : ∃ p, p < 8 ∧ x &&& 7 = nI p := by
  obtain ⟨y, hy, rfl⟩ := any_nI x
  exact ⟨y % 2 ^ 3, Nat.mod_lt _ (by decide), pk_andN hy 3 (by decide)⟩
theorem and1 (x : Int32) : ∃ p, p < 2 ∧ x &&& 1 = nI p := by
  obtain ⟨y, hy, rfl⟩ := any_nI x
  exact ⟨y % 2 ^ 1, Nat.mod_lt _ (by decide), pk_andN hy 1 (by decide)⟩
theorem bitsL {m F : Nat} (hm : m < 256) (hF : 20 ≤ F) : D_L_bits F (nI m) = some (nI (pc m)) := by
  have key : ∀ c k acc fu, k + c = 8 → c < fu → L_L_bits_4 F (nI m) fu (nI acc) (nI k) = some (nI (acc + cntF m.testBit c k)) := by
    intro c
    induction c with
    | zero =>
      intro k acc fu hk hf
      obtain ⟨fu, rfl⟩ : ∃ z, fu = z + 1 := ⟨fu - 1, by omega⟩
      have hk : k = 8 := by omega
      subst hk
      rw [L_L_bits_4, if_pos (show (8 : Int32) ≤ nI 8 from by decide)]
      rfl
    | succ c ih =>
      intro k acc fu hk hf
      obtain ⟨fu, rfl⟩ : ∃ z, fu = z + 1 := ⟨fu - 1, by omega⟩
      rw [L_L_bits_4, if_neg (show ¬ (8 : Int32) ≤ nI k from nI_ge (a := k) (b := 8) (by omega) (by omega)), bit_shr m hm k (by omega)]
      simp only [nm, cntF]
      rw [nI_add, nI_1, ih (k + 1) _ fu (by omega) (by omega), Nat.add_assoc]
  have := key 8 0 0 F (by omega) (by omega)
  rw [Nat.zero_add] at this
  exact this
/-! the buffer grows -/
theorem app5 {F b c : Nat} {bc : Nat → Int32} (hb : b < 60) (h1 : 33 ≤ c) (h2 : c ≤ 126) : D_X5_append F (nI c) (nI b) bc = some (nI (b + 1), nI (b + 1), upd bc b (nI c)) := by
  unfold D_X5_append
  refine jp_e (fun j _ => ?_)
  refine if_e (show ¬ nI c < (33 : Int32) from fun h => by have := (nI_ltI (a := c) (b := 33) (by omega) (by decide)).mp h; omega) ?_
  refine it_e (show nI c ≤ (126 : Int32) from nI_le (b := 126) h2 (by decide)) ?_
  refine it_e (show nI b < (60 : Int32) from nI_lt (a := b) (b := 60) hb (by decide)) ?_
  unfold D_X0_take
  rw [put_in hb (by decide)]
  simp only [bnd, nm]
  rw [nI_1]
theorem OKt_cong {C C' : Nat → Nat} : ∀ c k row, (∀ i, k ≤ i → i < k + c → C' i = C i) → OKt C c k row → OKt C' c k row := by
  intro c
  induction c with
  | zero => intro k row _ _; trivial
  | succ c ih =>
    intro k row h ho
    unfold OKt at ho ⊢
    rw [h k (Nat.le_refl k) (by omega)]
    by_cases h59 : C k = 59
    · rw [if_pos h59] at ho ⊢
      exact ⟨ho.1, ih _ _ (fun i i1 i2 => h i (by omega) (by omega)) ho.2⟩
    · rw [if_neg h59] at ho ⊢
      exact ⟨ho.1, ih _ _ (fun i i1 i2 => h i (by omega) (by omega)) ho.2⟩
theorem fr_cong {C C' : Nat → Nat} : ∀ c k row, (∀ i, k ≤ i → i < k + c → C' i = C i) → fr C' c k row = fr C c k row := by
  intro c
  induction c with
  | zero => intro k row _; rfl
  | succ c ih =>
    intro k row h
    unfold fr
    rw [h k (Nat.le_refl k) (by omega), ih _ _ (fun i i1 i2 => h i (by omega) (by omega)), ih _ _ (fun i i1 i2 => h i (by omega) (by omega))]
theorem mp_cong {C C' : Nat → Nat} : ∀ c k row, (∀ i, k ≤ i → i < k + c → C' i = C i) → mp C' c k row = mp C c k row := by
  intro c
  induction c with
  | zero => intro k row _; rfl
  | succ c ih =>
    intro k row h
    unfold mp
    rw [h k (Nat.le_refl k) (by omega), ih _ _ (fun i i1 i2 => h i (by omega) (by omega)), ih _ _ (fun i i1 i2 => h i (by omega) (by omega))]
theorem OKt_snoc {C : Nat → Nat} : ∀ c k row, OKt C c k row → (if C (k + c) = 59 then fr C c k row ≠ 1 else isL (C (k + c)) = true ∧ ln (fr C c k row) < 8) → OKt C (c + 1) k row := by
  intro c
  induction c with
  | zero =>
    intro k row _ h
    rw [Nat.add_zero] at h
    unfold OKt
    by_cases h59 : C k = 59
    · rw [if_pos h59] at h ⊢
      exact ⟨h, trivial⟩
    · rw [if_neg h59] at h ⊢
      exact ⟨h, trivial⟩
  | succ c ih =>
    intro k row ho h
    rw [show k + (c + 1) = k + 1 + c by omega] at h
    unfold fr at h
    unfold OKt at ho ⊢
    by_cases h59 : C k = 59
    · simp only [if_pos h59] at ho h ⊢
      exact ⟨ho.1, ih _ _ ho.2 h⟩
    · simp only [if_neg h59] at ho h ⊢
      exact ⟨ho.1, ih _ _ ho.2 h⟩
theorem fr_snoc {C : Nat → Nat} : ∀ c k row, fr C (c + 1) k row = if C (k + c) = 59 then 1 else 4 * fr C c k row + (C (k + c) - 97) := by
  intro c
  induction c with
  | zero => intro k row; rfl
  | succ c ih =>
    intro k row
    have e1 : fr C (c + 1 + 1) k row = if C k = 59 then fr C (c + 1) (k + 1) 1 else fr C (c + 1) (k + 1) (4 * row + (C k - 97)) := rfl
    have e2 : fr C (c + 1) k row = if C k = 59 then fr C c (k + 1) 1 else fr C c (k + 1) (4 * row + (C k - 97)) := rfl
    rw [e1, e2, show k + (c + 1) = k + 1 + c by omega]
    by_cases h59 : C k = 59
    · rw [if_pos h59, if_pos h59, ih]
    · rw [if_neg h59, if_neg h59, ih]
theorem mp_snoc {C : Nat → Nat} : ∀ c k row, (mp C (c + 1) k row).length = (mp C c k row).length + (if C (k + c) = 59 then 1 else 0) := by
  intro c
  induction c with
  | zero =>
    intro k row
    show (if C k = 59 then row :: mp C 0 (k + 1) 1 else mp C 0 (k + 1) (4 * row + (C k - 97))).length = ([row] : List Nat).length + (if C k = 59 then 1 else 0)
    by_cases h59 : C k = 59
    · rw [if_pos h59, if_pos h59]; rfl
    · rw [if_neg h59, if_neg h59]; rfl
  | succ c ih =>
    intro k row
    have e1 : mp C (c + 1 + 1) k row = if C k = 59 then row :: mp C (c + 1) (k + 1) 1 else mp C (c + 1) (k + 1) (4 * row + (C k - 97)) := rfl
    have e2 : mp C (c + 1) k row = if C k = 59 then row :: mp C c (k + 1) 1 else mp C c (k + 1) (4 * row + (C k - 97)) := rfl
    rw [e1, e2, show k + (c + 1) = k + 1 + c by omega]
    by_cases h59 : C k = 59
    · rw [if_pos h59, if_pos h59, List.length_cons, List.length_cons, ih]
      omega
    · rw [if_neg h59, if_neg h59, ih]
/-- a buffer that is a whole beginning of patterns; its last part has q letters, L parts in all -/
def BF (bc : Nat → Int32) (b : Nat) (C : Nat → Nat) (row q L : Nat) : Prop := (∀ i, i < b → bc i = nI (C i) ∧ C i < 127) ∧ OKt C b 0 1 ∧ fr C b 0 1 = row ∧ V q row ∧ (mp C b 0 1).length = L
def cnew (C : Nat → Nat) (b c : Nat) : Nat → Nat := fun i => if i = b then c else C i
theorem cnew_lt {C : Nat → Nat} {b c : Nat} : ∀ i, 0 ≤ i → i < 0 + b → cnew C b c i = C i := fun i _ h => by unfold cnew; rw [if_neg (by omega)]
theorem cnew_b {C : Nat → Nat} {b c : Nat} : cnew C b c (0 + b) = c := by unfold cnew; rw [if_pos (by omega)]
theorem BF_codes {bc : Nat → Int32} {b c : Nat} {C : Nat → Nat} (h : ∀ i, i < b → bc i = nI (C i) ∧ C i < 127) (hc : c < 127) : ∀ i, i < b + 1 → upd bc b (nI c) i = nI (cnew C b c i) ∧ cnew C b c i < 127 := by
  intro i hi
  unfold upd cnew
  by_cases e : i = b
  · rw [if_pos e, if_pos e]; exact ⟨rfl, hc⟩
  · rw [if_neg e, if_neg e]; exact h i (by omega)
theorem BF_lett {bc : Nat → Int32} {b row q L a : Nat} {C : Nat → Nat} (h : BF bc b C row q L) (hq : q < 8) (ha : a < 4) : BF (upd bc b (nI (97 + a))) (b + 1) (cnew C b (97 + a)) (4 * row + a) (q + 1) L := by
  obtain ⟨h1, h2, h3, h4, h5⟩ := h
  have hl : isL (97 + a) = true := isL_iff.mpr (by omega)
  have h59 : ¬ (97 + a = 59) := by omega
  refine ⟨BF_codes h1 (by omega), OKt_snoc b 0 1 (OKt_cong b 0 1 cnew_lt h2) ?_, ?_, V_succ h4 ha, ?_⟩
  · rw [cnew_b, if_neg h59, fr_cong b 0 1 cnew_lt, h3, V_ln h4]
    exact ⟨hl, hq⟩
  · rw [fr_snoc, cnew_b, if_neg h59, fr_cong b 0 1 cnew_lt, h3]
    omega
  · rw [mp_snoc, cnew_b, if_neg h59, mp_cong b 0 1 cnew_lt, h5]
    rfl
theorem BF_semi {bc : Nat → Int32} {b row q L : Nat} {C : Nat → Nat} (h : BF bc b C row q L) (hq : 1 ≤ q) : BF (upd bc b (nI 59)) (b + 1) (cnew C b 59) 1 0 (L + 1) := by
  obtain ⟨h1, h2, h3, h4, h5⟩ := h
  refine ⟨BF_codes h1 (by omega), OKt_snoc b 0 1 (OKt_cong b 0 1 cnew_lt h2) ?_, ?_, V_0, ?_⟩
  · rw [cnew_b, if_pos rfl, fr_cong b 0 1 cnew_lt, h3]
    intro e
    subst e
    have := V_inj h4 V_0
    omega
  · rw [fr_snoc, cnew_b, if_pos rfl]
  · rw [mp_snoc, cnew_b, if_pos rfl, mp_cong b 0 1 cnew_lt, h5]
theorem fep5 {F b : Nat} {bc : Nat → Int32} {C : Nat → Nat} (hC : ∀ i, i < b → bc i = nI (C i) ∧ C i < 127) (hb : b ≤ 60) : ∀ (c k fu n row : Nat), k + c = b → c < fu → V n row → n ≤ 8 → OKt C c k row → L_X0_firstErrorInPatterns_4 F (nI b) bc fu (nI n) (nI k) = some (nI b) := by
  intro c
  induction c with
  | zero =>
    intro k fu n row hk hf hV hn ho
    obtain ⟨fu, rfl⟩ : ∃ z, fu = z + 1 := ⟨fu - 1, by omega⟩
    rw [L_X0_firstErrorInPatterns_4]
    exact it_e (nI_le (by omega) (by omega)) rfl
  | succ c ih =>
    intro k fu n row hk hf hV hn ho
    obtain ⟨fu, rfl⟩ : ∃ z, fu = z + 1 := ⟨fu - 1, by omega⟩
    obtain ⟨c1, c2⟩ := hC k (by omega)
    unfold OKt at ho
    rw [L_X0_firstErrorInPatterns_4]
    refine if_e (nI_ge (by omega) (by omega)) ?_
    refine bnd_e ((at_in (show k < 60 by omega) (by decide)).trans (by rw [c1])) ?_
    refine bnd_e (isLetterCode0 c2) ?_
    refine jp_e (fun j40 e40 => ?_)
    by_cases h59 : C k = 59
    · rw [if_pos h59] at ho
      have hl : isL (C k) = false := by rw [h59]; decide
      rw [hl]
      refine it_e rfl ?_
      subst e40
      refine it_e (by rw [h59]; rfl) ?_
      have hn0 : 0 < n := by
        rcases Nat.eq_zero_or_pos n with z | z
        · subst z; exact absurd (V_0e hV) ho.1
        · exact z
      refine if_e (nI_nle hn0 (by omega)) ?_
      refine nmv_e ?_
      rw [nI_1]
      exact ih (k + 1) fu 0 1 (by omega) (by omega) V_0 (by omega) ho.2
    · rw [if_neg h59] at ho
      obtain ⟨⟨o1, o2⟩, o3⟩ := ho
      rw [V_ln hV] at o2
      have hlr := isL_iff.mp o1
      rw [o1]
      refine if_e b2_t ?_
      refine if_e (show ¬ (8 : Int32) ≤ nI n from nI_ge (a := n) (b := 8) o2 (by decide)) ?_
      refine nmv_e (nmv_e ?_)
      rw [nI_1, nI_1]
      exact ih (k + 1) fu (n + 1) _ (by omega) (by omega) (V_succ hV (by omega)) (by omega) o3
theorem BF_WF {bc : Nat → Int32} {b row q L : Nat} {C : Nat → Nat} (h : BF bc b C row q L) (hq : 1 ≤ q) : WF C b 0 1 ∧ 0 < b := by
  obtain ⟨h1, h2, h3, h4, h5⟩ := h
  have hr : row ≠ 1 := fun e => by subst e; have := V_inj h4 V_0; omega
  refine ⟨⟨h2, by rw [h3]; exact hr⟩, ?_⟩
  rcases Nat.eq_zero_or_pos b with z | z
  · subst z
    exact absurd h3.symm hr
  · exact z
theorem holds5 {F b row q L : Nat} {bc : Nat → Int32} {C : Nat → Nat} (h : BF bc b C row q L) (hb : b ≤ 60) (hq : 1 ≤ q) (hF : 300 ≤ F) : D_X0_holdsPatterns F (nI b) bc = some 1 := by
  obtain ⟨hW, hb0⟩ := BF_WF h hq
  have hC : CO bc bc b C := ⟨hb, fun i hi => ⟨(h.1 i hi).1, (h.1 i hi).1, (h.1 i hi).2⟩⟩
  unfold D_X0_holdsPatterns
  refine if_e (nI_nle hb0 (by omega)) ?_
  refine bnd_e (a := nI b) (fep5 h.1 hb b 0 F 0 1 (by omega) (by omega) V_0 (by omega) h.2.1) ?_
  refine it_e rfl ?_
  rw [nI_s1 hb0]
  refine bnd_e (endsPart0 hC (show b - 1 < b by omega)) ?_
  have h59 : C (b - 1) ≠ 59 := by
    intro e
    have := (fr_last C b 0 0 1 V_0 hb0 h.2.1).mpr (by rw [Nat.zero_add]; exact e)
    exact hW.2 this
  rw [show decide (C (b - 1) ≠ 59 ∧ (b - 1 + 1 = b ∨ C (b - 1 + 1) = 59)) = true from decide_eq_true ⟨h59, Or.inl (by omega)⟩]
  exact if_e b2_t rfl
/-! there is room for what is added -/
theorem cntF_congr {f f' : Nat → Bool} : ∀ c k, (∀ p, k ≤ p → p < k + c → f p = f' p) → cntF f c k = cntF f' c k := by
  intro c
  induction c with
  | zero => intro k _; rfl
  | succ c ih =>
    intro k h
    simp only [cntF]
    rw [h k (Nat.le_refl k) (by omega), ih (k + 1) (fun p q1 q2 => h p (by omega) (by omega))]
def nz (P : Nat → Nat) : Nat := cntF (fun p => decide (P p ≠ 0)) 8 0
theorem nz_bgn {P : Nat → Nat} (ho : POs P) : bgn P 1 = nz P := by
  refine cntF_congr 8 0 (fun p _ hp => ?_)
  by_cases h0 : P p = 0
  · simp [h0]
  · obtain ⟨q1, q2, q3⟩ := PO_V (ho p (by omega)) h0
    have hb : isBegB (P p) 1 = true := (isBegB_iff q3).mpr ⟨0, by omega, by rw [Nat.sub_zero]; exact V_end q3⟩
    simp [h0, hb]
theorem cnt_one {f f' : Nat → Bool} {q : Nat} (h : ∀ p, p ≠ q → f' p = f p) : ∀ c k, cntF f' c k ≤ cntF f c k + (if k ≤ q then 1 else 0) := by
  intro c
  induction c with
  | zero => intro k; exact Nat.zero_le _
  | succ c ih =>
    intro k
    have := ih (k + 1)
    simp only [cntF]
    by_cases e : k = q
    · subst e
      rw [if_neg (show ¬ k + 1 ≤ k by omega)] at this
      rw [if_pos (Nat.le_refl k)]
      have h1 : (if f' k = true then 1 else 0) ≤ 1 := by split <;> omega
      omega
    · rw [h k e]
      by_cases hk : k + 1 ≤ q
      · rw [if_pos hk] at this
        rw [if_pos (show k ≤ q by omega)]
        omega
      · rw [if_neg hk] at this
        rw [if_neg (show ¬ k ≤ q by omega)]
        omega
theorem nz_set (P : Nat → Nat) (q r : Nat) : nz (setP P q r) ≤ nz P + 1 := by
  have := cnt_one (f := fun p => decide (P p ≠ 0)) (f' := fun p => decide (setP P q r p ≠ 0)) (q := q) (fun p hp => by unfold setP; rw [if_neg hp]) 8 0
  rw [if_pos (Nat.zero_le q)] at this
  exact this
theorem ffst_all {f : Nat → Bool} : ∀ c k, ffst f c k = k + c → cntF (fun p => !f p) c k = c := by
  intro c
  induction c with
  | zero => intro k _; rfl
  | succ c ih =>
    intro k h
    unfold ffst at h
    by_cases hk : f k = true
    · rw [if_pos hk] at h; omega
    · rw [if_neg hk] at h
      have := ih (k + 1) (by omega)
      simp only [cntF]
      rw [this]
      simp [hk]
      omega
theorem slot_free {P : Nat → Nat} (h : nz P < 8) : slotOf P 0 ≠ 8 := by
  intro e
  have h1 := ffst_all 8 0 e
  have h2 : nz P = cntF (fun p => !decide (P p = 0)) 8 0 := cntF_congr 8 0 (fun p _ _ => by simp)
  omega
theorem addF_some : ∀ (l : List Nat) (P : Nat → Nat) (m : Nat), nz P + l.length ≤ 8 → ∃ x, (addF l P m).1 = some x := by
  intro l
  induction l with
  | nil => intro P m _; exact ⟨m, rfl⟩
  | cons r rs ih =>
    intro P m h
    rw [List.length_cons] at h
    unfold addF
    by_cases h1 : slotOf P r = 8
    · rw [if_pos h1, if_neg (slot_free (by omega))]
      have := nz_set P (slotOf P 0) r
      exact ih _ _ (by omega)
    · rw [if_neg h1]
      exact ih _ _ (by omega)
section CA
variable {F n k o ρ rd tl a b row q L : Nat} {P g : Nat → Nat} {C : Nat → Nat} {np nc nl dp dc dl xr xs xe xl bc dr : Nat → Int32} {nru nre nrd nto nla nfa nmo ss so dru dre drd dto dla dfa dmo xz bl : Int32} {mems : Nat → Option Nat} {ad : Nat}
/-- the patterns in the buffer are added -/
theorem xadd5 (hs : SP np P) (hpo : POs P) (hB : BF bc b C row q L) (hb : b ≤ 60) (hq : 1 ≤ q) (hcnt : nz P + L ≤ 8) (hk : k ≤ 6) (ho : o < 6) (had : mems (sl k o) = some ad) (hF : 300 ≤ F) : ∃ m P' n' g' dr' pd cd ld np' xr' xl' xs' xe', D_X5_add F ad (nI b) bc dr np (nI k) (nI o) mems nru dru nre dre nrd drd nto dto nla dla nfa dfa nmo dmo dp nc dc nl dl xz xr xl xs xe = some (nI m, dr', nI (kk k), nI (oo k o), nru, nre, nrd, nto, nla, nfa, nmo, pd, cd, ld, 0, nI n', xr', xl', xs', xe', np') ∧ SP np' P' ∧ MO P' n' g' xr' xs' xe' xl' ∧ n' ≤ lsum P' + 1 := by
  obtain ⟨hW, hb0⟩ := BF_WF hB hq
  have hC : CO bc bc b C := ⟨hb, fun i hi => ⟨(hB.1 i hi).1, (hB.1 i hi).1, (hB.1 i hi).2⟩⟩
  obtain ⟨dr', d1, d2⟩ := draft_sim (F := F) (d := dr) hC hs hpo hW hF
  have hL : (mp C b 0 1).length = L := hB.2.2.2.2
  obtain ⟨m, hx⟩ := addF_some (mp C b 0 1) P 0 (by omega)
  have hmle := addF_le (mp C b 0 1) P 0 m hx
  have hrs : ∀ r, r ∈ mp C b 0 1 → PO r := fun r hr => by
    obtain ⟨m, m1, m2, m3⟩ := mp_V b 0 0 1 hW V_0 (by omega) r hr
    exact Or.inr ⟨m, m1, m2, m3⟩
  have hPO2 := addF_PO (mp C b 0 1) P 0 hpo hrs
  obtain ⟨pd, cd, ld, k1, k2, k3, k4⟩ := keep4 (F := F) (r1 := nru) (r2 := dru) (c1 := nre) (c2 := dre) (d1 := nrd) (d2 := drd) (t1 := nto) (t2 := dto) (l1 := nla) (l2 := dla) (f1 := nfa) (f2 := dfa) (m1 := nmo) (m2 := dmo) (p1 := np) (p2 := dp) (n1 := nc) (n2 := dc) (a1 := nl) (a2 := dl) ho hk had (by omega)
  obtain ⟨np', n1, n2⟩ := add_53 (F := F) (ad := ad) (y := nI m) (dr := dr') 8 0 F np (by omega) (by omega) (fun i hi => by omega)
  have hs3 : SP np' (addF (mp C b 0 1) P 0).2 := fun p hp => (n2 p hp).trans (d2 p hp)
  obtain ⟨n', g', xr', xl', xs', xe', m1, m2, m3⟩ := rebuild1 (F := F) (x := xz) (rows := xr) (l := xl) (sh := xs) (en := xe) hs3 hPO2 hF
  rw [hx] at d1
  refine ⟨m, _, n', g', dr', pd, cd, ld, np', xr', xl', xs', xe', ?_, hs3, m2, m3⟩
  unfold D_X5_add
  refine bnd_e (holds5 hB hb hq hF) ?_
  refine if_e n10 ?_
  refine bnd_e d1 ?_
  dsimp only
  refine if_e (oI_ne (m := m) (by omega)) ?_
  refine bnd_e k1 ?_
  dsimp only
  refine (n1 _).trans ?_
  refine bnd_e (a := 0) rfl ?_
  refine bnd_e m1 ?_
  rfl
theorem xremove5 {p : Nat} (hs : SP np P) (hpo : POs P) (hp : p < 8) (h0 : P p ≠ 0) (hk : k ≤ 6) (ho : o < 6) (had : mems (sl k o) = some ad) (hF : 300 ≤ F) : ∃ n' g' pd cd ld np' nc' nl' xr' xl' xs' xe', D_X5_remove F ad (nI p) np (nI k) (nI o) mems nru dru nre dre nrd drd nto dto nla dla nfa dfa nmo dmo dp nc dc nl dl xz xr xl xs xe = some (nc p, nI (kk k), nI (oo k o), nru, nre, nrd, nto, nla, nfa, nmo, pd, cd, ld, np', nc', nl', nI n', xr', xl', xs', xe') ∧ SP np' (setP P p 0) ∧ MO (setP P p 0) n' g' xr' xs' xe' xl' ∧ n' ≤ lsum (setP P p 0) + 1 := by
  obtain ⟨pd, cd, ld, k1, k2, k3, k4⟩ := keep4 (F := F) (r1 := nru) (r2 := dru) (c1 := nre) (c2 := dre) (d1 := nrd) (d2 := drd) (t1 := nto) (t2 := dto) (l1 := nla) (l2 := dla) (f1 := nfa) (f2 := dfa) (m1 := nmo) (m2 := dmo) (p1 := np) (p2 := dp) (n1 := nc) (n2 := dc) (a1 := nl) (a2 := dl) ho hk had (by omega)
  have hs3 : SP (upd np p (nI 0)) (setP P p 0) := hs.set p 0
  obtain ⟨n', g', xr', xl', xs', xe', m1, m2, m3⟩ := rebuild1 (F := F) (x := xz) (rows := xr) (l := xl) (sh := xs) (en := xe) hs3 (setP_PO hpo p) hF
  have fm : D_X2_forgetMatchesOf F (nI p) nc nl = some (upd nc p 0, upd nl p (-1)) := by
    unfold D_X2_forgetMatchesOf
    rw [put_in hp (by decide)]
    simp only [bnd]
    rw [put_in hp (by decide)]
  refine ⟨n', g', pd, cd, ld, upd np p (nI 0), upd nc p 0, upd nl p (-1), xr', xl', xs', xe', ?_, hs3, m2, m3⟩
  unfold D_X5_remove
  refine bnd_e (slot1 hp) ?_
  refine if_e n10 ?_
  refine bnd_e (patternIn5 hs hp) ?_
  refine if_e (nI_ne0 (by omega) (by have := PO_lt (hpo p hp); omega)) ?_
  refine bnd_e k1 ?_
  dsimp only
  refine bnd_e (at_in hp (by decide)) ?_
  refine bnd_e (put_in hp (by decide)) ?_
  refine bnd_e fm ?_
  dsimp only
  refine bnd_e m1 ?_
  rfl
theorem xrule5 {r : Nat} (hr : r ≤ 2) (hk : k ≤ 6) (ho : o < 6) (had : mems (sl k o) = some ad) (hF : 300 ≤ F) : ∃ pd cd ld, D_X5_rule F ad (nI r) (nI k) (nI o) mems nru dru nre dre nrd drd nto dto nla dla nfa dfa nmo dmo np dp nc dc nl dl = some (nru, nI (kk k), nI (oo k o), nru, nre, nrd, nto, nla, nfa, nmo, pd, cd, ld, nI r) := by
  obtain ⟨pd, cd, ld, k1, k2, k3, k4⟩ := keep4 (F := F) (r1 := nru) (r2 := dru) (c1 := nre) (c2 := dre) (d1 := nrd) (d2 := drd) (t1 := nto) (t2 := dto) (l1 := nla) (l2 := dla) (f1 := nfa) (f2 := dfa) (m1 := nmo) (m2 := dmo) (p1 := np) (p2 := dp) (n1 := nc) (n2 := dc) (a1 := nl) (a2 := dl) ho hk had (by omega)
  refine ⟨pd, cd, ld, ?_⟩
  unfold D_X5_rule
  refine jp_e (fun j _ => ?_)
  refine if_e (nI_pos (by omega)) ?_
  refine it_e (show nI r ≤ (2 : Int32) from nI_le (b := 2) hr (by decide)) ?_
  refine bnd_e k1 ?_
  rfl
theorem xbegin5 (hk : k ≤ 6) (ho : o < 6) (had : mems (sl k o) = some ad) (hF : 300 ≤ F) : ∃ pd cd ld nc' nl', D_X5_begin F ad (nI k) (nI o) mems nru dru nre dre nrd drd nto dto nla dla nfa dfa nmo dmo np dp nc dc nl dl = some (nrd, nI (kk k), nI (oo k o), nru, nre, nrd, nto, nla, nfa, nmo, pd, cd, ld, 1, 0, 0, (-1), 0, 0, nc', nl') := by
  obtain ⟨pd, cd, ld, k1, k2, k3, k4⟩ := keep4 (F := F) (r1 := nru) (r2 := dru) (c1 := nre) (c2 := dre) (d1 := nrd) (d2 := drd) (t1 := nto) (t2 := dto) (l1 := nla) (l2 := dla) (f1 := nfa) (f2 := dfa) (m1 := nmo) (m2 := dmo) (p1 := np) (p2 := dp) (n1 := nc) (n2 := dc) (a1 := nl) (a2 := dl) ho hk had (by omega)
  obtain ⟨nc', nl', f1, f2⟩ := forgetText2 (F := F) (a := nre) (b := nrd) (c := nto) (d := nla) (e := nfa) (f := nmo) (cnt := nc) (lat := nl) (by omega)
  refine ⟨pd, cd, ld, nc', nl', ?_⟩
  unfold D_X5_begin
  refine bnd_e k1 ?_
  dsimp only
  refine bnd_e f1 ?_
  rfl
end CA
