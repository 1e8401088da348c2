set_option maxHeartbeats 4000000 in
set_option maxRecDepth 100000 in
theorem law_loop {p : Program} {e : Env} {s : State} {m : MethodId} {below : List Frame} {meth : Method} {c : Code} {l : Launch} {b L : Nat} {zs : Nat → Int32} (hL : L ≤ 260) (C0 : lw_At p s m meth c b L zs) {D : va_G} {cI cM cL : ClassId} (hK : va_K D vwCl (mTy cI cM cL) s) (hN : mNw s) {xa : Nat} {q : Nat → Nat} : ∀ (n k : Nat), k + n = 39 → ∀ (i : Int32), i = nI (k + 1) → ∀ (ls : Array Slot) (H : Heap) (locs : List Loc), lv_has ls 6 [(0, .ref b), (1, .ref xa), (2, .int i)] → LI D cI cM xa q k (fun q : Nat => s.heap.size ≤ q) s.heap H locs → W p l e room_1 s m #[Value.ref b] below meth c H locs (39 + 10 * k) (782 + 640 * k) (lw_Z below #[Value.ref b] s) (F0 m 19 ls []) := by
  obtain ⟨hx, hb, hr, hml, hown, hts0, hXs, hbl, hlocks, hgv⟩ := id C0
  intro n
  induction n with
  | zero =>
    intro k hk i ei ls H locs hl hI
    obtain ⟨np9, nc9, nl9, nru9, nre9, nrd9, nto9, nla9, nfa9, nmo9, so9, ss9, mems9, mp9, mc9, ml9, mru9, mre9, mrd9, mto9, mla9, mfa9, mmo9, xr9, xs9, xe9, xl9, xz9, bc9, bl9, dr9, hP, hD, hS, hrest⟩ := hI
    have hk : k = 39 := by omega
    subst hk
    refine lv_iload_n hx hb dL_law_19 rfl (lv_at hl 2 rfl) ?_
    refine lv_bipush (v := 40) hx hb dL_law_20 (by decide) ?_
    refine lv_icmp_ge (tgt := 172) hx hb dL_law_22 (by decide) (fun _ => ?_) (fun h9 => absurd (by rw [ei]; decide) h9)
    refine lv_iconst (v := 1) hx hb dL_law_172 (by decide) ?_
    refine va_forget (fun q hq => hS.2.2 q hq) ?_
    refine W.widen (k := 600172) (n := 7300668) (by omega) (by omega) ?_
    exact lw_ret hx hb hr hlocks dL_law_173
  | succ n ih =>
    intro k hk i ei ls H locs hl hI
    have hcs : 39 + 10 * k + 10 ≤ 600172 ∧ 782 + 640 * k + 640 ≤ 7300668 := ⟨by omega, by omega⟩
    refine lv_iload_n hx hb dL_law_19 rfl (lv_at hl 2 rfl) ?_
    refine lv_bipush (v := 40) hx hb dL_law_20 (by decide) ?_
    refine lv_icmp_ge (tgt := 172) hx hb dL_law_22 (by decide) (fun h9 => absurd h9 (by rw [ei]; exact nI_ge (a := k + 1) (b := 40) (by omega) (by decide))) (fun _ => ?_)
    refine lv_aload_n hx hb dL_law_25 rfl (lv_at hl 0 rfl) ?_
    refine lv_iload_n hx hb dL_law_26 rfl (lv_at hl 2 rfl) ?_
    rw [ei]
    refine lc_cell C0 hK hN hcs hl.1 hL (i := k + 1) (Nat.le_of_ble_eq_true rfl) (by omega) dL_law_27 hI (fun v H locs hI => ?_)
    refine lv_istore_n (lv' := [(3, .int v), (0, .ref b), (1, .ref xa), (2, .int i)]) hx hb dL_law_30 rfl hl (by decide) rfl (fun ls hl => ?_)
    refine lv_aload_n hx hb dL_law_31 rfl (lv_at hl 2 rfl) ?_
    refine lv_iload_n hx hb dL_law_32 rfl (lv_at hl 0 rfl) ?_
    refine lc_does C0 hK hN hcs hl.1 (by omega) hI (fun H locs hI => ?_)
    refine lv_aload_n hx hb dL_law_36 rfl (lv_at hl 2 rfl) ?_
    refine lv_iload_n hx hb dL_law_37 rfl (lv_at hl 0 rfl) ?_
    refine lv_iconst (v := 5) hx hb dL_law_38 (by decide) ?_
    refine lv_ishr hx hb dL_law_39 ?_
    refine lv_iconst (v := 4) hx hb dL_law_40 (by decide) ?_
    refine lc_low C0 hK hN hcs hl.1 hI (fun a ha H locs hI => ?_)
    refine lc_fed C0 hK hN hcs hl.1 ha rfl (by omega) hI (fun H locs hI => ?_)
    refine lv_if_eq (tgt := 99) hx hb dL_law_47 (by decide) (fun h0 => absurd h0 n10) (fun _ => ?_)
    refine lc_rest C0 hK hN hcs (lv_sub hl [1, 2, 3, 0] rfl) (by omega) hI (fun ls H locs hl hI => ?_)
    obtain ⟨j, ej⟩ : ∃ y : Int32, y = i + 1 := ⟨_, rfl⟩
    refine lv_iinc (v := j) (lv' := [(2, .int j), (0, .ref b), (1, .ref xa), (3, .int v)]) hx hb dL_law_166 hl (k := 2) rfl (by rw [ej]; rfl) (by decide) rfl (fun ls hl => ?_)
    refine lv_goto (tgt := 19) hx hb dL_law_169 (by decide) ?_
    refine W.widen (k := 39 + 10 * (k + 1)) (n := 782 + 640 * (k + 1)) (by omega) (by omega) ?_
    exact ih (k + 1) (by omega) j (by rw [ej, ei, nI_1]) ls H locs (lv_sub hl [1, 2, 0] rfl) hI
