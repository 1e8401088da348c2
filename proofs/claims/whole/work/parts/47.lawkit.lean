section ML
variable {p : Program} {l : Launch} {e : Env} {R : Room} {s : State} {m : MethodId} {args : Array Value} {below : List Frame} {meth : Method} {c : Code} {H : Heap} {locs : List Loc} {cells slots : Nat} {Q : State → Prop}
variable {pc : Nat} {ls : Array Slot} {rest st0 : List Value} {a : Array Value} {A0 A : Nat → Prop} {H0 : Heap} {D : va_G} {ws wc wr wc' : va_W} {cc : ByteArray}
/-- a call of a method that catches what it throws -/
theorem m_cw {r0 : Int32} (hr : vx_Run p l e R s m args below meth c H locs cells slots 1 6 (F0 m pc ls st0) rest (mQi D (va_A wc H.size) wc' r0 a) (mX0 (va_A wc H.size)) (va_A wc H.size)) (hP : va_P D vwCl ws H) (hD : va_D A0 ws) (hS : va_S A0 H0 H locs) (hA : ∀ q, H0.size ≤ q → A0 q) (isC isR : List Nat) (hC : isC.map (fun i => ws[i]?) = wc.map some) (hR : isR.map (fun i => ws[i]?) = wr.map some) (hn : va_nd isR = true) (hdis : ∀ i ∈ isR, i ∉ isC)
    (kk : ∀ (H1 : Heap) (locs1 : List Loc), va_P D vwCl (wr ++ wc') H1 → va_D A0 (wr ++ wc') → va_S A0 H0 H1 locs1 → W p l e R s m args below meth c H1 locs1 (cells + 1) (slots + 6) Q (F0 m (pc + 3) ls (.int r0 :: rest))) : W p l e R s m args below meth c H locs cells slots Q (F0 m pc ls st0) := by
  have hF := va_free (wc := wc) hD hS hA isC hC
  refine vx_calli hr hS (fun q _ h => hF q h) hF (fun q _ h => hF q h) (fun E ce q9 u t H1 locs1 ht _ hpx hB _ hk hS1 g1 g2 g3 => hpx.elim) (fun r u t H1 locs1 ht _ hw hB _ hk hS1 => ?_)
  obtain ⟨hP1, hD1⟩ := hB
  rw [ht] at hP1
  obtain ⟨hP2, hD2⟩ := va_join hP hD isC isR hC hR hn hdis hk hF hP1 hD1
  cases hw
  exact kk H1 locs1 hP2 hD2 hS1
end ML
/-- all cells of the law: the class's 39, the model's 7, the answer's one -/
def LW (cI cM cL : ClassId) (xa : Nat) (q : Nat → Nat) (ma : Nat) (r : Nat → Nat) (oa : Nat) (np nc nl : Nat → Int32) (nru nre nrd nto nla nfa nmo so ss : Int32) (mems : Nat → Option Nat) (mp mc ml : Nat → Nat → Int32) (mru mre mrd mto mla mfa mmo : Nat → Int32) (xr xs xe xl : Nat → Int32) (xz : Int32) (bc : Nat → Int32) (bl : Int32) (dr : Nat → Int32) (s as sv tx st rw : Nat → Int32) (th sm ln mn at' wr lt mt mr : Int32) (dg : Int64) (out : Nat → Int64) : va_W :=
  [(xa, .inr (4, [.ref (q 0), .ref (q 4), .ref (q 30), .ref (q 35), .ref (q 37)])),
   (q 0, .inr (2, [.ref (q 1), .ref (q 2), .ref (q 3), .int nru, .int nre, .int nrd, .int nto, .int nla, .int nfa, .int nmo])), (q 1, .inl (cI, 8, .inl np)), (q 2, .inl (cI, 8, .inl nc)), (q 3, .inl (cI, 8, .inl nl)),
   (q 4, .inr (3, [.ref (q 5), .int so, .int ss])), (q 5, .inl (cM, 6, .inr (.inr (.inr (.inr mems))))),
   (q 6, .inr (2, [.ref (q 7), .ref (q 8), .ref (q 9), .int (mru 0), .int (mre 0), .int (mrd 0), .int (mto 0), .int (mla 0), .int (mfa 0), .int (mmo 0)])), (q 7, .inl (cI, 8, .inl (mp 0))), (q 8, .inl (cI, 8, .inl (mc 0))), (q 9, .inl (cI, 8, .inl (ml 0))),
   (q 10, .inr (2, [.ref (q 11), .ref (q 12), .ref (q 13), .int (mru 1), .int (mre 1), .int (mrd 1), .int (mto 1), .int (mla 1), .int (mfa 1), .int (mmo 1)])), (q 11, .inl (cI, 8, .inl (mp 1))), (q 12, .inl (cI, 8, .inl (mc 1))), (q 13, .inl (cI, 8, .inl (ml 1))),
   (q 14, .inr (2, [.ref (q 15), .ref (q 16), .ref (q 17), .int (mru 2), .int (mre 2), .int (mrd 2), .int (mto 2), .int (mla 2), .int (mfa 2), .int (mmo 2)])), (q 15, .inl (cI, 8, .inl (mp 2))), (q 16, .inl (cI, 8, .inl (mc 2))), (q 17, .inl (cI, 8, .inl (ml 2))),
   (q 18, .inr (2, [.ref (q 19), .ref (q 20), .ref (q 21), .int (mru 3), .int (mre 3), .int (mrd 3), .int (mto 3), .int (mla 3), .int (mfa 3), .int (mmo 3)])), (q 19, .inl (cI, 8, .inl (mp 3))), (q 20, .inl (cI, 8, .inl (mc 3))), (q 21, .inl (cI, 8, .inl (ml 3))),
   (q 22, .inr (2, [.ref (q 23), .ref (q 24), .ref (q 25), .int (mru 4), .int (mre 4), .int (mrd 4), .int (mto 4), .int (mla 4), .int (mfa 4), .int (mmo 4)])), (q 23, .inl (cI, 8, .inl (mp 4))), (q 24, .inl (cI, 8, .inl (mc 4))), (q 25, .inl (cI, 8, .inl (ml 4))),
   (q 26, .inr (2, [.ref (q 27), .ref (q 28), .ref (q 29), .int (mru 5), .int (mre 5), .int (mrd 5), .int (mto 5), .int (mla 5), .int (mfa 5), .int (mmo 5)])), (q 27, .inl (cI, 8, .inl (mp 5))), (q 28, .inl (cI, 8, .inl (mc 5))), (q 29, .inl (cI, 8, .inl (ml 5))),
   (q 30, .inr (1, [.ref (q 31), .ref (q 32), .ref (q 33), .ref (q 34), .int xz])), (q 31, .inl (cI, 65, .inl xr)), (q 32, .inl (cI, 65, .inl xs)), (q 33, .inl (cI, 65, .inl xe)), (q 34, .inl (cI, 260, .inl xl)),
   (q 35, .inr (0, [.ref (q 36), .int bl])), (q 36, .inl (cI, 60, .inl bc)), (q 37, .inl (cI, 8, .inl dr)),
   (ma, .inr (5, [.int th, .ref (r 0), .ref (r 1), .ref (r 2), .int sm, .ref (r 3), .int ln, .ref (r 4), .int mn, .int at', .int wr, .int lt, .int mt, .ref (r 5), .int mr, .long dg])), (r 0, .inl (cI, 31, .inl s)), (r 1, .inl (cI, 31, .inl as)), (r 2, .inl (cI, 186, .inl sv)), (r 3, .inl (cI, 60, .inl tx)), (r 4, .inl (cI, 66, .inl st)), (r 5, .inl (cI, 31, .inl rw)),
   (oa, .inl (cL, 1, .inr (.inl out)))]
