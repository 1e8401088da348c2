def dv (a b : Nat) : UInt64 := FP.ddiv (FP.i2d (nI a)) (FP.i2d (nI b))
def bt : Nat → UInt64 → Int64 → Option (Int64 × UInt64)
  | 0, _, _ => none
  | k + 1, v, y => if 0 ≤ (Op.cmpValue (FP.dcmp v 4607182418800017408) .g) then some (y, v) else if nnan (FP.dmul v 4611686018427387904) = true then bt k (FP.dmul v 4611686018427387904) (y - 1) else none
def okV (v : UInt64) : Bool := match bt 8 v 1023 with
  | some q => decide ((q.1 : Int64) <<< ((52 : Int32).toInt64 &&& 63) = q.1 * 4503599627370496) && (nnan (FP.dsub q.2 4607182418800017408) && nnan (FP.dmul (FP.dsub q.2 4607182418800017408) 4841369599423283200))
  | none => false
set_option maxRecDepth 100000 in
theorem ok_all : ∀ a, a < 65 → ∀ b, b < 65 → 1 ≤ a → 1 ≤ b → (nnan (dv a b) && okV (dv a b)) = true := by decide +kernel
theorem ok_one : okV 4607182418800017408 = true := by decide +kernel
