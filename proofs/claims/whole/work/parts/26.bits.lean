/-! fractions by their bits: the class doubles floats, the reference divides whole numbers; both are tables -/
def sbR (x : UInt32) (e : Int) : Int := iOr (iShl e 23) (iAnd (f2I x) 8388607)
def sbG : Nat → UInt32 → Int → Option Int
  | 0, x, e => some (sbR x e)
  | m + 1, x, e => if 0 ≤ fCmp x 1258291200 .g then some (sbR x e) else if decide (FP.fmul x FP.fconst2 &&& 0x7fffffff ≤ 0x7f800000) then sbG m (FP.fmul x FP.fconst2) (e + -1) else none
def sB (x : UInt32) : Option Int := if 0 < fCmp x FP.fconst0 .l then sbG 127 x 150 else some 0
def bgR (b : Int) (p : Int) (m w u : Int) : Int := if 0 < lCmp (2 * lRem u b) b then lShl (m - w) p + (lDiv u b + 1) - lShl 1 p else if ¬ lCmp (2 * lRem u b) b = 0 then lShl (m - w) p + (lDiv u b + 0) - lShl 1 p else if ¬ lCmp (lRem (lDiv u b) 2) 1 = 0 then lShl (m - w) p + (lDiv u b + 0) - lShl 1 p else lShl (m - w) p + (lDiv u b + 1) - lShl 1 p
def bgD : Nat → Int → Int
  | 0, u => u
  | m + 1, u => bgD m (u * 2)
def bgU : Nat → Int → Int → Int → Option (Int × Int)
  | 0, _, _, _ => none
  | f + 1, b, w, u => if 0 ≤ lCmp u b then some (w, u) else bgU f b (w + 1) (u * 2)
def bG (a b : Int) (p : Nat) (m : Int) : Option Int := if lCmp a 0 = 0 then some 0 else (bgU 64 b 0 a).map (fun r => bgR b p m r.1 (bgD p r.2))
def lkF (c t : Int) : UInt32 := FP.fdiv (FP.i2f (Int32.ofInt (2 * c))) (FP.i2f (Int32.ofInt t))
def LT : List (Int × Int) := [(0, 2), (1, 2), (0, 3), (1, 3), (0, 4), (1, 4), (2, 4), (0, 5), (1, 5), (2, 5), (0, 6), (1, 6), (2, 6), (3, 6)]
theorem LT_mem {c t : Int} (h0 : 0 ≤ c) (h1 : 2 * c ≤ t) (h2 : 2 ≤ t) (h3 : t ≤ 6) : (c, t) ∈ LT := by
  rcases (show t = 2 ∨ t = 3 ∨ t = 4 ∨ t = 5 ∨ t = 6 by omega) with rfl | rfl | rfl | rfl | rfl <;> rcases (show c = 0 ∨ c = 1 ∨ c = 2 ∨ c = 3 by omega) with rfl | rfl | rfl | rfl <;> first | decide | omega
theorem LT_ok : LT.all (fun q => decide (sB (lkF q.1 q.2) = (bG (2 * q.1) q.2 23 127).map l2I) && (sB (lkF q.1 q.2)).isSome && decide (lkF q.1 q.2 &&& 0x7fffffff ≤ 0x7f800000) && (decide (fCmp (lkF q.1 q.2) 1056964608 .l < 0) == decide (2 * (2 * q.1) < q.2)) && (decide (fCmp (lkF q.1 q.2) 1061158912 .l < 0) == decide (4 * (2 * q.1) < 3 * q.2))) = true := by decide +kernel
theorem LT_1 : sB FP.fconst1 = some 1065353216 := by decide +kernel
theorem LT_0 : sB FP.fconst0 = some 0 := by decide +kernel
