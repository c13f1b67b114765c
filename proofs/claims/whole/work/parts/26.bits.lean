/-! fractions by their bits: the class doubles floats, the reference divides whole numbers; both are tables -/
def sbR (x : UInt32) (e : Int) : Int := iOr (iShl e 23) (iAnd (f2I x) 8388607)
def sbG : Nat → UInt32 → Int → Option Int
  | 0, x, e => some (sbR x e)
  | m + 1, x, e => if 0 ≤ fCmp x 1258291200 .g then some (sbR x e) else if decide (FP.fmul x FP.fconst2 &&& 0x7fffffff ≤ 0x7f800000) then sbG m (FP.fmul x FP.fconst2) (e + -1) else none
def sB (x : UInt32) : Option Int := if 0 < fCmp x FP.fconst0 .l then sbG 127 x 150 else some 0
def bgR (b : Int) (p : Int) (m w u : Int) : Int := if 0 < lCmp (2 * lRem u b) b then lShl (m - w) p + (lDiv u b + 1) - lShl 1 p else if ¬ lCmp (2 * lRem u b) b = 0 then lShl (m - w) p + (lDiv u b + 0) - lShl 1 p else if ¬ lCmp (lRem (lDiv u b) 2) 1 = 0 then lShl (m - w) p + (lDiv u b + 0) - lShl 1 p else lShl (m - w) p + (lDiv u b + 1) - lShl 1 p
def bgD : Nat → Int → Int
  | 0, u => u
  | m + 1, u => bgD m (u * 2)
def bgU : Nat → Int → Int → Int → Option (Int × Int)
  | 0, _, _, _ => none
  | f + 1, b, w, u => if 0 ≤ lCmp u b then some (w, u) else bgU f b (w + 1) (u * 2)
def bG (a b : Int) (p : Nat) (m : Int) : Option Int := if lCmp a 0 = 0 then some 0 else (bgU 64 b 0 a).map (fun r => bgR b p m r.1 (bgD p r.2))
def lkF (c t : Int) : UInt32 := FP.fdiv (FP.i2f (Int32.ofInt (2 * c))) (FP.i2f (Int32.ofInt t))
def LT : List (Int × Int) := [(0, 2), (1, 2), (0, 3), (1, 3), (0, 4), (1, 4), (2, 4), (0, 5), (1, 5), (2, 5), (0, 6), (1, 6), (2, 6), (3, 6)]
theorem LT_mem {c t : Int} (h0 : 0 ≤ c) (h1 : 2 * c ≤ t) (h2 : 2 ≤ t) (h3 : t ≤ 6) : (c, t) ∈ LT := by
  rcases (show t = 2 ∨ t = 3 ∨ t = 4 ∨ t = 5 ∨ t = 6 by omega) with rfl | rfl | rfl | rfl | rfl <;> rcases (show c = 0 ∨ c = 1 ∨ c = 2 ∨ c = 3 by omega) with rfl | rfl | rfl | rfl <;> first | decide | omega
theorem LT_ok : LT.all (fun q => decide (sB (lkF q.1 q.2) = (bG (2 * q.1) q.2 23 127).map l2I) && (sB (lkF q.1 q.2)).isSome && decide (lkF q.1 q.2 &&& 0x7fffffff ≤ 0x7f800000) && (decide (fCmp (lkF q.1 q.2) 1056964608 .l < 0) == decide (2 * (2 * q.1) < q.2)) && (decide (fCmp (lkF q.1 q.2) 1061158912 .l < 0) == decide (4 * (2 * q.1) < 3 * q.2))) = true := by decide +kernel
theorem LT_1 : sB FP.fconst1 = some 1065353216 := by decide +kernel
theorem LT_0 : sB FP.fconst0 = some 0 := by decide +kernel
def dbR (x : UInt64) (e : Int) : Int := lOr (lShl e 52) (lAnd (d2L x) 4503599627370495)
def dbG : Nat → UInt64 → Int → Option Int
  | 0, x, e => some (dbR x e)
  | m + 1, x, e => if 0 ≤ dCmp x 4841369599423283200 .g then some (dbR x e) else if decide (FP.dmul x 4611686018427387904 &&& 0x7fffffffffffffff ≤ 0x7ff0000000000000) then dbG m (FP.dmul x 4611686018427387904) (e - 1) else none
def dB (x : UInt64) : Option Int := if 0 < dCmp x FP.dconst0 .l then dbG 1023 x 1075 else some 0
def alF (c t : Int) : UInt64 := FP.ddiv (FP.i2d (Int32.ofInt (2 * c))) (FP.i2d (Int32.ofInt t))
def AT : List (Nat × Nat) := (List.range 17).flatMap (fun t => (List.range 9).map (fun c => (c, t)))
theorem AT_mem {c t : Nat} (h0 : c ≤ 8) (h1 : t ≤ 16) : (c, t) ∈ AT := List.mem_flatMap.mpr ⟨t, List.mem_range.mpr (by omega), List.mem_map.mpr ⟨c, List.mem_range.mpr (by omega), rfl⟩⟩
theorem AT_ok : AT.all (fun q => decide (q.2 = 0) || decide (q.2 < 2 * q.1) || (decide (dB (alF q.1 q.2) = bG (2 * q.1) q.2 52 1023) && (dB (alF q.1 q.2)).isSome && decide (alF q.1 q.2 &&& 0x7fffffffffffffff ≤ 0x7ff0000000000000))) = true := by decide +kernel
theorem AT_1 : dB FP.dconst1 = bG 1 1 52 1023 ∧ (dB FP.dconst1).isSome = true := by decide +kernel
section BITS
variable {g : AG} {d : Nat} {M : AM}
theorem c_singleBits {Q : Int → AM → Prop} {x : UInt32} {v : Int} (hv : sB x = some v) (h : Q v M) : MetI g mX8_singleBits (d + 1) [vF x] M Q := by
  have loop : ∀ (m : Nat) (y : UInt32) (e l : Int), l + m = 127 → 0 ≤ l → sbG m y e = some v → S_X8_singleBits_16 g (d + 1) y e l M Q := by
    intro m
    induction m with
    | zero =>
      intro y e l hl l0 hq
      refine sg_X8_singleBits_16 ⟨⟨by omega, by omega⟩, fun _ => ?_, fun w => by omega⟩
      have e1 : sbR y e = v := Option.some.inj hq
      show Q (sbR y e) M
      rw [e1]
      exact h
    | succ m ih =>
      intro y e l hl l0 hq
      unfold sbG at hq
      refine sg_X8_singleBits_16 ⟨⟨by omega, by omega⟩, fun w => by omega, fun _ => ⟨fun w => ?_, fun w => ?_⟩⟩
      · rw [if_pos w] at hq
        have e1 : sbR y e = v := Option.some.inj hq
        show Q (sbR y e) M
        rw [e1]
        exact h
      · rw [if_neg w] at hq
        by_cases hz : FP.fmul y FP.fconst2 &&& 0x7fffffff ≤ 0x7f800000
        · rw [if_pos (decide_eq_true hz)] at hq
          exact ⟨hz, ih _ _ _ (by omega) (by omega) hq⟩
        · rw [if_neg (by simpa using hz)] at hq
          cases hq
  unfold sB at hv
  refine en_X8_singleBits (sg_X8_singleBits_0 ⟨fun w => ?_, fun w => ?_⟩)
  · rw [if_pos w] at hv
    exact loop 127 x 150 0 rfl (Int.le_refl _) hv
  · rw [if_neg w] at hv
    cases hv
    exact h
theorem c_doubleBits {Q : Int → AM → Prop} {x : UInt64} {v : Int} (hv : dB x = some v) (h : Q v M) : MetL g mX8_doubleBits (d + 1) [vD x] M Q := by
  have loop : ∀ (m : Nat) (y : UInt64) (e l : Int), l + m = 1023 → 0 ≤ l → dbG m y e = some v → S_X8_doubleBits_18 g (d + 1) y e l M Q := by
    intro m
    induction m with
    | zero =>
      intro y e l hl l0 hq
      refine sg_X8_doubleBits_18 ⟨⟨by omega, by omega⟩, fun _ => ?_, fun w => by omega⟩
      have e1 : dbR y e = v := Option.some.inj hq
      show Q (dbR y e) M
      rw [e1]
      exact h
    | succ m ih =>
      intro y e l hl l0 hq
      unfold dbG at hq
      refine sg_X8_doubleBits_18 ⟨⟨by omega, by omega⟩, fun w => by omega, fun _ => ⟨fun w => ?_, fun w => ?_⟩⟩
      · rw [if_pos w] at hq
        have e1 : dbR y e = v := Option.some.inj hq
        show Q (dbR y e) M
        rw [e1]
        exact h
      · rw [if_neg w] at hq
        by_cases hz : FP.dmul y 4611686018427387904 &&& 0x7fffffffffffffff ≤ 0x7ff0000000000000
        · rw [if_pos (decide_eq_true hz)] at hq
          exact ⟨hz, ih _ _ _ (by omega) (by omega) hq⟩
        · rw [if_neg (by simpa using hz)] at hq
          cases hq
  unfold dB at hv
  refine en_X8_doubleBits (sg_X8_doubleBits_0 ⟨fun w => ?_, fun w => ?_⟩)
  · rw [if_pos w] at hv
    exact loop 1023 x 1075 0 rfl (Int.le_refl _) hv
  · rw [if_neg w] at hv
    cases hv
    exact h
theorem r_bitsOf {Q : Int → AM → Prop} {a b m v : Int} {p : Nat} (hp : p ≤ 60) (hm : 0 ≤ m ∧ m ≤ 2000) (hb : ¬ Int64.ofInt b = 0) (hv : bG a b p m = some v) (h : Q v M) : MetL g mX9_bitsOf (d + 1) [vL a, vL b, vI p, vI m] M Q := by
  have lp2 : ∀ (k : Nat) (w u l : Int), l + k = p → 0 ≤ l → 0 ≤ w ∧ w ≤ 100 → bgR b p m w (bgD k u) = v → S_X9_bitsOf_38 g (d + 1) b p m w u l M Q := by
    intro k
    induction k with
    | zero =>
      intro w u l hl l0 hw hq
      refine sg_X9_bitsOf_38 ⟨⟨by omega, by omega⟩, ⟨by omega, by omega⟩, fun _ => ⟨hb, hb, ?_⟩, fun z => by omega⟩
      have hq : bgR b p m w u = v := hq
      unfold bgR at hq
      have rmw : rg (m - w) := ⟨by omega, by omega⟩
      refine ⟨fun c1 => ⟨rmw, ?_⟩, fun c1 => ⟨fun c2 => ⟨rmw, ?_⟩, fun c2 => ⟨fun c3 => ⟨rmw, ?_⟩, fun c3 => ⟨rmw, ?_⟩⟩⟩⟩
      · rw [if_pos c1] at hq
        rw [hq]
        exact h
      · rw [if_neg c1, if_pos c2] at hq
        rw [hq]
        exact h
      · rw [if_neg c1, if_neg (fun z => z c2), if_pos c3] at hq
        rw [hq]
        exact h
      · rw [if_neg c1, if_neg (fun z => z c2), if_neg (fun z => z c3)] at hq
        rw [hq]
        exact h
    | succ k ih =>
      intro w u l hl l0 hw hq
      refine sg_X9_bitsOf_38 ⟨⟨by omega, by omega⟩, ⟨by omega, by omega⟩, fun z => by omega, fun _ => ih w (u * 2) (l + 1) (by omega) (by omega) hw hq⟩
  have lp1 : ∀ (k : Nat) (w u : Int), 0 ≤ w → w + k ≤ 64 → (bgU k b w u).map (fun r => bgR b p m r.1 (bgD p r.2)) = some v → S_X9_bitsOf_14 g (d + 1) b p m w u M Q := by
    intro k
    induction k with
    | zero =>
      intro w u _ _ hq
      cases hq
    | succ k ih =>
      intro w u w0 w1 hq
      unfold bgU at hq
      refine sg_X9_bitsOf_14 ⟨fun c => ?_, fun c => ?_⟩
      · rw [if_pos c] at hq
        exact lp2 p w u 0 (by omega) (by omega) (by omega) (Option.some.inj hq)
      · rw [if_neg c] at hq
        exact ih (w + 1) (u * 2) (by omega) (by omega) hq
  unfold bG at hv
  refine en_X9_bitsOf (sg_X9_bitsOf_0 ⟨fun c => ?_, fun c => ?_⟩)
  · rw [if_neg c] at hv
    exact lp1 64 0 a (by omega) (by omega) hv
  · rw [if_pos c] at hv
    cases hv
    exact h
end BITS
