/-! numbers: what the machine's bits and divisions are of Ints in range -/
theorem iAnd_127 {z : Int} : iAnd z 127 = z % 128 := by
  unfold iAnd
  have e : Int32.ofInt 127 = (127 : Int32) := by decide
  rw [e, pk_and (Int32.ofInt z) (m := 127) 7 (by decide)]
  have e2 : (Int32.ofInt z).toBitVec.toNat = (z % 4294967296).toNat := by
    rw [Int32.toBitVec_ofInt, BitVec.toNat_ofInt]
    rfl
  rw [nI_toInt (by omega), e2]
  omega
theorem iAnd_31 {z : Int} : iAnd z 31 = z % 32 := by
  unfold iAnd
  have e : Int32.ofInt 31 = (31 : Int32) := by decide
  rw [e, pk_and (Int32.ofInt z) (m := 31) 5 (by decide)]
  have e2 : (Int32.ofInt z).toBitVec.toNat = (z % 4294967296).toNat := by
    rw [Int32.toBitVec_ofInt, BitVec.toNat_ofInt]
    rfl
  rw [nI_toInt (by omega), e2]
  omega
theorem iShr_gen {z y : Int} (k : Nat) (hz : rg z) (hy : ((Int32.ofInt y &&& 31).toBitVec.smod 32).toNat = k) : iShr z y = z / (2 ^ k : Nat) := by
  unfold iShr
  rw [pk_shr _ _ k hy, rg_back hz, Int.shiftRight_eq_div_pow]
theorem iShr_7 {z : Int} (hz : rg z) : iShr z 7 = z / 128 := iShr_gen 7 hz (by decide)
theorem iShr_14 {z : Int} (hz : rg z) : iShr z 14 = z / 16384 := iShr_gen 14 hz (by decide)
theorem iShr_0 {z : Int} (hz : rg z) : iShr z 0 = z := by
  rw [iShr_gen 0 hz (by decide)]
  simp
theorem tdiv_n {x : Int} (h : 0 ≤ x) (y : Int) : x.tdiv y = x / y := Int.tdiv_eq_ediv_of_nonneg h
theorem iDiv_pos {x y : Int} (hx : 0 ≤ x) (hx2 : x < 2147483648) (hy : 0 < y) (hy2 : y < 2147483648) : iDiv x y = x / y := by
  unfold iDiv
  have ry : rg y := ⟨by omega, by omega⟩
  have rx : rg x := ⟨by omega, by omega⟩
  rw [Int32.toInt_div_of_ne_right, rg_back rx, rg_back ry, tdiv_n hx]
  intro h
  have := congrArg Int32.toInt h
  rw [rg_back ry] at this
  have e : (-1 : Int32).toInt = -1 := by decide
  omega
theorem iRem_pos {x y : Int} (hx : 0 ≤ x) (hx2 : x < 2147483648) (hy : 0 < y) (hy2 : y < 2147483648) : iRem x y = x % y := by
  have hd := iDiv_pos hx hx2 hy hy2
  have rq : rg (x / y) := by
    have h1 : 0 ≤ x / y := Int.ediv_nonneg hx (by omega)
    have h2 : x / y ≤ x := Int.ediv_le_self y hx
    exact ⟨by omega, by omega⟩
  unfold iDiv at hd
  unfold iRem
  have e : Int32.ofInt x / Int32.ofInt y = Int32.ofInt (x / y) := by rw [← hd, Int32.ofInt_toInt]
  have h3 := Int.emod_add_mul_ediv x y
  have h4 := Int.emod_nonneg x (show y ≠ 0 by omega)
  have h5 := Int.emod_lt_of_pos x hy
  rw [e, ← Int32.ofInt_mul, ← Int32.ofInt_sub]
  have e2 : x - x / y * y = x % y := by
    rw [Int.mul_comm]
    omega
  rw [e2]
  exact rg_back ⟨by omega, by omega⟩
theorem l2I_rg {z : Int} (h : rg z) : l2I z = z := rg_back h
def rl (z : Int) : Prop := -9223372036854775808 ≤ z ∧ z < 9223372036854775808
theorem rl_back {z : Int} (h : rl z) : (Int64.ofInt z).toInt = z := Int64.toInt_ofInt_of_le h.1 h.2
theorem lCmp_self (x : Int) : lCmp x x = 0 := by
  unfold lCmp lg_cmp
  simp
theorem lCmp_lt {x y : Int} (hx : rl x) (hy : rl y) : lCmp x y < 0 ↔ x < y := by
  unfold lCmp lg_cmp
  have e1 : (Int64.ofInt x > Int64.ofInt y) ↔ y < x := by rw [gt_iff_lt, Int64.lt_iff_toInt_lt, rl_back hx, rl_back hy]
  have e2 : (Int64.ofInt x = Int64.ofInt y) ↔ x = y := by rw [← Int64.toInt_inj, rl_back hx, rl_back hy]
  by_cases h1 : y < x
  · rw [if_pos (e1.mpr h1)]
    constructor
    · intro h
      exact absurd h (by decide)
    · intro h
      omega
  · rw [if_neg (fun q => h1 (e1.mp q))]
    by_cases h2 : x = y
    · rw [if_pos (e2.mpr h2)]
      constructor
      · intro h
        exact absurd h (by decide)
      · intro h
        omega
    · rw [if_neg (fun q => h2 (e2.mp q))]
      constructor
      · intro h
        omega
      · intro h
        decide
theorem lCmp_gt {x y : Int} (hx : rl x) (hy : rl y) : 0 < lCmp x y ↔ y < x := by
  unfold lCmp lg_cmp
  have e1 : (Int64.ofInt x > Int64.ofInt y) ↔ y < x := by rw [gt_iff_lt, Int64.lt_iff_toInt_lt, rl_back hx, rl_back hy]
  have e2 : (Int64.ofInt x = Int64.ofInt y) ↔ x = y := by rw [← Int64.toInt_inj, rl_back hx, rl_back hy]
  by_cases h1 : y < x
  · rw [if_pos (e1.mpr h1)]
    constructor
    · intro h
      exact h1
    · intro h
      decide
  · rw [if_neg (fun q => h1 (e1.mp q))]
    by_cases h2 : x = y
    · rw [if_pos (e2.mpr h2)]
      constructor
      · intro h
        exact absurd h (by decide)
      · intro h
        omega
    · rw [if_neg (fun q => h2 (e2.mp q))]
      constructor
      · intro h
        exact absurd h (by decide)
      · intro h
        omega
theorem lCmp_eq {x y : Int} (hx : rl x) (hy : rl y) : lCmp x y = 0 ↔ x = y := by
  have h1 := lCmp_lt hx hy
  have h2 := lCmp_gt hx hy
  omega
/-! letters and lines as the words of the document have them -/
def isLt (z : Int) : Prop := 97 ≤ z ∧ z ≤ 101
def okLn (z : Int) : Prop := isLt z ∨ (isLt (z % 128) ∧ isLt (z / 128)) ∨ (isLt (z % 128) ∧ isLt (z / 128 % 128) ∧ isLt (z / 16384))
theorem okLn_rg {z : Int} (h : okLn z) : 97 ≤ z ∧ z < 2097152 := by
  unfold okLn isLt at h
  omega
noncomputable def bI (p : Prop) : Int := @ite Int p (Classical.propDecidable p) 1 0
theorem bI_t {p : Prop} (h : p) : bI p = 1 := by unfold bI; rw [if_pos h]
theorem bI_f {p : Prop} (h : ¬ p) : bI p = 0 := by unfold bI; rw [if_neg h]
theorem bI_01 (p : Prop) : bI p = 0 ∨ bI p = 1 := by
  by_cases h : p
  · exact Or.inr (bI_t h)
  · exact Or.inl (bI_f h)
theorem bI_iff {p q : Prop} (h : p ↔ q) : bI p = bI q := by rw [propext h]
section STATICS
variable {g : AG} {d : Nat} {M : AM} {Q : Int → AM → Prop}
theorem c_isSide {z : Int} (hz : rg z) (h : Q (bI (z = 0 ∨ z = 1)) M) : MetI g mX8_isSide (d + 1) [vI z] M Q := by
  refine en_X8_isSide (sg_X8_isSide_0 ⟨hz, fun c => ?_, fun c => ⟨fun c2 => ?_, fun c2 => ?_⟩⟩)
  · rwa [bI_t (by omega)] at h
  · rwa [bI_f (by omega)] at h
  · rwa [bI_t (by omega)] at h
theorem c_isLetter {z : Int} (hz : rg z) (h : Q (bI (isLt z)) M) : MetI g mX8_isLetter (d + 1) [vI z] M Q := by
  refine en_X8_isLetter (sg_X8_isLetter_0 ⟨hz, fun c => ?_, fun c => ⟨fun c2 => ?_, fun c2 => ?_⟩⟩)
  · rwa [bI_f (by unfold isLt; omega)] at h
  · rwa [bI_f (by unfold isLt; omega)] at h
  · rwa [bI_t (by unfold isLt; omega)] at h
theorem c_isLine {z : Int} (hz : rg z) (h : Q (bI (okLn z)) M) : MetI g mX8_isLine (d + 2) [vI z] M Q := by
  have r3 : rg (3 : Int) := ⟨by decide, by decide⟩
  have r1 : rg (z / 128) := ⟨by have := hz.1; omega, by have := hz.2; omega⟩
  have r2 : rg (z / 128 / 128) := ⟨by have := hz.1; omega, by have := hz.2; omega⟩
  have rm : ∀ y : Int, rg (y % 128) := fun y => ⟨by omega, by omega⟩
  refine en_X8_isLine (sg_X8_isLine_0 (sg_X8_isLine_4 ⟨⟨by decide, by decide⟩, fun c => absurd c (by decide), fun _ => ?_⟩))
  rw [iAnd_127, iShr_7 hz]
  refine c_isLetter (rm z) (fun _ => ⟨fun c => ?_, fun c => ⟨fun c1 => ?_, fun c1 => ?_⟩⟩)
  · rcases bI_01 (isLt (z % 128)) with q | q
    · rwa [bI_f] at h
      have hn : ¬ isLt (z % 128) := fun w => by rw [bI_t w] at q; cases q
      unfold okLn isLt at *
      omega
    · omega
  · have hp : isLt (z % 128) := Classical.byContradiction fun w => c (bI_f w)
    refine sg_X8_isLine_4 ⟨⟨by decide, by decide⟩, fun c => absurd c (by decide), fun _ => ?_⟩
    rw [iAnd_127, iShr_7 r1]
    refine c_isLetter (rm _) (fun _ => ⟨fun c2 => ?_, fun c2 => ⟨fun c3 => ?_, fun c3 => ?_⟩⟩)
    · rwa [bI_f] at h
      have hn : ¬ isLt (z / 128 % 128) := fun w => by rw [bI_t w] at c2; cases c2
      unfold okLn isLt at *
      omega
    · have hp2 : isLt (z / 128 % 128) := Classical.byContradiction fun w => c2 (bI_f w)
      refine sg_X8_isLine_4 ⟨⟨by decide, by decide⟩, fun c => absurd c (by decide), fun _ => ?_⟩
      rw [iAnd_127, iShr_7 r2]
      refine c_isLetter (rm _) (fun _ => ⟨fun c4 => ?_, fun c4 => ⟨fun c5 => ?_, fun c5 => ?_⟩⟩)
      · rwa [bI_f] at h
        have hn : ¬ isLt (z / 128 / 128 % 128) := fun w => by rw [bI_t w] at c4; cases c4
        unfold okLn isLt at *
        omega
      · refine sg_X8_isLine_4 ⟨⟨by decide, by decide⟩, fun _ => ?_, fun c => absurd (show (3 : Int) ≤ 0 + 1 + 1 + 1 by decide) c⟩
        rwa [bI_f] at h
        unfold okLn isLt at *
        omega
      · have hp3 : isLt (z / 128 / 128 % 128) := Classical.byContradiction fun w => c4 (bI_f w)
        rwa [bI_t] at h
        unfold okLn isLt at *
        omega
    · have hp2 : isLt (z / 128 % 128) := Classical.byContradiction fun w => c2 (bI_f w)
      rwa [bI_t] at h
      unfold okLn isLt at *
      omega
  · have hp : isLt (z % 128) := Classical.byContradiction fun w => c (bI_f w)
    rwa [bI_t] at h
    unfold okLn isLt at *
    omega
/-- how many letters a line has, and which -/
def lnN (z : Int) : Int := if z < 128 then 1 else if z < 16384 then 2 else 3
def lnC (z i : Int) : Int := if lnN z - 1 - i = 0 then z % 128 else if lnN z - 1 - i = 1 then z / 128 % 128 else if lnN z - 1 - i = 2 then z / 16384 % 128 else -1
theorem lnN_r (z : Int) : 1 ≤ lnN z ∧ lnN z ≤ 3 := by
  unfold lnN
  split
  · omega
  · split <;> omega
theorem c_lettersIn {z : Int} (hz : rg z) (h : Q (lnN z) M) : MetI g mX8_lettersIn (d + 1) [vI z] M Q := by
  unfold lnN at h
  refine en_X8_lettersIn (sg_X8_lettersIn_0 ⟨hz, fun c => ⟨fun c2 => ?_, fun c2 => ?_⟩, fun c => ?_⟩)
  · rwa [if_neg (by omega), if_neg (by omega)] at h
  · rwa [if_neg (by omega), if_pos (by omega)] at h
  · rwa [if_pos (by omega)] at h
theorem c_codeAt {z i : Int} (hz : rg z) (h0 : 0 ≤ i) (h2 : i ≤ 2) (h : Q (lnC z i) M) : MetI g mX8_codeAt (d + 2) [vI z, vI i] M Q := by
  have hn := lnN_r z
  unfold lnC at h
  refine en_X8_codeAt (sg_X8_codeAt_0 ⟨hz, c_lettersIn hz (fun _ => ⟨⟨by omega, by omega⟩, fun c => ?_, fun c => ?_⟩)⟩)
  · by_cases e0 : lnN z - 1 - i = 0
    · rw [if_pos e0] at h
      rw [e0, show (7 : Int) * 0 = 0 by decide, iShr_0 hz, iAnd_127]
      exact h
    · rw [if_neg e0] at h
      by_cases e1 : lnN z - 1 - i = 1
      · rw [if_pos e1] at h
        rw [e1, show (7 : Int) * 1 = 7 by decide, iShr_7 hz, iAnd_127]
        exact h
      · have e2 : lnN z - 1 - i = 2 := by omega
        rw [if_neg e1, if_pos e2] at h
        rw [e2, show (7 : Int) * 2 = 14 by decide, iShr_14 hz, iAnd_127]
        exact h
  · rwa [if_neg (by omega), if_neg (by omega), if_neg (by omega)] at h
/-- kinds: is a step of kind a also of kind k -/
def ofK (a k : Int) : Prop := k = 0 ∨ a = k ∨ (k = 2 ∧ 2 < a) ∨ (k = 3 ∧ a = 4)
theorem c_isOfKind {a k : Int} (ha : 0 ≤ a ∧ a ≤ 4) (hk : 0 ≤ k ∧ k ≤ 4) (h : Q (bI (ofK a k)) M) : MetI g mX8_isOfKind (d + 1) [vI a, vI k] M Q := by
  have step : ∀ (x t : Int), 0 ≤ x ∧ x ≤ 4 → 0 ≤ t ∧ t < 5 → (x = k → Q 1 M) → (x ≠ k → S_X8_isOfKind_4 g (d + 1) k ([-1, 0, 0, 2, 3].getD x.toNat 0) (t + 1) M Q) → S_X8_isOfKind_4 g (d + 1) k x t M Q := by
    intro x t hx ht h1 h2
    exact sg_X8_isOfKind_4 ⟨⟨by omega, by omega⟩, fun c => by omega, fun _ => ⟨⟨by omega, by omega⟩, fun c => by omega, fun _ => ⟨fun c => by omega, fun _ => ⟨⟨by omega, by omega⟩, fun c => ⟨⟨by omega, by omega⟩, h2 c⟩, fun c => h1 c⟩⟩⟩⟩
  have stop : ∀ t : Int, 0 ≤ t ∧ t < 6 → Q 0 M → S_X8_isOfKind_4 g (d + 1) k (-1) t M Q := by
    intro t ht hq
    exact sg_X8_isOfKind_4 ⟨⟨by omega, by omega⟩, fun _ => hq, fun _ => ⟨⟨by decide, by decide⟩, fun _ => hq, fun c => absurd (show (-1 : Int) < 0 by decide) c⟩⟩
  have tr : ofK a k → Q 1 M := fun q => by rwa [bI_t q] at h
  have fl : ¬ ofK a k → Q 0 M := fun q => by rwa [bI_f q] at h
  refine en_X8_isOfKind (sg_X8_isOfKind_0 ?_)
  refine step a 0 ha (by omega) (fun q => tr (Or.inr (Or.inl q))) (fun n0 => ?_)
  rcases (show a = 0 ∨ a = 1 ∨ a = 2 ∨ a = 3 ∨ a = 4 by omega) with e | e | e | e | e <;> subst e
  · exact stop _ (by omega) (fl (by unfold ofK; omega))
  · refine step 0 _ (by omega) (by omega) (fun q => tr (by unfold ofK; omega)) (fun n1 => stop _ (by omega) (fl (by unfold ofK; omega)))
  · refine step 0 _ (by omega) (by omega) (fun q => tr (by unfold ofK; omega)) (fun n1 => stop _ (by omega) (fl (by unfold ofK; omega)))
  · refine step 2 _ (by omega) (by omega) (fun q => tr (by unfold ofK; omega)) (fun n1 => ?_)
    refine step 0 _ (by omega) (by omega) (fun q => tr (by unfold ofK; omega)) (fun n2 => stop _ (by omega) (fl (by unfold ofK; omega)))
  · refine step 3 _ (by omega) (by omega) (fun q => tr (by unfold ofK; omega)) (fun n1 => ?_)
    refine step 2 _ (by omega) (by omega) (fun q => tr (by unfold ofK; omega)) (fun n2 => ?_)
    refine step 0 _ (by omega) (by omega) (fun q => tr (by unfold ofK; omega)) (fun n3 => stop _ (by omega) (fl (by unfold ofK; omega)))
end STATICS
