/-! how alike two lines are: class and reference -/
def cml (x y : Int) : Int := lcT (lnC x) (lnC y) (lnN x) (lnN y) 0 0
theorem cml_r (x y : Int) : 0 ≤ cml x y ∧ cml x y ≤ lnN x ∧ cml x y ≤ lnN y := by
  have h1 := lnN_r x
  have h2 := lnN_r y
  have := lcT_r (lnC x) (lnC y) (lnN x) (lnN y) 0 0 (by omega) (by omega)
  unfold cml
  omega
theorem lk_mem (x y : Int) : (cml x y, lnN x + lnN y) ∈ LT := by
  have h1 := lnN_r x
  have h2 := lnN_r y
  have h3 := cml_r x y
  exact LT_mem (by omega) (by omega) (by omega) (by omega)
/-- the fraction, its bits, and by how much a line is changed -/
def lik (x y : Int) : UInt32 := lkF (cml x y) (lnN x + lnN y)
def likB (x y : Int) : Int := (sB (lik x y)).getD 0
def chB (x y : Int) : Int := if 4 * (2 * cml x y) < 3 * (lnN x + lnN y) then (if 2 * (2 * cml x y) < lnN x + lnN y then 0 else 3) else 4
theorem lik_all (x y : Int) : sB (lik x y) = (bG (2 * cml x y) (lnN x + lnN y) 23 127).map l2I ∧ (sB (lik x y)).isSome = true ∧ lik x y &&& 0x7fffffff ≤ 0x7f800000 ∧ (fCmp (lik x y) 1056964608 .l < 0 ↔ 2 * (2 * cml x y) < lnN x + lnN y) ∧ (fCmp (lik x y) 1061158912 .l < 0 ↔ 4 * (2 * cml x y) < 3 * (lnN x + lnN y)) := by
  have h := List.all_eq_true.mp LT_ok _ (lk_mem x y)
  simp only [Bool.and_eq_true, decide_eq_true_eq, beq_iff_eq, decide_eq_decide] at h
  exact ⟨h.1.1.1.1, h.1.1.1.2, h.1.1.2, h.1.2, h.2⟩
theorem likB_s (x y : Int) : sB (lik x y) = some (likB x y) := by
  obtain ⟨v, hv⟩ := Option.isSome_iff_exists.mp (lik_all x y).2.1
  unfold likB
  rw [hv]
  rfl
section LIKE
variable {g : AG} {d : Nat} {M : AM}
theorem c_commonLetters {Q : Int → AM → Prop} {x y : Int} (hx : rg x) (hy : rg y) (h : ∀ M', (∀ k, k < 60 ∨ 70 < k → M' k = M k) → Q (cml x y) M') : MetI g mX1_commonLetters (d + 3) [vR 57, vI x, vI y] M Q := by
  have nx := lnN_r x
  have ny := lnN_r y
  have loop : ∀ (m : Nat) (l : Int) (M1 : AM), l + m = 3 → 0 ≤ l → (∀ j : Int, 0 ≤ j → j < l → M1 69 j.toNat = lnC x j ∧ M1 70 j.toNat = lnC y j) → (∀ k, k < 60 ∨ 70 < k → M1 k = M k) → S_X1_commonLetters_2 g (d + 3) x y l M1 Q := by
    intro m
    induction m with
    | zero =>
      intro l M1 hl l0 hj hf
      refine sg_X1_commonLetters_2 ⟨⟨by omega, by omega⟩, fun _ => ⟨hx, c_lettersIn hx (fun _ => ⟨hy, c_lettersIn hy (fun _ => ?_)⟩)⟩, fun w => by omega⟩
      refine c_most (n1 := 3) (n2 := 3) isCommon_58 rfl rfl ⟨by omega, by omega, by omega, by omega⟩ ⟨by omega, by omega, by omega, by omega⟩ (by omega) (by omega) (fun M' _ k2 _ => ?_)
      rw [lcT_congr (a' := lnC x) (b' := lnC y) (i1 := lnN x) (j1 := lnN y) (i := 0) (j := 0) (by omega) (by omega) (fun i q1 q2 => (hj i q1 (by omega)).1) (fun i q1 q2 => (hj i q1 (by omega)).2)]
      exact h M' (fun k q => by rw [k2 k (by omega)]; exact hf k q)
    | succ m ih =>
      intro l M1 hl l0 hj hf
      refine sg_X1_commonLetters_2 ⟨⟨by omega, by omega⟩, fun w => by omega, fun _ => ⟨hx, c_codeAt hx l0 (by omega) (fun _ => ⟨⟨by omega, by omega⟩, hy, c_codeAt hy l0 (by omega) (fun _ => ?_)⟩)⟩⟩
      refine ih (l + 1) _ (by omega) (by omega) ?_ ?_
      · intro j j0 j1
        rw [mU_ne (show (69 : Nat) ≠ 70 by decide)]
        by_cases e : j = l
        · subst e
          rw [mU_at, mU_at]
          exact ⟨rfl, rfl⟩
        · rw [mU_nej (by omega), mU_nej (by omega), mU_ne (show (70 : Nat) ≠ 69 by decide)]
          exact hj j j0 (by omega)
      · intro k q
        rw [mU_ne (by omega), mU_ne (by omega)]
        exact hf k q
  exact en_X1_commonLetters (sg_X1_commonLetters_0 (loop 3 0 M rfl (Int.le_refl _) (fun j q1 q2 => by omega) (fun _ _ => rfl)))
theorem c_fraction {Q : UInt32 → AM → Prop} {x y : Int} (hx : rg x) (hy : rg y) (h : ∀ M', (∀ k, k < 60 ∨ 70 < k → M' k = M k) → Q (lik x y) M') : MetF g mX1_fraction (d + 4) [vR 57, vI x, vI y] M Q := by
  have nx := lnN_r x
  have ny := lnN_r y
  refine en_X1_fraction (sg_X1_fraction_0 ⟨hx, c_lettersIn hx (fun _ => ⟨hy, c_lettersIn hy (fun _ => ⟨⟨by omega, by omega⟩, fun _ => ?_, fun w => by omega⟩)⟩)⟩)
  exact c_commonLetters hx hy (fun M' k1 _ => ⟨(lik_all x y).2.2.1, h M' k1⟩)
theorem r_lettersOf {Q : Int → AM → Prop} {z : Int} (hz : rg z) (h : Q (lnN z) M) : MetI g mX9_lettersOf (d + 1) [vI z] M Q := by
  unfold lnN at h
  refine en_X9_lettersOf (sg_X9_lettersOf_0 ⟨hz, fun c => ⟨fun c2 => ?_, fun c2 => ?_⟩, fun c => ?_⟩)
  · rwa [if_neg (by omega), if_neg (by omega)] at h
  · rwa [if_neg (by omega), if_pos (by omega)] at h
  · rwa [if_pos (by omega)] at h
theorem r_letterOf {Q : Int → AM → Prop} {z i : Int} (hz : rg z) (z0 : 0 ≤ z) (h0 : 0 ≤ i) (h1 : i < lnN z) (h : Q (lnC z i) M) : MetI g mX9_letterOf (d + 2) [vI z, vI i] M Q := by
  have hn := lnN_r z
  have z9 : z < 2147483648 := by have := hz.2; omega
  have ri : rg i := ⟨by omega, by omega⟩
  unfold lnC at h
  refine en_X9_letterOf (sg_X9_letterOf_0 ⟨hz, r_lettersOf hz (fun _ => ?_)⟩)
  by_cases e0 : lnN z - 1 - i = 0
  · rw [if_pos e0] at h
    refine sg_X9_letterOf_9 ⟨⟨by omega, by omega⟩, ri, fun _ => ?_, fun w => by omega⟩
    rw [iRem_pos z0 z9 (by omega) (by omega)]
    exact h
  · rw [if_neg e0] at h
    refine sg_X9_letterOf_9 ⟨⟨by omega, by omega⟩, ri, fun w => by omega, fun _ => ?_⟩
    rw [iDiv_pos z0 z9 (by omega) (by omega)]
    by_cases e1 : lnN z - 1 - i = 1
    · rw [if_pos e1] at h
      refine sg_X9_letterOf_9 ⟨⟨by omega, by omega⟩, ri, fun _ => ?_, fun w => by omega⟩
      rw [iRem_pos (by omega) (by omega) (by omega) (by omega)]
      exact h
    · have e2 : lnN z - 1 - i = 2 := by omega
      rw [if_neg e1, if_pos e2] at h
      refine sg_X9_letterOf_9 ⟨⟨by omega, by omega⟩, ri, fun w => by omega, fun _ => ?_⟩
      rw [iDiv_pos (by omega) (by omega) (by omega) (by omega)]
      refine sg_X9_letterOf_9 ⟨⟨by omega, by omega⟩, ri, fun _ => ?_, fun w => by omega⟩
      rw [iRem_pos (by omega) (by omega) (by omega) (by omega), Int.ediv_ediv_of_nonneg (by decide)]
      exact h
theorem r_alike {Q : Int → AM → Prop} {x y : Int} (hx : rg x) (x0 : 0 ≤ x) (hy : rg y) (y0 : 0 ≤ y) (h : ∀ M', (∀ k, k ≠ 100 → M' k = M k) → Q (cml x y) M') : MetI g mX9_alike (d + 3) [vR 88, vI x, vI y] M Q := by
  have nx := lnN_r x
  have ny := lnN_r y
  have hT : ∀ T : Int → Int → Int, T = lcT (lnC x) (lnC y) (lnN x) (lnN y) → MetI g mX9_alike (d + 3) [vR 88, vI x, vI y] M Q := by
    intro T eT
    have T0 : ∀ i j, lnN x ≤ i ∨ lnN y ≤ j → T i j = 0 := fun i j q => by rw [eT]; exact lcT_end q
    have T1 : ∀ i j, i < lnN x → j < lnN y → lnC x i = lnC y j → T i j = T (i + 1) (j + 1) + 1 := fun i j q1 q2 q3 => by rw [eT]; exact lcT_eq q1 q2 q3
    have T2 : ∀ i j, i < lnN x → j < lnN y → ¬ lnC x i = lnC y j → T i j = if T (i + 1) j < T i (j + 1) then T i (j + 1) else T (i + 1) j := fun i j q1 q2 q3 => by rw [eT]; exact lcT_ne q1 q2 q3
    have Tr : ∀ i j, i ≤ lnN x → j ≤ lnN y → 0 ≤ T i j ∧ T i j ≤ lnN x - i := fun i j q1 q2 => by rw [eT]; have := lcT_r (lnC x) (lnC y) (lnN x) (lnN y) i j q1 q2; exact ⟨this.1, this.2.1⟩
    have hQ : ∀ M', (∀ k, k ≠ 100 → M' k = M k) → Q (T 0 0) M' := fun M' q => by rw [eT]; exact h M' q
    clear eT
    have inner : ∀ (m : Nat) (i j : Int) (M1 : AM), j + 1 = m → 0 ≤ i → i ≤ 3 → j ≤ 3 → (∀ a b : Int, 0 ≤ a → a ≤ 3 → 0 ≤ b → b ≤ 3 → i < a ∨ (a = i ∧ j < b) → M1 100 (4 * a + b).toNat = T a b) → (∀ k, k ≠ 100 → M1 k = M k) →
        (∀ M2 : AM, (∀ a b : Int, 0 ≤ a → a ≤ 3 → 0 ≤ b → b ≤ 3 → i - 1 < a → M2 100 (4 * a + b).toNat = T a b) → (∀ k, k ≠ 100 → M2 k = M k) → S_X9_alike_14 g (d + 3) x y (lnN x) (lnN y) (i + (-1)) M2 Q) → S_X9_alike_22 g (d + 3) x y (lnN x) (lnN y) i j M1 Q := by
      intro m
      induction m with
      | zero =>
        intro i j M1 hm i0 i3 j3 gT gF hk
        refine sg_X9_alike_22 ⟨⟨by omega, by omega⟩, fun _ => ?_, fun w => by omega⟩
        exact hk M1 (fun a b q1 q2 q3 q4 q5 => gT a b q1 q2 q3 q4 (by omega)) gF
      | succ m ih =>
        intro i j M1 hm i0 i3 j3 gT gF hk
        have put : ∀ v : Int, v = T i j → S_X9_alike_22 g (d + 3) x y (lnN x) (lnN y) i (j + (-1)) (mU M1 100 (4 * i + j).toNat v) Q := by
          intro v hv
          refine ih i (j + (-1)) _ (by omega) i0 i3 (by omega) ?_ (fun k q => by rw [mU_ne q]; exact gF k q) hk
          intro a b q1 q2 q3 q4 q5
          by_cases e : a = i ∧ b = j
          · obtain ⟨rfl, rfl⟩ := e
            rw [mU_at]
            exact hv
          · rw [mU_nej (by omega)]
            exact gT a b q1 q2 q3 q4 (by omega)
        refine sg_X9_alike_22 ⟨⟨by omega, by omega⟩, fun w => by omega, fun _ => ⟨⟨by omega, by omega⟩, ⟨by omega, by omega⟩, fun c1 => ⟨⟨by omega, by omega⟩, put _ (T0 i j (Or.inl c1)).symm⟩, fun c1 => ⟨⟨by omega, by omega⟩, fun c2 => ⟨⟨by omega, by omega⟩, put _ (T0 i j (Or.inr c2)).symm⟩, fun c2 => ⟨⟨by omega, by omega⟩, ⟨by omega, by omega⟩, hx, ?_⟩⟩⟩⟩
        have e1 := gT (i + 1) j (by omega) (by omega) (by omega) j3 (by omega)
        have e2 := gT i (j + 1) i0 i3 (by omega) (by omega) (by omega)
        have e3 := gT (i + 1) (j + 1) (by omega) (by omega) (by omega) (by omega) (by omega)
        rw [← Int.add_assoc] at e2 e3
        have b3 := Tr (i + 1) (j + 1) (by omega) (by omega)
        refine r_letterOf hx x0 i0 (by omega) (fun _ => ⟨hy, r_letterOf hy y0 (by omega) (by omega) (fun _ => ⟨fun c3 => ⟨fun c4 => ⟨⟨by omega, by omega⟩, put _ ?_⟩, fun c4 => ⟨⟨by omega, by omega⟩, put _ ?_⟩⟩, fun c3 => ⟨⟨by omega, by omega⟩, ⟨by omega, by omega⟩, ⟨by omega, by omega⟩, put _ ?_⟩⟩)⟩)
        · rw [T2 i j (by omega) (by omega) c3]
          rw [e1, e2] at c4
          rw [e2]
          split <;> omega
        · rw [T2 i j (by omega) (by omega) c3]
          rw [e1, e2] at c4
          rw [e1, if_neg (by omega)]
        · rw [T1 i j (by omega) (by omega) c3, e3, Int.add_comm]
    have outer : ∀ (m : Nat) (i : Int) (M1 : AM), i + 1 = m → i ≤ 3 → (∀ a b : Int, 0 ≤ a → a ≤ 3 → 0 ≤ b → b ≤ 3 → i < a → M1 100 (4 * a + b).toNat = T a b) → (∀ k, k ≠ 100 → M1 k = M k) → S_X9_alike_14 g (d + 3) x y (lnN x) (lnN y) i M1 Q := by
      intro m
      induction m with
      | zero =>
        intro i M1 hm i3 gT gF
        refine sg_X9_alike_14 ⟨⟨by omega, by omega⟩, fun _ => ?_, fun w => by omega⟩
        have e := gT 0 0 (by omega) (by omega) (by omega) (by omega) (by omega)
        rw [show ((4 : Int) * 0 + 0).toNat = 0 by decide] at e
        rw [e]
        exact hQ M1 gF
      | succ m ih =>
        intro i M1 hm i3 gT gF
        refine sg_X9_alike_14 ⟨⟨by omega, by omega⟩, fun w => by omega, fun _ => ?_⟩
        exact inner 4 i 3 M1 (by omega) (by omega) i3 (by omega) (fun a b q1 q2 q3 q4 q5 => gT a b q1 q2 q3 q4 (by omega)) gF (fun M2 k1 k2 => ih (i + (-1)) M2 (by omega) (by omega) (fun a b q1 q2 q3 q4 q5 => k1 a b q1 q2 q3 q4 (by omega)) k2)
    refine en_X9_alike (sg_X9_alike_0 ⟨hx, r_lettersOf hx (fun _ => ⟨hy, r_lettersOf hy (fun _ => ?_)⟩)⟩)
    exact outer 4 3 M (by omega) (by omega) (fun a b q1 q2 q3 q4 q5 => by omega) (fun _ _ => rfl)
  exact hT _ rfl
theorem r_likeBits {Q : Int → AM → Prop} {x y : Int} (hx : rg x) (x0 : 0 ≤ x) (hy : rg y) (y0 : 0 ≤ y) (h : ∀ M', (∀ k, k ≠ 100 → M' k = M k) → Q (likB x y) M') : MetI g mX9_likeBits (d + 4) [vR 88, vI x, vI y] M Q := by
  have nx := lnN_r x
  have ny := lnN_r y
  have hl := (lik_all x y).1
  rw [likB_s] at hl
  obtain ⟨v, hv, hv2⟩ := Option.map_eq_some_iff.mp hl.symm
  have hb : ¬ Int64.ofInt (lnN x + lnN y) = 0 := by
    rcases (show lnN x + lnN y = 2 ∨ lnN x + lnN y = 3 ∨ lnN x + lnN y = 4 ∨ lnN x + lnN y = 5 ∨ lnN x + lnN y = 6 by omega) with e | e | e | e | e <;> rw [e] <;> decide
  refine en_X9_likeBits (sg_X9_likeBits_0 ⟨hx, hy, r_alike hx x0 hy y0 (fun M1 k1 _ => r_lettersOf hx (fun _ => r_lettersOf hy (fun _ => ⟨⟨by omega, by omega⟩, ?_⟩)))⟩)
  refine r_bitsOf (p := 23) (by omega) ⟨by omega, by omega⟩ hb hv ?_
  rw [hv2]
  exact h M1 k1
theorem r_changeBy {Q : Int → AM → Prop} {x y : Int} (hx : rg x) (x0 : 0 ≤ x) (hy : rg y) (y0 : 0 ≤ y) (h : ∀ M', (∀ k, k ≠ 100 → M' k = M k) → Q (chB x y) M') : MetI g mX9_changeBy (d + 4) [vR 88, vI x, vI y] M Q := by
  have nx := lnN_r x
  have ny := lnN_r y
  have hc := cml_r x y
  unfold chB at h
  refine en_X9_changeBy (sg_X9_changeBy_0 ⟨hx, hy, r_alike hx x0 hy y0 (fun M1 k1 _ => r_lettersOf hx (fun _ => r_lettersOf hy (fun _ => ⟨⟨by omega, by omega⟩, ⟨by omega, by omega⟩, fun c1 => ⟨⟨by omega, by omega⟩, ⟨by omega, by omega⟩, fun c2 => ?_, fun c2 => ?_⟩, fun c1 => ?_⟩)))⟩)
  · have := h M1 k1
    rwa [if_pos c1, if_pos c2] at this
  · have := h M1 k1
    rwa [if_pos c1, if_neg c2] at this
  · have := h M1 k1
    rwa [if_neg c1] at this
end LIKE
