/-! the reference's MATCH: views, smaller methods -/
def LAr (M : AM) (A : LF) (n : Int → Int) : Prop := M 93 0 = n 0 ∧ M 93 1 = n 1 ∧ (0 ≤ n 0 ∧ n 0 ≤ 8) ∧ (0 ≤ n 1 ∧ n 1 ≤ 8) ∧ ∀ s i, s = 0 ∨ s = 1 → 0 ≤ i → i < n s → M 92 (16 * s + i).toNat = A s i
def PAr (M : AM) (P : LF) : Prop := ∀ s i, s = 0 ∨ s = 1 → 0 ≤ i → i < 16 → M 94 (16 * s + i).toNat = P s i
def FrR (M M' : AM) : Prop := (∀ k, k ≠ 88 → (k < 94 ∨ 99 < k) → M' k = M k) ∧ ∀ j, j ≠ 12 → j ≠ 13 → j ≠ 15 → M' 88 j = M 88 j
theorem FrR.rf (M : AM) : FrR M M := ⟨fun _ _ _ => rfl, fun _ _ _ _ => rfl⟩
theorem FrR.tr {M M1 M2 : AM} (h1 : FrR M M1) (h2 : FrR M1 M2) : FrR M M2 := ⟨fun k a b => (h2.1 k a b).trans (h1.1 k a b), fun j a b c => (h2.2 j a b c).trans (h1.2 j a b c)⟩
theorem FrR.up {M M1 : AM} (h1 : FrR M M1) {k j : Nat} {z : Int} (hk : 94 ≤ k ∧ k ≤ 99) : FrR M (mU M1 k j z) := ⟨fun k' a b => by rw [mU_ne (by omega)]; exact h1.1 k' a b, fun j' a b c => by rw [mU_ne (by omega)]; exact h1.2 j' a b c⟩
theorem FrR.up8 {M M1 : AM} (h1 : FrR M M1) {j : Nat} {z : Int} (hj : j = 12 ∨ j = 13 ∨ j = 15) : FrR M (mU M1 88 j z) := ⟨fun k' a b => by rw [mU_ne a]; exact h1.1 k' a b, fun j' a b c => by rw [mU_nej (by omega)]; exact h1.2 j' a b c⟩
theorem LAr.fr {M M' : AM} {A : LF} {n : Int → Int} (h : LAr M A n) (f : FrR M M') : LAr M' A n := by
  obtain ⟨h1, h2, h3, h4, h5⟩ := h
  refine ⟨by rw [f.1 _ (by omega) (by omega)]; exact h1, by rw [f.1 _ (by omega) (by omega)]; exact h2, h3, h4, fun s i hs h0 hi => ?_⟩
  rw [f.1 _ (by omega) (by omega)]
  exact h5 s i hs h0 hi
theorem PAr.same {M M' : AM} {P : LF} (h : PAr M P) (h4 : M' 94 = M 94) : PAr M' P := fun s i hs h0 hi => by rw [h4]; exact h s i hs h0 hi
theorem PAr.set {M : AM} {P : LF} (h : PAr M P) {s i v : Int} (hs : s = 0 ∨ s = 1) (hi : 0 ≤ i ∧ i < 16) : PAr (mU M 94 (16 * s + i).toNat v) (f2 P s i v) := by
  intro s' i' hs' h0 h16
  unfold f2
  by_cases e : s' = s ∧ i' = i
  · obtain ⟨rfl, rfl⟩ := e
    rw [mU_at, if_pos ⟨rfl, rfl⟩]
  · rw [if_neg e, mU_nej (by omega)]
    exact h s' i' hs' h0 h16
theorem PAr.keep {M : AM} {P : LF} (h : PAr M P) {i j : Int} (hi : 0 ≤ i ∧ i < 16) (hj : 0 ≤ j ∧ j < 16) : PAr (mU (mU M 94 i.toNat j) 94 (16 + j).toNat i) (kp P i j) := by
  have h1 := (h.set (s := 0) (v := j) (Or.inl rfl) hi).set (s := 1) (v := i) (Or.inr rfl) hj
  rw [show (16 : Int) * 0 + i = i by omega, show (16 : Int) * 1 + j = 16 + j by omega] at h1
  exact h1
section RMATCH1
variable {g : AG} {d : Nat} {M : AM} {A : LF} {n : Int → Int}
theorem r_isSame {Q : Int → AM → Prop} {i j : Int} (hA : LAr M A n) (hi : 0 ≤ i ∧ i < n 0) (hj : 0 ≤ j ∧ j < n 1) (h : Q (bI (A 0 i = A 1 j)) M) : MetI g mX9_isSame (d + 1) [vR 88, vI i, vI j] M Q := by
  have b1 := hA.2.2.1
  have b2 := hA.2.2.2.1
  have e1 := hA.2.2.2.2 0 i (Or.inl rfl) hi.1 hi.2
  have e2 := hA.2.2.2.2 1 j (Or.inr rfl) hj.1 hj.2
  rw [show (16 : Int) * 0 + i = i by omega] at e1
  rw [show (16 : Int) * 1 + j = 16 + j by omega] at e2
  refine en_X9_isSame (sg_X9_isSame_0 ⟨⟨by omega, by omega⟩, ⟨by omega, by omega⟩, fun c => ?_, fun c => ?_⟩)
  · rw [e1, e2] at c
    rwa [bI_f c] at h
  · rw [e1, e2] at c
    rwa [bI_t c] at h
theorem r_keep {Q : AM → Prop} {i j : Int} (hi : 0 ≤ i ∧ i < 16) (hj : 0 ≤ j ∧ j < 16) (h : Q (mU (mU M 94 i.toNat j) 94 (16 + j).toNat i)) : MetV g mX9_keep (d + 1) [vR 88, vI i, vI j] M Q :=
  en_X9_keep (sg_X9_keep_0 ⟨⟨by omega, by omega⟩, ⟨by omega, by omega⟩, ⟨by omega, by omega⟩, ⟨by omega, by omega⟩, h⟩)
theorem r_timesIn {Q : Int → AM → Prop} {v s st en : Int} (hA : LAr M A n) (hs : s = 0 ∨ s = 1) (h0 : 0 ≤ st) (h1 : st ≤ en) (h2 : en ≤ n s) (hv : rg v) (h : Q (cnt (A s) v st en) M) : MetI g mX9_timesIn (d + 1) [vR 88, vI v, vI (16 * s + st), vI (16 * s + en)] M Q := by
  have b1 := hA.2.2.1
  have b2 := hA.2.2.2.1
  have bn : n s ≤ 8 := by rcases hs with rfl | rfl <;> omega
  have loop : ∀ (m : Nat) (k l : Int), en = k + m → st ≤ k → 0 ≤ l → l ≤ k - st → Q (l + cnt (A s) v k en) M → S_X9_timesIn_6 g (d + 1) v (16 * s + en) l (16 * s + k) M Q := by
    intro m
    induction m with
    | zero =>
      intro k l hk hst l0 l1 hq
      refine sg_X9_timesIn_6 ⟨⟨by omega, by omega⟩, ⟨by omega, by omega⟩, fun _ => ⟨⟨by omega, by omega⟩, ?_⟩, fun c => by omega⟩
      rw [cnt_eq, if_neg (by omega), Int.add_zero] at hq
      exact hq
    | succ m ih =>
      intro k l hk hst l0 l1 hq
      have e1 := hA.2.2.2.2 s k hs (by omega) (by omega)
      rw [cnt_eq, if_pos (show k < en by omega)] at hq
      refine sg_X9_timesIn_6 ⟨⟨by omega, by omega⟩, ⟨by omega, by omega⟩, fun c => by omega, fun _ => ⟨⟨by omega, by omega⟩, hv, fun c => ?_, fun c => ?_⟩⟩
      · rw [e1] at c
        rw [if_neg c, Int.zero_add] at hq
        rw [Int.add_assoc]
        exact ih (k + 1) (l + 0) (by omega) (by omega) (by omega) (by omega) (by rw [Int.add_zero]; exact hq)
      · rw [e1] at c
        rw [if_pos c, ← Int.add_assoc] at hq
        rw [Int.add_assoc]
        exact ih (k + 1) (l + 1) (by omega) (by omega) (by omega) (by omega) hq
  refine en_X9_timesIn (sg_X9_timesIn_0 (loop (en - st).toNat st 0 (by omega) (Int.le_refl _) (Int.le_refl _) (by omega) ?_))
  rw [Int.zero_add]
  exact h
theorem r_layCan {Q : AM → Prop} {a b c e : Int} (hA : LAr M A n) (h0 : 0 ≤ a) (h1 : a ≤ b) (h2 : b ≤ n 0) (h3 : 0 ≤ c) (h4 : c ≤ e) (h5 : e ≤ n 1) (h : ∀ M', (∀ i j, a ≤ i → i ≤ b → c ≤ j → j ≤ e → M' 99 (9 * i + j).toNat = lcT (A 0) (A 1) b e i j) → (∀ k, k ≠ 99 → M' k = M k) → Q M') : MetV g mX9_layCan (d + 2) [vR 88, vI a, vI b, vI c, vI e] M Q := by
  have b1 := hA.2.2.1
  have b2 := hA.2.2.2.1
  generalize hT : lcT (A 0) (A 1) b e = T at h
  have T0 : ∀ i j, b ≤ i ∨ e ≤ j → T i j = 0 := fun i j q => by rw [← hT]; exact lcT_end q
  have T1 : ∀ i j, i < b → j < e → A 0 i = A 1 j → T i j = T (i + 1) (j + 1) + 1 := fun i j q1 q2 q3 => by rw [← hT]; exact lcT_eq q1 q2 q3
  have T2 : ∀ i j, i < b → j < e → ¬ A 0 i = A 1 j → T i j = if T (i + 1) j < T i (j + 1) then T i (j + 1) else T (i + 1) j := fun i j q1 q2 q3 => by rw [← hT]; exact lcT_ne q1 q2 q3
  have Tr : ∀ i j, i ≤ b → j ≤ e → 0 ≤ T i j ∧ T i j ≤ b - i := fun i j q1 q2 => by rw [← hT]; have := lcT_r (A 0) (A 1) b e i j q1 q2; exact ⟨this.1, this.2.1⟩
  clear hT
  let Done : Int → Int → AM → Prop := fun i j M1 => (∀ i' j', a ≤ i' → i' ≤ b → c ≤ j' → j' ≤ e → (i < i' ∨ (i = i' ∧ j < j')) → M1 99 (9 * i' + j').toNat = T i' j') ∧ ∀ k, k ≠ 99 → M1 k = M k
  have wr : ∀ (i j : Int) (M1 : AM) (v : Int), a ≤ i → i ≤ b → c ≤ j → j ≤ e → Done i j M1 → v = T i j → Done i (j + -1) (mU M1 99 (9 * i + j).toNat v) := by
    intro i j M1 v q1 q2 q3 q4 D hv
    refine ⟨fun i' j' p1 p2 p3 p4 p5 => ?_, fun k hk => by rw [mU_ne hk]; exact D.2 k hk⟩
    by_cases w : i' = i ∧ j' = j
    · obtain ⟨rfl, rfl⟩ := w
      rw [mU_at, hv]
    · rw [mU_nej (by omega)]
      exact D.1 i' j' p1 p2 p3 p4 (by omega)
  have inner : ∀ (i : Int), a ≤ i → i ≤ b → (∀ M2, Done (i - 1) e M2 → S_X9_layCan_3 g (d + 2) a b c e (i - 1) M2 Q) → ∀ (m : Nat) (j : Int) (M1 : AM), j = c - 1 + m → j ≤ e → Done i j M1 → S_X9_layCan_13 g (d + 2) a b c e i j M1 Q := by
    intro i hi1 hi2 out m
    induction m with
    | zero =>
      intro j M1 hj hj2 D
      refine sg_X9_layCan_13 ⟨⟨by omega, by omega⟩, ⟨by omega, by omega⟩, fun w => ?_, fun w => by omega⟩
      rw [show i + -1 = i - 1 by omega]
      exact out M1 ⟨fun i' j' p1 p2 p3 p4 p5 => D.1 i' j' p1 p2 p3 p4 (by omega), D.2⟩
    | succ m ih =>
      intro j M1 hj hj2 D
      have ih' := fun v (hv : v = T i j) => ih (j + -1) _ (by omega) (by omega) (wr i j M1 v hi1 hi2 (by omega) hj2 D hv)
      refine sg_X9_layCan_13 ⟨⟨by omega, by omega⟩, ⟨by omega, by omega⟩, fun w => by omega, fun w => ⟨⟨by omega, by omega⟩, ⟨by omega, by omega⟩, fun w1 => ⟨⟨by omega, by omega⟩, ih' 0 (T0 i j (by omega)).symm⟩, fun w1 => ⟨⟨by omega, by omega⟩, fun w2 => ⟨⟨by omega, by omega⟩, ih' 0 (T0 i j (by omega)).symm⟩, fun w2 => ⟨⟨by omega, by omega⟩, ⟨by omega, by omega⟩, ?_⟩⟩⟩⟩
      have hA1 : LAr M1 A n := hA.fr ⟨fun k q1 q2 => D.2 k (by omega), fun j' _ _ _ => by rw [D.2 88 (by decide)]⟩
      have e1 := D.1 (i + 1) j (by omega) (by omega) (by omega) (by omega) (by omega)
      have e2 := D.1 i (j + 1) (by omega) (by omega) (by omega) (by omega) (by omega)
      have e3 := D.1 (i + 1) (j + 1) (by omega) (by omega) (by omega) (by omega) (by omega)
      rw [← Int.add_assoc] at e2 e3
      refine r_isSame hA1 ⟨by omega, by omega⟩ ⟨by omega, by omega⟩ (fun _ => ⟨fun c1 => ?_, fun c1 => ⟨⟨by omega, by omega⟩, ⟨by omega, by omega⟩, ?_, ih' _ ?_⟩⟩)
      · have hne : ¬ A 0 i = A 1 j := fun q => by rw [bI_t q] at c1; cases c1
        have t2 := T2 i j (by omega) (by omega) hne
        refine ⟨fun c2 => ⟨⟨by omega, by omega⟩, ih' _ ?_⟩, fun c2 => ⟨⟨by omega, by omega⟩, ih' _ ?_⟩⟩
        · rw [e1, e2] at c2
          rw [e2, t2]
          split <;> omega
        · rw [e1, e2] at c2
          rw [e1, t2, if_neg (by omega)]
      · rw [e3]
        have := Tr (i + 1) (j + 1) (by omega) (by omega)
        exact ⟨by omega, by omega⟩
      · have heq : A 0 i = A 1 j := Classical.byContradiction fun q => c1 (bI_f q)
        rw [e3, T1 i j (by omega) (by omega) heq]
        omega
  have outer : ∀ (m : Nat) (i : Int) (M1 : AM), i = a - 1 + m → i ≤ b → Done i e M1 → S_X9_layCan_3 g (d + 2) a b c e i M1 Q := by
    intro m
    induction m with
    | zero =>
      intro i M1 hi hi2 D
      refine sg_X9_layCan_3 ⟨⟨by omega, by omega⟩, ⟨by omega, by omega⟩, fun w => h M1 (fun i' j' p1 p2 p3 p4 => D.1 i' j' p1 p2 p3 p4 (by omega)) D.2, fun w => by omega⟩
    | succ m ih =>
      intro i M1 hi hi2 D
      refine sg_X9_layCan_3 ⟨⟨by omega, by omega⟩, ⟨by omega, by omega⟩, fun w => by omega, fun w => ?_⟩
      exact inner i (by omega) hi2 (fun M2 D2 => ih (i - 1) M2 (by omega) (by omega) D2) (e - c + 1).toNat e M1 (by omega) (by omega) D
  exact en_X9_layCan (sg_X9_layCan_0 (outer (b - a + 1).toNat b M (by omega) (by omega) ⟨fun i' j' p1 p2 p3 p4 p5 => by omega, fun _ _ => rfl⟩))
theorem r_matchRows {Q : AM → Prop} {a b c e : Int} {P : LF} (hA : LAr M A n) (h0 : 0 ≤ a) (h1 : a ≤ b) (h2 : b ≤ n 0) (h3 : 0 ≤ c) (h4 : c ≤ e) (h5 : e ≤ n 1) (hP : PAr M P)
    (h : ∀ M', PAr M' (kps (mpK A (lcT (A 0) (A 1) b e) b e a c) P) → (∀ k, k ≠ 94 → k ≠ 99 → M' k = M k) → Q M') : MetV g mX9_matchRows (d + 3) [vR 88, vI a, vI b, vI c, vI e] M Q := by
  have b1 := hA.2.2.1
  have b2 := hA.2.2.2.1
  have loop : ∀ (m : Nat) (i j : Int) (M1 : AM) (P1 : LF), (b - i).toNat + (e - j).toNat = m → a ≤ i → i ≤ b → c ≤ j → j ≤ e → (∀ i j, a ≤ i → i ≤ b → c ≤ j → j ≤ e → M1 99 (9 * i + j).toNat = lcT (A 0) (A 1) b e i j) → PAr M1 P1 → (∀ k, k ≠ 94 → k ≠ 99 → M1 k = M k) →
      (∀ M', PAr M' (kps (mpK A (lcT (A 0) (A 1) b e) b e i j) P1) → (∀ k, k ≠ 94 → k ≠ 99 → M' k = M k) → Q M') → S_X9_matchRows_15 g (d + 3) b e i j M1 Q := by
    intro m
    induction m using Nat.strongRecOn with
    | _ m ih =>
      intro i j M1 P1 hmm p1 p2 p3 p4 gT gP gF hk
      rw [mpK_eq] at hk
      have r : ∀ z : Int, 0 ≤ z → z ≤ 8 → rg z := fun z q1 q2 => ⟨by omega, by omega⟩
      refine sg_X9_matchRows_15 ⟨r i (by omega) (by omega), r b (by omega) (by omega), fun w => ?_, fun w => ⟨r j (by omega) (by omega), r e (by omega) (by omega), fun w2 => ?_, fun w2 => ?_⟩⟩
      · rw [if_neg (by omega)] at hk
        exact hk M1 gP gF
      · rw [if_neg (by omega)] at hk
        exact hk M1 gP gF
      · rw [if_pos (by omega)] at hk
        have hA1 : LAr M1 A n := hA.fr ⟨fun k q1 q2 => gF k (by omega) (by omega), fun j' _ _ _ => by rw [gF 88 (by decide) (by decide)]⟩
        have e1 := gT (i + 1) j (by omega) (by omega) p3 p4
        have e2 := gT i (j + 1) p1 p2 (by omega) (by omega)
        rw [← Int.add_assoc] at e2
        refine r_isSame hA1 ⟨by omega, by omega⟩ ⟨by omega, by omega⟩ (fun _ => ⟨fun c1 => ⟨⟨by omega, by omega⟩, ⟨by omega, by omega⟩, fun c2 => ?_, fun c2 => ?_⟩, fun c1 => ?_⟩)
        · have hne : ¬ A 0 i = A 1 j := fun q => by rw [bI_t q] at c1; cases c1
          rw [if_neg hne] at hk
          rw [e1, e2] at c2
          rw [if_neg (by omega)] at hk
          exact ih _ (by omega) i (j + 1) M1 P1 rfl p1 p2 (by omega) (by omega) gT gP gF hk
        · have hne : ¬ A 0 i = A 1 j := fun q => by rw [bI_t q] at c1; cases c1
          rw [if_neg hne] at hk
          rw [e1, e2] at c2
          rw [if_pos (by omega)] at hk
          exact ih _ (by omega) (i + 1) j M1 P1 rfl (by omega) (by omega) p3 p4 gT gP gF hk
        · have heq : A 0 i = A 1 j := Classical.byContradiction fun q => c1 (bI_f q)
          rw [if_pos heq] at hk
          refine r_keep ⟨by omega, by omega⟩ ⟨by omega, by omega⟩ ?_
          refine ih _ (by omega) (i + 1) (j + 1) _ (kp P1 i j) rfl (by omega) (by omega) (by omega) (by omega) ?_ (gP.keep ⟨by omega, by omega⟩ ⟨by omega, by omega⟩) (fun k q1 q2 => by rw [mU_ne q1, mU_ne q1]; exact gF k q1 q2) hk
          intro i' j' q1 q2 q3 q4
          rw [mU_ne (by omega), mU_ne (by omega)]
          exact gT i' j' q1 q2 q3 q4
  refine en_X9_matchRows (sg_X9_matchRows_0 ⟨⟨by omega, by omega⟩, ⟨by omega, by omega⟩, ⟨by omega, by omega⟩, ⟨by omega, by omega⟩, r_layCan hA h0 h1 h2 h3 h4 h5 (fun M1 k1 k2 => ?_)⟩)
  exact loop _ a c M1 P rfl (Int.le_refl _) h1 (Int.le_refl _) h4 k1 (hP.same (k2 _ (by decide))) (fun k _ q2 => k2 k q2) h
/-! the anchors in rows -/
def lO (L : List (Int × Int)) (k : Int) : Int := (L.getD k.toNat (0, 0)).1
def lN2 (L : List (Int × Int)) (k : Int) : Int := (L.getD k.toNat (0, 0)).2
def Wd (L : List (Int × Int)) (k : Int) : List (Int × Int × Int) := anW (L.drop k.toNat)
theorem drop_at {L : List (Int × Int)} {k : Int} (h0 : 0 ≤ k) (h : k < L.length) : L.drop k.toNat = (lO L k, lN2 L k) :: L.drop (k + 1).toNat := by
  have hk : k.toNat < L.length := by omega
  rw [List.drop_eq_getElem_cons hk, show (k + 1).toNat = k.toNat + 1 by omega]
  unfold lO lN2
  rw [show L.getD k.toNat (0, 0) = L[k.toNat] by simp [List.getD, hk]]
theorem Wd_at {L : List (Int × Int)} {k : Int} (h0 : 0 ≤ k) (h : k < L.length) : Wd L k = (lO L k, lN2 L k, 1 + mxl (lN2 L k) (Wd L (k + 1)) 0) :: Wd L (k + 1) := by
  unfold Wd
  rw [drop_at h0 h]
  rfl
theorem Wd_end {L : List (Int × Int)} {k : Int} (h : (L.length : Int) ≤ k) : Wd L k = [] := by
  unfold Wd
  rw [List.drop_eq_nil_of_le (by omega)]
  rfl
def lLn (L : List (Int × Int)) (k : Int) : Int := 1 + mxl (lN2 L k) (Wd L (k + 1)) 0
theorem Wd_len {L : List (Int × Int)} {k : Int} (h0 : 0 ≤ k) (hk : k ≤ L.length) (q : Int × Int × Int) (h : q ∈ Wd L k) : 1 ≤ q.2.2 ∧ q.2.2 ≤ L.length - k := by
  have h1 := anW_mem _ q h
  rw [List.length_drop] at h1
  omega
theorem lLn_r {L : List (Int × Int)} {k : Int} (h0 : 0 ≤ k) (h : k < L.length) : 1 ≤ lLn L k ∧ lLn L k ≤ L.length - k := by
  unfold lLn
  have h1 := mxl_r (lN2 L k) (Wd L (k + 1)) 0
  have h2 := mxl_ub (lN2 L k) (L.length - k - 1) (Wd L (k + 1)) 0 (fun q hq => by have := (Wd_len (by omega) (by omega) q hq).2; omega) (by omega)
  omega
theorem r_layAnchors {Q : Int → AM → Prop} {a b c e : Int} (hA : LAr M A n) (h0 : 0 ≤ a) (h1 : a ≤ b) (h2 : b ≤ n 0) (h3 : 0 ≤ c) (h4 : c ≤ e) (h5 : e ≤ n 1)
    (h : ∀ M', (∀ k : Int, 0 ≤ k → k < (anL A a b c e a).length → M' 96 k.toNat = lO (anL A a b c e a) k ∧ M' 97 k.toNat = lN2 (anL A a b c e a) k ∧ M' 98 k.toNat = lLn (anL A a b c e a) k) → (∀ k, k ≠ 96 → k ≠ 97 → k ≠ 98 → M' k = M k) → Q (anL A a b c e a).length M') : MetI g mX9_layAnchors (d + 2) [vR 88, vI a, vI b, vI c, vI e] M Q := by
  have b1 := hA.2.2.1
  have b2 := hA.2.2.2.1
  refine MetI.rm (fun hRM => ?_)
  generalize hL : anL A a b c e a = L at h
  have hlen : (L.length : Int) ≤ b - a := by
    have := anL_len (A := A) (a := a) (b := b) (c := c) (e := e) _ a rfl
    rw [hL] at this
    omega
  -- the lengths
  have ph2 : ∀ (m : Nat) (i : Int) (M1 : AM), i + 1 = m → i < L.length → (∀ k : Int, 0 ≤ k → k < L.length → M1 96 k.toNat = lO L k ∧ M1 97 k.toNat = lN2 L k) → (∀ k : Int, i < k → k < L.length → M1 98 k.toNat = lLn L k) → (∀ k, k ≠ 96 → k ≠ 97 → k ≠ 98 → M1 k = M k) → S_X9_layAnchors_106 g (d + 2) L.length i M1 Q := by
    intro m
    induction m with
    | zero =>
      intro i M1 hi hil g1 g2 g3
      refine sg_X9_layAnchors_106 ⟨⟨by omega, by omega⟩, fun _ => ⟨⟨by omega, by omega⟩, h M1 (fun k q0 q1 => ⟨(g1 k q0 q1).1, (g1 k q0 q1).2, g2 k (by omega) q1⟩) g3⟩, fun w => by omega⟩
    | succ m ih =>
      intro i M1 hi hil g1 g2 g3
      refine sg_X9_layAnchors_106 ⟨⟨by omega, by omega⟩, fun w => by omega, fun _ => ⟨⟨by omega, by omega⟩, ?_⟩⟩
      have inner : ∀ (k : Nat) (j acc : Int) (M2 : AM), (L.length : Int) = j + k → i < j → 0 ≤ acc → acc ≤ L.length - i - 1 → (∀ k : Int, 0 ≤ k → k < L.length → M2 96 k.toNat = lO L k ∧ M2 97 k.toNat = lN2 L k) → (∀ k : Int, i < k → k < L.length → M2 98 k.toNat = lLn L k) → M2 98 i.toNat = 1 + acc → (∀ k, k ≠ 96 → k ≠ 97 → k ≠ 98 → M2 k = M k) → mxl (lN2 L i) (Wd L j) acc = mxl (lN2 L i) (Wd L (i + 1)) 0 → S_X9_layAnchors_125 g (d + 2) L.length i j M2 Q := by
        intro k
        induction k with
        | zero =>
          intro j acc M2 hj hij p0 p8 q1 q2 q3 q4 q5
          refine sg_X9_layAnchors_125 ⟨⟨by omega, by omega⟩, ⟨by omega, by omega⟩, fun _ => ?_, fun w => by omega⟩
          rw [Wd_end (by omega)] at q5
          have q5 : acc = mxl (lN2 L i) (Wd L (i + 1)) 0 := q5
          refine ih (i + -1) M2 (by omega) (by omega) q1 (fun k w1 w2 => ?_) q4
          by_cases ek : k = i
          · subst ek
            rw [q3, q5]
            rfl
          · exact q2 k (by omega) w2
        | succ k ihk =>
          intro j acc M2 hj hij p0 p8 q1 q2 q3 q4 q5
          have e1 := (q1 j (by omega) (by omega)).2
          have e2 := (q1 i (by omega) hil).2
          have e3 := q2 j hij (by omega)
          have r3 := lLn_r (L := L) (k := j) (by omega) (by omega)
          rw [Wd_at (by omega) (by omega), mxl_cons] at q5
          dsimp only at q5
          refine sg_X9_layAnchors_125 ⟨⟨by omega, by omega⟩, ⟨by omega, by omega⟩, fun w => by omega, fun _ => ⟨⟨by omega, by omega⟩, ⟨by omega, by omega⟩, fun w => ?_, fun w => ⟨⟨by omega, by omega⟩, fun w2 => ?_, fun w2 => ?_⟩⟩⟩
          · rw [e1, e2] at w
            rw [if_neg (by omega)] at q5
            exact ihk (j + 1) acc M2 (by omega) (by omega) p0 p8 q1 q2 q3 q4 q5
          · rw [e1, e2] at w
            rw [e3, q3] at w2
            rw [if_neg (fun z => by have := z.2; unfold lLn at w2; omega)] at q5
            exact ihk (j + 1) acc M2 (by omega) (by omega) p0 p8 q1 q2 q3 q4 q5
          · rw [e1, e2] at w
            rw [e3, q3] at w2
            rw [if_pos (by unfold lLn at w2; omega)] at q5
            refine ihk (j + 1) (lLn L j) _ (by omega) (by omega) (by omega) (by omega) (fun k w1 w2 => by rw [mU_ne (by decide), mU_ne (by decide)]; exact q1 k w1 w2) (fun k w1 w2 => by rw [mU_nej (by omega)]; exact q2 k w1 w2) (by rw [mU_at, e3]; omega) (fun k w1 w2 w3 => by rw [mU_ne w3]; exact q4 k w1 w2 w3) q5
      refine inner (L.length - i - 1).toNat (i + 1) 0 _ (by omega) (by omega) (by omega) (by omega) (fun k w1 w2 => by rw [mU_ne (by decide), mU_ne (by decide)]; exact g1 k w1 w2) (fun k w1 w2 => by rw [mU_nej (by omega)]; exact g2 k w1 w2) mU_at (fun k w1 w2 w3 => by rw [mU_ne w3]; exact g3 k w1 w2 w3) rfl
  -- the anchors
  have ph1 : ∀ (m : Nat) (x l : Int) (M1 : AM), b = x + m → a ≤ x → 0 ≤ l → (l : Int) + (anL A a b c e x).length = L.length → L.drop l.toNat = anL A a b c e x → (∀ k : Int, 0 ≤ k → k < l → M1 96 k.toNat = lO L k ∧ M1 97 k.toNat = lN2 L k) → (∀ k, k ≠ 96 → k ≠ 97 → k ≠ 98 → M1 k = M k) → S_X9_layAnchors_6 g (d + 2) a b c e l x M1 Q := by
    intro m
    induction m with
    | zero =>
      intro x l M1 hx hax l0 hl hd g1 g3
      refine sg_X9_layAnchors_6 ⟨⟨by omega, by omega⟩, ⟨by omega, by omega⟩, fun _ => ?_, fun w => by omega⟩
      have he : (anL A a b c e x).length = 0 := by
        rw [anL_eq, if_neg (by omega)]
        rfl
      rw [show l = (L.length : Int) by omega]
      rw [show l = (L.length : Int) by omega] at g1
      exact ph2 L.length (L.length - 1) M1 (by omega) (by omega) g1 (fun k w1 w2 => by omega) g3
    | succ m ih =>
      intro x l M1 hx hax l0 hl hd g1 g3
      have hA1 : LAr M1 A n := hA.fr ⟨fun k q1 q2 => g3 k (by omega) (by omega) (by omega), fun j' _ _ _ => by rw [g3 88 (by decide) (by decide) (by decide)]⟩
      have ex := hA1.2.2.2.2 0 x (Or.inl rfl) (by omega) (by omega)
      rw [show (16 : Int) * 0 + x = x by omega] at ex
      have rx : rg (A 0 x) := by
        rw [← ex, g3 92 (by decide) (by decide) (by decide)]
        exact hRM _ _ (by omega)
      have hl8 : (l : Int) ≤ b - a := by omega
      have skip : ¬ isAn A a b c e x → S_X9_layAnchors_6 g (d + 2) a b c e l (x + 1) M1 Q := by
        intro hn
        have e0 : anL A a b c e x = anL A a b c e (x + 1) := by rw [anL_eq, if_pos (by omega), if_neg hn]
        rw [e0] at hl hd
        exact ih (x + 1) l M1 (by omega) (by omega) l0 hl hd g1 g3
      refine sg_X9_layAnchors_6 ⟨⟨by omega, by omega⟩, ⟨by omega, by omega⟩, fun w => by omega, fun _ => ⟨⟨by omega, by omega⟩, ⟨by omega, by omega⟩, ?_⟩⟩
      rw [ex]
      have ta := r_timesIn (g := g) (d := d) (M := M1) (A := A) (n := n) (v := A 0 x) (s := 0) (st := a) (en := b) (Q := fun z8 M7 => rg z8 → ((¬ z8 = 1 → S_X9_layAnchors_6 g (d + 2) a b c e l (x + 1) M7 Q) ∧ (z8 = 1 → (rg (16 + c) ∧ (rg (16 + e) ∧ (MetI g mX9_timesIn (d + 1) [vR 88, vI (M7 92 x.toNat), vI (16 + c), vI (16 + e)] M7 (fun z15 M14 => rg z15 → ((¬ z15 = 1 → S_X9_layAnchors_6 g (d + 2) a b c e l (x + 1) M14 Q) ∧ (z15 = 1 → S_X9_layAnchors_56 g (d + 2) a b c e l x c M14 Q))))))))) hA1 (Or.inl rfl) h0 h1 h2 rx
      rw [show (16 : Int) * 0 + a = a by omega, show (16 : Int) * 0 + b = b by omega] at ta
      refine ta (fun _ => ⟨fun w => skip (fun q => w q.1), fun w => ⟨⟨by omega, by omega⟩, ⟨by omega, by omega⟩, ?_⟩⟩)
      rw [ex]
      have tb := r_timesIn (g := g) (d := d) (M := M1) (A := A) (n := n) (v := A 0 x) (s := 1) (st := c) (en := e) (Q := fun z15 M14 => rg z15 → ((¬ z15 = 1 → S_X9_layAnchors_6 g (d + 2) a b c e l (x + 1) M14 Q) ∧ (z15 = 1 → S_X9_layAnchors_56 g (d + 2) a b c e l x c M14 Q))) hA1 (Or.inr rfl) h3 h4 h5 rx
      rw [show (16 : Int) * 1 + c = 16 + c by omega, show (16 : Int) * 1 + e = 16 + e by omega] at tb
      refine tb (fun _ => ⟨fun w2 => skip (fun q => w2 q.2), fun w2 => ?_⟩)
      have hy : isAn A a b c e x := ⟨w, w2⟩
      obtain ⟨p1, p2, p3, p4⟩ := plc_ok (A 1) (A 0 x) _ c e rfl (by rw [w2]; omega)
      have e0 : anL A a b c e x = (x, plc (A 1) (A 0 x) c e) :: anL A a b c e (x + 1) := by rw [anL_eq, if_pos (by omega), if_pos hy]
      rw [e0] at hl hd
      simp only [List.length_cons] at hl
      have hdd := drop_at (L := L) (k := l) l0 (by omega)
      rw [hd] at hdd
      obtain ⟨hd1, hd2⟩ := List.cons.inj hdd
      obtain ⟨hd3, hd4⟩ := Prod.mk.inj hd1
      have find : ∀ (k : Nat) (y : Int), plc (A 1) (A 0 x) c e = y + k → c ≤ y → S_X9_layAnchors_56 g (d + 2) a b c e l x y M1 Q := by
        intro k
        induction k with
        | zero =>
          intro y hy2 hcy
          refine sg_X9_layAnchors_56 ⟨⟨by omega, by omega⟩, ⟨by omega, by omega⟩, r_isSame hA1 ⟨by omega, by omega⟩ ⟨by omega, by omega⟩ (fun _ => ⟨fun _ => ⟨⟨by omega, by omega⟩, ?_⟩, fun w3 => ?_⟩)⟩
          · refine ih (x + 1) (l + 1) _ (by omega) (by omega) (by omega) (by omega) hd2.symm (fun k w3 w4 => ?_) (fun k w3 w4 w5 => by rw [mU_ne w4, mU_ne w3]; exact g3 k w3 w4 w5)
            by_cases ek : k = l
            · subst ek
              rw [mU_ne (by decide), mU_at, mU_at]
              exact ⟨hd3, by rw [← hd4, hy2]; omega⟩
            · rw [mU_ne (by decide), mU_nej (by omega), mU_nej (by omega), mU_ne (by decide)]
              exact g1 k w3 (by omega)
          · rw [bI_t (by rw [← p3, hy2]; congr 1; omega)] at w3
            cases w3
        | succ k ihk =>
          intro y hy2 hcy
          refine sg_X9_layAnchors_56 ⟨⟨by omega, by omega⟩, ⟨by omega, by omega⟩, r_isSame hA1 ⟨by omega, by omega⟩ ⟨by omega, by omega⟩ (fun _ => ⟨fun w3 => ?_, fun _ => ihk (y + 1) (by omega) (by omega)⟩)⟩
          exact absurd (bI_f (fun q => p4 y hcy (by omega) q.symm)) w3
      exact find (plc (A 1) (A 0 x) c e - c).toNat c (by omega) (Int.le_refl _)
  exact en_X9_layAnchors (sg_X9_layAnchors_0 (ph1 (b - a).toNat a 0 M (by omega) (Int.le_refl _) (Int.le_refl _) (by rw [hL]; omega) (by rw [hL]; rfl) (fun k w1 w2 => by omega) (fun _ _ _ _ => rfl)))
end RMATCH1
