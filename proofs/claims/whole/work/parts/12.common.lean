/-! the most that two rows have in the same order: the table, and Common.most -/
def lcN (a b : Int → Int) (i1 j1 : Int) : Nat → Nat → Int
  | 0, _ => 0
  | _ + 1, 0 => 0
  | p + 1, q + 1 => if a (i1 - (p + 1 : Nat)) = b (j1 - (q + 1 : Nat)) then lcN a b i1 j1 p q + 1 else
      if lcN a b i1 j1 p (q + 1) < lcN a b i1 j1 (p + 1) q then lcN a b i1 j1 (p + 1) q else lcN a b i1 j1 p (q + 1)
termination_by p q => p + q
def lcT (a b : Int → Int) (i1 j1 i j : Int) : Int := lcN a b i1 j1 (i1 - i).toNat (j1 - j).toNat
theorem lcN_q0 (a b : Int → Int) (i1 j1 : Int) (p : Nat) : lcN a b i1 j1 p 0 = 0 := by cases p <;> rw [lcN]
theorem lcN_p0 (a b : Int → Int) (i1 j1 : Int) (q : Nat) : lcN a b i1 j1 0 q = 0 := by rw [lcN]
theorem lcT_end {a b : Int → Int} {i1 j1 i j : Int} (h : i1 ≤ i ∨ j1 ≤ j) : lcT a b i1 j1 i j = 0 := by
  unfold lcT
  rcases h with h | h
  · rw [show (i1 - i).toNat = 0 by omega, lcN_p0]
  · rw [show (j1 - j).toNat = 0 by omega, lcN_q0]
theorem lcT_eq {a b : Int → Int} {i1 j1 i j : Int} (hi : i < i1) (hj : j < j1) (h : a i = b j) : lcT a b i1 j1 i j = lcT a b i1 j1 (i + 1) (j + 1) + 1 := by
  unfold lcT
  obtain ⟨p, hp⟩ : ∃ p : Nat, (i1 - i).toNat = p + 1 := ⟨(i1 - i).toNat - 1, by omega⟩
  obtain ⟨q, hq⟩ : ∃ q : Nat, (j1 - j).toNat = q + 1 := ⟨(j1 - j).toNat - 1, by omega⟩
  rw [hp, hq, lcN, show (i1 - (i + 1)).toNat = p by omega, show (j1 - (j + 1)).toNat = q by omega]
  rw [show i1 - ((p + 1 : Nat) : Int) = i by omega, show j1 - ((q + 1 : Nat) : Int) = j by omega, if_pos h]
theorem lcT_ne {a b : Int → Int} {i1 j1 i j : Int} (hi : i < i1) (hj : j < j1) (h : ¬ a i = b j) : lcT a b i1 j1 i j = if lcT a b i1 j1 (i + 1) j < lcT a b i1 j1 i (j + 1) then lcT a b i1 j1 i (j + 1) else lcT a b i1 j1 (i + 1) j := by
  unfold lcT
  obtain ⟨p, hp⟩ : ∃ p : Nat, (i1 - i).toNat = p + 1 := ⟨(i1 - i).toNat - 1, by omega⟩
  obtain ⟨q, hq⟩ : ∃ q : Nat, (j1 - j).toNat = q + 1 := ⟨(j1 - j).toNat - 1, by omega⟩
  rw [hp, hq, lcN, show (i1 - (i + 1)).toNat = p by omega, show (j1 - (j + 1)).toNat = q by omega]
  rw [show i1 - ((p + 1 : Nat) : Int) = i by omega, show j1 - ((q + 1 : Nat) : Int) = j by omega, if_neg h]
theorem lcN_r (a b : Int → Int) (i1 j1 : Int) : ∀ (n p q : Nat), p + q = n → 0 ≤ lcN a b i1 j1 p q ∧ lcN a b i1 j1 p q ≤ p ∧ lcN a b i1 j1 p q ≤ q := by
  intro n
  induction n using Nat.strongRecOn with
  | _ n ih =>
    intro p q hn
    cases p with
    | zero => rw [lcN_p0]; omega
    | succ p =>
      cases q with
      | zero => rw [lcN_q0]; omega
      | succ q =>
        have h1 := ih (p + q) (by omega) p q rfl
        have h2 := ih (p + (q + 1)) (by omega) p (q + 1) rfl
        have h3 := ih (p + 1 + q) (by omega) (p + 1) q rfl
        rw [lcN]
        split
        · omega
        · split <;> omega
theorem lcT_r (a b : Int → Int) (i1 j1 i j : Int) (hi : i ≤ i1) (hj : j ≤ j1) : 0 ≤ lcT a b i1 j1 i j ∧ lcT a b i1 j1 i j ≤ i1 - i ∧ lcT a b i1 j1 i j ≤ j1 - j := by
  have := lcN_r a b i1 j1 _ (i1 - i).toNat (j1 - j).toNat rfl
  unfold lcT
  omega
theorem lcN_congr {a b a' b' : Int → Int} {i1 j1 : Int} {i0 j0 : Int} (ha : ∀ i, i0 ≤ i → i < i1 → a i = a' i) (hb : ∀ j, j0 ≤ j → j < j1 → b j = b' j) : ∀ (n p q : Nat), p + q = n → i0 ≤ i1 - p → j0 ≤ j1 - q → lcN a b i1 j1 p q = lcN a' b' i1 j1 p q := by
  intro n
  induction n using Nat.strongRecOn with
  | _ n ih =>
    intro p q hn h1 h2
    cases p with
    | zero => rw [lcN_p0, lcN_p0]
    | succ p =>
      cases q with
      | zero => rw [lcN_q0, lcN_q0]
      | succ q =>
        rw [lcN, lcN, ih (p + q) (by omega) p q rfl (by omega) (by omega), ih (p + (q + 1)) (by omega) p (q + 1) rfl (by omega) (by omega), ih (p + 1 + q) (by omega) (p + 1) q rfl (by omega) (by omega), ha _ (by omega) (by omega), hb _ (by omega) (by omega)]
theorem lcT_congr {a b a' b' : Int → Int} {i1 j1 i j : Int} (hi : i ≤ i1) (hj : j ≤ j1) (ha : ∀ k, i ≤ k → k < i1 → a k = a' k) (hb : ∀ k, j ≤ k → k < j1 → b k = b' k) : lcT a b i1 j1 i j = lcT a' b' i1 j1 i j := by
  unfold lcT
  exact lcN_congr ha hb _ _ _ rfl (by omega) (by omega)
section COMMON
variable {g : AG} {d : Nat} {M : AM} {f a1 n1 a2 n2 : Nat} {Q : Int → AM → Prop}
theorem c_most {s1 e1 s2 e2 : Int} (hc : IsCommon f) (ha1 : KD[a1]? = some (.inr (.inl n1))) (ha2 : KD[a2]? = some (.inr (.inl n2))) (h1 : 0 ≤ s1 ∧ s1 ≤ e1 ∧ e1 ≤ n1 ∧ e1 ≤ 8) (h2 : 0 ≤ s2 ∧ s2 ≤ e2 ∧ e2 ≤ n2 ∧ e2 ≤ 8) (o1 : a1 < f + 2 ∨ f + 11 ≤ a1) (o2 : a2 < f + 2 ∨ f + 11 ≤ a2)
    (h : ∀ M', (∀ i j, s1 ≤ i → i ≤ e1 → s2 ≤ j → j ≤ e2 → M' (f + 2 + i.toNat) j.toNat = lcT (fun i => M a1 i.toNat) (fun j => M a2 j.toNat) e1 e2 i j) → (∀ k, k < f + 2 ∨ f + 11 ≤ k → M' k = M k) → Q (lcT (fun i => M a1 i.toNat) (fun j => M a2 j.toNat) e1 e2 s1 s2) M') :
    MetI g mX0_most (d + 1) [vR f, vR a1, vI s1, vI e1, vR a2, vI s2, vI e2] M Q := by
  generalize hT : lcT (fun i => M a1 i.toNat) (fun j => M a2 j.toNat) e1 e2 = T at h
  have T0 : ∀ i j, e1 ≤ i ∨ e2 ≤ j → T i j = 0 := fun i j q => by rw [← hT]; exact lcT_end q
  have T1 : ∀ i j, i < e1 → j < e2 → M a1 i.toNat = M a2 j.toNat → T i j = T (i + 1) (j + 1) + 1 := fun i j q1 q2 q3 => by rw [← hT]; exact lcT_eq q1 q2 q3
  have T2 : ∀ i j, i < e1 → j < e2 → ¬ M a1 i.toNat = M a2 j.toNat → T i j = if T (i + 1) j < T i (j + 1) then T i (j + 1) else T (i + 1) j := fun i j q1 q2 q3 => by rw [← hT]; exact lcT_ne q1 q2 q3
  have Tr : ∀ i j, i ≤ e1 → j ≤ e2 → 0 ≤ T i j ∧ T i j ≤ e1 - i := fun i j q1 q2 => by rw [← hT]; have := lcT_r (fun i => M a1 i.toNat) (fun j => M a2 j.toNat) e1 e2 i j q1 q2; exact ⟨this.1, this.2.1⟩
  clear hT
  let Done : Int → Int → AM → Prop := fun i j M1 => (∀ i' j', s1 ≤ i' → i' ≤ e1 → s2 ≤ j' → j' ≤ e2 → (i < i' ∨ (i = i' ∧ j < j')) → M1 (f + 2 + i'.toNat) j'.toNat = T i' j') ∧ ∀ k, k < f + 2 ∨ f + 11 ≤ k → M1 k = M k
  have wr : ∀ (i j : Int) (M1 : AM) (v : Int), s1 ≤ i → i ≤ e1 → s2 ≤ j → j ≤ e2 → Done i j M1 → v = T i j → Done i (j + -1) (mU M1 (f + 2 + i.toNat) j.toNat v) := by
    intro i j M1 v q1 q2 q3 q4 D hv
    refine ⟨fun i' j' p1 p2 p3 p4 p5 => ?_, fun k hk => ?_⟩
    · by_cases e : i' = i ∧ j' = j
      · obtain ⟨rfl, rfl⟩ := e
        rw [mU_at, hv]
      · by_cases ei : i' = i
        · subst ei
          rw [mU_nej (by omega)]
          exact D.1 i' j' p1 p2 p3 p4 (by omega)
        · rw [mU_ne (by omega)]
          exact D.1 i' j' p1 p2 p3 p4 (by omega)
    · rw [mU_ne (by omega)]
      exact D.2 k hk
  have inner : ∀ (i : Int), s1 ≤ i → i ≤ e1 → (∀ M2, Done (i - 1) e2 M2 → S_X0_most_3 g (d + 1) f a1 n1 a2 n2 s1 e1 s2 e2 (i - 1) M2 Q) → ∀ (m : Nat) (j : Int) (M1 : AM), j = s2 - 1 + m → j ≤ e2 → Done i j M1 → S_X0_most_13 g (d + 1) f a1 n1 a2 n2 s1 e1 s2 e2 i j M1 Q := by
    intro i hi1 hi2 out m
    induction m with
    | zero =>
      intro j M1 hj hj2 D
      refine sg_X0_most_13 hc ha1 ha2 ⟨⟨by omega, by omega⟩, ⟨by omega, by omega⟩, fun c => ?_, fun c => by omega⟩
      rw [show i + -1 = i - 1 by omega]
      refine out M1 ⟨fun i' j' p1 p2 p3 p4 p5 => D.1 i' j' p1 p2 p3 p4 (by omega), D.2⟩
    | succ m ih =>
      intro j M1 hj hj2 D
      have ih' := fun v (hv : v = T i j) => ih (j + -1) _ (by omega) (by omega) (wr i j M1 v hi1 hi2 (by omega) hj2 D hv)
      have ea1 : M1 a1 = M a1 := D.2 a1 o1
      have ea2 : M1 a2 = M a2 := D.2 a2 o2
      refine sg_X0_most_13 hc ha1 ha2 ⟨⟨by omega, by omega⟩, ⟨by omega, by omega⟩, fun c => by omega, fun c => ⟨⟨by omega, by omega⟩, ⟨by omega, by omega⟩, fun c1 => ⟨⟨by omega, by omega⟩, ⟨by omega, by omega⟩, ih' 0 (T0 i j (by omega)).symm⟩, fun c1 => ⟨⟨by omega, by omega⟩, fun c2 => ⟨⟨by omega, by omega⟩, ⟨by omega, by omega⟩, fun c3 => ⟨⟨by omega, by omega⟩, ⟨by omega, by omega⟩, ⟨by omega, by omega⟩, ⟨by omega, by omega⟩, ih' _ ?_⟩, fun c3 => ⟨⟨by omega, by omega⟩, ⟨by omega, by omega⟩, ⟨by omega, by omega⟩, ⟨by omega, by omega⟩, ?_, ih' _ ?_⟩⟩, fun c2 => ⟨⟨by omega, by omega⟩, ⟨by omega, by omega⟩, ih' 0 (T0 i j (by omega)).symm⟩⟩⟩⟩
      · rw [ea1, ea2] at c3
        rw [D.1 (i + 1) j (by omega) (by omega) (by omega) (by omega) (by omega), D.1 i (j + 1) (by omega) (by omega) (by omega) (by omega) (by omega), T2 i j (by omega) (by omega) c3]
      · rw [D.1 (i + 1) (j + 1) (by omega) (by omega) (by omega) (by omega) (by omega)]
        have := Tr (i + 1) (j + 1) (by omega) (by omega)
        exact ⟨by omega, by omega⟩
      · rw [ea1, ea2] at c3
        rw [D.1 (i + 1) (j + 1) (by omega) (by omega) (by omega) (by omega) (by omega), T1 i j (by omega) (by omega) c3]
  have outer : ∀ (m : Nat) (i : Int) (M1 : AM), i = s1 - 1 + m → i ≤ e1 → Done i e2 M1 → S_X0_most_3 g (d + 1) f a1 n1 a2 n2 s1 e1 s2 e2 i M1 Q := by
    intro m
    induction m with
    | zero =>
      intro i M1 hi hi2 D
      refine sg_X0_most_3 hc ha1 ha2 ⟨⟨by omega, by omega⟩, ⟨by omega, by omega⟩, fun c => ⟨⟨by omega, by omega⟩, ⟨by omega, by omega⟩, ?_⟩, fun c => by omega⟩
      rw [D.1 s1 s2 (by omega) (by omega) (by omega) (by omega) (by omega)]
      exact h M1 (fun i' j' p1 p2 p3 p4 => D.1 i' j' p1 p2 p3 p4 (by omega)) D.2
    | succ m ih =>
      intro i M1 hi hi2 D
      refine sg_X0_most_3 hc ha1 ha2 ⟨⟨by omega, by omega⟩, ⟨by omega, by omega⟩, fun c => by omega, fun c => ?_⟩
      exact inner i (by omega) hi2 (fun M2 D2 => ih (i - 1) M2 (by omega) (by omega) D2) (e2 - s2 + 1).toNat e2 M1 (by omega) (by omega) D
  refine en_X0_most (sg_X0_most_0 hc ha1 ha2 (outer (e1 - s1 + 1).toNat e1 M (by omega) (by omega) ⟨fun i' j' p1 p2 p3 p4 p5 => by omega, fun _ _ => rfl⟩))
end COMMON
