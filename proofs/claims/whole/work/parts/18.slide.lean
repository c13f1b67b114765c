/-! SLIDES: as a pure function, and the class's slideGaps -/
def cb (P : LF) (s i : Int) : Int := if 0 < i ∧ P s (i - 1) = -1 then 1 + cb P s (i - 1) else 0
termination_by i.toNat
decreasing_by all_goals omega
theorem cb_eq (P : LF) (s i : Int) : cb P s i = if 0 < i ∧ P s (i - 1) = -1 then 1 + cb P s (i - 1) else 0 := by rw [cb]
theorem cb_r (P : LF) (s : Int) : ∀ (m : Nat) (i : Int), i.toNat = m → 0 ≤ cb P s i ∧ (0 ≤ i → cb P s i ≤ i) := by
  intro m
  induction m with
  | zero =>
    intro i hi
    rw [cb_eq, if_neg (by omega)]
    omega
  | succ m ih =>
    intro i hi
    rw [cb_eq]
    have := ih (i - 1) (by omega)
    split <;> omega
def sl1 (P : LF) (s gs ge go : Int) : LF := f2 (f2 (f2 P s (gs - 1) (-1)) s (ge - 1) (go - 1)) (1 - s) (go - 1) (ge - 1)
abbrev mayS (A P : LF) (s gs ge go : Int) : Prop := 1 ≤ gs ∧ 1 ≤ go ∧ ¬ P s (gs - 1) = -1 ∧ ¬ P (1 - s) (go - 1) = -1 ∧ A s (gs - 1) = A s (ge - 1)
def slp (A : LF) (P : LF) (s gs ge go : Int) : LF × Int :=
  if mayS A P s gs ge go then ((slp A (sl1 P s gs ge go) s (gs - 1) (ge - 1) (go - 1)).1, (slp A (sl1 P s gs ge go) s (gs - 1) (ge - 1) (go - 1)).2 + 1) else (P, 0)
termination_by gs.toNat
decreasing_by all_goals omega
theorem slp_eq (A P : LF) (s gs ge go : Int) : slp A P s gs ge go = if mayS A P s gs ge go then ((slp A (sl1 P s gs ge go) s (gs - 1) (ge - 1) (go - 1)).1, (slp A (sl1 P s gs ge go) s (gs - 1) (ge - 1) (go - 1)).2 + 1) else (P, 0) := by rw [slp]
theorem slp_r (A : LF) (s : Int) : ∀ (m : Nat) (P : LF) (gs ge go : Int), gs.toNat = m → 0 ≤ (slp A P s gs ge go).2 ∧ (0 ≤ gs → (slp A P s gs ge go).2 ≤ gs) ∧ (0 ≤ go → (slp A P s gs ge go).2 ≤ go) := by
  intro m
  induction m with
  | zero =>
    intro P gs ge go hm
    rw [slp_eq, if_neg (by omega)]
    dsimp only
    omega
  | succ m ih =>
    intro P gs ge go hm
    rw [slp_eq]
    split
    · next h =>
      have := ih (sl1 P s gs ge go) (gs - 1) (ge - 1) (go - 1) (by omega)
      dsimp only
      omega
    · dsimp only
      omega
/-- one gap's turn: the matching, how often it slid, where the gap begins then -/
def tn (A P : LF) (i j : Int) : LF × Int × Int × Int :=
  if (0 < cb P 0 i ∧ 0 < cb P 1 j) ∨ (cb P 0 i = 0 ∧ cb P 1 j = 0) then
    (P, 0, i - cb P 0 i - cb P 0 (i - cb P 0 i), j - cb P 1 j - cb P 1 (j - cb P 1 j))
  else if 0 < cb P 0 i then
    ((slp A P 0 (i - cb P 0 i) i j).1, (slp A P 0 (i - cb P 0 i) i j).2, i - cb P 0 i - (slp A P 0 (i - cb P 0 i) i j).2 - cb (slp A P 0 (i - cb P 0 i) i j).1 0 (i - cb P 0 i - (slp A P 0 (i - cb P 0 i) i j).2), j - (slp A P 0 (i - cb P 0 i) i j).2 - cb (slp A P 0 (i - cb P 0 i) i j).1 1 (j - (slp A P 0 (i - cb P 0 i) i j).2))
  else
    ((slp A P 1 (j - cb P 1 j) j i).1, (slp A P 1 (j - cb P 1 j) j i).2, i - (slp A P 1 (j - cb P 1 j) j i).2 - cb (slp A P 1 (j - cb P 1 j) j i).1 0 (i - (slp A P 1 (j - cb P 1 j) j i).2), j - cb P 1 j - (slp A P 1 (j - cb P 1 j) j i).2 - cb (slp A P 1 (j - cb P 1 j) j i).1 1 (j - cb P 1 j - (slp A P 1 (j - cb P 1 j) j i).2))
def sA (A : LF) : Nat → LF → Int → Int → LF × Int
  | 0, P, _, _ => (P, 0)
  | f + 1, P, i, j =>
    if (tn A P i j).2.2.1 ≤ 0 ∨ (tn A P i j).2.2.2 ≤ 0 then ((tn A P i j).1, (tn A P i j).2.1)
    else ((sA A f (tn A P i j).1 ((tn A P i j).2.2.1 - 1) ((tn A P i j).2.2.2 - 1)).1, (tn A P i j).2.1 + (sA A f (tn A P i j).1 ((tn A P i j).2.2.1 - 1) ((tn A P i j).2.2.2 - 1)).2)
theorem tn_r (A P : LF) {i j : Int} (hi : 0 ≤ i) (hj : 0 ≤ j) : 0 ≤ (tn A P i j).2.1 ∧ (tn A P i j).2.1 ≤ i + j ∧ 0 ≤ (tn A P i j).2.2.1 ∧ (tn A P i j).2.2.1 ≤ i ∧ 0 ≤ (tn A P i j).2.2.2 ∧ (tn A P i j).2.2.2 ≤ j := by
  have c0 := cb_r P 0 _ i rfl
  have c1 := cb_r P 1 _ j rfl
  unfold tn
  split
  · have c2 := cb_r P 0 _ (i - cb P 0 i) rfl
    have c3 := cb_r P 1 _ (j - cb P 1 j) rfl
    dsimp only
    omega
  · split
    · have r := slp_r A 0 _ P (i - cb P 0 i) i j rfl
      generalize slp A P 0 (i - cb P 0 i) i j = S at r
      have c2 := cb_r S.1 0 _ (i - cb P 0 i - S.2) rfl
      have c3 := cb_r S.1 1 _ (j - S.2) rfl
      dsimp only
      omega
    · have r := slp_r A 1 _ P (j - cb P 1 j) j i rfl
      generalize slp A P 1 (j - cb P 1 j) j i = S at r
      have c2 := cb_r S.1 0 _ (i - S.2) rfl
      have c3 := cb_r S.1 1 _ (j - cb P 1 j - S.2) rfl
      dsimp only
      omega
theorem PAm.set {o : Nat} {M : AM} {P : LF} (h : PAm M o P) {s i v : Int} (hs : s = 0 ∨ s = 1) (hi : 0 ≤ i) : PAm (mU M (o + 7 + s.toNat) i.toNat v) o (f2 P s i v) := by
  intro s' i' hs' h0 h8
  unfold f2
  by_cases e : s' = s ∧ i' = i
  · obtain ⟨rfl, rfl⟩ := e
    rw [mU_at, if_pos ⟨rfl, rfl⟩]
  · rw [if_neg e]
    by_cases es : s' = s
    · subst es
      rw [mU_nej (by omega)]
      exact h s' i' hs' h0 h8
    · rw [mU_ne (by omega)]
      exact h s' i' hs' h0 h8
def FrS (o : Nat) (M M' : AM) : Prop := (∀ k, (k < o ∨ (o < k ∧ k < o + 7) ∨ (o + 8 < k ∧ k < o + 22) ∨ o + 23 < k) → M' k = M k) ∧ ∀ j, j ≠ 8 → M' o j = M o j
theorem FrS.rf (o : Nat) (M : AM) : FrS o M M := ⟨fun _ _ => rfl, fun _ _ => rfl⟩
theorem FrS.tr {o : Nat} {M M1 M2 : AM} (h1 : FrS o M M1) (h2 : FrS o M1 M2) : FrS o M M2 := ⟨fun k hk => (h2.1 k hk).trans (h1.1 k hk), fun j hj => (h2.2 j hj).trans (h1.2 j hj)⟩
theorem FrS.up {o : Nat} {M M1 : AM} (h1 : FrS o M M1) {k j : Nat} {z : Int} (hk : (o + 7 ≤ k ∧ k ≤ o + 8) ∨ (o + 22 ≤ k ∧ k ≤ o + 23)) : FrS o M (mU M1 k j z) := ⟨fun k' hk' => by rw [mU_ne (by omega)]; exact h1.1 k' hk', fun j' hj => by rw [mU_ne (by omega)]; exact h1.2 j' hj⟩
theorem FrS.up8 {o : Nat} {M M1 : AM} (h1 : FrS o M M1) {z : Int} : FrS o M (mU M1 o 8 z) := ⟨fun k' hk' => by rw [mU_ne (by omega)]; exact h1.1 k' hk', fun j' hj => by rw [mU_nej hj]; exact h1.2 j' hj⟩
theorem LAm.frS {o : Nat} {M M' : AM} {A : LF} {n : Int → Int} (h : LAm M o A n) (f : FrS o M M') : LAm M' o A n := by
  obtain ⟨h1, h2, h3, h4, h5⟩ := h
  refine ⟨by rw [f.1 _ (by omega)]; exact h1, by rw [f.1 _ (by omega)]; exact h2, h3, h4, fun s i hs h0 hi => ?_⟩
  rw [f.1 _ (by omega)]
  exact h5 s i hs h0 hi
section SLIDE
variable {g : AG} {d : Nat} {o : Nat} {A : LF} {n : Int → Int}
theorem c_widenGap {M : AM} {Q : AM → Prop} {P : LF} (hm : IsMatch o) (hP : PAm M o P) (h0 : 0 ≤ M (o + 22) 0 ∧ M (o + 22) 0 ≤ 8) (h1 : 0 ≤ M (o + 22) 1 ∧ M (o + 22) 1 ≤ 8) (h : ∀ M', M' (o + 22) 0 = M (o + 22) 0 - cb P 0 (M (o + 22) 0) → M' (o + 22) 1 = M (o + 22) 1 - cb P 1 (M (o + 22) 1) → (∀ k, k ≠ o + 22 → M' k = M k) → Q M') : MetV g mX2_widenGap (d + 1) [vR o] M Q := by
  have loop : ∀ (s : Int), s = 0 ∨ s = 1 → ∀ (m : Nat) (M1 : AM), (M1 (o + 22) s.toNat).toNat = m → 0 ≤ M1 (o + 22) s.toNat ∧ M1 (o + 22) s.toNat ≤ 8 → PAm M1 o P → (∀ M', M' (o + 22) s.toNat = M1 (o + 22) s.toNat - cb P s (M1 (o + 22) s.toNat) → M' (o + 22) (1 - s).toNat = M1 (o + 22) (1 - s).toNat → (∀ k, k ≠ o + 22 → M' k = M1 k) → S_X2_widenGap_2 g (d + 1) o (s + 1) M' Q) → S_X2_widenGap_7 g (d + 1) o s M1 Q := by
    intro s hs m
    induction m with
    | zero =>
      intro M1 hm1 hr hP1 hk
      refine sg_X2_widenGap_7 hm ⟨⟨by omega, by omega⟩, fun w => hk M1 ?_ rfl (fun _ _ => rfl), fun w => by omega⟩
      rw [cb_eq, if_neg (by omega)]
      omega
    | succ m ih =>
      intro M1 hm1 hr hP1 hk
      have eP := hP1 s (M1 (o + 22) s.toNat - 1) hs (by omega) (by omega)
      refine sg_X2_widenGap_7 hm ⟨⟨by omega, by omega⟩, fun w => by omega, fun w => ⟨⟨by omega, by omega⟩, fun w2 => ?_, fun w2 => ⟨⟨by omega, by omega⟩, ?_⟩⟩⟩
      · rw [eP] at w2
        refine hk M1 ?_ rfl (fun _ _ => rfl)
        rw [cb_eq, if_neg (fun z => w2 z.2)]
        omega
      · rw [eP] at w2
        have e0 : ∀ M2 : AM, M2 = mU M1 (o + 22) s.toNat (M1 (o + 22) s.toNat - 1) → M2 (o + 22) s.toNat = M1 (o + 22) s.toNat - 1 := fun M2 e => by rw [e, mU_at]
        refine ih _ (by rw [mU_at]; omega) (by rw [mU_at]; omega) (hP1.same (by rw [mU_ne (by omega)]) (by rw [mU_ne (by omega)])) (fun M' k1 k2 k3 => hk M' ?_ ?_ (fun k hk' => by rw [k3 k hk', mU_ne hk']))
        · rw [k1, mU_at, cb_eq P s (M1 (o + 22) s.toNat), if_pos ⟨by omega, w2⟩]
          omega
        · rw [k2, mU_nej (by omega)]
  refine en_X2_widenGap (sg_X2_widenGap_0 hm (sg_X2_widenGap_2 hm ⟨⟨by decide, by decide⟩, fun c => absurd c (by decide), fun _ => ?_⟩))
  refine loop 0 (Or.inl rfl) _ M rfl h0 hP (fun M1 a1 a2 a3 => ?_)
  refine sg_X2_widenGap_2 hm ⟨⟨by decide, by decide⟩, fun c => absurd c (by decide), fun _ => ?_⟩
  have a2 : M1 (o + 22) 1 = M (o + 22) 1 := a2
  refine loop 1 (Or.inr rfl) _ M1 rfl (by show 0 ≤ M1 (o + 22) 1 ∧ M1 (o + 22) 1 ≤ 8; rw [a2]; exact h1) (hP.same (a3 _ (by omega)) (a3 _ (by omega))) (fun M2 b1 b2 b3 => ?_)
  refine sg_X2_widenGap_2 hm ⟨⟨by decide, by decide⟩, fun _ => h M2 ?_ ?_ (fun k hk => (b3 k hk).trans (a3 k hk)), fun c => absurd (show (2 : Int) ≤ 0 + 1 + 1 by decide) c⟩
  · exact (show M2 (o + 22) 0 = M1 (o + 22) 0 from b2).trans a1
  · have b1 : M2 (o + 22) 1 = M1 (o + 22) 1 - cb P 1 (M1 (o + 22) 1) := b1
    rw [b1, a2]
theorem c_maySlide {M : AM} {Q : Int → AM → Prop} {P : LF} {s : Int} (hm : IsMatch o) (hs : s = 0 ∨ s = 1) (hA : LAm M o A n) (hP : PAm M o P) (b0 : M (o + 22) 0 ≤ 8) (b1 : M (o + 22) 1 ≤ 8) (h1 : M (o + 22) s.toNat < M (o + 23) s.toNat ∧ M (o + 23) s.toNat ≤ n s) (h : Q (bI (mayS A P s (M (o + 22) s.toNat) (M (o + 23) s.toNat) (M (o + 22) (1 - s).toNat))) M) : MetI g mX2_maySlide (d + 1) [vR o, vI s] M Q := by
  have bn : n s ≤ 8 := by
    have b1 := hA.2.2.1
    have b2 := hA.2.2.2.1
    rcases hs with rfl | rfl <;> omega
  have e0 : 1 ≤ M (o + 22) 0 → M (o + 7) (M (o + 22) 0 - 1).toNat = P 0 (M (o + 22) 0 - 1) := fun w => hP 0 _ (Or.inl rfl) (by omega) (by omega)
  have e1 : 1 ≤ M (o + 22) 1 → M (o + 8) (M (o + 22) 1 - 1).toNat = P 1 (M (o + 22) 1 - 1) := fun w => hP 1 _ (Or.inr rfl) (by omega) (by omega)
  have key : mayS A P s (M (o + 22) s.toNat) (M (o + 23) s.toNat) (M (o + 22) (1 - s).toNat) ↔ (1 ≤ M (o + 22) 0 ∧ 1 ≤ M (o + 22) 1 ∧ ¬ P 0 (M (o + 22) 0 - 1) = -1 ∧ ¬ P 1 (M (o + 22) 1 - 1) = -1 ∧ A s (M (o + 22) s.toNat - 1) = A s (M (o + 23) s.toNat - 1)) := by
    rcases hs with rfl | rfl
    · exact Iff.rfl
    · show (1 ≤ M (o + 22) 1 ∧ 1 ≤ M (o + 22) 0 ∧ ¬ P 1 (M (o + 22) 1 - 1) = -1 ∧ ¬ P 0 (M (o + 22) 0 - 1) = -1 ∧ _) ↔ _
      exact ⟨fun q => ⟨q.2.1, q.1, q.2.2.2.1, q.2.2.1, q.2.2.2.2⟩, fun q => ⟨q.2.1, q.1, q.2.2.2.1, q.2.2.1, q.2.2.2.2⟩⟩
  rw [bI_iff key] at h
  have hgs : 1 ≤ M (o + 22) 0 → 1 ≤ M (o + 22) 1 → 1 ≤ M (o + 22) s.toNat := fun q1 q2 => by rcases hs with rfl | rfl <;> assumption
  refine en_X2_maySlide (sg_X2_maySlide_0 hm ⟨fun w => ?_, fun w => ⟨fun w2 => ⟨⟨by omega, by omega⟩, fun w3 => ?_, fun w3 => ⟨⟨by omega, by omega⟩, fun w4 => ⟨⟨by omega, by omega⟩, ⟨by have := hgs (by omega) w2; omega, by omega⟩, ⟨by have := hgs (by omega) w2; omega, by omega⟩, fun w5 => ?_, fun w5 => ?_⟩, fun w4 => ?_⟩⟩, fun w2 => ?_⟩⟩)
  · rwa [bI_f (by omega)] at h
  · rw [e0 (by omega)] at w3
    rwa [bI_f (fun q => q.2.2.1 w3)] at h
  · have hg := hgs (by omega) w2
    rw [hA.2.2.2.2 s _ hs (by omega) (by omega), hA.2.2.2.2 s _ hs (by omega) (by omega)] at w5
    rwa [bI_f (fun q => w5 q.2.2.2.2)] at h
  · have hg := hgs (by omega) w2
    rw [hA.2.2.2.2 s _ hs (by omega) (by omega), hA.2.2.2.2 s _ hs (by omega) (by omega)] at w5
    rw [e0 (by omega)] at w3
    rw [e1 (by omega)] at w4
    rwa [bI_t ⟨by omega, w2, w3, w4, w5⟩] at h
  · rw [e1 (by omega)] at w4
    rwa [bI_f (fun q => q.2.2.2.1 w4)] at h
  · rwa [bI_f (by omega)] at h
theorem c_slideOnce {M : AM} {Q : AM → Prop} {P : LF} {s : Int} (hm : IsMatch o) (hs : s = 0 ∨ s = 1) (hP : PAm M o P) (hg0 : 1 ≤ M (o + 22) s.toNat) (hg1 : M (o + 22) s.toNat < M (o + 23) s.toNat) (hg2 : M (o + 23) s.toNat ≤ 8) (hg3 : M (o + 23) (1 - s).toNat = M (o + 22) (1 - s).toNat) (hg4 : 1 ≤ M (o + 22) (1 - s).toNat ∧ M (o + 22) (1 - s).toNat ≤ 8) (h8 : 0 ≤ M o 8 ∧ M o 8 ≤ 1000)
    (h : ∀ M', PAm M' o (sl1 P s (M (o + 22) s.toNat) (M (o + 23) s.toNat) (M (o + 22) (1 - s).toNat)) → M' o 8 = M o 8 + 1 → FrS o M M' → (∀ x : Nat, x < 2 → M' (o + 22) x = M (o + 22) x - 1 ∧ M' (o + 23) x = M (o + 23) x - 1) → Q M') : MetV g mX2_slideOnce (d + 1) [vR o, vI s] M Q := by
  have hall : ∀ x : Nat, x < 2 → 1 ≤ M (o + 22) x ∧ M (o + 22) x ≤ 8 ∧ 1 ≤ M (o + 23) x ∧ M (o + 23) x ≤ 8 := by
    intro x hx
    rcases (show x = s.toNat ∨ x = (1 - s).toNat by omega) with e | e
    · rw [e]
      omega
    · rw [e]
      omega
  have a0 := hall 0 (by omega)
  have a1 := hall 1 (by omega)
  refine en_X2_slideOnce (sg_X2_slideOnce_0 hm (sg_X2_slideOnce_2 hm ⟨⟨by decide, by decide⟩, fun c => absurd c (by decide), fun _ => ⟨⟨by decide, by decide⟩, ?_, ?_, ?_⟩⟩))
  · show rg (M (o + 22) 0 - 1)
    exact ⟨by omega, by omega⟩
  · show rg (M (o + 23) 0 - 1)
    exact ⟨by omega, by omega⟩
  generalize hM1 : mU (mU M (o + 22) (0 : Int).toNat (M (o + 22) (0 : Int).toNat - 1)) (o + 23) (0 : Int).toNat (M (o + 23) (0 : Int).toNat - 1) = M1
  have m22 : M1 (o + 22) 0 = M (o + 22) 0 - 1 ∧ M1 (o + 22) 1 = M (o + 22) 1 := by
    rw [← hM1]
    refine ⟨?_, ?_⟩
    · rw [mU_ne (by omega)]
      exact mU_at
    · rw [mU_ne (by omega), mU_nej (by decide)]
  have m23 : M1 (o + 23) 0 = M (o + 23) 0 - 1 ∧ M1 (o + 23) 1 = M (o + 23) 1 := by
    rw [← hM1]
    refine ⟨mU_at, ?_⟩
    rw [mU_nej (by decide), mU_ne (by omega)]
  have mo : ∀ k, k ≠ o + 22 → k ≠ o + 23 → M1 k = M k := fun k q1 q2 => by rw [← hM1, mU_ne q2, mU_ne q1]
  refine sg_X2_slideOnce_2 hm ⟨⟨by decide, by decide⟩, fun c => absurd c (by decide), fun _ => ⟨⟨by decide, by decide⟩, ?_, ?_, ?_⟩⟩
  · show rg (M1 (o + 22) 1 - 1)
    rw [m22.2]
    exact ⟨by omega, by omega⟩
  · show rg (M1 (o + 23) 1 - 1)
    rw [m23.2]
    exact ⟨by omega, by omega⟩
  generalize hM2 : mU (mU M1 (o + 22) ((0 : Int) + 1).toNat (M1 (o + 22) ((0 : Int) + 1).toNat - 1)) (o + 23) ((0 : Int) + 1).toNat (M1 (o + 23) ((0 : Int) + 1).toNat - 1) = M2
  have n22 : ∀ x : Nat, x < 2 → M2 (o + 22) x = M (o + 22) x - 1 := by
    intro x hx
    rw [← hM2, mU_ne (by omega)]
    rcases (show x = 0 ∨ x = 1 by omega) with rfl | rfl
    · rw [mU_nej (by decide)]
      exact m22.1
    · refine (mU_at).trans ?_
      show M1 (o + 22) 1 - 1 = _
      rw [m22.2]
  have n23 : ∀ x : Nat, x < 2 → M2 (o + 23) x = M (o + 23) x - 1 := by
    intro x hx
    rw [← hM2]
    rcases (show x = 0 ∨ x = 1 by omega) with rfl | rfl
    · rw [mU_nej (by decide), mU_ne (by omega)]
      exact m23.1
    · refine (mU_at).trans ?_
      show M1 (o + 23) 1 - 1 = _
      rw [m23.2]
  have no : ∀ k, k ≠ o + 22 → k ≠ o + 23 → M2 k = M k := fun k q1 q2 => by rw [← hM2, mU_ne q2, mU_ne q1, mo k q1 q2]
  have hsn : s.toNat < 2 := by omega
  have hon : (1 - s).toNat < 2 := by omega
  refine sg_X2_slideOnce_2 hm ⟨⟨by decide, by decide⟩, fun _ => ⟨⟨by omega, by omega⟩, ?_, ⟨by omega, by omega⟩, ?_, ?_, ?_, ?_⟩, fun c => absurd (show (2 : Int) ≤ 0 + 1 + 1 by decide) c⟩
  · rw [n22 _ hsn]
    exact ⟨by omega, by omega⟩
  · rw [n23 _ hsn]
    exact ⟨by omega, by omega⟩
  · rw [n23 _ hon]
    exact ⟨by omega, by omega⟩
  · rw [no o (by omega) (by omega)]
    exact ⟨by omega, by omega⟩
  · rw [n22 _ hsn, n23 _ hsn, n23 _ hon, no o (by omega) (by omega), hg3]
    have hP2 : PAm M2 o P := hP.same (no _ (by omega) (by omega)) (no _ (by omega) (by omega))
    have hP3 := ((hP2.set (v := -1) hs (show 0 ≤ M (o + 22) s.toNat - 1 by omega)).set (v := M (o + 22) (1 - s).toNat - 1) hs (show 0 ≤ M (o + 23) s.toNat - 1 by omega)).set (s := 1 - s) (v := M (o + 23) s.toNat - 1) (by omega) (show 0 ≤ M (o + 22) (1 - s).toNat - 1 by omega)
    refine h _ (hP3.same (by rw [mU_ne (by omega)]) (by rw [mU_ne (by omega)])) mU_at ?_ (fun x hx => ?_)
    · have hF2 : FrS o M M2 := ⟨fun k hk => no k (by omega) (by omega), fun j _ => by rw [no o (by omega) (by omega)]⟩
      exact (((hF2.up (by omega)).up (by omega)).up (by omega)).up8
    · rw [mU_ne (by omega), mU_ne (by omega), mU_ne (by omega), mU_ne (by omega), mU_ne (by omega), mU_ne (by omega), mU_ne (by omega), mU_ne (by omega)]
      exact ⟨n22 x hx, n23 x hx⟩
end SLIDE
