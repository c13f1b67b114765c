section SLIDE2
variable {g : AG} {d : Nat} {o : Nat} {A : LF} {n : Int → Int}
theorem c_slideGap {M : AM} {Q : AM → Prop} {P : LF} (hm : IsMatch o) (hA : LAm M o A n) (hP : PAm M o P) (h0 : 0 ≤ M (o + 22) 0 ∧ M (o + 22) 0 ≤ M (o + 23) 0 ∧ M (o + 23) 0 ≤ n 0) (h1 : 0 ≤ M (o + 22) 1 ∧ M (o + 22) 1 ≤ M (o + 23) 1 ∧ M (o + 23) 1 ≤ n 1) (h8 : 0 ≤ M o 8 ∧ M o 8 ≤ 800)
    (hs : ((M (o + 22) 0 < M (o + 23) 0 ∧ M (o + 22) 1 < M (o + 23) 1) ∨ (M (o + 22) 0 = M (o + 23) 0 ∧ M (o + 22) 1 = M (o + 23) 1)) → Q M)
    (hd : M (o + 22) 0 < M (o + 23) 0 → M (o + 22) 1 = M (o + 23) 1 → ∀ M', PAm M' o (slp A P 0 (M (o + 22) 0) (M (o + 23) 0) (M (o + 22) 1)).1 → M' o 8 = M o 8 + (slp A P 0 (M (o + 22) 0) (M (o + 23) 0) (M (o + 22) 1)).2 → FrS o M M' → (∀ x : Nat, x < 2 → M' (o + 22) x = M (o + 22) x - (slp A P 0 (M (o + 22) 0) (M (o + 23) 0) (M (o + 22) 1)).2) → Q M')
    (ha : M (o + 22) 0 = M (o + 23) 0 → M (o + 22) 1 < M (o + 23) 1 → ∀ M', PAm M' o (slp A P 1 (M (o + 22) 1) (M (o + 23) 1) (M (o + 22) 0)).1 → M' o 8 = M o 8 + (slp A P 1 (M (o + 22) 1) (M (o + 23) 1) (M (o + 22) 0)).2 → FrS o M M' → (∀ x : Nat, x < 2 → M' (o + 22) x = M (o + 22) x - (slp A P 1 (M (o + 22) 1) (M (o + 23) 1) (M (o + 22) 0)).2) → Q M') : MetV g mX2_slideGap (d + 2) [vR o] M Q := by
  have b1 := hA.2.2.1
  have b2 := hA.2.2.2.1
  have loop : ∀ (s : Int), s = 0 ∨ s = 1 → ∀ (m : Nat) (t : Int) (M1 : AM) (P1 : LF), (M1 (o + 22) s.toNat).toNat = m → 0 ≤ t → t ≤ 8 → 0 ≤ M1 (o + 22) s.toNat → M1 (o + 22) s.toNat + t ≤ 8 → M1 (o + 22) s.toNat < M1 (o + 23) s.toNat → M1 (o + 23) s.toNat ≤ n s → M1 (o + 23) (1 - s).toNat = M1 (o + 22) (1 - s).toNat → 0 ≤ M1 (o + 22) (1 - s).toNat ∧ M1 (o + 22) (1 - s).toNat ≤ 8 → LAm M1 o A n → PAm M1 o P1 → 0 ≤ M1 o 8 → M1 o 8 ≤ 800 + t →
      (∀ M', PAm M' o (slp A P1 s (M1 (o + 22) s.toNat) (M1 (o + 23) s.toNat) (M1 (o + 22) (1 - s).toNat)).1 → M' o 8 = M1 o 8 + (slp A P1 s (M1 (o + 22) s.toNat) (M1 (o + 23) s.toNat) (M1 (o + 22) (1 - s).toNat)).2 → FrS o M1 M' → (∀ x : Nat, x < 2 → M' (o + 22) x = M1 (o + 22) x - (slp A P1 s (M1 (o + 22) s.toNat) (M1 (o + 23) s.toNat) (M1 (o + 22) (1 - s).toNat)).2) → Q M') → S_X2_slideGap_61 g (d + 2) o s t M1 Q := by
    intro s hss m
    induction m with
    | zero =>
      intro t M1 P1 hm1 t0 t8 q1 q2 q3 q4 q5 q6 hA1 hP1 q7 q8 hk
      rw [slp_eq, if_neg (by omega)] at hk
      have fin := hk M1 hP1 (by dsimp only; omega) (FrS.rf o M1) (fun x _ => by dsimp only; omega)
      have hbound : M1 (o + 22) 0 ≤ 8 ∧ M1 (o + 22) 1 ≤ 8 := by
        rcases hss with rfl | rfl
        · exact ⟨(by omega : M1 (o + 22) (0 : Int).toNat ≤ 8), q6.2⟩
        · exact ⟨q6.2, (by omega : M1 (o + 22) (1 : Int).toNat ≤ 8)⟩
      refine sg_X2_slideGap_61 hm ⟨⟨by omega, by omega⟩, fun _ => fin, fun _ => ⟨⟨by omega, by omega⟩, c_maySlide hm hss hA1 hP1 hbound.1 hbound.2 ⟨q3, q4⟩ (fun _ => ⟨fun _ => fin, fun w => absurd (bI_f (fun q => by omega)) w⟩)⟩⟩
    | succ m ih =>
      intro t M1 P1 hm1 t0 t8 q1 q2 q3 q4 q5 q6 hA1 hP1 q7 q8 hk
      have hbound : M1 (o + 22) 0 ≤ 8 ∧ M1 (o + 22) 1 ≤ 8 := by
        rcases hss with rfl | rfl
        · exact ⟨(by omega : M1 (o + 22) (0 : Int).toNat ≤ 8), q6.2⟩
        · exact ⟨q6.2, (by omega : M1 (o + 22) (1 : Int).toNat ≤ 8)⟩
      have bn : n s ≤ 8 := by rcases hss with rfl | rfl <;> omega
      refine sg_X2_slideGap_61 hm ⟨⟨by omega, by omega⟩, fun w => by omega, fun _ => ⟨⟨by omega, by omega⟩, c_maySlide hm hss hA1 hP1 hbound.1 hbound.2 ⟨q3, q4⟩ (fun _ => ⟨fun w => ?_, fun w => ?_⟩)⟩⟩
      · have hn : ¬ mayS A P1 s (M1 (o + 22) s.toNat) (M1 (o + 23) s.toNat) (M1 (o + 22) (1 - s).toNat) := fun q => by rw [bI_t q] at w; cases w
        rw [slp_eq, if_neg hn] at hk
        exact hk M1 hP1 (by dsimp only; omega) (FrS.rf o M1) (fun x _ => by dsimp only; omega)
      · have hy : mayS A P1 s (M1 (o + 22) s.toNat) (M1 (o + 23) s.toNat) (M1 (o + 22) (1 - s).toNat) := Classical.byContradiction fun q => w (bI_f q)
        rw [slp_eq, if_pos hy] at hk
        dsimp only at hk
        refine c_slideOnce hm hss hP1 hy.1 q3 (by omega) q5 ⟨hy.2.1, q6.2⟩ ⟨q7, by omega⟩ (fun M2 k1 k2 k3 k4 => ?_)
        have hsn : s.toNat < 2 := by omega
        have hon : (1 - s).toNat < 2 := by omega
        have e1 := (k4 _ hsn).1
        have e2 := (k4 _ hsn).2
        have e3 := (k4 _ hon).1
        have e4 := (k4 _ hon).2
        refine ih (t + 1) M2 _ (by omega) (by omega) (by omega) (by omega) (by omega) (by omega) (by omega) (by omega) (by omega) (hA1.frS k3) k1 (by omega) (by omega) (fun M' j1 j2 j3 j4 => ?_)
        rw [e1, e2, e3] at j1 j2 j4
        refine hk M' j1 (by rw [j2, k2]; omega) (k3.tr j3) (fun x hx => ?_)
        rw [j4 x hx, (k4 x hx).1]
        omega
  refine en_X2_slideGap (sg_X2_slideGap_0 hm ⟨fun w => ⟨fun w2 => hs (Or.inr ⟨by omega, by omega⟩), fun w2 => ?_⟩, fun w => ⟨fun w2 => ?_, fun w2 => hs (Or.inl ⟨by omega, by omega⟩)⟩⟩)
  · exact loop 1 (Or.inr rfl) _ 0 M P rfl (by omega) (by omega) h1.1 (by show M (o + 22) 1 + 0 ≤ 8; omega) (by show M (o + 22) 1 < M (o + 23) 1; omega) h1.2.2 (by show M (o + 23) 0 = M (o + 22) 0; omega) (by show 0 ≤ M (o + 22) 0 ∧ M (o + 22) 0 ≤ 8; omega) hA hP h8.1 (by omega) (ha (by omega) (by omega))
  · exact loop 0 (Or.inl rfl) _ 0 M P rfl (by omega) (by omega) h0.1 (by show M (o + 22) 0 + 0 ≤ 8; omega) (by show M (o + 22) 0 < M (o + 23) 0; omega) h0.2.2 (by show M (o + 23) 1 = M (o + 22) 1; omega) (by show 0 ≤ M (o + 22) 1 ∧ M (o + 22) 1 ≤ 8; omega) hA hP h8.1 (by omega) (hd (by omega) (by omega))
theorem c_slideGaps {M : AM} {Q : AM → Prop} {P : LF} (hm : IsMatch o) (hA : LAm M o A n) (hP : PAm M o P) (h8 : M o 8 = 0)
    (h : ∀ M', PAm M' o (sA A 9 P (n 0) (n 1)).1 → M' o 8 = (sA A 9 P (n 0) (n 1)).2 → FrS o M M' → Q M') : MetV g mX2_slideGaps (d + 3) [vR o] M Q := by
  have b1 := hA.2.2.1
  have b2 := hA.2.2.2.1
  have loop : ∀ (f : Nat) (i j : Int) (M1 : AM) (P1 : LF), f ≤ 9 → M1 (o + 22) 0 = i + 1 → M1 (o + 22) 1 = j + 1 → 0 ≤ i → i ≤ n 0 → 0 ≤ j → j ≤ n 1 → LAm M1 o A n → PAm M1 o P1 → 0 ≤ M1 o 8 → M1 o 8 + 16 * f ≤ 300 →
      (∀ M', PAm M' o (sA A f P1 i j).1 → M' o 8 = M1 o 8 + (sA A f P1 i j).2 → FrS o M1 M' → Q M') → S_X2_slideGaps_36 g (d + 3) o (9 - (f : Int)) M1 Q := by
    intro f
    induction f with
    | zero =>
      intro i j M1 P1 hf e0 e1 i0 i1 j0 j1 hA1 hP1 q1 q2 hk
      refine sg_X2_slideGaps_36 hm ⟨⟨by omega, by omega⟩, fun _ => hk M1 hP1 ?_ (FrS.rf o M1), fun w => by omega⟩
      show M1 o 8 = M1 o 8 + 0
      omega
    | succ f ih =>
      intro i j M1 P1 hf e0 e1 i0 i1 j0 j1 hA1 hP1 q1 q2 hk
      refine sg_X2_slideGaps_36 hm ⟨⟨by omega, by omega⟩, fun w => by omega, fun _ => ⟨fun w => by omega, fun _ => ⟨fun w => by omega, fun _ => ?_⟩⟩⟩
      refine sg_X2_slideGaps_62 hm ⟨⟨by decide, by decide⟩, fun c => absurd c (by decide), fun _ => ⟨⟨by decide, by decide⟩, ?_, ?_⟩⟩
      · show rg (M1 (o + 22) 0 - 1)
        exact ⟨by omega, by omega⟩
      generalize hM2 : mU (mU M1 (o + 23) (0 : Int).toNat (M1 (o + 22) (0 : Int).toNat - 1)) (o + 22) (0 : Int).toNat (M1 (o + 22) (0 : Int).toNat - 1) = M2
      have a1 : M2 (o + 22) 0 = i := by
        rw [← hM2]
        refine (mU_at).trans ?_
        show M1 (o + 22) 0 - 1 = i
        omega
      have a2 : M2 (o + 22) 1 = j + 1 := by rw [← hM2, mU_nej (by decide), mU_ne (by omega)]; exact e1
      have a3 : M2 (o + 23) 0 = i := by
        rw [← hM2, mU_ne (by omega)]
        refine (mU_at).trans ?_
        show M1 (o + 22) 0 - 1 = i
        omega
      have ao : ∀ k, k ≠ o + 22 → k ≠ o + 23 → M2 k = M1 k := fun k w1 w2 => by rw [← hM2, mU_ne w1, mU_ne w2]
      refine sg_X2_slideGaps_62 hm ⟨⟨by decide, by decide⟩, fun c => absurd c (by decide), fun _ => ⟨⟨by decide, by decide⟩, ?_, ?_⟩⟩
      · show rg (M2 (o + 22) 1 - 1)
        exact ⟨by omega, by omega⟩
      generalize hM3 : mU (mU M2 (o + 23) ((0 : Int) + 1).toNat (M2 (o + 22) ((0 : Int) + 1).toNat - 1)) (o + 22) ((0 : Int) + 1).toNat (M2 (o + 22) ((0 : Int) + 1).toNat - 1) = M3
      have c1 : M3 (o + 22) 0 = i := by rw [← hM3, mU_nej (by decide), mU_ne (by omega)]; exact a1
      have c2 : M3 (o + 22) 1 = j := by
        rw [← hM3]
        refine (mU_at).trans ?_
        show M2 (o + 22) 1 - 1 = j
        omega
      have c3 : M3 (o + 23) 0 = i := by rw [← hM3, mU_ne (by omega), mU_nej (by decide)]; exact a3
      have c4 : M3 (o + 23) 1 = j := by
        rw [← hM3, mU_ne (by omega)]
        refine (mU_at).trans ?_
        show M2 (o + 22) 1 - 1 = j
        omega
      have co : ∀ k, k ≠ o + 22 → k ≠ o + 23 → M3 k = M1 k := fun k w1 w2 => by rw [← hM3, mU_ne w1, mU_ne w2]; exact ao k w1 w2
      have F3 : FrS o M1 M3 := ⟨fun k hk => co k (by omega) (by omega), fun j _ => by rw [co o (by omega) (by omega)]⟩
      have P3 : PAm M3 o P1 := hP1.same (co _ (by omega) (by omega)) (co _ (by omega) (by omega))
      refine sg_X2_slideGaps_62 hm ⟨⟨by decide, by decide⟩, fun _ => ?_, fun c => absurd (show (2 : Int) ≤ 0 + 1 + 1 by decide) c⟩
      have r0 := cb_r P1 0 _ i rfl
      have r1 := cb_r P1 1 _ j rfl
      have htn := tn_r A P1 i0 j0
      refine c_widenGap hm P3 (by omega) (by omega) (fun M4 k1 k2 k3 => ?_)
      rw [c1] at k1
      rw [c2] at k2
      have F4 : FrS o M1 M4 := F3.tr ⟨fun k hk => k3 k (by omega), fun j _ => by rw [k3 o (by omega)]⟩
      have P4 : PAm M4 o P1 := P3.same (k3 _ (by omega)) (k3 _ (by omega))
      have d3 : M4 (o + 23) 0 = i := by rw [k3 _ (by omega)]; exact c3
      have d4 : M4 (o + 23) 1 = j := by rw [k3 _ (by omega)]; exact c4
      have d8 : M4 o 8 = M1 o 8 := by rw [k3 o (by omega), co o (by omega) (by omega)]
      -- behind the slides: widen, and the next turn
      have tail : ∀ (M5 : AM) (P5 : LF) (k gi gj : Int), PAm M5 o P5 → M5 (o + 22) 0 = gi → M5 (o + 22) 1 = gj → 0 ≤ gi → gi ≤ i → 0 ≤ gj → gj ≤ j → M5 o 8 = M1 o 8 + k → FrS o M1 M5 → tn A P1 i j = (P5, k, gi - cb P5 0 gi, gj - cb P5 1 gj) →
          MetV g mX2_widenGap (d + 2) [vR o] M5 (fun M9 => S_X2_slideGaps_36 g (d + 3) o (9 - ((f + 1 : Nat) : Int) + 1) M9 Q) := by
        intro M5 P5 k gi gj hP5 g0 g1 w1 w2 w3 w4 g8 F5 et
        rw [et] at htn
        dsimp only at htn
        refine c_widenGap hm hP5 (by omega) (by omega) (fun M6 u1 u2 u3 => ?_)
        rw [g0] at u1
        rw [g1] at u2
        have F6 : FrS o M1 M6 := F5.tr ⟨fun k hk => u3 k (by omega), fun j _ => by rw [u3 o (by omega)]⟩
        have P6 : PAm M6 o P5 := hP5.same (u3 _ (by omega)) (u3 _ (by omega))
        have g8' : M6 o 8 = M1 o 8 + k := by rw [u3 o (by omega)]; exact g8
        rw [show (9 : Int) - ((f + 1 : Nat) : Int) + 1 = 9 - (f : Int) by omega]
        unfold sA at hk
        rw [et] at hk
        dsimp only at hk
        by_cases hz : gi - cb P5 0 gi ≤ 0 ∨ gj - cb P5 1 gj ≤ 0
        · rw [if_pos hz] at hk
          have fin := hk M6 P6 g8' F6
          refine sg_X2_slideGaps_36 hm ⟨⟨by omega, by omega⟩, fun _ => fin, fun _ => ⟨fun _ => fin, fun w => ⟨fun _ => fin, fun w' => by omega⟩⟩⟩
        · rw [if_neg hz] at hk
          refine ih (gi - cb P5 0 gi - 1) (gj - cb P5 1 gj - 1) M6 P5 (by omega) (by omega) (by omega) (by omega) (by omega) (by omega) (by omega) (hA1.frS F6) P6 (by omega) (by omega) (fun M' v1 v2 v3 => hk M' v1 (by dsimp only; omega) (F6.tr v3))
      refine c_slideGap hm (hA1.frS F4) P4 (by omega) (by omega) (by omega) (fun hq => ?_) (fun p1 p2 M5 v1 v2 v3 v4 => ?_) (fun p1 p2 M5 v1 v2 v3 v4 => ?_)
      · refine tail M4 P1 0 _ _ P4 k1 k2 (by omega) (by omega) (by omega) (by omega) (by omega) F4 ?_
        unfold tn
        rw [if_pos (by omega)]
      · have r2 := slp_r A 0 _ P1 (i - cb P1 0 i) i j rfl
        have z1 : cb P1 1 j = 0 := by omega
        rw [k1, k2, d3, z1, Int.sub_zero] at v1 v2 v4
        have v40 := v4 0 (by omega)
        have v41 := v4 1 (by omega)
        rw [k1] at v40
        rw [k2, z1, Int.sub_zero] at v41
        refine tail M5 _ (slp A P1 0 (i - cb P1 0 i) i j).2 _ _ v1 v40 v41 (by omega) (by omega) (by omega) (by omega) (by omega) (F4.tr v3) ?_
        unfold tn
        rw [if_neg (by omega), if_pos (by omega)]
      · have r2 := slp_r A 1 _ P1 (j - cb P1 1 j) j i rfl
        have z1 : cb P1 0 i = 0 := by omega
        rw [k1, k2, d4, z1, Int.sub_zero] at v1 v2 v4
        have v40 := v4 0 (by omega)
        have v41 := v4 1 (by omega)
        rw [k1, z1, Int.sub_zero] at v40
        rw [k2] at v41
        refine tail M5 _ (slp A P1 1 (j - cb P1 1 j) j i).2 _ _ v1 v40 v41 (by omega) (by omega) (by omega) (by omega) (by omega) (F4.tr v3) ?_
        unfold tn
        rw [if_neg (by omega), if_neg (by omega)]
  refine en_X2_slideGaps (sg_X2_slideGaps_0 hm ?_)
  rw [hA.1, hA.2.1]
  refine ⟨⟨by omega, by omega⟩, ⟨by omega, by omega⟩, ?_⟩
  have F1 : FrS o M (mU (mU M (o + 22) 0 (n 0 + 1)) (o + 22) 1 (n 1 + 1)) := ((FrS.rf o M).up (by omega)).up (by omega)
  have e8 : (mU (mU M (o + 22) 0 (n 0 + 1)) (o + 22) 1 (n 1 + 1)) o 8 = 0 := by rw [mU_ne (by omega), mU_ne (by omega)]; exact h8
  refine loop 9 (n 0) (n 1) _ P (by omega) (by rw [mU_nej (by decide), mU_at]) mU_at b1.1 (Int.le_refl _) b2.1 (Int.le_refl _) (hA.frS F1) (hP.same (by rw [mU_ne (by omega), mU_ne (by omega)]) (by rw [mU_ne (by omega), mU_ne (by omega)])) (by omega) (by omega) (fun M' k1 k2 k3 => h M' k1 (by omega) (F1.tr k3))
/-- which lines are kept with which in the end; slides; anchors -/
def P0 (A : LF) (n : Int → Int) : LF := kps (mp A 9 0 (n 0) 0 (n 1)) (fun _ _ => -1)
def KP (A : LF) (n : Int → Int) : LF := (sA A 9 (P0 A n) (n 0) (n 1)).1
def SLN (A : LF) (n : Int → Int) : Int := (sA A 9 (P0 A n) (n 0) (n 1)).2
def ANC (A : LF) (n : Int → Int) : Int := mc A 9 0 (n 0) 0 (n 1)
def FrC (o : Nat) (M M' : AM) : Prop := ∀ k, (k < o ∨ (o < k ∧ k < o + 7) ∨ o + 23 < k) → M' k = M k
theorem c_compare {M : AM} {Q : AM → Prop} (hm : IsMatch o) (hA : LAm M o A n) (h : ∀ M', PAm M' o (KP A n) → M' o 7 = ANC A n → M' o 8 = SLN A n → FrC o M M' → Q M') : MetV g mX2_compare (d + 22) [vR o] M Q := by
  have b1 := hA.2.2.1
  have b2 := hA.2.2.2.1
  have loop : ∀ (m : Nat) (l : Int) (M1 : AM), l + m = 8 → 0 ≤ l → (∀ (s i : Int), s = 0 ∨ s = 1 → 0 ≤ i → i < l → M1 (o + 7 + s.toNat) i.toNat = -1) → M1 o 7 = 0 → M1 o 8 = 0 → FrC o M M1 → S_X2_compare_12 g (d + 22) o l M1 Q := by
    intro m
    induction m with
    | zero =>
      intro l M1 hl l0 g1 g7 g8 gF
      have hA1 : LAm M1 o A n := ⟨by rw [gF _ (by omega)]; exact hA.1, by rw [gF _ (by omega)]; exact hA.2.1, b1, b2, fun s i hs q0 q1 => by rw [gF _ (by omega)]; exact hA.2.2.2.2 s i hs q0 q1⟩
      refine sg_X2_compare_12 hm ⟨⟨by omega, by omega⟩, fun _ => ?_, fun w => by omega⟩
      rw [hA1.1, hA1.2.1]
      refine c_matchParts hm 9 d 0 (n 0) 0 (n 1) M1 (fun _ _ => -1) _ (by omega) (Int.le_refl _) b1.1 (Int.le_refl _) (Int.le_refl _) b2.1 (Int.le_refl _) hA1 (fun s i hs q0 q1 => g1 s i hs q0 (by omega)) (by omega) (by omega) (fun _ _ _ => rfl) (fun _ _ _ => rfl) (by omega) (fun M2 k1 k2 k3 => ?_)
      refine c_slideGaps hm (hA1.fr k3) k1 (by rw [k3.2 8 (by decide)]; exact g8) (fun M3 j1 j2 j3 => h M3 j1 ?_ j2 (fun k hk => ?_))
      · rw [j3.2 7 (by decide), k2, g7]
        show 0 + ANC A n = _
        omega
      · rw [j3.1 k (by omega), k3.1 k (by omega)]
        exact gF k hk
    | succ m ih =>
      intro l M1 hl l0 g1 g7 g8 gF
      refine sg_X2_compare_12 hm ⟨⟨by omega, by omega⟩, fun w => by omega, fun _ => ⟨⟨by omega, by omega⟩, ih (l + 1) _ (by omega) (by omega) (fun s i hs q0 q1 => ?_) ?_ ?_ (fun k hk => by rw [mU_ne (by omega), mU_ne (by omega)]; exact gF k hk)⟩⟩
      · by_cases e : i = l
        · subst e
          rcases hs with rfl | rfl
          · show mU _ _ _ _ (o + 7) _ = _
            rw [mU_ne (by omega), mU_at]
          · show mU _ _ _ _ (o + 8) _ = _
            rw [mU_at]
        · rw [mU_nej' (by omega), mU_nej' (by omega)]
          exact g1 s i hs q0 (by omega)
      · rw [mU_ne (by omega), mU_ne (by omega)]
        exact g7
      · rw [mU_ne (by omega), mU_ne (by omega)]
        exact g8
  refine en_X2_compare (sg_X2_compare_0 hm (loop 8 0 _ (by omega) (by omega) (fun s i _ q0 q1 => by omega) ?_ mU_at (fun k hk => by rw [mU_ne (by omega), mU_ne (by omega)])))
  rw [mU_nej (by decide), mU_at]
end SLIDE2
