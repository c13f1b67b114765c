/-! the reference's reading of the page -/
def RdL (r : RdS) : Prop := (∀ s i, s = 0 ∨ s = 1 → 0 ≤ i → i < r.2.2.1 s → okLn (r.2.2.2 s i)) ∧ (r.2.1 = 1 → isLt (r.2.2.2 r.1 (r.2.2.1 r.1 - 1))) ∧ (r.2.1 = 2 → isLt (r.2.2.2 r.1 (r.2.2.1 r.1 - 1) % 128) ∧ isLt (r.2.2.2 r.1 (r.2.2.1 r.1 - 1) / 128))
theorem stp_L {c : Int} {r r' : RdS} (h : RdOk r) (l : RdL r) (e : stp c r = some r') : RdL r' := by
  obtain ⟨sd, hr, n, A⟩ := r
  obtain ⟨h1, h2, h3, h4, h5, h6, h7⟩ := h
  obtain ⟨l1, l2, l3⟩ := l
  simp only at h1 h2 h3 h4 h5 h6 h7 l1 l2 l3
  unfold stp at e
  simp only at e
  split at e
  · rename_i hl
    split at e
    · cases e
    · split at e
      · cases e
        refine ⟨fun s i hs i0 i1 => ?_, fun _ => ?_, fun q => by simp at q⟩
        · simp only at i1 ⊢
          unfold f2 f1 at *
          by_cases q : s = sd ∧ i = n sd
          · rw [if_pos q]
            exact Or.inl hl
          · rw [if_neg q]
            refine l1 s i hs i0 ?_
            by_cases q2 : s = sd
            · subst q2
              rw [if_pos rfl] at i1
              omega
            · rw [if_neg q2] at i1
              exact i1
        · simp only
          unfold f2 f1
          rw [if_pos rfl, if_pos ⟨rfl, by omega⟩]
          exact hl
      · cases e
        rename_i z3 z0
        have hz := l1 sd (n sd - 1) h1 (by have := h7 (by omega); omega) (by omega)
        generalize hv : A sd (n sd - 1) = v at *
        have nv : isLt ((128 * v + c) % 128) ∧ (128 * v + c) / 128 = v := ⟨by unfold isLt; omega, by omega⟩
        refine ⟨fun s i hs i0 i1 => ?_, fun q => by simp only at q; omega, fun q => ?_⟩
        · simp only at i1 ⊢
          unfold f2
          by_cases q : s = sd ∧ i = n sd - 1
          · rw [if_pos q]
            rcases (show hr = 1 ∨ hr = 2 by omega) with e | e
            · exact Or.inr (Or.inl ⟨nv.1, by rw [nv.2]; exact l2 e⟩)
            · refine Or.inr (Or.inr ⟨nv.1, by rw [nv.2]; exact (l3 e).1, ?_⟩)
              have := (l3 e).2
              rw [show (128 * v + c) / 16384 = v / 128 by omega]
              exact this
          · rw [if_neg q]
            exact l1 s i hs i0 i1
        · simp only at q ⊢
          unfold f2
          rw [if_pos ⟨rfl, rfl⟩, nv.2]
          exact ⟨nv.1, l2 (by omega)⟩
  · split at e
    · split at e
      · cases e
      · cases e
        exact ⟨l1, fun q => by simp at q, fun q => by simp at q⟩
    · split at e
      · cases e
        exact ⟨l1, fun q => by simp at q, fun q => by simp at q⟩
      · cases e
theorem Rd0_L : RdL Rd0 := ⟨fun s i _ i0 i1 => by unfold Rd0 at i1; simp only at i1; omega, fun q => by unfold Rd0 at q; simp at q, fun q => by unfold Rd0 at q; simp at q⟩
def RdR (M : AM) (r : RdS) : Prop := M 88 2 = r.1 ∧ M 88 3 = r.2.1 ∧ (∀ s, s = 0 ∨ s = 1 → M 90 s.toNat = r.2.2.1 s) ∧ ∀ s i, s = 0 ∨ s = 1 → 0 ≤ i → i < r.2.2.1 s → M 91 (16 * s + i).toNat = r.2.2.2 s i
def FrP (M M' : AM) : Prop := (∀ k, k ≠ 88 → k ≠ 90 → k ≠ 91 → M' k = M k) ∧ ∀ j, j ≠ 2 → j ≠ 3 → j ≠ 6 → M' 88 j = M 88 j
theorem FrP.rf (M : AM) : FrP M M := ⟨fun _ _ _ _ => rfl, fun _ _ _ _ => rfl⟩
theorem FrP.tr {M M1 M2 : AM} (h1 : FrP M M1) (h2 : FrP M1 M2) : FrP M M2 := ⟨fun k a b c => (h2.1 k a b c).trans (h1.1 k a b c), fun j a b c => (h2.2 j a b c).trans (h1.2 j a b c)⟩
theorem FrP.up8 {M M1 : AM} (h : FrP M M1) {j : Nat} {z : Int} (hj : j = 2 ∨ j = 3 ∨ j = 6) : FrP M (mU M1 88 j z) := ⟨fun k a b c => by rw [mU_ne a]; exact h.1 k a b c, fun j' a b c => by rw [mU_nej (by omega)]; exact h.2 j' a b c⟩
theorem FrP.up {M M1 : AM} (h : FrP M M1) {k j : Nat} {z : Int} (hk : k = 90 ∨ k = 91) : FrP M (mU M1 k j z) := ⟨fun k' a b c => by rw [mU_ne (by omega)]; exact h.1 k' a b c, fun j' a b c => by rw [mU_ne (by omega)]; exact h.2 j' a b c⟩
section RREAD
variable {g : AG} {d : Nat} {M : AM}
theorem r_in {Q : Int → AM → Prop} {a b c : Int} (ha : rl a) (hb : rl b) (hc : rl c) (h : Q (bI (b ≤ a ∧ a ≤ c)) M) : MetI g mX9_in (d + 1) [vL a, vL b, vL c] M Q := by
  have k1 := lCmp_lt ha hb
  have k2 := lCmp_gt ha hc
  refine en_X9_in (sg_X9_in_0 ⟨fun w => ?_, fun w => ⟨fun w2 => ?_, fun w2 => ?_⟩⟩)
  · have := k1.mp w
    rwa [bI_f (by omega)] at h
  · have := k2.mp w2
    rwa [bI_f (by omega)] at h
  · have q1 : ¬ a < b := fun q => w (k1.mpr q)
    have q2 : ¬ c < a := fun q => w2 (k2.mpr q)
    rwa [bI_t (by omega)] at h
theorem r_isGood {Q : Int → AM → Prop} {c : Int} {r : RdS} (hM : RdR M r) (ok : RdOk r) (hL : RdL r) (hc : rg c) (h0 : stp c r = none → ∀ M', FrP M M' → Q 0 M') (h1 : ∀ r' M', stp c r = some r' → RdR M' r' → M' 88 6 = (if c = 44 then 1 else M 88 6) → FrP M M' → Q 1 M') : MetI g mX9_isGood (d + 2) [vR 88, vI c] M Q := by
  obtain ⟨e1, e2, e3, e4⟩ := hM
  obtain ⟨sd, hr, n, A⟩ := r
  obtain ⟨o1, o2, o3, o4, o5, o6, o7⟩ := ok
  obtain ⟨l1, _, _⟩ := hL
  simp only at o1 o2 o3 o4 o5 o6 o7 e1 e2 e3 e4 l1
  have n8 : 0 ≤ n sd ∧ n sd ≤ 8 := by rcases o1 with rfl | rfl <;> assumption
  have en := e3 sd o1
  have e30 := e3 0 (Or.inl rfl)
  rw [show ((0 : Int)).toNat = 0 by decide] at e30
  unfold stp at h0 h1
  simp only at h0 h1
  have rlc : rl c := ⟨by have := hc.1; omega, by have := hc.2; omega⟩
  refine en_X9_isGood (sg_X9_isGood_0 ⟨hc, r_in rlc ⟨by decide, by decide⟩ ⟨by decide, by decide⟩ (fun _ => ⟨fun w => ?_, fun w => ?_⟩)⟩)
  · have hl : ¬ (97 ≤ c ∧ c ≤ 101) := fun q => by rw [bI_t q] at w; cases w
    rw [if_neg hl] at h0 h1
    rw [e1, e2, e30, en]
    have fr : FrP M (mU (mU M 88 2 1) 88 3 0) := ((FrP.rf M).up8 (by omega)).up8 (by omega)
    refine ⟨fun c1 => ?_, fun c1 => ?_⟩
    · rw [if_neg c1] at h0 h1
      have yes : c = 59 → sd = 0 → (n 0 = 0 ∨ 0 < hr) → Q 1 (mU (mU M 88 2 1) 88 3 0) := by
        intro q1 q2 q3
        refine h1 (1, 0, n, A) _ (by rw [if_pos ⟨q1, q2, q3⟩]) ⟨?_, mU_at, fun s hs => ?_, fun s i hs i0 i1 => ?_⟩ ?_ fr
        · rw [mU_nej (by decide), mU_at]
        · rw [mU_ne (by decide), mU_ne (by decide)]
          exact e3 s hs
        · rw [mU_ne (by decide), mU_ne (by decide)]
          exact e4 s i hs i0 i1
        · rw [if_neg c1, mU_nej (by decide), mU_nej (by decide)]
      refine ⟨fun c2 => h0 (by rw [if_neg (fun q => c2 q.1)]) _ fr, fun c2 => ⟨fun c3 => h0 (by rw [if_neg (fun q => c3 q.2.1)]) _ fr, fun c3 => ⟨fun c4 => yes c2 c3 (Or.inr c4), fun c4 => ⟨fun c5 => h0 (by rw [if_neg (fun q => by omega)]) _ fr, fun c5 => yes c2 c3 (Or.inl c5)⟩⟩⟩⟩
    · rw [if_pos c1] at h0 h1
      have fr2 : FrP M (mU (mU M 88 3 0) 88 6 1) := ((FrP.rf M).up8 (by omega)).up8 (by omega)
      refine ⟨fun c2 => h0 (by rw [if_pos (by omega)]) _ fr2, fun c2 => ⟨⟨by omega, by omega⟩, fun c3 => h0 (by rw [if_pos (by omega)]) _ fr2, fun c3 => ?_⟩⟩
      refine h1 (sd, 0, n, A) _ (by rw [if_neg (by omega)]) ⟨?_, ?_, fun s hs => ?_, fun s i hs i0 i1 => ?_⟩ ?_ fr2
      · rw [mU_nej (by decide), mU_nej (by decide)]; exact e1
      · rw [mU_nej (by decide), mU_at]
      · rw [mU_ne (by decide), mU_ne (by decide)]
        exact e3 s hs
      · rw [mU_ne (by decide), mU_ne (by decide)]
        exact e4 s i hs i0 i1
      · rw [mU_at, if_pos c1]
  · have hl : 97 ≤ c ∧ c ≤ 101 := Classical.byContradiction fun q => w (bI_f q)
    have c44 : ¬ c = 44 := by omega
    rw [if_pos hl] at h0 h1
    have seg : ∀ (M1 : AM) (N v : Int), M1 88 2 = sd → M1 90 sd.toNat = N → 1 ≤ N ∧ N ≤ 8 → M1 91 (16 * sd + N - 1).toNat = v → 0 ≤ v ∧ v < 2097152 → M1 88 3 = hr → (3 < hr + 1 → Q 0 (mU (mU M1 91 (16 * sd + N - 1).toNat (128 * v + c)) 88 3 (hr + 1))) → (¬ 3 < hr + 1 → Q 1 (mU (mU M1 91 (16 * sd + N - 1).toNat (128 * v + c)) 88 3 (hr + 1))) → S_X9_isGood_57 g (d + 2) c M1 Q := by
      intro M1 N v q1 q2 q3 q4 q5 q6 q7 q8
      refine sg_X9_isGood_57 ?_
      rw [q1, q2, q4, q6]
      exact ⟨⟨by omega, by omega⟩, ⟨by omega, by omega⟩, ⟨by omega, by omega⟩, ⟨by omega, by omega⟩, q7, q8⟩
    rw [e1, e2, en]
    refine ⟨fun c1 => ?_, fun c1 => ⟨⟨by omega, by omega⟩, ⟨by omega, by omega⟩, ⟨by omega, by omega⟩, ?_⟩⟩
    · have np := o7 (by omega)
      have hv := okLn_rg (l1 sd (n sd - 1) o1 (by omega) (by omega))
      have ev := e4 sd (n sd - 1) o1 (by omega) (by omega)
      rw [show 16 * sd + (n sd - 1) = 16 * sd + n sd - 1 by omega] at ev
      have fr : FrP M (mU (mU M 91 (16 * sd + n sd - 1).toNat (128 * A sd (n sd - 1) + c)) 88 3 (hr + 1)) := ((FrP.rf M).up (by omega)).up8 (by omega)
      refine seg M (n sd) (A sd (n sd - 1)) e1 en (by omega) ev (by omega) e2 (fun c2 => h0 (by rw [if_pos (by omega)]) _ fr) (fun c2 => ?_)
      refine h1 _ _ (by rw [if_neg (by omega), if_neg c1]) ⟨?_, mU_at, fun s hs => ?_, fun s i hs i0 i1 => ?_⟩ ?_ fr
      · rw [mU_nej (by decide), mU_ne (by decide)]; exact e1
      · rw [mU_ne (by decide), mU_ne (by decide)]
        exact e3 s hs
      · rw [mU_ne (by decide)]
        simp only at i1 ⊢
        have n8s : n s ≤ 8 := by rcases hs with rfl | rfl <;> omega
        unfold f2
        by_cases q : s = sd ∧ i = n sd - 1
        · obtain ⟨rfl, rfl⟩ := q
          rw [if_pos ⟨rfl, rfl⟩, show 16 * s + (n s - 1) = 16 * s + n s - 1 by omega, mU_at]
        · rw [if_neg q, mU_nej (by omega)]
          exact e4 s i hs i0 i1
      · rw [if_neg c44, mU_nej (by decide), mU_ne (by decide)]
    · have w5 := o5 c1
      have fr : FrP M (mU (mU (mU (mU M 91 (16 * sd + n sd).toNat 0) 90 sd.toNat (n sd + 1)) 91 (16 * sd + (n sd + 1) - 1).toNat (128 * 0 + c)) 88 3 (hr + 1)) := ((((FrP.rf M).up (by omega)).up (by omega)).up (by omega)).up8 (by omega)
      refine seg _ (n sd + 1) 0 (by rw [mU_ne (by decide), mU_ne (by decide)]; exact e1) mU_at (by omega) (by rw [mU_ne (by decide), show 16 * sd + (n sd + 1) - 1 = 16 * sd + n sd by omega, mU_at]) (by omega) (by rw [mU_ne (by decide), mU_ne (by decide)]; exact e2) (fun c2 => by omega) (fun c2 => ?_)
      refine h1 _ _ (by rw [if_neg (by omega), if_pos c1]) ⟨?_, ?_, fun s hs => ?_, fun s i hs i0 i1 => ?_⟩ ?_ fr
      · rw [mU_nej (by decide), mU_ne (by decide), mU_ne (by decide), mU_ne (by decide)]; exact e1
      · rw [mU_at]; simp only; omega
      · rw [mU_ne (by decide), mU_ne (by decide)]
        simp only
        unfold f1
        by_cases q : s = sd
        · subst q
          rw [mU_at, if_pos rfl]
        · rw [if_neg q, mU_nej (by omega), mU_ne (by decide)]
          exact e3 s hs
      · rw [mU_ne (by decide)]
        simp only at i1 ⊢
        unfold f1 at i1
        unfold f2
        by_cases q : s = sd ∧ i = n sd
        · obtain ⟨rfl, rfl⟩ := q
          rw [if_pos ⟨rfl, rfl⟩, show 16 * s + (n s + 1) - 1 = 16 * s + n s by omega, mU_at]
          omega
        · have i2 : i < n s := by
            by_cases q2 : s = sd
            · subst q2
              rw [if_pos rfl] at i1
              omega
            · rw [if_neg q2] at i1
              exact i1
          have n8s : n s ≤ 8 := by rcases hs with rfl | rfl <;> omega
          rw [if_neg q, mU_nej (by omega), mU_ne (by decide), mU_nej (by omega)]
          exact e4 s i hs i0 i2
      · rw [if_neg c44, mU_nej (by decide), mU_ne (by decide), mU_ne (by decide), mU_ne (by decide)]
end RREAD
