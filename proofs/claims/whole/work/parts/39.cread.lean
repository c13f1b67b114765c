/-! the class's readInto: the lines of a text -/
def szP (r : RdS) (s : Int) : Int := if s = r.1 ∧ 0 < r.2.1 then r.2.2.1 s - 1 else r.2.2.1 s
def RdI (M : AM) (r : RdS) : Prop := ∀ s, s = 0 ∨ s = 1 → M 9 s.toNat = szP r s ∧ ∀ i, 0 ≤ i → i < szP r s → M (7 + s.toNat) i.toNat = r.2.2.2 s i
def pkd (r : RdS) : Int := if r.2.1 = 0 then 0 else r.2.2.2 r.1 (r.2.2.1 r.1 - 1)
section CREAD
variable {g : AG} {d : Nat} {M : AM} {pg : Int → Int} {z : Int}
theorem c_flush {Q : AM → Prop} {r : RdS} (ok : RdOk r) (hL : RdL r) (hI : RdI M r) (h : ∀ M', (∀ s, s = 0 ∨ s = 1 → M' 9 s.toNat = r.2.2.1 s ∧ ∀ i, 0 ≤ i → i < r.2.2.1 s → M' (7 + s.toNat) i.toNat = r.2.2.2 s i) → (∀ k, k ≠ 7 → k ≠ 8 → k ≠ 9 → M' k = M k) → Q M') : rg (pkd r) ∧ MetV g mX7_appendLine (d + 3) [vR 5, vI r.1, vI (pkd r)] M Q := by
  obtain ⟨sd, hr, n, A⟩ := r
  obtain ⟨o1, o2, o3, o4, o5, o6, o7⟩ := ok
  obtain ⟨l1, _, _⟩ := hL
  unfold RdI szP at hI
  unfold pkd
  simp only at o1 o2 o3 o4 o5 o6 o7 l1 hI h ⊢
  by_cases c : hr = 0
  · rw [if_pos c]
    refine ⟨⟨by decide, by decide⟩, c_append0 (d := d + 2) isSides_5 (h M (fun s hs => ?_) (fun _ _ _ _ => rfl))⟩
    have := hI s hs
    rw [if_neg (by omega)] at this
    exact this
  · rw [if_neg c]
    have np := o7 (by omega)
    have n8 : n sd ≤ 8 := by rcases o1 with rfl | rfl <;> omega
    have hv := okLn_rg (l1 sd (n sd - 1) o1 (by omega) (by omega))
    have hs := (hI sd o1).1
    rw [if_pos ⟨rfl, by omega⟩] at hs
    refine ⟨⟨by omega, by omega⟩, c_append isSides_5 o1 ⟨by omega, by omega⟩ (by omega) (by rw [show 5 + 4 = 9 from rfl, hs]; omega) (h _ (fun s hq => ?_) (fun k q1 q2 q3 => ?_))⟩
    · rw [show 5 + 4 = 9 from rfl, hs]
      obtain ⟨i1, i2⟩ := hI s hq
      by_cases e : s = sd
      · subst e
        rw [if_pos ⟨rfl, by omega⟩] at i1 i2
        refine ⟨?_, fun i i0 i3 => ?_⟩
        · unfold sIns
          rw [if_pos ⟨rfl, rfl⟩, i1]
          omega
        · unfold sIns
          rw [if_neg (by omega)]
          by_cases e2 : i = n s - 1
          · subst e2
            rw [if_pos ⟨by omega, rfl⟩]
          · rw [if_neg (by omega), if_neg (by omega)]
            exact i2 i i0 (by omega)
      · rw [if_neg (fun q => e q.1)] at i1 i2
        refine ⟨?_, fun i i0 i3 => ?_⟩
        · unfold sIns
          rw [if_neg (by omega), if_neg (by omega), if_neg (by omega)]
          exact i1
        · unfold sIns
          rw [if_neg (by omega), if_neg (by omega), if_neg (by omega)]
          exact i2 i i0 i3
    · funext j
      unfold sIns
      rw [if_neg (by omega), if_neg (by omega), if_neg (by omega)]
theorem c_readInto {Q : AM → Prop} (hP : PgC M pg z) (tx : (rdN pg z.toNat 0 Rd0).1 = z) (h : ∀ M', (∀ s, s = 0 ∨ s = 1 → M' 9 s.toNat = (rdN pg z.toNat 0 Rd0).2.2.2.1 s ∧ ∀ i, 0 ≤ i → i < (rdN pg z.toNat 0 Rd0).2.2.2.1 s → M' (7 + s.toNat) i.toNat = (rdN pg z.toNat 0 Rd0).2.2.2.2 s i) → (∀ k, k ≠ 7 → k ≠ 8 → k ≠ 9 → M' k = M k) → Q M') : MetV g mX3_readInto (d + 4) [vR 1, vR 5] M Q := by
  obtain ⟨p1, p2, p3⟩ := hP
  have loop : ∀ (m : Nat) (k : Int) (r : RdS) (M1 : AM), k + m = z → 0 ≤ k → RdOk r → RdL r → RdI M1 r → (∀ k, k ≠ 7 → k ≠ 8 → k ≠ 9 → M1 k = M k) → (rdN pg m k r).1 = z → (∀ M', (∀ s, s = 0 ∨ s = 1 → M' 9 s.toNat = (rdN pg m k r).2.2.2.1 s ∧ ∀ i, 0 ≤ i → i < (rdN pg m k r).2.2.2.1 s → M' (7 + s.toNat) i.toNat = (rdN pg m k r).2.2.2.2 s i) → (∀ k, k ≠ 7 → k ≠ 8 → k ≠ 9 → M' k = M k) → Q M') → S_X3_readInto_11 g (d + 4) r.1 (pkd r) k M1 Q := by
    intro m
    induction m with
    | zero =>
      intro k r M1 hm k0 ok hL hI gF tx hk
      have ez : M1 1 2 = z := by rw [gF 1 (by decide) (by decide) (by decide)]; exact p1
      have o1 := ok.1
      obtain ⟨a1, a2⟩ := c_flush (g := g) (d := d) (Q := fun M6 => Q M6) ok hL hI (fun M2 k1 k2 => hk M2 k1 (fun k q1 q2 q3 => by rw [k2 k q1 q2 q3]; exact gF k q1 q2 q3))
      exact sg_X3_readInto_11 ⟨⟨by omega, by omega⟩, fun _ => ⟨⟨by omega, by omega⟩, a1, a2⟩, fun w => by omega⟩
    | succ m ih =>
      intro k r M1 hm k0 ok hL hI gF tx hk
      have ez : M1 1 2 = z := by rw [gF 1 (by decide) (by decide) (by decide)]; exact p1
      obtain ⟨q1, q2⟩ := p3 k k0 (by omega)
      have o1 := ok.1
      cases e : stp (pg k) r with
      | none =>
        rw [rdN_n e] at tx
        simp only at tx
        omega
      | some r' =>
        rw [rdN_s e] at tx hk
        have nx := fun M2 hi gf => ih (k + 1) r' M2 (by omega) (by omega) (stp_ok ok e) (stp_L ok hL e) hi gf tx hk
        have e2 : M1 2 k.toNat = pg k := by rw [gF 2 (by decide) (by decide) (by decide)]; exact q1
        refine sg_X3_readInto_11 ⟨⟨by omega, by omega⟩, fun w => by omega, fun _ => ⟨⟨by omega, by omega⟩, ?_⟩⟩
        rw [e2]
        obtain ⟨sd, hr, n, A⟩ := r
        unfold stp at e
        simp only at e o1
        refine c_isLetter (d := d + 2) q2 (fun _ => ⟨fun w => ⟨⟨by simp only; omega, by simp only; omega⟩, ?_⟩, fun w => ?_⟩)
        · have hl : ¬ (97 ≤ pg k ∧ pg k ≤ 101) := fun q => by rw [bI_t (show isLt (pg k) from q)] at w; cases w
          rw [if_neg hl] at e
          refine c_flush ok hL hI (fun M2 k1 k2 => ?_)
          have gF2 : ∀ k, k ≠ 7 → k ≠ 8 → k ≠ 9 → M2 k = M k := fun k q1 q2 q3 => by rw [k2 k q1 q2 q3]; exact gF k q1 q2 q3
          rw [k2 2 (by decide) (by decide) (by decide), e2]
          have hI2 : ∀ sd', RdI M2 (sd', 0, n, A) := fun sd' s hs => by
            have := k1 s hs
            unfold szP
            rw [if_neg (fun q => by simp at q)]
            exact this
          refine ⟨fun c5 => ?_, fun c5 => ?_⟩
          · split at e
            · split at e
              · cases e
              · cases e
                exact nx M2 (hI2 sd) gF2
            · rw [if_neg (fun q => c5 q.1)] at e
              cases e
          · rw [if_neg (by omega)] at e
            split at e
            · cases e
              exact nx M2 (hI2 1) gF2
            · cases e
        · have hl : 97 ≤ pg k ∧ pg k ≤ 101 := Classical.byContradiction fun q => w (bI_f q)
          rw [if_pos hl] at e
          obtain ⟨_, o2, o3, o4, o5, o6, o7⟩ := ok
          obtain ⟨l1, l2, l3⟩ := hL
          unfold RdI szP at hI
          simp only at o2 o3 o4 o5 o6 o7 l1 l2 l3 hI
          split at e
          · cases e
          · rename_i c3
            split at e
            · rename_i c0
              cases e
              have := nx M1 (fun s hs => ?_) gF
              · have ep : pkd (sd, 1, f1 n sd (n sd + 1), f2 A sd (n sd) (pg k)) = pg k := by
                  unfold pkd f1 f2
                  simp only
                  rw [if_neg (by decide), if_pos trivial, if_pos ⟨trivial, by omega⟩]
                rw [ep] at this
                have e0 : pkd (sd, hr, n, A) = 0 := if_pos c0
                rw [e0, iShl_7 (by decide) (by decide), iOr_7 (by decide) (by decide) (by omega) (by omega), e2, show (128 : Int) * 0 + pg k = pg k by omega]
                exact this
              · obtain ⟨i1, i2⟩ := hI s hs
                rw [if_neg (by omega)] at i1 i2
                unfold szP f1
                simp only
                by_cases q : s = sd
                · subst q
                  rw [if_pos ⟨rfl, by decide⟩, if_pos rfl, show n s + 1 - 1 = n s by omega]
                  refine ⟨i1, fun i i0 i3 => ?_⟩
                  unfold f2
                  rw [if_neg (by omega)]
                  exact i2 i i0 i3
                · rw [if_neg (fun w => q w.1), if_neg q]
                  refine ⟨i1, fun i i0 i3 => ?_⟩
                  unfold f2
                  rw [if_neg (fun w => q w.1)]
                  exact i2 i i0 i3
            · rename_i c0
              cases e
              have np := o7 (by omega)
              have hz : 0 ≤ A sd (n sd - 1) ∧ A sd (n sd - 1) < 16384 := by
                unfold isLt at l2 l3
                rcases (show hr = 1 ∨ hr = 2 by omega) with q | q
                · have := l2 q; omega
                · have := l3 q; omega
              have := nx M1 (fun s hs => ?_) gF
              · have ep : pkd (sd, hr + 1, n, f2 A sd (n sd - 1) (128 * A sd (n sd - 1) + pg k)) = 128 * A sd (n sd - 1) + pg k := by
                  unfold pkd f2
                  simp only
                  rw [if_neg (by omega), if_pos (by simp)]
                rw [ep] at this
                have e0 : pkd (sd, hr, n, A) = A sd (n sd - 1) := if_neg c0
                rw [e0, iShl_7 hz.1 hz.2, e2, iOr_7 hz.1 hz.2 (by omega) (by omega)]
                exact this
              · obtain ⟨i1, i2⟩ := hI s hs
                unfold szP
                simp only
                by_cases q : s = sd
                · subst q
                  rw [if_pos ⟨rfl, by omega⟩] at i1 i2
                  rw [if_pos ⟨rfl, by omega⟩]
                  refine ⟨i1, fun i i0 i3 => ?_⟩
                  unfold f2
                  rw [if_neg (by omega)]
                  exact i2 i i0 i3
                · rw [if_neg (fun w => q w.1)] at i1 i2
                  rw [if_neg (fun w => q w.1)]
                  refine ⟨i1, fun i i0 i3 => ?_⟩
                  unfold f2
                  rw [if_neg (fun w => q w.1)]
                  exact i2 i i0 i3
  refine en_X3_readInto (sg_X3_readInto_0 (c_sclear (d := d + 2) isSides_5 ?_))
  refine loop z.toNat 0 Rd0 _ (by omega) (by omega) Rd0_ok Rd0_L (fun s hs => ?_) (fun k q1 q2 q3 => by rw [mU_ne (by omega), mU_ne (by omega)]) tx h
  have e0 : szP Rd0 s = 0 := by unfold szP Rd0; simp
  rw [e0]
  refine ⟨?_, fun i i0 i1 => by omega⟩
  rcases hs with rfl | rfl
  · rw [show ((0 : Int)).toNat = 0 by decide, mU_nej (by decide), mU_at]
  · rw [show ((1 : Int)).toNat = 1 by decide, mU_at]
end CREAD
