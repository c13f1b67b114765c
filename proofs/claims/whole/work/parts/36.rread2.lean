/-! the reference's faultOf -/
def mayE (r : RdS) : Prop := r.2.2.1 r.1 = 0 ∨ 0 < r.2.1
theorem stp_may {c : Int} {r r' : RdS} (h : RdOk r) (e : stp c r = some r') : (mayE r' → ¬ c = 44) ∧ (¬ mayE r' → c = 44) := by
  obtain ⟨sd, hr, n, A⟩ := r
  obtain ⟨h1, h2, h3, h4, h5, h6, h7⟩ := h
  simp only at h1 h2 h3 h4 h5 h6 h7
  unfold stp at e
  simp only at e
  unfold mayE
  split at e
  · split at e
    · cases e
    · split at e
      · cases e
        simp only
        exact ⟨fun _ => by omega, fun q => absurd (Or.inr (by omega)) q⟩
      · cases e
        simp only
        exact ⟨fun _ => by omega, fun q => absurd (Or.inr (by omega)) q⟩
  · split at e
    · rename_i c4
      split at e
      · cases e
      · cases e
        simp only
        rename_i q
        have := h7 (by omega)
        exact ⟨fun w => by omega, fun _ => c4⟩
    · rename_i c4
      split at e
      · cases e
        rename_i z
        have w := h6 z.2.1
        simp only
        exact ⟨fun _ => c4, fun q => absurd (Or.inl w) q⟩
      · cases e
def PgR (M : AM) (pg : Int → Int) (z : Int) : Prop := M 88 1 = z ∧ (0 ≤ z ∧ z ≤ 64) ∧ ∀ k, 0 ≤ k → k < z → M 89 k.toNat = pg k ∧ rg (pg k)
section RREAD2
variable {g : AG} {d : Nat} {M : AM}
theorem r_faultOf {Q : Int → AM → Prop} {pg : Int → Int} {z : Int} (hP : PgR M pg z) (h : ∀ M', FrP M M' → ((rdN pg z.toNat 0 Rd0).1 = z → RdOk (rdN pg z.toNat 0 Rd0).2 ∧ RdL (rdN pg z.toNat 0 Rd0).2 ∧ RdR M' (rdN pg z.toNat 0 Rd0).2 ∧ (0 < z → M' 88 6 = bI (¬ mayE (rdN pg z.toNat 0 Rd0).2))) → Q (rdN pg z.toNat 0 Rd0).1 M') : MetI g mX9_faultOf (d + 3) [vR 88] M Q := by
  obtain ⟨p1, p2, p3⟩ := hP
  have loop : ∀ (m : Nat) (k : Int) (r : RdS) (M1 : AM), k + m = z → 0 ≤ k → RdOk r → RdL r → RdR M1 r → (0 < k → M1 88 6 = bI (¬ mayE r)) → FrP M M1 → (∀ M', FrP M M' → ((rdN pg m k r).1 = z → RdOk (rdN pg m k r).2 ∧ RdL (rdN pg m k r).2 ∧ RdR M' (rdN pg m k r).2 ∧ (0 < z → M' 88 6 = bI (¬ mayE (rdN pg m k r).2))) → Q (rdN pg m k r).1 M') → S_X9_faultOf_28 g (d + 3) k 1 M1 Q := by
    intro m
    induction m with
    | zero =>
      intro k r M1 hm k0 ok hL hR h6 gF hk
      have ez : M1 88 1 = z := by rw [gF.2 1 (by decide) (by decide) (by decide)]; exact p1
      refine sg_X9_faultOf_28 ⟨⟨by omega, by omega⟩, fun _ => ?_, fun w => by omega⟩
      exact hk M1 gF (fun _ => ⟨ok, hL, hR, fun z0 => h6 (by omega)⟩)
    | succ m ih =>
      intro k r M1 hm k0 ok hL hR h6 gF hk
      have ez : ∀ M2, FrP M M2 → M2 88 1 = z := fun M2 f => by rw [f.2 1 (by decide) (by decide) (by decide)]; exact p1
      obtain ⟨q1, q2⟩ := p3 k k0 (by omega)
      have e1 := ez M1 gF
      refine sg_X9_faultOf_28 ⟨⟨by omega, by omega⟩, fun w => by omega, fun _ => ⟨⟨by decide, by decide⟩, fun w => (by cases w), fun _ => ⟨⟨by omega, by omega⟩, ?_⟩⟩⟩
      rw [gF.1 89 (by decide) (by decide) (by decide), q1]
      have gF2 : FrP M (mU M1 88 6 0) := gF.up8 (by omega)
      have hR2 : RdR (mU M1 88 6 0) r := by
        obtain ⟨y1, y2, y3, y4⟩ := hR
        exact ⟨by rw [mU_nej (by decide)]; exact y1, by rw [mU_nej (by decide)]; exact y2, fun s hs => by rw [mU_ne (by decide)]; exact y3 s hs, fun s i hs i0 i1 => by rw [mU_ne (by decide)]; exact y4 s i hs i0 i1⟩
      refine r_isGood hR2 ok hL q2 (fun e M2 k1 _ => ⟨fun _ => ?_, fun w => absurd rfl w⟩) (fun r' M2 e k1 k2 k3 _ => ⟨fun w => (by cases w), fun _ => ?_⟩)
      · rw [rdN_n e] at hk
        have f2 := gF2.tr k1
        have e2 := ez M2 f2
        refine sg_X9_faultOf_28 ⟨⟨by omega, by omega⟩, fun w => by omega, fun _ => ⟨⟨by decide, by decide⟩, fun _ => ?_, fun w => absurd rfl w⟩⟩
        rw [Int.add_zero]
        exact hk M2 f2 (fun w => by simp only at w; omega)
      · rw [rdN_s e] at hk
        obtain ⟨u1, u2⟩ := stp_may ok e
        refine ih (k + 1) r' M2 (by omega) (by omega) (stp_ok ok e) (stp_L ok hL e) k1 (fun _ => ?_) (gF2.tr k3) hk
        rw [k2]
        by_cases c : pg k = 44
        · rw [if_pos c, bI_t (fun q => u1 q c)]
        · rw [if_neg c, mU_at, bI_f (fun q => c (u2 q))]
  refine en_X9_faultOf (sg_X9_faultOf_0 ?_)
  refine loop z.toNat 0 Rd0 _ (by omega) (by omega) Rd0_ok Rd0_L ⟨?_, ?_, fun s hs => ?_, fun s i hs i0 i1 => ?_⟩ (fun w => by omega) (((((FrP.rf M).up8 (by omega)).up8 (by omega)).up (by omega)).up (by omega)) h
  · rw [mU_ne (by decide), mU_ne (by decide), mU_nej (by decide), mU_at]; rfl
  · rw [mU_ne (by decide), mU_ne (by decide), mU_at]; rfl
  · rcases hs with rfl | rfl
    · rw [show ((0 : Int)).toNat = 0 by decide, mU_nej (by decide), mU_at]; rfl
    · rw [show ((1 : Int)).toNat = 1 by decide, mU_at]; rfl
  · unfold Rd0 at i1
    simp only at i1
    omega
end RREAD2
