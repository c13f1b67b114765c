/-! drawn texts, on both sides -/
theorem lDiv_pos {x y : Int} (hx : 0 ≤ x) (hx2 : x < 9223372036854775808) (hy : 0 < y) (hy2 : y < 9223372036854775808) : lDiv x y = x / y := by
  unfold lDiv
  have ry : rl y := ⟨by omega, by omega⟩
  have rx : rl x := ⟨by omega, by omega⟩
  rw [Int64.toInt_div_of_ne_right, rl_back rx, rl_back ry, tdiv_n hx]
  intro h
  have := congrArg Int64.toInt h
  rw [rl_back ry] at this
  have e : (-1 : Int64).toInt = -1 := by decide
  omega
theorem lRem_pos {x y : Int} (hx : 0 ≤ x) (hx2 : x < 9223372036854775808) (hy : 0 < y) (hy2 : y < 9223372036854775808) : lRem x y = x % y := by
  have hd := lDiv_pos hx hx2 hy hy2
  have rq : rl (x / y) := by
    have h1 : 0 ≤ x / y := Int.ediv_nonneg hx (by omega)
    have h2 : x / y ≤ x := Int.ediv_le_self y hx
    exact ⟨by omega, by omega⟩
  unfold lDiv at hd
  unfold lRem
  have e : Int64.ofInt x / Int64.ofInt y = Int64.ofInt (x / y) := by rw [← hd, Int64.ofInt_toInt]
  have h3 := Int.emod_add_mul_ediv x y
  have h4 := Int.emod_nonneg x (show y ≠ 0 by omega)
  have h5 := Int.emod_lt_of_pos x hy
  rw [e, ← Int64.ofInt_mul, ← Int64.ofInt_sub]
  have e2 : x - x / y * y = x % y := by
    rw [Int.mul_comm]
    omega
  rw [e2]
  exact rl_back ⟨by omega, by omega⟩
theorem lAnd_31 {x : Int} (hx : 0 ≤ x) (hx2 : x < 9223372036854775808) : lAnd x 2147483647 = x % 2147483648 := by
  unfold lAnd
  obtain ⟨m, rfl⟩ : ∃ m : Nat, x = m := ⟨x.toNat, by omega⟩
  have e1 : (Int64.ofInt (m : Int) &&& Int64.ofInt 2147483647).toBitVec = BitVec.ofNat 64 (m % 2147483648) := by
    rw [Int64.toBitVec_and, Int64.toBitVec_ofInt, Int64.toBitVec_ofInt]
    apply BitVec.eq_of_toNat_eq
    have w := Nat.and_two_pow_sub_one_eq_mod m 31
    rw [BitVec.toNat_and, BitVec.toNat_ofInt, BitVec.toNat_ofInt, BitVec.toNat_ofNat]
    rw [show ((m : Int) % ((2 ^ 64 : Nat) : Int)).toNat = m by omega, show ((2147483647 : Int) % ((2 ^ 64 : Nat) : Int)).toNat = 2 ^ 31 - 1 by decide, w]
    omega
  rw [show (Int64.ofInt (m : Int) &&& Int64.ofInt 2147483647).toInt = (Int64.ofInt (m : Int) &&& Int64.ofInt 2147483647).toBitVec.toInt from rfl, e1, BitVec.toInt_eq_toNat_cond, BitVec.toNat_ofNat, if_pos (by omega)]
  omega
/-- the next seed; the line drawn by it -/
def nxS (s : Int) : Int := (1103515245 * s + 12345) % 2147483648
def drL (s : Int) : Int := 97 + s / 65536 % 5
def itS (s : Int) : Nat → Int
  | 0 => s
  | k + 1 => nxS (itS s k)
theorem itS_s (s : Int) (k : Nat) : itS s (k + 1) = nxS (itS s k) := rfl
theorem nxS_r (s : Int) : 0 ≤ nxS s ∧ nxS s < 2147483648 := by
  unfold nxS
  omega
theorem itS_r {s : Int} (h : 0 ≤ s ∧ s < 2147483648) : ∀ k, 0 ≤ itS s k ∧ itS s k < 2147483648
  | 0 => h
  | k + 1 => nxS_r _
theorem drL_r (s : Int) : 97 ≤ drL s ∧ drL s ≤ 101 := by
  unfold drL
  omega
theorem drL_c {s : Int} (h : 0 ≤ s ∧ s < 2147483648) : 97 + iRem (iDiv s 65536) 5 = drL s := by
  rw [iDiv_pos h.1 h.2 (by decide) (by decide), iRem_pos (by omega) (by omega) (by decide) (by decide)]
  rfl
theorem nxS_c {s : Int} (h : 0 ≤ s ∧ s < 2147483648) : l2I (lRem (1103515245 * s + 12345) 2147483648) = nxS s := by
  rw [lRem_pos (by omega) (by omega) (by decide) (by decide)]
  exact l2I_rg (by have := nxS_r s; unfold nxS at this; exact ⟨by omega, by omega⟩)
theorem nxS_d {s : Int} (h : 0 ≤ s ∧ s < 2147483648) : l2I (lAnd (1103515245 * s + 12345) 2147483647) = nxS s := by
  rw [lAnd_31 (by omega) (by omega)]
  exact l2I_rg (by have := nxS_r s; unfold nxS at this; exact ⟨by omega, by omega⟩)
def dA (s : Int) : LF := fun t i => drL (itS s (4 * t + i + 1).toNat)
def dN : Int → Int := fun _ => 4
theorem dA_ok (s : Int) : okA (dA s) := fun t i => by
  have := drL_r (itS s (4 * t + i + 1).toNat)
  exact ⟨⟨by unfold dA; omega, by unfold dA; omega⟩, by unfold dA; omega⟩
theorem dN_b : 0 ≤ dN 0 ∧ dN 0 ≤ 8 := ⟨by decide, by decide⟩
theorem dN_b1 : 0 ≤ dN 1 ∧ dN 1 ≤ 8 := ⟨by decide, by decide⟩
theorem sA_s (A : LF) (f : Nat) (P : LF) (i j : Int) : sA A (f + 1) P i j = if (tn A P i j).2.2.1 ≤ 0 ∨ (tn A P i j).2.2.2 ≤ 0 then ((tn A P i j).1, (tn A P i j).2.1)
    else ((sA A f (tn A P i j).1 ((tn A P i j).2.2.1 - 1) ((tn A P i j).2.2.2 - 1)).1, (tn A P i j).2.1 + (sA A f (tn A P i j).1 ((tn A P i j).2.2.1 - 1) ((tn A P i j).2.2.2 - 1)).2) := rfl
theorem sA_r (A : LF) : ∀ (m : Nat) (P : LF) (i j : Int), 0 ≤ i → i ≤ 8 → 0 ≤ j → j ≤ 8 → 0 ≤ (sA A m P i j).2 ∧ (sA A m P i j).2 ≤ 16 * m := by
  intro m
  induction m with
  | zero => intro P i j _ _ _ _; exact ⟨Int.le_refl _, Int.le_refl _⟩
  | succ m ih =>
    intro P i j i0 i1 j0 j1
    have t := tn_r A P i0 j0
    rw [sA_s]
    split
    · simp only
      omega
    · rename_i c
      have := ih (tn A P i j).1 ((tn A P i j).2.2.1 - 1) ((tn A P i j).2.2.2 - 1) (by omega) (by omega) (by omega) (by omega)
      simp only
      omega
theorem SLN_r {A : LF} {n : Int → Int} (h0 : 0 ≤ n 0 ∧ n 0 ≤ 8) (h1 : 0 ≤ n 1 ∧ n 1 ≤ 8) : 0 ≤ SLN A n ∧ SLN A n ≤ 144 := by
  have := sA_r A 9 (P0 A n) (n 0) (n 1) h0.1 h0.2 h1.1 h1.2
  unfold SLN
  omega
def dC (s : Int) : Int := COST (dA s) dN
def dSl (s : Int) : Int := SLN (dA s) dN
theorem dC_r (s : Int) : 0 ≤ dC s ∧ dC s ≤ 16 := COST_r dN_b dN_b1
theorem dSl_r (s : Int) : 0 ≤ dSl s ∧ dSl s ≤ 144 := SLN_r dN_b dN_b1
def drN : Nat → Int → Int → Int → Int × Int × Int
  | 0, s, c, l => (c, l, s)
  | m + 1, s, c, l => drN m (itS s 8) (c + dC s) (l + dSl s)
theorem drN_s (m : Nat) (s c l : Int) : drN (m + 1) s c l = drN m (itS s 8) (c + dC s) (l + dSl s) := rfl
def aDrw (t s w : Int) : Int := if w = 0 then (drN t.toNat s 0 0).1 else if w = 1 then (drN t.toNat s 0 0).2.1 else (drN t.toNat s 0 0).2.2
noncomputable def rDrw (t s w : Int) : Int := cI ((1 ≤ t ∧ t ≤ 30) ∧ 0 ≤ s ∧ 0 ≤ w ∧ w ≤ 2) (aDrw t s w) (-102)
/-- the sizes as the drawing goes on -/
def dS (sd pl : Int) : Int → Int := fun t => if t = sd then pl else if t = 0 then 4 else 0
section DRAWN
variable {g : AG} {d : Nat} {M : AM} {pg : Int → Int} {z : Int} {A Ai RK : LF} {n ni RN : Int → Int} {T I rd : Int} {Q : Int → AM → Prop}
theorem c_drawTrial {s : Int} (hs : 0 ≤ s ∧ s < 2147483648) (h : ∀ M', LAm M' 28 (dA s) dN → PAm M' 28 (KP (dA s) dN) → M' 28 8 = dSl s → KpC M M' → Q (itS s 8) M') : MetI g mX8_drawTrial (d + 23) [vR 0, vI s] M Q := by
  have inner : ∀ (sd : Int), sd = 0 ∨ sd = 1 → (∀ M1, LAm M1 28 (dA s) (dS sd 4) → (∀ k, (k < 31 ∨ 33 < k) → M1 k = M k) → S_X8_drawTrial_14 g (d + 23) (itS s (4 * sd + 4).toNat) (sd + 1) M1 Q) →
      ∀ (m : Nat) (pl : Int) (M1 : AM), pl + m = 4 → 0 ≤ pl → LAm M1 28 (dA s) (dS sd pl) → (∀ k, (k < 31 ∨ 33 < k) → M1 k = M k) → S_X8_drawTrial_22 g (d + 23) (itS s (4 * sd + pl).toNat) sd pl M1 Q := by
    intro sd hsd nx m
    induction m with
    | zero =>
      intro pl M1 hm p0 hA gF
      have e : pl = 4 := by omega
      subst e
      exact sg_X8_drawTrial_22 ⟨⟨by decide, by decide⟩, fun _ => nx M1 hA gF, fun w => absurd (by decide) w⟩
    | succ m ih =>
      intro pl M1 hm p0 hA gF
      have ir := itS_r hs (4 * sd + pl).toNat
      have nr := nxS_r (itS s (4 * sd + pl).toNat)
      have dr := drL_r (nxS (itS s (4 * sd + pl).toNat))
      have esd : dS sd pl sd = pl := by simp [dS]
      have e1 : M1 (29 + 4) sd.toNat = pl := by
        have := hA.sz hsd
        rw [esd] at this
        exact this
      refine sg_X8_drawTrial_22 ⟨⟨by omega, by omega⟩, fun w => by omega, fun _ => ⟨⟨by omega, by omega⟩, ⟨by omega, by omega⟩, ?_⟩⟩
      rw [nxS_c ir, drL_c nr]
      refine ⟨⟨by omega, by omega⟩, c_insert (d := d + 20) isSides_29 hsd ⟨by omega, by omega⟩ (by rw [e1]; omega) (by rw [e1]; omega) ?_⟩
      rw [← itS_s, show (4 * sd + pl).toNat + 1 = (4 * sd + (pl + 1)).toNat by omega]
      have f2 : ∀ k, (k < 31 ∨ 33 < k) → sIns M1 29 sd.toNat pl.toNat (drL (itS s (4 * sd + (pl + 1)).toNat)) k = M1 k := sIns_fr (M := M1) (o := 28) (by omega)
      refine ih (pl + 1) _ (by omega) (by omega) ?_ (fun k hk => by rw [f2 k hk]; exact gF k hk)
      have l2 : LAm (sIns M1 29 sd.toNat pl.toNat (drL (itS s (4 * sd + (pl + 1)).toNat))) 28 (insA (dA s) (dS sd pl) sd pl (drL (itS s (4 * sd + (pl + 1)).toNat))) (f1 (dS sd pl) sd (dS sd pl sd + 1)) := hA.ins (o := 28) hsd (by rw [esd]; omega) (by rw [esd]; omega)
      rw [esd] at l2
      refine l2.cg ?_ ?_ (fun t i ht i0 i1 => ?_)
      · unfold f1 dS
        split <;> rfl
      · unfold f1 dS
        split <;> rfl
      · unfold insA
        rw [esd]
        by_cases q : t = sd ∧ i = pl
        · rw [if_pos q, q.1, q.2]
          unfold dA
          rw [show 4 * sd + pl + 1 = 4 * sd + (pl + 1) by omega]
        · rw [if_neg q, if_neg]
          intro w
          rw [w.1] at i1
          unfold dS at i1
          rw [if_pos rfl] at i1
          omega
  have last : ∀ M1, LAm M1 28 (dA s) (dS 1 4) → (∀ k, (k < 31 ∨ 33 < k) → M1 k = M k) → S_X8_drawTrial_14 g (d + 23) (itS s (4 * 1 + 4 : Int).toNat) (1 + 1) M1 Q := by
    intro M1 hA gF
    have ir := itS_r hs 8
    have l2 : LAm M1 28 (dA s) dN := hA.cg rfl rfl (fun _ _ _ _ _ => rfl)
    refine sg_X8_drawTrial_14 ⟨⟨by decide, by decide⟩, fun _ => c_compare (d := d) isMatch_28 l2 (fun M2 k1 k2 k3 k4 => ⟨⟨by show -2147483648 ≤ itS s 8; omega, by show itS s 8 < 2147483648; omega⟩, ?_⟩), fun w => absurd (by decide) w⟩
    refine h M2 (l2.same (fun k a b => k4 k (by omega))) k1 k3 (fun k hk => ?_)
    rw [k4 k (by omega), gF k (by omega)]
  refine en_X8_drawTrial (sg_X8_drawTrial_0 (c_sclear (d := d + 21) isSides_29 ?_))
  refine sg_X8_drawTrial_14 ⟨⟨by decide, by decide⟩, fun w => absurd w (by decide), fun _ => inner 0 (Or.inl rfl) (fun M1 hA gF => ?_) 4 0 _ (by decide) (by decide) ?_ (fun k hk => by rw [mU_ne (by omega), mU_ne (by omega)])⟩
  · refine sg_X8_drawTrial_14 ⟨⟨by decide, by decide⟩, fun w => absurd w (by decide), fun _ => inner 1 (Or.inr rfl) last 4 0 M1 (by decide) (by decide) ?_ gF⟩
    exact hA.cg rfl rfl (fun _ _ _ _ _ => rfl)
  · refine ⟨?_, mU_at, ⟨by decide, by decide⟩, ⟨by decide, by decide⟩, fun t i ht i0 i1 => ?_⟩
    · rw [mU_nej (by decide), mU_at]
      rfl
    · rcases ht with rfl | rfl
      · have : i < 0 := i1
        omega
      · have : i < 0 := i1
        omega
theorem c_drawn {t s w : Int} (h1 : rg t) (h2 : rg s) (h3 : rg w) (h : ∀ M', KpC M M' → Q (rDrw t s w) M') : MetI g mX8_drawn (d + 24) [vR 0, vI t, vI s, vI w] M Q := by
  have hM := h M (KpC.rf M)
  unfold rDrw at h hM
  refine en_X8_drawn (sg_X8_drawn_0 ⟨h1, fun c1 => ?_, fun c1 => ⟨fun c2 => ?_, fun c2 => ⟨h2, fun c3 => ?_, fun c3 => ⟨h3, fun c4 => ?_, fun c4 => ⟨fun c5 => ?_, fun c5 => ?_⟩⟩⟩⟩⟩)
  · rwa [cI_f (by omega)] at hM
  · rwa [cI_f (by omega)] at hM
  · rwa [cI_f (by omega)] at hM
  · rwa [cI_f (by omega)] at hM
  · rw [cI_t ⟨⟨by omega, by omega⟩, by omega, by omega, by omega⟩] at h
    have loop : ∀ (m : Nat) (l : Int) (s1 c sl : Int) (M1 : AM), l + m = t → 0 ≤ l → (0 ≤ s1 ∧ s1 < 2147483648) → (0 ≤ c ∧ c ≤ 16 * l) → (0 ≤ sl ∧ sl ≤ 144 * l) → KpC M M1 → drN m s1 c sl = drN t.toNat s 0 0 → S_X8_drawn_39 g (d + 24) t w s1 c sl l M1 Q := by
      intro m
      induction m with
      | zero =>
        intro l s1 c sl M1 hm l0 hs hc hl kp e
        have h := h M1 kp
        unfold aDrw at h
        rw [← e] at h
        refine sg_X8_drawn_39 ⟨⟨by omega, by omega⟩, h1, fun _ => ⟨h3, fun w1 => ⟨fun w2 => ⟨⟨by omega, by omega⟩, ?_⟩, fun w2 => ⟨⟨by omega, by omega⟩, ?_⟩⟩, fun w1 => ⟨⟨by omega, by omega⟩, ?_⟩⟩, fun w => by omega⟩
        · rwa [if_neg w1, if_neg w2] at h
        · rwa [if_neg w1, if_pos w2] at h
        · rwa [if_pos w1] at h
      | succ m ih =>
        intro l s1 c sl M1 hm l0 hs hc hl kp e
        rw [drN_s] at e
        have cr := dC_r s1
        have sr := dSl_r s1
        refine sg_X8_drawn_39 ⟨⟨by omega, by omega⟩, h1, fun w => by omega, fun _ => ⟨⟨by omega, by omega⟩, c_drawTrial hs (fun M2 k1 k2 k3 k4 _ => c_notKept (d := d + 21) isMatch_28 k1 (fun i i0 i1 => k2 0 i (Or.inl rfl) i0 (by unfold dN at i1; omega)) (fun _ => ?_))⟩⟩
        rw [k3]
        exact ih (l + 1) (itS s1 8) _ _ M2 (by omega) (by omega) (itS_r hs 8) ⟨by unfold dC at cr; omega, by unfold dC at cr; omega⟩ ⟨by omega, by omega⟩ (kp.tr k4) e
    exact loop t.toNat 0 s 0 0 M (by omega) (by omega) ⟨by omega, by have := h2.2; omega⟩ ⟨by omega, by omega⟩ ⟨by omega, by omega⟩ (KpC.rf M) rfl
  · rwa [cI_f (by omega)] at hM
theorem r_draw {s : Int} (e : M 88 26 = s) (hs : 0 ≤ s ∧ s < 2147483648) (h : rg (drL (nxS s) - 97) → Q (drL (nxS s) - 97) (mU M 88 26 (nxS s))) : MetI g mX9_draw (d + 1) [vR 88, vI 5] M (fun z M' => rg z → Q z M') := by
  refine en_X9_draw (sg_X9_draw_0 ⟨by decide, ?_⟩)
  rw [e, nxS_d hs]
  have := drL_c (nxS_r s)
  rw [show iRem (iDiv (nxS s) 65536) 5 = drL (nxS s) - 97 by omega]
  exact h
theorem r_drawn {t s w : Int} (hS : RpR M pg z A n T I Ai ni rd RK) (h1 : rg t) (h2 : rg s) (h3 : rg w) (h : ∀ M', RpR M' pg z A n T I Ai ni rd RK → (∀ k, k < 88 → M' k = M k) → Q (rDrw t s w) M') : MetI g mX9_drawn (d + 8) [vR 88, vI t, vI s, vI w] M Q := by
  have hM := h M hS (fun _ _ => rfl)
  obtain ⟨t1, t2, t3, t4, t5, t6⟩ := hS.2.1
  have b0 := t1.2.2.1
  have b1 := t1.2.2.2.1
  unfold rDrw at h hM
  refine en_X9_drawn (sg_X9_drawn_0 ⟨h1, r_in (d := d + 6) (rl_of h1) ⟨by decide, by decide⟩ ⟨by decide, by decide⟩ (fun _ => ⟨fun c1 => ?_, fun c1 => ⟨h2, fun c2 => ?_, fun c2 => ⟨h3, r_in (d := d + 6) (rl_of h3) ⟨by decide, by decide⟩ ⟨by decide, by decide⟩ (fun _ => ⟨fun c3 => ?_, fun c3 => ?_⟩)⟩⟩⟩)⟩)
  · rwa [cI_f (fun q => bI_not c1 q.1)] at hM
  · rwa [cI_f (by omega)] at hM
  · have tr := bI_of c1
    have wr := bI_of c3
    rw [cI_t ⟨tr, by omega, wr⟩] at h
    refine r_copy (d := d + 6) (n1 := 32) (n2 := 32) rfl rfl (by decide) (by decide) (by decide) (fun Ma a1 _ a3 => r_copy (d := d + 6) (n1 := 2) (n2 := 2) rfl rfl (by decide) (by decide) (by decide) (fun Mb c1 _ c3 => ?_))
    have sv : LAq Mb 104 105 A n := LAq.cpy (show LAq M 92 93 A n from t1) (fun k hk => by rw [c3 104 (by decide)]; exact a1 k hk) (fun k hk => by rw [c1 k hk, a3 93 (by decide)])
    have frb : ∀ k, k ≠ 104 → k ≠ 105 → Mb k = M k := fun k x y => by rw [c3 k y, a3 k x]
    have outer : ∀ (m : Nat) (l : Int) (s1 c sl : Int) (M1 : AM), l + m = t → 0 ≤ l → (0 ≤ s1 ∧ s1 < 2147483648) → M1 88 26 = s1 → (0 ≤ c ∧ c ≤ 16 * l) → (0 ≤ sl ∧ sl ≤ 144 * l) → LAq M1 104 105 A n → (∀ k, k ≠ 88 → (k < 92 ∨ 99 < k) → k ≠ 104 → k ≠ 105 → M1 k = M k) → (∀ j, j ≠ 12 → j ≠ 13 → j ≠ 15 → j ≠ 26 → M1 88 j = M 88 j) → drN m s1 c sl = drN t.toNat s 0 0 → S_X9_drawn_67 g (d + 8) t w c sl l M1 Q := by
      intro m
      induction m with
      | zero =>
        intro l s1 c sl M1 hm l0 hs e26 hc hl q gF g8 e
        refine sg_X9_drawn_67 ⟨⟨by omega, by omega⟩, h1, fun _ => ?_, fun w => by omega⟩
        refine r_copy (d := d + 6) (n1 := 32) (n2 := 32) rfl rfl (by decide) (by decide) (by decide) (fun M2 a1 _ a3 => r_copy (d := d + 6) (n1 := 2) (n2 := 2) rfl rfl (by decide) (by decide) (by decide) (fun M3 c1 _ c3 => ?_))
        have hA : LAr M3 A n := LAq.cpy (a' := 92) (b' := 93) q (fun k hk => by rw [c3 92 (by decide)]; exact a1 k hk) (fun k hk => by rw [c1 k hk, a3 105 (by decide)])
        refine r_layKept (d := d + 1) hA (fun M4 k1 k2 k3 k4 => ?_)
        have fr : ∀ k, k ≠ 88 → (k < 92 ∨ 99 < k) → k ≠ 104 → k ≠ 105 → M4 k = M k := fun k x y u v => by rw [k4.1 k x (by omega), c3 k (by omega), a3 k (by omega)]; exact gF k x y u v
        have f8 : ∀ j, j ≠ 12 → j ≠ 13 → j ≠ 15 → j ≠ 26 → M4 88 j = M 88 j := fun j x y u v => by rw [k4.2 j x y u, c3 88 (by decide), a3 88 (by decide)]; exact g8 j x y u v
        have e4 : M4 88 26 = s1 := by rw [k4.2 26 (by decide) (by decide) (by decide), c3 88 (by decide), a3 88 (by decide)]; exact e26
        have h := h M4 ⟨hS.1.same (f8 1 (by decide) (by decide) (by decide) (by decide)) (fr 89 (by decide) (by omega) (by decide) (by decide)), ⟨hA.fr k4, fun s i L => k1 s i L.1 L.2.1 (by have := isLn_r b0 b1 L; omega), t3.same (f8 22 (by decide) (by decide) (by decide) (by decide)) (f8 23 (by decide) (by decide) (by decide) (by decide)) (fr 101 (by decide) (by omega) (by decide) (by decide)), by rw [fr 102 (by decide) (by omega) (by decide) (by decide)]; exact t4, by rw [f8 9 (by decide) (by decide) (by decide) (by decide)]; exact t5, fun _ => ⟨k2, k3⟩⟩, hS.2.2.1.same (fun k hk => fr k (by omega) (by omega) (by omega) (by omega)) (fun j hj => f8 j (by omega) (by omega) (by omega) (by omega)), hS.2.2.2.same (fr 103 (by decide) (by omega) (by decide) (by decide))⟩ (fun k hk => fr k (by omega) (by omega) (by omega) (by omega))
        unfold aDrw at h
        rw [← e] at h
        rw [e4]
        refine ⟨h3, fun w1 => ⟨fun w2 => ?_, fun w2 => ⟨⟨by omega, by omega⟩, ?_⟩⟩, fun w1 => ⟨⟨by omega, by omega⟩, ?_⟩⟩
        · rwa [if_neg w1, if_neg w2] at h
        · rwa [if_neg w1, if_pos w2] at h
        · rwa [if_pos w1] at h
      | succ m ih =>
        intro l s1 c sl M1 hm l0 hs e26 hc hl q gF g8 e
        rw [drN_s] at e
        have cr := dC_r s1
        have sr := dSl_r s1
        have inner : ∀ (m2 : Nat) (k : Int) (M2 : AM), k + m2 = 8 → 0 ≤ k → M2 88 26 = itS s1 k.toNat → (∀ t i, t = 0 ∨ t = 1 → 0 ≤ i → i < 4 → 4 * t + i < k → M2 92 (16 * t + i).toNat = dA s1 t i) → (∀ k, k ≠ 88 → k ≠ 92 → M2 k = M1 k) → (∀ j, j ≠ 26 → M2 88 j = M1 88 j) → S_X9_drawn_76 g (d + 8) t w c sl l k M2 Q := by
          intro m2
          induction m2 with
          | zero =>
            intro k M2 hk k0 e2 hM2 g1 g2
            have e8 : k = 8 := by omega
            subst e8
            refine sg_X9_drawn_76 ⟨⟨by decide, by decide⟩, fun _ => ?_, fun w => absurd (by decide) w⟩
            have hA : LAr (mU (mU M2 93 0 4) 93 1 4) (dA s1) dN := by
              refine LAr_of dN_b dN_b1 (fun t ht => ?_) (fun t i ht i0 i1 i8 => ?_)
              · rcases ht with rfl | rfl
                · rw [show ((0 : Int)).toNat = 0 by decide, mU_nej (by decide), mU_at]; rfl
                · rw [show ((1 : Int)).toNat = 1 by decide, mU_at]; rfl
              · rw [mU_ne (by decide), mU_ne (by decide)]
                have : i < 4 := i1
                exact hM2 t i ht i0 this (by omega)
            refine r_layKept (d := d + 1) hA (fun M3 k1 k2 k3 k4 => ?_)
            have hA3 := hA.fr k4
            refine r_costNow (d := d + 5) hA3 (fun i i0 i1 => ?_) (fun _ => ?_)
            · have := k1 0 i (Or.inl rfl) i0 (by unfold dN at i1; omega)
              rwa [show (16 : Int) * 0 + i = i by omega] at this
            · rw [k3]
              refine ih (l + 1) (itS s1 8) _ _ M3 (by omega) (by omega) (itS_r hs 8) ?_ ⟨by unfold dC at cr; omega, by unfold dC at cr; omega⟩ ⟨by unfold dSl at sr; omega, by unfold dSl at sr; omega⟩ (q.same ?_ ?_) (fun k x y u v => ?_) (fun j x y u v => ?_) e
              · rw [k4.2 26 (by decide) (by decide) (by decide), mU_ne (by decide), mU_ne (by decide)]
                exact e2
              · rw [k4.1 104 (by decide) (by omega), mU_ne (by decide), mU_ne (by decide)]
                exact g1 104 (by decide) (by decide)
              · rw [k4.1 105 (by decide) (by omega), mU_ne (by decide), mU_ne (by decide)]
                exact g1 105 (by decide) (by decide)
              · rw [k4.1 k x (by omega), mU_ne (by omega), mU_ne (by omega), g1 k x (by omega)]
                exact gF k x y u v
              · rw [k4.2 j x y u, mU_ne (by decide), mU_ne (by decide), g2 j v]
                exact g8 j x y u v
          | succ m2 ih2 =>
            intro k M2 hk k0 e2 hM2 g1 g2
            have ir := itS_r hs k.toNat
            have dr := drL_r (nxS (itS s1 k.toNat))
            refine sg_X9_drawn_76 ⟨⟨by omega, by omega⟩, fun w => by omega, fun _ => ?_⟩
            refine r_draw (d := d + 6) (Q := fun z M' => (0 ≤ 16 * iDiv k 4 + iRem k 4 ∧ 16 * iDiv k 4 + iRem k 4 < 32) ∧ rg (97 + z) ∧ S_X9_drawn_76 g (d + 8) t w c sl l (k + 1) (mU M' 92 (16 * iDiv k 4 + iRem k 4).toNat (97 + z)) Q) e2 ir (fun _ => ?_)
            rw [iDiv_pos k0 (by omega) (by decide) (by decide), iRem_pos k0 (by omega) (by decide) (by decide), show 97 + (drL (nxS (itS s1 k.toNat)) - 97) = drL (nxS (itS s1 k.toNat)) by omega]
            refine ⟨⟨by omega, by omega⟩, ⟨by omega, by omega⟩, ?_⟩
            rw [← itS_s, show k.toNat + 1 = (k + 1).toNat by omega]
            refine ih2 (k + 1) _ (by omega) (by omega) ?_ (fun t i ht i0 i4 hi => ?_) (fun k' x y => by rw [mU_ne y, mU_ne x]; exact g1 k' x y) (fun j x => by rw [mU_ne (by decide), mU_nej x]; exact g2 j x)
            · rw [mU_ne (by decide), mU_at]
            · by_cases qq : 4 * t + i = k
              · rw [show 16 * (k / 4) + k % 4 = 16 * t + i by omega, mU_at]
                unfold dA
                rw [qq]
              · rw [mU_nej (by omega), mU_ne (by decide)]
                exact hM2 t i ht i0 i4 (by omega)
        refine sg_X9_drawn_67 ⟨⟨by omega, by omega⟩, h1, fun w => by omega, fun _ => ?_⟩
        exact inner 8 0 M1 (by decide) (by decide) e26 (fun t i ht i0 i4 hi => by omega) (fun _ _ _ => rfl) (fun _ _ => rfl)
    refine outer t.toNat 0 s 0 0 _ (by omega) (by omega) ⟨by omega, by have := h2.2; omega⟩ mU_at ⟨by omega, by omega⟩ ⟨by omega, by omega⟩ (sv.same (mU_ne (by decide)) (mU_ne (by decide))) (fun k x y u v => ?_) (fun j x y u v => ?_) rfl
    · rw [mU_ne x]
      exact frb k u v
    · rw [mU_nej v, frb 88 (by decide) (by decide)]
  · rwa [cI_f (fun q => bI_not c3 q.2.2)] at hM
end DRAWN
