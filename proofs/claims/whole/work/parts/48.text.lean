/-! text and best, on both sides -/
theorem rdN_ok (pg : Int → Int) : ∀ (m : Nat) (k : Int) (r : RdS), RdOk r → RdL r → RdOk (rdN pg m k r).2 ∧ RdL (rdN pg m k r).2 ∧ (rdN pg m k r).1 ≤ k + m := by
  intro m
  induction m with
  | zero => intro k r a b; exact ⟨a, b, by show k ≤ k + ((0 : Nat) : Int); omega⟩
  | succ m ih =>
    intro k r a b
    cases e : stp (pg k) r with
    | none =>
      rw [rdN_n e]
      exact ⟨a, b, by simp only; omega⟩
    | some r' =>
      rw [rdN_s e]
      obtain ⟨x, y, w⟩ := ih (k + 1) r' (stp_ok a e) (stp_L a b e)
      exact ⟨x, y, by omega⟩
def txR (pg : Int → Int) (z : Int) : RdS := (rdN pg z.toNat 0 Rd0).2
def txN (pg : Int → Int) (z : Int) : Int → Int := (txR pg z).2.2.1
def txA (pg : Int → Int) (z : Int) : LF := fun s i => if (s = 0 ∨ s = 1) ∧ 0 ≤ i ∧ i < txN pg z s then (txR pg z).2.2.2 s i else 0
theorem txR_ok (pg : Int → Int) (z : Int) : RdOk (txR pg z) ∧ RdL (txR pg z) := ⟨(rdN_ok pg z.toNat 0 Rd0 Rd0_ok Rd0_L).1, (rdN_ok pg z.toNat 0 Rd0 Rd0_ok Rd0_L).2.1⟩
theorem txA_ok (pg : Int → Int) (z : Int) : okA (txA pg z) := by
  intro s i
  unfold txA
  split
  · rename_i c
    exact ⟨⟨by have := okLn_rg ((txR_ok pg z).2.1 s i c.1 c.2.1 c.2.2); omega, by have := okLn_rg ((txR_ok pg z).2.1 s i c.1 c.2.1 c.2.2); omega⟩, by have := okLn_rg ((txR_ok pg z).2.1 s i c.1 c.2.1 c.2.2); omega⟩
  · exact ⟨⟨by decide, by decide⟩, by decide⟩
section TEXT
variable {g : AG} {d : Nat} {M : AM} {pg : Int → Int} {z : Int} {A Ai RK : LF} {n ni RN : Int → Int} {T I rd : Int} {Q : Int → AM → Prop}
theorem c_text0 (hS : RpC M pg z A n T I Ai ni rd RK RN) (hn : ¬ isTx pg z) (h : ∀ M', KpC M M' → Q (-103) M') : MetI g mX8_text (d + 24) [vR 0] M Q :=
  en_X8_text (sg_X8_text_0 (c_isText (d := d + 18) hS.1 (fun M1 k1 _ => ⟨fun c => absurd (bI_of c) hn, fun _ => h M1 (fun k hk => k1 k (by omega))⟩)))
theorem c_text1 (hS : RpC M pg z A n T I Ai ni rd RK RN) (hr : 0 ≤ rd ∧ rd ≤ 1000) (hy : isTx pg z) (h : ∀ M', RpC M' pg 0 (txA pg z) (txN pg z) 1 0 Ai ni (rd + 1) RK0 RN0 → (∀ k, 88 ≤ k → M' k = M k) → Q (txN pg z 0 + txN pg z 1) M') : MetI g mX8_text (d + 24) [vR 0] M Q := by
  refine en_X8_text (sg_X8_text_0 (c_isText (d := d + 18) hS.1 (fun M1 k1 _ => ⟨fun _ => ?_, fun c => absurd hy (bI_not c)⟩)))
  have hP1 : PgC M1 pg z := hS.1.same (k1 1 (by decide)) (k1 2 (by decide))
  refine c_readInto (d := d + 19) hP1 hy.1 (fun M5 a1 a2 => ?_)
  have e10 : M5 0 10 = rd := by rw [a2 0 (by decide) (by decide) (by decide), k1 0 (by decide)]; exact hS.2.2.1.2.2
  rw [e10]
  have fr : ∀ k, k ≠ 0 → k ≠ 1 → k ≠ 3 → k ≠ 7 → k ≠ 8 → k ≠ 9 → (mU (mU (mU (mU M5 1 2 0) 0 8 1) 0 9 0) 0 10 (rd + 1)) k = M k := fun k b0 b1 b3 b7 b8 b9 => by rw [mU_ne b0, mU_ne b0, mU_ne b0, mU_ne b1, a2 k b7 b8 b9, k1 k b3]
  have ro := (txR_ok pg z).1
  have l1 : LAm (mU (mU (mU (mU M5 1 2 0) 0 8 1) 0 9 0) 0 10 (rd + 1)) 4 (txA pg z) (txN pg z) := by
    refine LAm_of ro.2.2.1 ro.2.2.2.1 (fun t ht => ?_) (fun t i ht i0 i1 i8 => ?_)
    · rw [mU_ne (by omega), mU_ne (by omega), mU_ne (by omega), mU_ne (by omega)]
      exact (a1 t ht).1
    · rw [mU_ne (by omega), mU_ne (by omega), mU_ne (by omega), mU_ne (by omega), show 4 + 3 + t.toNat = 7 + t.toNat by omega]
      unfold txA
      rw [if_pos ⟨ht, i0, i1⟩]
      exact (a1 t ht).2 i i0 i1
  refine ⟨⟨by omega, by omega⟩, c_anew (T := 1) l1 (txA_ok pg z) (by rw [mU_nej (by decide), mU_nej (by decide), mU_at]) (fun M2 j1 j2 j3 _ => c_totalL (d := d + 22) isMatch_4 j1.1 (fun _ => h M2 (RpC.anew ⟨?_, ⟨by decide, by decide⟩, fun k k0 k1 => by omega⟩ ⟨?_, fun w => absurd w (by decide), mU_at⟩ j1 j2 j3) (fun k hk => ?_)))⟩
  · rw [mU_ne (by decide), mU_ne (by decide), mU_ne (by decide), mU_at]
  · rw [mU_nej (by decide), mU_at]
  · rw [j3 k (by omega)]
    exact fr k (by omega) (by omega) (by omega) (by omega) (by omega) (by omega)
theorem r_text0 (hS : RpR M pg z A n T I Ai ni rd RK) (hn : ¬ isTx pg z) (h : ∀ M', KpR M M' → Q (-103) M') : MetI g mX9_text (d + 8) [vR 88] M Q := by
  refine en_X9_text (sg_X9_text_0 (r_faultOf (d := d + 4) hS.1 (fun M1 k1 k2 _ => ?_)))
  have e1 : M1 88 1 = z := by rw [k1.2 1 (by decide) (by decide) (by decide)]; exact hS.1.1
  have b := hS.1.2.1
  have le := (rdN_ok pg z.toNat 0 Rd0 Rd0_ok Rd0_L).2.2
  rw [e1]
  refine ⟨fun c => h M1 k1.kp, fun c => ?_⟩
  obtain ⟨ro, rL, rR, r6⟩ := k2 (by omega)
  rw [rR.1]
  refine ⟨fun _ => h M1 k1.kp, fun c1 => ?_⟩
  have s1 : (rdN pg z.toNat 0 Rd0).2.1 = 1 := by have := ro.1; omega
  refine ⟨fun c2 => ?_, fun c2 => ⟨fun c3 => ?_, fun _ => h M1 k1.kp⟩⟩
  · have z0 : z = 0 := by omega
    subst z0
    have : (0 : Int) = 1 := s1
    omega
  · rw [r6 (by omega)] at c3
    have := bI_not c3
    exact absurd ⟨by omega, s1, Classical.byContradiction fun q => this q⟩ hn
theorem r_text1 (hS : RpR M pg z A n T I Ai ni rd RK) (hr : 0 ≤ rd ∧ rd ≤ 1000) (hy : isTx pg z) (h : ∀ M', RpR M' pg 0 (txA pg z) (txN pg z) 1 0 Ai ni (rd + 1) RK0 → (∀ k, k < 88 → M' k = M k) → Q (txN pg z 0 + txN pg z 1) M') : MetI g mX9_text (d + 8) [vR 88] M Q := by
  refine en_X9_text (sg_X9_text_0 (r_faultOf (d := d + 4) hS.1 (fun M1 k1 k2 _ => ?_)))
  have e1 : M1 88 1 = z := by rw [k1.2 1 (by decide) (by decide) (by decide)]; exact hS.1.1
  have b := hS.1.2.1
  obtain ⟨y1, y2, y3⟩ := hy
  obtain ⟨ro, rL, rR, r6⟩ := k2 y1
  rw [e1, rR.1, y2]
  refine ⟨fun c => by omega, fun _ => ⟨fun c => absurd c (by decide), fun _ => ⟨fun c2 => ?_, fun c2 => ⟨fun _ => ?_, fun c3 => ?_⟩⟩⟩⟩
  · have z0 : z = 0 := by omega
    subst z0
    have : (0 : Int) = 1 := y2
    omega
  · refine r_copy (d := d + 6) (n1 := 32) (n2 := 32) rfl rfl (by decide) (by decide) (by decide) (fun M2 a1 _ a3 => r_copy (d := d + 6) (n1 := 2) (n2 := 2) rfl rfl (by decide) (by decide) (by decide) (fun M3 c1 _ c3 => ?_))
    have e10 : M3 88 10 = rd := by rw [c3 88 (by decide), a3 88 (by decide), k1.2 10 (by decide) (by decide) (by decide)]; exact hS.2.2.1.1
    rw [e10]
    have fr : ∀ k, k ≠ 88 → k ≠ 90 → k ≠ 91 → k ≠ 92 → k ≠ 93 → (mU (mU (mU M3 88 9 1) 88 10 (rd + 1)) 88 1 0) k = M k := fun k b0 b1 b2 b3 b4 => by rw [mU_ne b0, mU_ne b0, mU_ne b0, c3 k b4, a3 k b3, k1.1 k b0 b1 b2]
    have f8 : ∀ j, j ≠ 1 → j ≠ 9 → j ≠ 10 → j ≠ 2 → j ≠ 3 → j ≠ 6 → (mU (mU (mU M3 88 9 1) 88 10 (rd + 1)) 88 1 0) 88 j = M 88 j := fun j b0 b1 b2 b3 b4 b5 => by rw [mU_nej b0, mU_nej b2, mU_nej b1, c3 88 (by decide), a3 88 (by decide), k1.2 j b3 b4 b5]
    have rx := (txR_ok pg z).1
    have l1 : LAr (mU (mU (mU M3 88 9 1) 88 10 (rd + 1)) 88 1 0) (txA pg z) (txN pg z) := by
      refine LAr_of rx.2.2.1 rx.2.2.2.1 (fun t ht => ?_) (fun t i ht i0 i1 i8 => ?_)
      · rw [mU_ne (by decide), mU_ne (by decide), mU_ne (by decide), c1 t.toNat (by omega), a3 90 (by decide)]
        exact rR.2.2.1 t ht
      · rw [mU_ne (by decide), mU_ne (by decide), mU_ne (by decide), c3 92 (by decide), a1 _ (by omega)]
        unfold txA
        rw [if_pos ⟨ht, i0, i1⟩]
        exact rR.2.2.2 t i ht i0 i1
    refine ⟨⟨by omega, by omega⟩, r_lay (T := 1) l1 (txA_ok pg z) (by rw [mU_nej (by decide), mU_nej (by decide), mU_at]) (fun M4 j1 j2 j3 => ?_)⟩
    rw [j1.1.1, j1.1.2.1]
    have b0 := rx.2.2.1
    have b1 := rx.2.2.2.1
    have i2 := hS.2.2.1.2.1
    refine ⟨⟨by unfold txN; omega, by unfold txN; omega⟩, h M4 (RpR.anew ⟨mU_at, ⟨by decide, by decide⟩, fun k k0 k1 => by omega⟩ ⟨?_, ?_, ?_, fun w => absurd w (by decide)⟩ j1 j2 j3) (fun k hk => ?_)⟩
    · rw [mU_nej (by decide), mU_at]
    · rw [f8 29 (by decide) (by decide) (by decide) (by decide) (by decide) (by decide)]
      omega
    · rw [f8 29 (by decide) (by decide) (by decide) (by decide) (by decide) (by decide)]
      constructor
      · intro w; omega
      · intro w; cases w
    · rw [j3.1 k (by omega) (by omega)]
      exact fr k (by omega) (by omega) (by omega) (by omega) (by omega)
  · rw [r6 (by omega)] at c3
    exact absurd y3 (bI_of c3)
/-! best -/
def cstP (A : LF) (n : Int → Int) (v p : Int) : Int := COST (insA A n 1 p v) (f1 n 1 (n 1 + 1))
def bsN (f : Int → Int) : Nat → Int → Int → Int → Int
  | 0, _, b, _ => b
  | m + 1, p, b, l => if f p < l then bsN f m (p + 1) p (f p) else bsN f m (p + 1) b l
theorem bsN_s (f : Int → Int) (m : Nat) (p b l : Int) : bsN f (m + 1) p b l = if f p < l then bsN f m (p + 1) p (f p) else bsN f m (p + 1) b l := rfl
def aBst (A : LF) (n : Int → Int) (v : Int) : Int := bsN (cstP A n v) (n 1).toNat 1 0 (cstP A n v 0)
noncomputable def rBst (A : LF) (n : Int → Int) (T v : Int) : Int := cI (okLn v) (cI (T = 1) (cI (n 1 < 8) (aBst A n v) (-104)) (-103)) (-102)
theorem cstP_r {v p : Int} (h0 : 0 ≤ n 0 ∧ n 0 ≤ 8) (h1 : 0 ≤ n 1 ∧ n 1 < 8) : 0 ≤ cstP A n v p ∧ cstP A n v p ≤ 16 := by
  obtain ⟨b0, b1⟩ := f1_bd (s := 1) (x := n 1 + 1) (n := n) (Or.inr rfl) h0 ⟨by omega, by omega⟩ ⟨by omega, by omega⟩
  exact COST_r b0 b1
theorem c_costOfPutting {p v : Int} (hT : TxC M A n T) (hv : rg v) (hp : 0 ≤ p ∧ p ≤ n 1) (hn : n 1 < 8) (h : ∀ M', KpC M M' → Q (cstP A n v p) M') : MetI g mX8_costOfPutting (d + 23) [vR 0, vI p, vI v] M Q := by
  have t1 := hT.1
  have fa : ∀ k, (k < 31 ∨ 33 < k) → sCpy M 29 5 k = M k := sCpy_fr (M := M) (o := 28) (o2 := 4)
  have l1 : LAm (sCpy M 29 5) 28 A n := LAm.cpy (o := 28) t1
  refine en_X8_costOfPutting (sg_X8_costOfPutting_0 (c_copyFrom (d := d + 21) isSides_29 isSides_5 (by omega) ⟨⟨by omega, by omega⟩, hv, ?_⟩))
  have e1 : sCpy M 29 5 (29 + 4) (Int.toNat 1) = n 1 := l1.sz (Or.inr rfl)
  refine c_insert (d := d + 20) isSides_29 (Or.inr rfl) hv (by rw [e1]; exact hp) (by rw [e1]; omega) ?_
  have f2 : ∀ k, (k < 31 ∨ 33 < k) → sIns (sCpy M 29 5) 29 (Int.toNat 1) p.toNat v k = sCpy M 29 5 k := sIns_fr (M := sCpy M 29 5) (o := 28) (by decide)
  have l2 : LAm (sIns (sCpy M 29 5) 29 (Int.toNat 1) p.toNat v) 28 (insA A n 1 p v) (f1 n 1 (n 1 + 1)) := l1.ins (o := 28) (Or.inr rfl) hp (by omega)
  refine c_compare (d := d) isMatch_28 l2 (fun M3 k1 k2 k3 k4 => ?_)
  have l3 : LAm M3 28 (insA A n 1 p v) (f1 n 1 (n 1 + 1)) := l2.same (fun k a b => k4 k (by omega))
  refine c_notKept (d := d + 20) isMatch_28 l3 (fun i i0 i1 => k1 0 i (Or.inl rfl) i0 (by have := l3.2.2.1; omega)) (fun _ => h M3 (fun k hk => ?_))
  rw [k4 k (by omega), f2 k (by omega), fa k (by omega)]
theorem c_best {v : Int} (hT : TxC M A n T) (ok : OkT A n T) (hv : rg v) (h : ∀ M', KpC M M' → Q (rBst A n T v) M') : MetI g mX8_best (d + 24) [vR 0, vI v] M Q := by
  have hM := h M (KpC.rf M)
  have b0 := hT.1.2.2.1
  have b1 := hT.1.2.2.2.1
  have e1 : ∀ M', KpC M M' → M' 9 1 = n 1 := fun M' k => by rw [k 9 (by omega)]; exact hT.1.2.1
  unfold rBst at h hM
  refine en_X8_best (sg_X8_best_0 ⟨hv, c_isLine (d := d + 21) hv (fun _ => ⟨fun c => ?_, fun c => ?_⟩)⟩)
  · rw [cI_t (bI_of c)] at h hM
    rw [hT.2.2.2.2.1, e1 M (KpC.rf M)]
    refine ⟨fun c1 => ⟨fun c2 => ?_, fun c2 => ?_⟩, fun c1 => ?_⟩
    · have T1 : T = 1 := by have := ok.2.1; omega
      rw [cI_t T1, cI_t c2] at h
      have loop : ∀ (m : Nat) (p bb l : Int) (M1 : AM), p + m = n 1 + 1 → 1 ≤ p → 0 ≤ bb ∧ bb ≤ 8 → 0 ≤ l ∧ l ≤ 16 → KpC M M1 → bsN (cstP A n v) m p bb l = aBst A n v → S_X8_best_49 g (d + 24) v bb l p M1 Q := by
        intro m
        induction m with
        | zero =>
          intro p bb l M1 hm p1 hb hl kp e
          have e9 := e1 M1 kp
          have h := h M1 kp
          rw [← e] at h
          exact sg_X8_best_49 ⟨⟨by omega, by omega⟩, fun _ => ⟨⟨by omega, by omega⟩, h⟩, fun w => by omega⟩
        | succ m ih =>
          intro p bb l M1 hm p1 hb hl kp e
          have e9 := e1 M1 kp
          have cr := cstP_r (A := A) (v := v) (p := p) b0 ⟨b1.1, c2⟩
          rw [bsN_s] at e
          refine sg_X8_best_49 ⟨⟨by omega, by omega⟩, fun w => by omega, fun _ => ⟨hv, c_costOfPutting (hT.kp kp) hv ⟨by omega, by omega⟩ c2 (fun M2 k2 _ => ⟨⟨by omega, by omega⟩, fun c3 => ?_, fun c3 => ?_⟩)⟩⟩
          · rw [if_neg (by omega)] at e
            exact ih (p + 1) bb l M2 (by omega) (by omega) hb hl (kp.tr k2) e
          · rw [if_pos (by omega)] at e
            exact ih (p + 1) p _ M2 (by omega) (by omega) ⟨by omega, by omega⟩ cr (kp.tr k2) e
      refine c_costOfPutting hT hv ⟨by omega, by omega⟩ c2 (fun M2 k2 _ => loop (n 1).toNat 1 0 _ M2 (by omega) (by omega) ⟨by omega, by omega⟩ (cstP_r b0 ⟨b1.1, c2⟩) k2 rfl)
    · rwa [cI_t (by have := ok.2.1; omega), cI_f (by omega)] at hM
    · rwa [cI_f (by omega)] at hM
  · rwa [cI_f (bI_not c)] at hM
theorem r_best {v : Int} (hS : RpR M pg z A n T I Ai ni rd RK) (ok : OkT A n T) (hv : rg v) (h : ∀ M', RpR M' pg z A n T I Ai ni rd RK → (∀ k, k < 88 → M' k = M k) → Q (rBst A n T v) M') : MetI g mX9_best (d + 8) [vR 88, vI v] M Q := by
  have hM := h M hS (fun _ _ => rfl)
  obtain ⟨t1, t2, t3, t4, t5, t6⟩ := hS.2.1
  have b0 := t1.2.2.1
  have b1 := t1.2.2.2.1
  unfold rBst at h hM
  refine en_X9_best (sg_X9_best_0 ⟨hv, r_isLetters (d := d + 5) hv (fun _ => ⟨fun c => ?_, fun c => ?_⟩)⟩)
  · rw [cI_t (bI_of c)] at h hM
    rw [t5, t1.2.1]
    refine ⟨fun c1 => ⟨fun c2 => ?_, fun c2 => ?_⟩, fun c1 => ?_⟩
    · have T1 : T = 1 := by have := ok.2.1; omega
      have c2 : n 1 < 8 := by omega
      rw [cI_t T1, cI_t c2] at h
      have loop : ∀ (m : Nat) (p bb l : Int) (M1 : AM), p + m = n 1 + 1 → 0 ≤ p → -1 ≤ bb ∧ bb ≤ 8 → 0 ≤ l ∧ l ≤ 99 → LAr M1 A n → (∀ k, k ≠ 88 → (k < 92 ∨ 99 < k) → M1 k = M k) → (∀ j, j ≠ 12 → j ≠ 13 → j ≠ 15 → M1 88 j = M 88 j) → bsN (cstP A n v) m p bb l = aBst A n v → S_X9_bestOf_16 g (d + 7) v bb l (n 1) p M1 (fun z11 M10 => rg z11 → Q z11 M10) := by
        intro m
        induction m with
        | zero =>
          intro p bb l M1 hm p0 hb hl hA gF g8 e
          refine sg_X9_bestOf_16 ⟨⟨by omega, by omega⟩, ⟨by omega, by omega⟩, fun _ => ?_, fun w => by omega⟩
          refine r_layKept hA (fun M2 k1 k2 k3 k4 => ⟨⟨by omega, by omega⟩, fun _ => ?_⟩)
          have e : bb = aBst A n v := e
          rw [e]
          have fr : ∀ k, k ≠ 88 → (k < 92 ∨ 99 < k) → M2 k = M k := fun k x y => by rw [k4.1 k x (by omega)]; exact gF k x y
          have f8 : ∀ j, j ≠ 12 → j ≠ 13 → j ≠ 15 → M2 88 j = M 88 j := fun j x y w => by rw [k4.2 j x y w]; exact g8 j x y w
          refine h M2 ⟨hS.1.same (f8 1 (by decide) (by decide) (by decide)) (fr 89 (by decide) (by omega)), ⟨hA.fr k4, fun s i L => k1 s i L.1 L.2.1 (by have := isLn_r b0 b1 L; omega), t3.same (f8 22 (by decide) (by decide) (by decide)) (f8 23 (by decide) (by decide) (by decide)) (fr 101 (by decide) (by omega)), ?_, ?_, fun _ => ⟨k2, k3⟩⟩, hS.2.2.1.same (fun k hk => fr k (by omega) (by omega)) (fun j hj => f8 j (by omega) (by omega) (by omega)), hS.2.2.2.same (fr 103 (by decide) (by omega))⟩ (fun k hk => fr k (by omega) (by omega))
          · rw [fr 102 (by decide) (by omega)]
            exact t4
          · rw [f8 9 (by decide) (by decide) (by decide)]
            exact t5
        | succ m ih =>
          intro p bb l M1 hm p0 hb hl hA gF g8 e
          have cr := cstP_r (A := A) (v := v) (p := p) b0 ⟨b1.1, c2⟩
          rw [bsN_s] at e
          refine sg_X9_bestOf_16 ⟨⟨by omega, by omega⟩, ⟨by omega, by omega⟩, fun w => by omega, fun _ => ⟨hv, ?_⟩⟩
          refine r_insert (d := d + 5) hA (Or.inr rfl) ⟨p0, by omega⟩ (by omega) hv (fun M2 k1 k2 => ?_)
          refine r_layKept k1 (fun M3 j1 j2 j3 j4 => ?_)
          have hA3 := k1.fr j4
          have kk : ∀ i, 0 ≤ i → i < f1 n 1 (n 1 + 1) 0 → M3 94 i.toNat = KP (insA A n 1 p v) (f1 n 1 (n 1 + 1)) 0 i := fun i i0 i1 => by
            have := j1 0 i (Or.inl rfl) i0 (by have := hA3.2.2.1; omega)
            rwa [show (16 : Int) * 0 + i = i by omega] at this
          have cn : ∀ {Q1 : Int → AM → Prop}, Q1 (cstP A n v p) M3 → MetI g mX9_costNow (d + 6) [vR 88] M3 Q1 := fun q => r_costNow (d := d + 4) hA3 kk q
          have rem : ∀ bb' l', -1 ≤ bb' ∧ bb' ≤ 8 → 0 ≤ l' ∧ l' ≤ 99 → bsN (cstP A n v) m (p + 1) bb' l' = aBst A n v → MetV g mX9_remove (d + 6) [vR 88, vI 1, vI p] M3 (fun M24 => S_X9_bestOf_16 g (d + 7) v bb' l' (n 1) (p + 1) M24 (fun z11 M10 => rg z11 → Q z11 M10)) := by
            intro bb' l' hb' hl' e'
            have en1 : f1 n 1 (n 1 + 1) 1 = n 1 + 1 := by simp [f1]
            have en0 : f1 n 1 (n 1 + 1) 0 = n 0 := by simp [f1]
            refine r_remove (d := d + 5) hA3 (Or.inr rfl) (by rw [en1]; exact ⟨p0, by omega⟩) (fun M4 i1 i2 => ?_)
            refine ih (p + 1) bb' l' M4 (by omega) (by omega) hb' hl' ?_ (fun k x y => ?_) (fun j x y w => ?_) e'
            · refine i1.cg ?_ ?_ (fun s i hs i0 q1 => ?_)
              · simp [f1]
              · simp [f1]
              · unfold remA insA
                rw [en1]
                rcases hs with rfl | rfl
                · rw [if_neg (by omega), if_neg (by omega), if_neg (by omega)]
                · by_cases q : p ≤ i
                  · rw [if_pos ⟨rfl, q, by omega⟩, if_neg (by omega), if_pos ⟨rfl, by omega, by omega⟩]
                    congr 1
                    omega
                  · rw [if_neg (by omega), if_neg (by omega), if_neg (by omega)]
            · rw [i2 k (by omega) (by omega), j4.1 k x (by omega), k2 k (by omega) (by omega)]
              exact gF k x y
            · rw [i2 88 (by decide) (by decide), j4.2 j x y w, k2 88 (by decide) (by decide)]
              exact g8 j x y w
          refine cn (fun _ => ⟨⟨by omega, by omega⟩, fun c3 => cn (fun _ => ⟨fun _ => ?_, fun w => absurd c3 w⟩), fun c3 => cn (fun _ => ⟨fun w => absurd w c3, fun _ => cn (fun _ => ?_)⟩)⟩)
          · rw [if_neg (by omega)] at e
            exact rem bb l hb hl e
          · rw [if_pos (by omega)] at e
            exact rem p _ ⟨by omega, by omega⟩ ⟨by omega, by omega⟩ e
      refine en_X9_bestOf (sg_X9_bestOf_0 ?_)
      rw [t1.2.1]
      refine loop ((n 1).toNat + 1) 0 (-1) 99 M (by omega) (by omega) ⟨by decide, by decide⟩ ⟨by decide, by decide⟩ t1 (fun _ _ _ => rfl) (fun _ _ _ _ => rfl) ?_
      have cr := cstP_r (A := A) (v := v) (p := 0) b0 ⟨b1.1, c2⟩
      rw [bsN_s, if_pos (by omega)]
      rfl
    · rwa [cI_t (by have := ok.2.1; omega), cI_f (by omega)] at hM
    · rwa [cI_f (by omega)] at hM
  · rwa [cI_f (bI_not c)] at hM
end TEXT
