/-! the reference's calls that ask, first half -/
theorem rl_of {z : Int} (h : rg z) : rl z := ⟨by have := h.1; omega, by have := h.2; omega⟩
theorem KpR.of100 {M M' : AM} (f : ∀ k, k ≠ 100 → M' k = M k) : KpR M M' := ⟨fun k _ _ _ a _ _ => f k (by omega), fun j _ _ _ _ _ _ => by rw [f 88 (by decide)]⟩
theorem KpR.of99 {M M' : AM} (f : ∀ k, k ≠ 99 → M' k = M k) : KpR M M' := ⟨fun k _ _ _ a _ _ => f k (by omega), fun j _ _ _ _ _ _ => by rw [f 88 (by decide)]⟩
theorem StR.at {M : AM} {L : List St} {G i : Int} (h : StR M L G) (hi : isSt L i) : M 101 (5 * i).toNat = (scA L i).1 ∧ M 101 (5 * i + 1).toNat = (scA L i).2.1 ∧ M 101 (5 * i + 2).toNat = (scA L i).2.2.1 ∧ M 101 (5 * i + 3).toNat = (scA L i).2.2.2.1 ∧ M 101 (5 * i + 4).toNat = (scA L i).2.2.2.2 := by
  obtain ⟨w, e⟩ := scA_at hi
  have h0 := hi.1
  rw [e, ← h.2.2 i.toNat w, show (5 * i).toNat = 5 * i.toNat by omega, show (5 * i + 1).toNat = 5 * i.toNat + 1 by omega, show (5 * i + 2).toNat = 5 * i.toNat + 2 by omega, show (5 * i + 3).toNat = 5 * i.toNat + 3 by omega, show (5 * i + 4).toNat = 5 * i.toNat + 4 by omega]
  exact ⟨rfl, rfl, rfl, rfl, rfl⟩
section RASK
variable {g : AG} {d : Nat} {M : AM} {pg : Int → Int} {z : Int} {A Ai RK : LF} {n ni RN : Int → Int} {T I rd : Int} {Q : Int → AM → Prop}
theorem LAr.sz (h : LAr M A n) {s : Int} (hs : s = 0 ∨ s = 1) : M 93 s.toNat = n s := by
  rcases hs with rfl | rfl
  · exact h.1
  · exact h.2.1
theorem LAr.bd (h : LAr M A n) {s : Int} (hs : s = 0 ∨ s = 1) : 0 ≤ n s ∧ n s ≤ 8 := by
  rcases hs with rfl | rfl
  · exact h.2.2.1
  · exact h.2.2.2.1
theorem r_isSide {s : Int} (hs : rg s) (h : Q (bI (s = 0 ∨ s = 1)) M) : MetI g mX9_isSide (d + 1) [vI s] M Q := by
  refine en_X9_isSide (sg_X9_isSide_0 ⟨hs, fun c => ?_, fun c => ⟨fun c2 => ?_, fun c2 => ?_⟩⟩)
  · rwa [bI_t (by omega)] at h
  · rwa [bI_f (by omega)] at h
  · rwa [bI_t (by omega)] at h
theorem r_isLine {s i : Int} (hA : LAr M A n) (h1 : rg s) (h2 : rg i) (h : Q (bI (isLn n s i)) M) : MetI g mX9_isLine (d + 2) [vR 88, vI s, vI i] M Q := by
  refine en_X9_isLine (sg_X9_isLine_0 ⟨h1, r_isSide h1 (fun _ => ⟨fun c => ?_, fun c => ?_⟩)⟩)
  · rwa [bI_f (fun q => bI_not c q.1)] at h
  · have hs := bI_of c
    have bd := hA.bd hs
    rw [hA.sz hs]
    refine ⟨h2, ⟨by omega, by omega⟩, ⟨by omega, by omega⟩, r_in (rl_of h2) ⟨by decide, by decide⟩ ⟨by omega, by omega⟩ (fun _ => ⟨fun c1 => ?_, fun c1 => ?_⟩)⟩
    · have q1 := bI_not c1
      rwa [bI_f (fun q => q1 ⟨q.2.1, by have := q.2.2; omega⟩)] at h
    · have q1 := bI_of c1
      rwa [bI_t ⟨hs, q1.1, by omega⟩] at h
theorem r_isStep {L : List St} {G i : Int} (hS : StR M L G) (l16 : L.length ≤ 16) (h1 : rg i) (h : Q (bI (isSt L i)) M) : MetI g mX9_isStep (d + 2) [vR 88, vI i] M Q := by
  refine en_X9_isStep (sg_X9_isStep_0 ?_)
  rw [hS.1]
  refine ⟨h1, ⟨by omega, by omega⟩, r_in (rl_of h1) ⟨by decide, by decide⟩ ⟨by omega, by omega⟩ (fun _ => ⟨bI_01 _, ?_⟩)⟩
  have e : (0 ≤ i ∧ i ≤ (L.length : Int) - 1) ↔ isSt L i := ⟨fun q => ⟨q.1, by omega⟩, fun q => ⟨q.1, by have := q.2; omega⟩⟩
  rw [bI_iff e]
  exact h
theorem r_tellLine {s i w : Int} (hT : TxR M A n T) (ok : OkT A n T) (L : isLn n s i) (h3 : rg w) (h : Q (aLine A n s i w) M) : MetI g mX9_tellLine (d + 3) [vR 88, vI s, vI i, vI w] M Q := by
  obtain ⟨t1, t2, t3, t4, t5, t6⟩ := hT
  have i8 := isLn_r t1.2.2.1 t1.2.2.2.1 L
  have hs := L.1
  have hi := L.2.1
  have e1 := t1.2.2.2.2 s i L.1 L.2.1 L.2.2
  have ho := ok.1 s i
  have ln := lnN_r (A s i)
  unfold aLine at h
  refine en_X9_tellLine (sg_X9_tellLine_0 ?_)
  rw [t2 s i L, t4 s i L, e1]
  have tl : ∀ w : Int, rg w → 1 ≤ w → w ≤ 3 → Q (lnC (A s i) (w - 1)) M → MetI g mX9_lettersOf (d + 2) [vI (A s i)] M (fun z9 M8 => rg z9 → ((z9 < w → (Q (-1) M8)) ∧ (¬ z9 < w → (rg (w - 1) ∧ (MetI g mX9_letterOf (d + 2) [vI (A s i), vI (w - 1)] M8 (fun z14 M13 => rg z14 → (Q z14 M13))))))) := by
    intro w rw1 w1 w3 h
    refine r_lettersOf (d := d + 1) ho.1 (fun _ => ⟨fun c => ?_, fun c => ⟨⟨by omega, by omega⟩, r_letterOf (d := d) ho.1 ho.2 (by omega) (by omega) (fun _ => h)⟩⟩)
    rwa [lnC_out (by omega)] at h
  refine ⟨⟨by omega, by omega⟩, h3, fun c => ?_, fun c => r_lettersOf (d := d + 1) ho.1 (fun _ => ?_), fun c => tl w h3 (by omega) (by omega) ?_, fun c => tl w h3 (by omega) (by omega) ?_, fun c => tl w h3 (by omega) (by omega) ?_, fun c => ⟨fun c2 => ?_, fun c2 => ?_⟩, fun c => ⟨fun c2 => ?_, fun c2 => ?_⟩⟩
  · rwa [if_pos c] at h
  · rwa [if_neg (by omega), if_pos c] at h
  · rwa [if_neg (by omega), if_neg (by omega), if_pos (by omega)] at h
  · rwa [if_neg (by omega), if_neg (by omega), if_pos (by omega)] at h
  · rwa [if_neg (by omega), if_neg (by omega), if_pos (by omega)] at h
  · rwa [if_neg (by omega), if_neg (by omega), if_neg (by omega), if_neg (by omega), if_neg c2] at h
  · rwa [if_neg (by omega), if_neg (by omega), if_neg (by omega), if_neg (by omega), if_pos c2] at h
  · rwa [if_neg (by omega), if_neg (by omega), if_neg (by omega), if_pos c, if_neg c2] at h
  · rwa [if_neg (by omega), if_neg (by omega), if_neg (by omega), if_pos c, if_pos c2] at h
theorem r_line {s i w : Int} (hT : TxR M A n T) (ok : OkT A n T) (h1 : rg s) (h2 : rg i) (h3 : rg w) (h : Q (cI (isLn n s i) (aLine A n s i w) (-101)) M) : MetI g mX9_line (d + 4) [vR 88, vI s, vI i, vI w] M Q := by
  refine en_X9_line (sg_X9_line_0 ⟨h1, h2, r_isLine (d := d + 1) hT.1 h1 h2 (fun _ => ⟨fun c => ?_, fun c => ⟨h3, r_tellLine hT ok (bI_of c) h3 (fun _ => ?_)⟩⟩)⟩)
  · rwa [cI_f (bI_not c)] at h
  · rwa [cI_t (bI_of c)] at h
theorem r_step {i w : Int} (hT : TxR M A n T) (h1 : rg i) (h2 : rg w) (h : Q (cI (isSt (SCR A n) i) (aStep (SCR A n) i w) (-101)) M) : MetI g mX9_step (d + 3) [vR 88, vI i, vI w] M Q := by
  obtain ⟨t1, t2, t3, t4, t5, t6⟩ := hT
  have l16 := SCR_len (A := A) t1.2.2.1 t1.2.2.2.1
  refine en_X9_step (sg_X9_step_0 ⟨h1, r_isStep t3 l16 h1 (fun _ => ⟨fun c => ⟨h2, r_in (d := d + 1) (rl_of h2) ⟨by decide, by decide⟩ ⟨by decide, by decide⟩ (fun _ => ⟨fun c1 => ?_, fun c1 => ?_⟩)⟩, fun c => ?_⟩)⟩)
  · have q := bI_not c1
    rw [cI_t (bI_of c)] at h
    unfold aStep at h
    rwa [if_pos (by omega)] at h
  · have q := bI_of c1
    have L : isSt (SCR A n) i := bI_of c
    rw [cI_t L] at h
    obtain ⟨e1, e2, e3, e4, e5⟩ := t3.at L
    obtain ⟨L0, L1⟩ := L
    unfold aStep stF at h
    rw [if_neg (by omega)] at h
    refine ⟨⟨by omega, by omega⟩, ?_⟩
    rcases (show w = 0 ∨ w = 1 ∨ w = 2 ∨ w = 3 ∨ w = 4 by omega) with rfl | rfl | rfl | rfl | rfl
    · rw [if_pos rfl] at h
      rwa [Int.add_zero, e1]
    · rw [if_neg (by decide), if_pos rfl] at h
      rwa [e2]
    · rw [if_neg (by decide), if_neg (by decide), if_pos rfl] at h
      rwa [e3]
    · rw [if_neg (by decide), if_neg (by decide), if_neg (by decide), if_pos rfl] at h
      rwa [e4]
    · rw [if_neg (by decide), if_neg (by decide), if_neg (by decide), if_neg (by decide)] at h
      rwa [e5]
  · rwa [cI_f (bI_not c)] at h
theorem r_letters {i w : Int} (hT : TxR M A n T) (ok : OkT A n T) (h1 : rg i) (h2 : rg w) (h : ∀ M', KpR M M' → Q (cI (isSt (SCR A n) i) (aLtr A (scA (SCR A n) i) w) (-101)) M') : MetI g mX9_letters (d + 5) [vR 88, vI i, vI w] M Q := by
  obtain ⟨t1, t2, t3, t4, t5, t6⟩ := hT
  have l16 := SCR_len (A := A) t1.2.2.1 t1.2.2.2.1
  refine en_X9_letters (sg_X9_letters_0 ⟨h1, r_isStep (d := d + 2) t3 l16 h1 (fun _ => ⟨fun c => ?_, fun c => ?_⟩)⟩)
  · have L : isSt (SCR A n) i := bI_of c
    have so := SCR_ok (A := A) t1.2.2.1 t1.2.2.2.1 _ (scA_mem L)
    obtain ⟨e1, e2, e3, e4, e5⟩ := t3.at L
    rw [cI_t L] at h
    obtain ⟨L0, L1⟩ := L
    unfold aLtr at h
    generalize scA (SCR A n) i = x at *
    rw [e1]
    refine ⟨⟨by omega, by omega⟩, fun c1 => ⟨h2, r_in (d := d + 3) (rl_of h2) ⟨by decide, by decide⟩ ⟨by decide, by decide⟩ (fun _ => ⟨fun c2 => ?_, fun c2 => ?_⟩)⟩, fun c1 => ?_⟩
    · have q := bI_not c2
      have h := h M (KpR.rf M)
      rwa [if_neg (by omega), if_pos (by omega)] at h
    · have q := bI_of c2
      obtain ⟨o1, o2⟩ := so.2 (by omega)
      have n0 := t1.2.2.1
      have n1 := t1.2.2.2.1
      have r1 := ok.1 0 x.2.1
      have r2 := ok.1 1 x.2.2.1
      have f1 : M 92 (x.2.1).toNat = A 0 x.2.1 := by
        have := t1.2.2.2.2 0 _ (Or.inl rfl) o1.1 o1.2
        rwa [show (16 : Int) * 0 + x.2.1 = x.2.1 by omega] at this
      have f2 : M 92 (16 + x.2.2.1).toNat = A 1 x.2.2.1 := t1.2.2.2.2 1 _ (Or.inr rfl) o2.1 o2.2
      have cr := cml_r (A 0 x.2.1) (A 1 x.2.2.1)
      have l1 := lnN_r (A 0 x.2.1)
      have l2 := lnN_r (A 1 x.2.2.1)
      refine en_X9_lettersBy (sg_X9_lettersBy_0 ?_)
      rw [e2, e3, f1, f2]
      refine ⟨⟨by omega, by omega⟩, ⟨by omega, by omega⟩, ⟨by omega, by omega⟩, ⟨by omega, by omega⟩, r_alike (d := d) r1.1 r1.2 r2.1 r2.2 (fun M1 k1 _ => ?_)⟩
      have h := h M1 (KpR.of100 k1)
      rw [if_neg (by omega), if_neg (by omega)] at h
      refine ⟨h2, fun c3 => ⟨fun c4 => r_lettersOf (d := d + 2) r2.1 (fun _ => ⟨⟨by omega, by omega⟩, fun _ => ?_⟩), fun c4 => r_lettersOf (d := d + 2) r1.1 (fun _ => ⟨⟨by omega, by omega⟩, fun _ => ?_⟩)⟩, fun c3 _ => ?_⟩
      · rwa [if_neg c3, if_neg c4] at h
      · rwa [if_neg c3, if_pos c4] at h
      · rwa [if_pos c3] at h
    · have h := h M (KpR.rf M)
      rwa [if_pos (by omega)] at h
  · have h := h M (KpR.rf M)
    rwa [cI_f (bI_not c)] at h
theorem r_like {i j : Int} (hT : TxR M A n T) (ok : OkT A n T) (h1 : rg i) (h2 : rg j) (h : ∀ M', KpR M M' → Q (cI (isLn n 0 i ∧ isLn n 1 j) (likB (A 0 i) (A 1 j)) (-101)) M') : MetI g mX9_like (d + 5) [vR 88, vI i, vI j] M Q := by
  obtain ⟨t1, t2, t3, t4, t5, t6⟩ := hT
  have n0 := t1.2.2.1
  have n1 := t1.2.2.2.1
  refine en_X9_like (sg_X9_like_0 ⟨h1, r_isLine (d := d + 2) t1 ⟨by decide, by decide⟩ h1 (fun _ => ⟨fun c => ?_, fun c => ⟨h2, r_isLine (d := d + 2) t1 ⟨by decide, by decide⟩ h2 (fun _ => ⟨fun c1 => ?_, fun c1 => ?_⟩)⟩⟩)⟩)
  · have h := h M (KpR.rf M)
    rwa [cI_f (fun q => bI_not c q.1)] at h
  · have h := h M (KpR.rf M)
    rwa [cI_f (fun q => bI_not c1 q.2)] at h
  · have L0 := bI_of c
    have L1 := bI_of c1
    have i8 := isLn_r n0 n1 L0
    have j8 := isLn_r n0 n1 L1
    have e1 : M 92 i.toNat = A 0 i := by
      have := t1.2.2.2.2 0 _ L0.1 L0.2.1 L0.2.2
      rwa [show (16 : Int) * 0 + i = i by omega] at this
    have e2 : M 92 (16 + j).toNat = A 1 j := t1.2.2.2.2 1 _ L1.1 L1.2.1 L1.2.2
    rw [e1, e2]
    have q0 := L0.2.1
    have q1 := L1.2.1
    refine ⟨⟨by omega, by omega⟩, ⟨by omega, by omega⟩, r_likeBits (ok.1 0 i).1 (ok.1 0 i).2 (ok.1 1 j).1 (ok.1 1 j).2 (fun M1 k1 _ => ?_)⟩
    have h := h M1 (KpR.of100 k1)
    rwa [cI_t ⟨L0, L1⟩] at h
theorem r_rackedOf {k : Int} (hK : RkR M RK) (ok : OkK RK RN) (k0 : 0 ≤ k) (k5 : k < 5) (h : Q (RN k) M) : MetI g mX9_rackedOf (d + 1) [vR 88, vI k] M Q := by
  obtain ⟨o1, o2, o3⟩ := ok k k0 k5
  have loop : ∀ (m : Nat) (l : Int), l + m = RN k → 0 ≤ l → S_X9_rackedOf_2 g (d + 1) k l M Q := by
    intro m
    induction m with
    | zero =>
      intro l hm l0
      have e : l = RN k := by omega
      subst e
      refine sg_X9_rackedOf_2 ⟨⟨by omega, by omega⟩, fun _ => h, fun c => ⟨⟨by omega, by omega⟩, fun _ => h, fun c2 => ?_⟩⟩
      rw [hK k (RN k) k0 k5 (by omega) (by omega), o3 (RN k) (by omega) (by omega)] at c2
      exact absurd rfl c2
    | succ m ih =>
      intro l hm l0
      refine sg_X9_rackedOf_2 ⟨⟨by omega, by omega⟩, fun c => by omega, fun c => ⟨⟨by omega, by omega⟩, fun c2 => ?_, fun _ => ih (l + 1) (by omega) (by omega)⟩⟩
      rw [hK k l k0 k5 (by omega) (by omega)] at c2
      have := (o2 l l0 (by omega)).1
      omega
  exact en_X9_rackedOf (sg_X9_rackedOf_0 (loop (RN k).toNat 0 (by omega) (by omega)))
theorem r_isOf {a k : Int} (ha : rg a) (hk : rg k) (h : Q (bI (ofK a k)) M) : MetI g mX9_isOf (d + 1) [vI a, vI k] M Q := by
  have tr : ofK a k → Q 1 M := fun q => by rwa [bI_t q] at h
  have fl : ¬ ofK a k → Q 0 M := fun q => by rwa [bI_f q] at h
  unfold ofK at tr fl
  refine en_X9_isOf (sg_X9_isOf_0 ⟨hk, fun c => tr (by omega), fun c => ⟨ha, fun c1 => tr (by omega), fun c1 => ⟨fun c2 => ⟨fun c3 => fl (by omega), fun c3 => ⟨fun c4 => fl (by omega), fun c4 => tr (by omega)⟩⟩, fun c2 => ⟨fun c3 => tr (by omega), fun c3 => ⟨fun c4 => fl (by omega), fun c4 => ⟨fun c5 => fl (by omega), fun c5 => tr (by omega)⟩⟩⟩⟩⟩⟩)
theorem r_racked {k j : Int} (hK : RkR M RK) (h1 : rg k) (h2 : rg j) (h : Q (aRkd RK k j) M) : MetI g mX9_racked (d + 2) [vR 88, vI k, vI j] M Q := by
  unfold aRkd at h
  refine en_X9_racked (sg_X9_racked_0 ⟨h1, r_in (rl_of h1) ⟨by decide, by decide⟩ ⟨by decide, by decide⟩ (fun _ => ⟨fun c => ?_, fun c => ⟨h2, r_in (rl_of h2) ⟨by decide, by decide⟩ ⟨by decide, by decide⟩ (fun _ => ⟨fun c1 => ?_, fun c1 => ?_⟩)⟩⟩)⟩)
  · have := bI_not c
    rwa [if_pos (by omega)] at h
  · have := bI_not c1
    rwa [if_pos (by omega)] at h
  · have q := bI_of c
    have q1 := bI_of c1
    rw [if_neg (by omega)] at h
    rw [hK k j q.1 (by omega) q1.1 (by omega)]
    exact ⟨⟨by omega, by omega⟩, h⟩
theorem r_rack0 {i k : Int} (hT : TxR M A n T) (hK : RkR M RK) (ok : OkK RK RN) (h1 : rg i) (h2 : rg k) (hn : ¬ mayR (SCR A n) RN i k) (h : Q (noR (SCR A n) RN i k) M) : MetI g mX9_rack (d + 3) [vR 88, vI i, vI k] M Q := by
  obtain ⟨t1, t2, t3, t4, t5, t6⟩ := hT
  have l16 := SCR_len (A := A) t1.2.2.1 t1.2.2.2.1
  unfold noR at h
  refine en_X9_rack (sg_X9_rack_0 ⟨h1, r_isStep t3 l16 h1 (fun _ => ⟨fun c => ⟨h2, r_in (d := d + 1) (rl_of h2) ⟨by decide, by decide⟩ ⟨by decide, by decide⟩ (fun _ => ⟨fun c1 => ?_, fun c1 => ?_⟩)⟩, fun c => ?_⟩)⟩)
  · have q := bI_of c1
    have L : isSt (SCR A n) i := bI_of c
    have so := SCR_ok (A := A) t1.2.2.1 t1.2.2.2.1 _ (scA_mem L)
    obtain ⟨e1, e2, e3, e4, e5⟩ := t3.at L
    rw [cI_t L, cI_t ⟨by omega, by omega⟩] at h
    have L' := L
    obtain ⟨L0, L1⟩ := L'
    have ob := (ok k q.1 (by omega)).1
    refine r_rackedOf (d := d + 1) hK ok q.1 (by omega) (fun _ => ⟨fun c3 => ⟨⟨by omega, by omega⟩, ?_⟩, fun c3 => ?_⟩)
    · rw [e1]
      refine r_isOf (d := d + 1) ⟨by have := so.1; omega, by have := so.1; omega⟩ h2 (fun _ => ⟨fun c4 => ?_, fun c4 => ?_⟩)
      · exact absurd ⟨L, ⟨by omega, by omega⟩, by omega, bI_of c4⟩ hn
      · rwa [cI_t (by omega)] at h
    · rwa [cI_f (by omega)] at h
  · have q := bI_not c1
    rwa [cI_t (bI_of c), cI_f (by omega)] at h
  · rwa [cI_f (bI_not c)] at h
theorem r_rack1 {i k : Int} (hT : TxR M A n T) (hK : RkR M RK) (ok : OkK RK RN) (h1 : rg i) (h2 : rg k) (hy : mayR (SCR A n) RN i k) (h : ∀ M', RkR M' (f2 RK k (RN k) i) → (∀ k, k ≠ 103 → M' k = M k) → Q (RN k + 1) M') : MetI g mX9_rack (d + 3) [vR 88, vI i, vI k] M Q := by
  obtain ⟨t1, t2, t3, t4, t5, t6⟩ := hT
  have l16 := SCR_len (A := A) t1.2.2.1 t1.2.2.2.1
  obtain ⟨L, b, c3, y⟩ := hy
  have so := SCR_ok (A := A) t1.2.2.1 t1.2.2.2.1 _ (scA_mem L)
  obtain ⟨e1, e2, e3, e4, e5⟩ := t3.at L
  have L' := L
  obtain ⟨L0, L1⟩ := L'
  have ob := (ok k b.1 b.2).1
  refine en_X9_rack (sg_X9_rack_0 ⟨h1, r_isStep t3 l16 h1 (fun _ => ⟨fun _ => ⟨h2, r_in (d := d + 1) (rl_of h2) ⟨by decide, by decide⟩ ⟨by decide, by decide⟩ (fun _ => ⟨fun _ => ?_, fun c1 => ?_⟩)⟩, fun c => absurd L (bI_not c)⟩)⟩)
  · refine r_rackedOf (d := d + 1) hK ok b.1 b.2 (fun _ => ⟨fun _ => ⟨⟨by omega, by omega⟩, ?_⟩, fun w => by omega⟩)
    rw [e1]
    refine r_isOf (d := d + 1) ⟨by have := so.1; omega, by have := so.1; omega⟩ h2 (fun _ => ⟨fun _ => ⟨⟨by omega, by omega⟩, ⟨by omega, by omega⟩, ?_⟩, fun c4 => absurd y (bI_not c4)⟩)
    refine h _ (fun x j x0 x5 j0 j3 => ?_) (fun q hq => mU_ne hq)
    unfold f2
    by_cases e : x = k ∧ j = RN k
    · rw [if_pos e, e.1, e.2, mU_at]
    · rw [if_neg e, mU_nej (by omega)]
      exact hK x j x0 x5 j0 j3
  · have := bI_not c1
    omega
end RASK
