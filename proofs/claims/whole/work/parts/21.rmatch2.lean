def PSk (M : AM) (ps : List (Int × Int × Int × Int)) : Prop := M 88 15 = ps.length ∧ ∀ k : Int, 0 ≤ k → k < ps.length → M 95 (4 * k).toNat = (ps.getD k.toNat (0, 0, 0, 0)).1 ∧ M 95 (4 * k + 1).toNat = (ps.getD k.toNat (0, 0, 0, 0)).2.1 ∧ M 95 (4 * k + 2).toNat = (ps.getD k.toNat (0, 0, 0, 0)).2.2.1 ∧ M 95 (4 * k + 3).toNat = (ps.getD k.toNat (0, 0, 0, 0)).2.2.2
theorem PSk.same {M M' : AM} {ps : List (Int × Int × Int × Int)} (h : PSk M ps) (h1 : M' 88 15 = M 88 15) (h2 : M' 95 = M 95) : PSk M' ps := ⟨h1.trans h.1, by rw [h2]; exact h.2⟩
theorem getD_app_l {α : Type} {l m : List α} {k : Nat} {x : α} (h : k < l.length) : (l ++ m).getD k x = l.getD k x := by simp [List.getD, List.getElem?_append_left h]
theorem getD_app_r {α : Type} {l : List α} {y x : α} : (l ++ [y]).getD l.length x = y := by simp [List.getD]
theorem Wd_at2 {L : List (Int × Int)} {k : Int} (h0 : 0 ≤ k) (h : k < L.length) : Wd L k = (lO L k, lN2 L k, lLn L k) :: Wd L (k + 1) := Wd_at h0 h
theorem mp_succ (A : LF) (f : Nat) (a b c d : Int) : mp A (f + 1) a b c d = (mpP A a b c d).1 ++ ((mpS A (mpP A a b c d).2.1 b (mpP A a b c d).2.2 d).1 ++ mpM A (fun q => mp A f q.1 q.2.1 q.2.2.1 q.2.2.2) (mpP A a b c d).2.1 (mpS A (mpP A a b c d).2.1 b (mpP A a b c d).2.2 d).2.1 (mpP A a b c d).2.2 (mpS A (mpP A a b c d).2.1 b (mpP A a b c d).2.2 d).2.2) := rfl
theorem mc_succ (A : LF) (f : Nat) (a b c d : Int) : mc A (f + 1) a b c d = mcM A (fun q => mc A f q.1 q.2.1 q.2.2.1 q.2.2.2) (mpP A a b c d).2.1 (mpS A (mpP A a b c d).2.1 b (mpP A a b c d).2.2 d).2.1 (mpP A a b c d).2.2 (mpS A (mpP A a b c d).2.1 b (mpP A a b c d).2.2 d).2.2 := rfl
section RMATCH2
variable {g : AG} {d : Nat} {M : AM} {A : LF} {n : Int → Int}
theorem r_addPart {Q : AM → Prop} {a b c e : Int} {ps : List (Int × Int × Int × Int)} (hp : PSk M ps) (hl : ps.length ≤ 40) (ra : rg a) (rb : rg b) (rc : rg c) (re : rg e)
    (h : ∀ M', PSk M' (ps ++ [(a, b, c, e)]) → (∀ k, k ≠ 88 → k ≠ 95 → M' k = M k) → (∀ j, j ≠ 15 → M' 88 j = M 88 j) → Q M') : MetV g mX9_addPart (d + 1) [vR 88, vI a, vI b, vI c, vI e] M Q := by
  have h1 := hp.1
  refine en_X9_addPart (sg_X9_addPart_0 ⟨⟨by omega, by omega⟩, ra, ⟨by omega, by omega⟩, rb, ⟨by omega, by omega⟩, rc, ⟨by omega, by omega⟩, re, ⟨by omega, by omega⟩, h _ ⟨?_, fun k k0 k1 => ?_⟩ ?_ ?_⟩)
  · rw [mU_at, h1]
    simp
  · rw [List.length_append, List.length_singleton] at k1
    rw [mU_ne (by decide), h1]
    by_cases ek : k = ps.length
    · subst ek
      rw [show ((ps.length : Int)).toNat = ps.length by omega, getD_app_r]
      refine ⟨?_, ?_, ?_, ?_⟩
      · rw [mU_nej (by omega), mU_nej (by omega), mU_nej (by omega), mU_at]
      · rw [mU_nej (by omega), mU_nej (by omega), mU_at]
      · rw [mU_nej (by omega), mU_at]
      · rw [mU_at]
    · rw [getD_app_l (by omega)]
      have := hp.2 k k0 (by omega)
      refine ⟨?_, ?_, ?_, ?_⟩
      · rw [mU_nej (by omega), mU_nej (by omega), mU_nej (by omega), mU_nej (by omega)]
        exact this.1
      · rw [mU_nej (by omega), mU_nej (by omega), mU_nej (by omega), mU_nej (by omega)]
        exact this.2.1
      · rw [mU_nej (by omega), mU_nej (by omega), mU_nej (by omega), mU_nej (by omega)]
        exact this.2.2.1
      · rw [mU_nej (by omega), mU_nej (by omega), mU_nej (by omega), mU_nej (by omega)]
        exact this.2.2.2
  · intro k q1 q2
    rw [mU_ne q1, mU_ne q2, mU_ne q2, mU_ne q2, mU_ne q2]
  · intro j hj
    rw [mU_nej hj, mU_ne (by decide), mU_ne (by decide), mU_ne (by decide), mU_ne (by decide)]
theorem lOm {L : List (Int × Int)} {k : Int} (h0 : 0 ≤ k) (h : k < L.length) : (lO L k, lN2 L k) ∈ L := by
  have hk : k.toNat < L.length := by omega
  unfold lO lN2
  rw [show L.getD k.toNat (0, 0) = L[k.toNat] by simp [List.getD, hk]]
  exact List.getElem_mem hk
theorem r_matchAnchors {Q : AM → Prop} {a b c e : Int} {L : List (Int × Int)} {P : LF} {ps : List (Int × Int × Int × Int)} (hL : ∀ q ∈ L, (0 ≤ q.1 ∧ q.1 < 8) ∧ 0 ≤ q.2 ∧ q.2 < 8) (hl8 : L.length ≤ 8) (ra : 0 ≤ a ∧ a ≤ 8) (rb : 0 ≤ b ∧ b ≤ 8) (rc : 0 ≤ c ∧ c ≤ 8) (re : 0 ≤ e ∧ e ≤ 8) (hP : PAr M P) (hps : PSk M ps) (hpl : ps.length ≤ 20) (h12 : 0 ≤ M 88 12 ∧ M 88 12 ≤ 900)
    (hM : ∀ k : Int, 0 ≤ k → k < L.length → M 96 k.toNat = lO L k ∧ M 97 k.toNat = lN2 L k ∧ M 98 k.toNat = lLn L k)
    (h : ∀ M', PAr M' (kps (pck (anW L) (mxa (anW L) 0) (-1)) P) → M' 88 12 = M 88 12 + (pck (anW L) (mxa (anW L) 0) (-1)).length → PSk M' (ps ++ btw b e (pck (anW L) (mxa (anW L) 0) (-1)) a c) → FrR M M' → Q M') : MetV g mX9_matchAnchors (d + 2) [vR 88, vI a, vI b, vI c, vI e, vI L.length] M Q := by
  have hw0 : Wd L 0 = anW L := by
    unfold Wd
    rfl
  -- the chain
  have loop2 : ∀ (m : Nat) (i want old neu bef : Int) (M1 : AM) (P1 : LF) (ps1 : List (Int × Int × Int × Int)), (L.length : Int) = i + m → 0 ≤ i → 0 ≤ want ∧ want ≤ 8 → 0 ≤ old ∧ old ≤ 8 → 0 ≤ neu ∧ neu ≤ 8 → -1 ≤ bef ∧ bef < 8 → (∀ k : Int, 0 ≤ k → k < L.length → M1 96 k.toNat = lO L k ∧ M1 97 k.toNat = lN2 L k ∧ M1 98 k.toNat = lLn L k) → PAr M1 P1 → PSk M1 ps1 → ps1.length + m ≤ 30 → 0 ≤ M1 88 12 → M1 88 12 + m ≤ 1000 → FrR M M1 →
      (∀ M', PAr M' (kps (pck (Wd L i) want bef) P1) → M' 88 12 = M1 88 12 + (pck (Wd L i) want bef).length → PSk M' (ps1 ++ btw b e (pck (Wd L i) want bef) old neu) → FrR M M' → Q M') → S_X9_matchAnchors_57 g (d + 2) b e L.length want old neu bef i M1 Q := by
    intro m
    induction m with
    | zero =>
      intro i want old neu bef M1 P1 ps1 hi i0 rw1 ro rn rbf g1 g2 g3 g4 g5 g6 gF hk
      rw [Wd_end (by omega)] at hk
      refine sg_X9_matchAnchors_57 ⟨⟨by omega, by omega⟩, ⟨by omega, by omega⟩, fun _ => ⟨⟨by omega, by omega⟩, ⟨by omega, by omega⟩, ⟨by omega, by omega⟩, ⟨by omega, by omega⟩, r_addPart g3 (by omega) ⟨by omega, by omega⟩ ⟨by omega, by omega⟩ ⟨by omega, by omega⟩ ⟨by omega, by omega⟩ (fun M' k1 k2 k3 => ?_)⟩, fun w => by omega⟩
      refine hk M' (g2.same (k2 _ (by decide) (by decide))) ?_ k1 (gF.tr ⟨fun k q1 q2 => k2 k q1 (by omega), fun j q1 q2 q3 => k3 j q3⟩)
      rw [k3 12 (by decide)]
      show M1 88 12 = M1 88 12 + 0
      omega
    | succ m ih =>
      intro i want old neu bef M1 P1 ps1 hi i0 rw1 ro rn rbf g1 g2 g3 g4 g5 g6 gF hk
      obtain ⟨e1, e2, e3⟩ := g1 i i0 (by omega)
      have rL := hL _ (lOm i0 (by omega : i < L.length))
      have rl := lLn_r (L := L) (k := i) i0 (by omega)
      dsimp only at rL
      rw [Wd_at2 i0 (by omega), pck_cons] at hk
      dsimp only at hk
      have skip : ¬ (lLn L i = want ∧ bef < lN2 L i) → S_X9_matchAnchors_57 g (d + 2) b e L.length want old neu bef (i + 1) M1 Q := by
        intro hn
        rw [if_neg hn] at hk
        exact ih (i + 1) want old neu bef M1 P1 ps1 (by omega) (by omega) rw1 ro rn rbf g1 g2 g3 (by omega) g5 (by omega) gF hk
      refine sg_X9_matchAnchors_57 ⟨⟨by omega, by omega⟩, ⟨by omega, by omega⟩, fun w => by omega, fun _ => ⟨⟨by omega, by omega⟩, fun w => skip (by omega), fun w => ⟨⟨by omega, by omega⟩, fun w2 => skip (fun q => by rw [e3] at w2; exact w2 q.1), fun w2 => ⟨⟨by omega, by omega⟩, fun w3 => skip (by rw [e2] at w3; omega), fun w3 => ?_⟩⟩⟩⟩
      rw [e3] at w2
      rw [e2] at w3
      rw [if_pos ⟨w2, by omega⟩] at hk
      rw [e1, e2]
      refine r_keep ⟨by omega, by omega⟩ ⟨by omega, by omega⟩ ?_
      generalize hM2 : mU (mU M1 94 (lO L i).toNat (lN2 L i)) 94 (16 + lN2 L i).toNat (lO L i) = M2
      have P2 : PAr M2 (kp P1 (lO L i) (lN2 L i)) := by
        rw [← hM2]
        exact g2.keep ⟨by omega, by omega⟩ ⟨by omega, by omega⟩
      have o2 : ∀ k, k ≠ 94 → M2 k = M1 k := fun k q => by rw [← hM2, mU_ne q, mU_ne q]
      have e12 : M2 88 12 = M1 88 12 := by rw [o2 88 (by decide)]
      refine ⟨⟨by omega, by omega⟩, ⟨by omega, by omega⟩, ⟨by omega, by omega⟩, ?_⟩
      rw [o2 96 (by decide), o2 97 (by decide), e1, e2]
      generalize hM3 : mU M2 88 12 (M2 88 12 + 1) = M3
      have o3 : ∀ k, k ≠ 94 → k ≠ 88 → M3 k = M1 k := fun k q1 q2 => by rw [← hM3, mU_ne q2]; exact o2 k q1
      have o38 : ∀ j, j ≠ 12 → M3 88 j = M1 88 j := fun j q => by rw [← hM3, mU_nej q, o2 88 (by decide)]
      have e312 : M3 88 12 = M1 88 12 + 1 := by rw [← hM3, mU_at, e12]
      have P3 : PAr M3 (kp P1 (lO L i) (lN2 L i)) := P2.same (by rw [← hM3, mU_ne (by decide)])
      refine r_addPart (g3.same (o38 15 (by decide)) (o3 95 (by decide) (by decide))) (by omega) ⟨by omega, by omega⟩ ⟨by omega, by omega⟩ ⟨by omega, by omega⟩ ⟨by omega, by omega⟩ (fun M4 k1 k2 k3 => ?_)
      have o4 : ∀ k, k ≠ 94 → k ≠ 88 → k ≠ 95 → M4 k = M1 k := fun k q1 q2 q3 => by rw [k2 k q2 q3]; exact o3 k q1 q2
      have f4 : FrR M1 M4 := ⟨fun k q1 q2 => o4 k (by omega) q1 (by omega), fun j q1 q2 q3 => by rw [k3 j q3]; exact o38 j q1⟩
      have e412 : M4 88 12 = M1 88 12 + 1 := by rw [k3 12 (by decide)]; exact e312
      rw [o4 96 (by decide) (by decide) (by decide), o4 97 (by decide) (by decide) (by decide), e1, e2]
      refine ih (i + 1) (want + -1) (lO L i + 1) (lN2 L i + 1) (lN2 L i) M4 (kp P1 (lO L i) (lN2 L i)) _ (by omega) (by omega) (by omega) (by omega) (by omega) (by omega) (fun k q1 q2 => by rw [o4 96 (by decide) (by decide) (by decide), o4 97 (by decide) (by decide) (by decide), o4 98 (by decide) (by decide) (by decide)]; exact g1 k q1 q2) (P3.same (k2 94 (by decide) (by decide))) k1 (by rw [List.length_append, List.length_singleton]; omega) (by omega) (by omega) (gF.tr f4) (fun M' j1 j2 j3 j4 => hk M' ?_ ?_ ?_ j4)
      · rw [kps_cons]
        rw [show want + -1 = want - 1 by omega] at j1
        exact j1
      · rw [show want + -1 = want - 1 by omega] at j2
        rw [j2, e412, List.length_cons]
        omega
      · rw [show want + -1 = want - 1 by omega] at j3
        rw [btw_cons]
        rw [List.append_assoc] at j3
        exact j3
  -- how long
  have loop1 : ∀ (m : Nat) (i w : Int), (L.length : Int) = i + m → 0 ≤ i → 0 ≤ w ∧ w ≤ 8 → mxa (Wd L i) w = mxa (anW L) 0 → S_X9_matchAnchors_6 g (d + 2) a b c e L.length w i M Q := by
    intro m
    induction m with
    | zero =>
      intro i w hi i0 rw1 hq
      refine sg_X9_matchAnchors_6 ⟨⟨by omega, by omega⟩, ⟨by omega, by omega⟩, fun _ => ?_, fun z => by omega⟩
      rw [Wd_end (by omega)] at hq
      have hq : w = mxa (anW L) 0 := hq
      refine loop2 L.length 0 w a c (-1) M P ps (by omega) (by omega) rw1 ra rc (by omega) hM hP hps (by omega) h12.1 (by omega) (FrR.rf M) ?_
      rw [hw0, hq]
      exact h
    | succ m ih =>
      intro i w hi i0 rw1 hq
      obtain ⟨e1, e2, e3⟩ := hM i i0 (by omega)
      have rl := lLn_r (L := L) (k := i) i0 (by omega)
      rw [Wd_at2 i0 (by omega)] at hq
      have hq : mxa (Wd L (i + 1)) (if w < lLn L i then lLn L i else w) = mxa (anW L) 0 := hq
      refine sg_X9_matchAnchors_6 ⟨⟨by omega, by omega⟩, ⟨by omega, by omega⟩, fun z => by omega, fun _ => ⟨⟨by omega, by omega⟩, ⟨by omega, by omega⟩, fun z => ?_, fun z => ?_⟩⟩
      · rw [e3] at z
        rw [if_neg (by omega)] at hq
        exact ih (i + 1) w (by omega) (by omega) rw1 hq
      · rw [e3] at z ⊢
        rw [if_pos (by omega)] at hq
        exact ih (i + 1) _ (by omega) (by omega) (by omega) hq
  refine en_X9_matchAnchors (sg_X9_matchAnchors_0 (loop1 L.length 0 0 (by omega) (by omega) (by omega) (by rw [hw0])))
/-- what one part keeps itself, which parts it leaves, how many anchors it has -/
def ownM (A : LF) (a b c d : Int) : List (Int × Int) := if a < b ∧ c < d then (if anL A a b c d a = [] then mpK A (lcT (A 0) (A 1) b d) b d a c else chn A a b c d) else []
def subM (A : LF) (a b c d : Int) : List (Int × Int × Int × Int) := if a < b ∧ c < d ∧ ¬ anL A a b c d a = [] then btw b d (chn A a b c d) a c else []
def cntM (A : LF) (a b c d : Int) : Int := if a < b ∧ c < d ∧ ¬ anL A a b c d a = [] then (chn A a b c d).length else 0
def mpOwn (A : LF) (a b c d : Int) : List (Int × Int) := (mpP A a b c d).1 ++ ((mpS A (mpP A a b c d).2.1 b (mpP A a b c d).2.2 d).1 ++ ownM A (mpP A a b c d).2.1 (mpS A (mpP A a b c d).2.1 b (mpP A a b c d).2.2 d).2.1 (mpP A a b c d).2.2 (mpS A (mpP A a b c d).2.1 b (mpP A a b c d).2.2 d).2.2)
def mpSub (A : LF) (a b c d : Int) : List (Int × Int × Int × Int) := subM A (mpP A a b c d).2.1 (mpS A (mpP A a b c d).2.1 b (mpP A a b c d).2.2 d).2.1 (mpP A a b c d).2.2 (mpS A (mpP A a b c d).2.1 b (mpP A a b c d).2.2 d).2.2
def mpCnt (A : LF) (a b c d : Int) : Int := cntM A (mpP A a b c d).2.1 (mpS A (mpP A a b c d).2.1 b (mpP A a b c d).2.2 d).2.1 (mpP A a b c d).2.2 (mpS A (mpP A a b c d).2.1 b (mpP A a b c d).2.2 d).2.2
theorem mp_split (A : LF) (f : Nat) (a b c d : Int) (q : Int × Int) : q ∈ mp A (f + 1) a b c d ↔ q ∈ mpOwn A a b c d ∨ ∃ p ∈ mpSub A a b c d, q ∈ mp A f p.1 p.2.1 p.2.2.1 p.2.2.2 := by
  rw [mp_succ]
  unfold mpOwn mpSub
  generalize mpP A a b c d = P
  generalize mpS A P.2.1 b P.2.2 d = S
  unfold mpM ownM subM
  by_cases h : P.2.1 < S.2.1 ∧ P.2.2 < S.2.2
  · rw [if_pos h, if_pos h]
    by_cases hn : anL A P.2.1 S.2.1 P.2.2 S.2.2 P.2.1 = []
    · rw [if_pos hn, if_pos hn, if_neg (fun z => z.2.2 hn)]
      constructor
      · exact Or.inl
      · rintro (z | ⟨p, hp, _⟩)
        · exact z
        · exact absurd hp List.not_mem_nil
    · rw [if_neg hn, if_neg hn, if_pos ⟨h.1, h.2, hn⟩]
      simp only [List.mem_append, List.mem_flatMap]
      constructor
      · rintro (z | z | z | z)
        · exact Or.inl (Or.inl z)
        · exact Or.inl (Or.inr (Or.inl z))
        · exact Or.inl (Or.inr (Or.inr z))
        · exact Or.inr z
      · rintro ((z | z | z) | z)
        · exact Or.inl z
        · exact Or.inr (Or.inl z)
        · exact Or.inr (Or.inr (Or.inl z))
        · exact Or.inr (Or.inr (Or.inr z))
  · rw [if_neg h, if_neg h, if_neg (fun z => h ⟨z.1, z.2.1⟩)]
    constructor
    · exact Or.inl
    · rintro (z | ⟨p, hp, _⟩)
      · exact z
      · exact absurd hp List.not_mem_nil
theorem mc_split (A : LF) (f : Nat) (a b c d : Int) : mc A (f + 1) a b c d = mpCnt A a b c d + ((mpSub A a b c d).map (fun q => mc A f q.1 q.2.1 q.2.2.1 q.2.2.2)).sum := by
  rw [mc_succ]
  unfold mpCnt mpSub
  generalize mpP A a b c d = P
  generalize mpS A P.2.1 b P.2.2 d = S
  unfold mcM cntM subM
  by_cases h : P.2.1 < S.2.1 ∧ P.2.2 < S.2.2 ∧ ¬ anL A P.2.1 S.2.1 P.2.2 S.2.2 P.2.1 = []
  · rw [if_pos h, if_pos h, if_pos h]
  · rw [if_neg h, if_neg h, if_neg h]
    simp
theorem mpSub_ok (A : LF) {a b c d : Int} (h1 : a ≤ b) (hc : 0 ≤ c) (h2 : c ≤ d) : (∀ p ∈ mpSub A a b c d, PB a b c d p ∧ p.2.1 - p.1 < b - a) ∧ ((mpSub A a b c d).map (fun p => p.2.1 - p.1 + 1)).sum ≤ b - a + 1 ∧ ((mpSub A a b c d).map (fun p => 2 * (p.2.1 - p.1) + 1)).sum < 2 * (b - a) + 1 ∧ 0 ≤ mpCnt A a b c d ∧ mpCnt A a b c d ≤ b - a := by
  unfold mpSub mpCnt
  obtain ⟨p1, p2, p3, p4, p5, p6, p7⟩ := mpP_ok A _ a b c d rfl h1 h2
  generalize mpP A a b c d = P at p1 p2 p3 p4 p5 p6 p7 ⊢
  obtain ⟨s1, s2, s3, s4, s5, s6, s7⟩ := mpS_ok A _ P.2.1 b P.2.2 d rfl p2 p4
  generalize mpS A P.2.1 b P.2.2 d = S at s1 s2 s3 s4 s5 s6 s7 ⊢
  unfold subM cntM
  by_cases h : P.2.1 < S.2.1 ∧ P.2.2 < S.2.2 ∧ ¬ anL A P.2.1 S.2.1 P.2.2 S.2.2 P.2.1 = []
  · rw [if_pos h, if_pos h]
    obtain ⟨k1, k2, k3⟩ := chn_ok (A := A) (a := P.2.1) (b := S.2.1) (c := P.2.2) (d := S.2.2) (by omega)
    have hl := List.length_pos_iff.mpr (k3 h.2.2)
    obtain ⟨b1, b2, b3⟩ := btw_ok _ P.2.1 P.2.2 k1 s1 s3
    have bn := btw_nn _ P.2.1 P.2.2 k1 s1 s3
    generalize btw S.2.1 S.2.2 (chn A P.2.1 S.2.1 P.2.2 S.2.2) P.2.1 P.2.2 = ps at b1 b2 b3 bn
    have e1 : ∀ ps : List (Int × Int × Int × Int), (ps.map (fun p => p.2.1 - p.1 + 1)).sum = (ps.map (fun p => p.2.1 - p.1)).sum + ps.length := by
      intro ps
      induction ps with
      | nil => simp
      | cons p ps ih =>
        simp only [List.map_cons, List.sum_cons, List.length_cons, ih]
        omega
    have e2 : ∀ ps : List (Int × Int × Int × Int), (ps.map (fun p => 2 * (p.2.1 - p.1) + 1)).sum = 2 * (ps.map (fun p => p.2.1 - p.1)).sum + ps.length := by
      intro ps
      induction ps with
      | nil => simp
      | cons p ps ih =>
        simp only [List.map_cons, List.sum_cons, List.length_cons, ih]
        omega
    rw [e1, e2]
    refine ⟨fun p hp => ?_, by omega, by omega, by omega, by omega⟩
    have := b1 p hp
    unfold PB at *
    omega
  · rw [if_neg h, if_neg h]
    refine ⟨fun p hp => absurd hp List.not_mem_nil, ?_, ?_, ?_, ?_⟩
    · simp
      omega
    · simp
      omega
    · omega
    · omega
theorem r_matchPart {Q : AM → Prop} {a b c e : Int} {P : LF} {ps : List (Int × Int × Int × Int)} (hA : LAr M A n) (h0 : 0 ≤ a) (h1 : a ≤ b) (h2 : b ≤ n 0) (h3 : 0 ≤ c) (h4 : c ≤ e) (h5 : e ≤ n 1) (hP : PAr M P) (hps : PSk M ps) (hpl : ps.length ≤ 20) (h12 : 0 ≤ M 88 12 ∧ M 88 12 ≤ 900)
    (h : ∀ M', PAr M' (kps (mpOwn A a b c e) P) → M' 88 12 = M 88 12 + mpCnt A a b c e → PSk M' (ps ++ mpSub A a b c e) → FrR M M' → Q M') : MetV g mX9_matchPart (d + 4) [vR 88, vI a, vI b, vI c, vI e] M Q := by
  have b1 := hA.2.2.1
  have b2 := hA.2.2.2.1
  have r : ∀ z : Int, -1 ≤ z → z ≤ 9 → rg z := fun z q1 q2 => ⟨by omega, by omega⟩
  have o88 : ∀ {M1 M2 : AM} {i j : Int}, M2 = mU (mU M1 94 i.toNat j) 94 (16 + j).toNat i → ∀ k, k ≠ 94 → M2 k = M1 k := fun e k q => by rw [e, mU_ne q, mU_ne q]
  have mid : ∀ (a' b' c' d' : Int) (M1 : AM) (P1 : LF), a ≤ a' → a' ≤ b' → b' ≤ b → c ≤ c' → c' ≤ d' → d' ≤ e → PAr M1 P1 → (∀ k, k ≠ 94 → M1 k = M k) →
      (∀ M', PAr M' (kps (ownM A a' b' c' d') P1) → M' 88 12 = M 88 12 + cntM A a' b' c' d' → PSk M' (ps ++ subM A a' b' c' d') → FrR M M' → Q M') → S_X9_matchPart_101 g (d + 4) a' b' c' d' M1 Q := by
    intro a' b' c' d' M1 P1 p1 p2 p3 p4 p5 p6 hP1 hF1 hk1
    have fr1 : FrR M M1 := ⟨fun k q1 q2 => hF1 k (by omega), fun j _ _ _ => by rw [hF1 88 (by decide)]⟩
    have hA1 := hA.fr fr1
    have hps1 : PSk M1 ps := hps.same (by rw [hF1 88 (by decide)]) (hF1 95 (by decide))
    have stop : ¬ (a' < b' ∧ c' < d') → Q M1 := by
      intro hn
      refine hk1 M1 ?_ ?_ ?_ fr1
      · unfold ownM
        rw [if_neg hn]
        exact hP1
      · unfold cntM
        rw [if_neg (fun z => hn ⟨z.1, z.2.1⟩), hF1 88 (by decide)]
        omega
      · unfold subM
        rw [if_neg (fun z => hn ⟨z.1, z.2.1⟩), List.append_nil]
        exact hps1
    refine sg_X9_matchPart_101 ⟨r a' (by omega) (by omega), r b' (by omega) (by omega), fun w => stop (by omega), fun w => ⟨r c' (by omega) (by omega), r d' (by omega) (by omega), fun w2 => stop (by omega), fun w2 => ?_⟩⟩
    refine r_layAnchors hA1 (by omega) p2 (by omega) (by omega) p5 (by omega) (fun M2 k1 k2 _ => ⟨fun w3 => ?_, fun w3 => ?_⟩)
    · have hnil : anL A a' b' c' d' a' = [] := List.length_eq_zero_iff.mp (by omega)
      have fr2 : FrR M1 M2 := ⟨fun k q1 q2 => k2 k (by omega) (by omega) (by omega), fun j _ _ _ => by rw [k2 88 (by decide) (by decide) (by decide)]⟩
      refine r_matchRows (hA1.fr fr2) (by omega) p2 (by omega) (by omega) p5 (by omega) (hP1.same (k2 94 (by decide) (by decide) (by decide))) (fun M3 j1 j2 => hk1 M3 ?_ ?_ ?_ ((fr1.tr fr2).tr ⟨fun k q1 q2 => j2 k (by omega) (by omega), fun j _ _ _ => by rw [j2 88 (by decide) (by decide)]⟩))
      · unfold ownM
        rw [if_pos ⟨by omega, by omega⟩, if_pos hnil]
        exact j1
      · unfold cntM
        rw [if_neg (fun z => z.2.2 hnil), j2 88 (by decide) (by decide), k2 88 (by decide) (by decide) (by decide), hF1 88 (by decide)]
        omega
      · unfold subM
        rw [if_neg (fun z => z.2.2 hnil), List.append_nil]
        exact hps1.same (by rw [j2 88 (by decide) (by decide), k2 88 (by decide) (by decide) (by decide)]) (by rw [j2 95 (by decide) (by decide), k2 95 (by decide) (by decide) (by decide)])
    · have hne : anL A a' b' c' d' a' ≠ [] := fun z => w3 (by rw [z]; exact Int.le_refl _)
      have fr2 : FrR M1 M2 := ⟨fun k q1 q2 => k2 k (by omega) (by omega) (by omega), fun j _ _ _ => by rw [k2 88 (by decide) (by decide) (by decide)]⟩
      have hok := (anL_ok A a' b' c' d' _ a' rfl).2
      have hll := anL_len (A := A) (a := a') (b := b') (c := c') (e := d') _ a' rfl
      refine r_matchAnchors (P := P1) (ps := ps) (fun q hq => ?_) (by omega) (by omega) (by omega) (by omega) (by omega) (hP1.same (k2 94 (by decide) (by decide) (by decide))) (hps1.same (by rw [k2 88 (by decide) (by decide) (by decide)]) (k2 95 (by decide) (by decide) (by decide))) hpl (by rw [k2 88 (by decide) (by decide) (by decide), hF1 88 (by decide)]; exact h12) k1 (fun M3 j1 j2 j3 j4 => hk1 M3 ?_ ?_ ?_ ((fr1.tr fr2).tr j4))
      · have := (hok q hq).1
        unfold InR at this
        omega
      · unfold ownM
        rw [if_pos ⟨by omega, by omega⟩, if_neg hne]
        exact j1
      · unfold cntM
        rw [if_pos ⟨by omega, by omega, hne⟩, j2, k2 88 (by decide) (by decide) (by decide), hF1 88 (by decide)]
        rfl
      · unfold subM
        rw [if_pos ⟨by omega, by omega, hne⟩]
        exact j3
  have suf : ∀ (m : Nat) (a' b' c' d' : Int) (M1 : AM) (P1 : LF), (b' - a').toNat = m → a ≤ a' → a' ≤ b' → b' ≤ b → c ≤ c' → c' ≤ d' → d' ≤ e → PAr M1 P1 → (∀ k, k ≠ 94 → M1 k = M k) →
      (∀ M2, PAr M2 (kps (mpS A a' b' c' d').1 P1) → (∀ k, k ≠ 94 → M2 k = M k) → S_X9_matchPart_101 g (d + 4) a' (mpS A a' b' c' d').2.1 c' (mpS A a' b' c' d').2.2 M2 Q) → S_X9_matchPart_55 g (d + 4) a' b' c' d' M1 Q := by
    intro m
    induction m using Nat.strongRecOn with
    | _ m ih =>
      intro a' b' c' d' M1 P1 hmm p1 p2 p3 p4 p5 p6 hP1 hF1 hk1
      rw [mpS_eq] at hk1
      have hA1 : LAr M1 A n := hA.fr ⟨fun k q1 q2 => hF1 k (by omega), fun j _ _ _ => by rw [hF1 88 (by decide)]⟩
      refine sg_X9_matchPart_55 ⟨r a' (by omega) (by omega), r b' (by omega) (by omega), fun w => ?_, fun w => ⟨r c' (by omega) (by omega), r d' (by omega) (by omega), fun w2 => ?_, fun w2 => ⟨r _ (by omega) (by omega), r _ (by omega) (by omega), ?_⟩⟩⟩
      · rw [if_neg (by omega)] at hk1
        exact hk1 M1 hP1 hF1
      · rw [if_neg (by omega)] at hk1
        exact hk1 M1 hP1 hF1
      · refine r_isSame hA1 ⟨by omega, by omega⟩ ⟨by omega, by omega⟩ (fun _ => ⟨fun c1 => ?_, fun c1 => ⟨r _ (by omega) (by omega), r _ (by omega) (by omega), ?_⟩⟩)
        · have hne : ¬ A 0 (b' - 1) = A 1 (d' - 1) := fun q => by rw [bI_t q] at c1; cases c1
          rw [if_neg (fun z => hne z.2.2)] at hk1
          exact hk1 M1 hP1 hF1
        · have heq : A 0 (b' - 1) = A 1 (d' - 1) := Classical.byContradiction fun q => c1 (bI_f q)
          rw [if_pos ⟨by omega, by omega, heq⟩] at hk1
          rw [show b' + -1 = b' - 1 by omega, show d' + -1 = d' - 1 by omega]
          refine r_keep ⟨by omega, by omega⟩ ⟨by omega, by omega⟩ ?_
          exact ih _ (by omega) a' (b' - 1) c' (d' - 1) _ (kp P1 (b' - 1) (d' - 1)) rfl p1 (by omega) (by omega) p4 (by omega) (by omega) (hP1.keep ⟨by omega, by omega⟩ ⟨by omega, by omega⟩) (fun k q => by rw [mU_ne q, mU_ne q]; exact hF1 k q) hk1
  have pre : ∀ (m : Nat) (a' c' : Int) (M1 : AM) (P1 : LF), (b - a').toNat = m → a ≤ a' → a' ≤ b → c ≤ c' → c' ≤ e → PAr M1 P1 → (∀ k, k ≠ 94 → M1 k = M k) →
      (∀ M2, PAr M2 (kps (mpP A a' b c' e).1 P1) → (∀ k, k ≠ 94 → M2 k = M k) → S_X9_matchPart_55 g (d + 4) (mpP A a' b c' e).2.1 b (mpP A a' b c' e).2.2 e M2 Q) → S_X9_matchPart_13 g (d + 4) a' b c' e M1 Q := by
    intro m
    induction m using Nat.strongRecOn with
    | _ m ih =>
      intro a' c' M1 P1 hmm p1 p2 p4 p5 hP1 hF1 hk1
      rw [mpP_eq] at hk1
      have hA1 : LAr M1 A n := hA.fr ⟨fun k q1 q2 => hF1 k (by omega), fun j _ _ _ => by rw [hF1 88 (by decide)]⟩
      refine sg_X9_matchPart_13 ⟨r a' (by omega) (by omega), r b (by omega) (by omega), fun w => ?_, fun w => ⟨r c' (by omega) (by omega), r e (by omega) (by omega), fun w2 => ?_, fun w2 => ?_⟩⟩
      · rw [if_neg (by omega)] at hk1
        exact hk1 M1 hP1 hF1
      · rw [if_neg (by omega)] at hk1
        exact hk1 M1 hP1 hF1
      · refine r_isSame hA1 ⟨by omega, by omega⟩ ⟨by omega, by omega⟩ (fun _ => ⟨fun c1 => ?_, fun c1 => ?_⟩)
        · have hne : ¬ A 0 a' = A 1 c' := fun q => by rw [bI_t q] at c1; cases c1
          rw [if_neg (fun z => hne z.2.2)] at hk1
          exact hk1 M1 hP1 hF1
        · have heq : A 0 a' = A 1 c' := Classical.byContradiction fun q => c1 (bI_f q)
          rw [if_pos ⟨by omega, by omega, heq⟩] at hk1
          refine r_keep ⟨by omega, by omega⟩ ⟨by omega, by omega⟩ ?_
          exact ih _ (by omega) (a' + 1) (c' + 1) _ (kp P1 a' c') rfl (by omega) (by omega) (by omega) (by omega) (hP1.keep ⟨by omega, by omega⟩ ⟨by omega, by omega⟩) (fun k q => by rw [mU_ne q, mU_ne q]; exact hF1 k q) hk1
  obtain ⟨t1, t2, t3, t4, t5, t6, t7⟩ := mpP_ok A _ a b c e rfl h1 h4
  obtain ⟨s1, s2, s3, s4, s5, s6, s7⟩ := mpS_ok A _ (mpP A a b c e).2.1 b (mpP A a b c e).2.2 e rfl t2 t4
  refine en_X9_matchPart (sg_X9_matchPart_0 (pre _ a c M P rfl (Int.le_refl _) h1 (Int.le_refl _) h4 hP (fun _ _ => rfl) (fun M2 k1 k2 => ?_)))
  refine suf _ _ b _ e M2 _ rfl t1 t2 (Int.le_refl _) t3 t4 (Int.le_refl _) k1 k2 (fun M3 j1 j2 => ?_)
  refine mid _ _ _ _ M3 _ t1 s1 s2 t3 s3 s4 j1 j2 (fun M4 i1 i2 i3 i4 => h M4 ?_ i2 i3 i4)
  unfold mpOwn
  rw [kps_app, kps_app]
  exact i1
end RMATCH2
