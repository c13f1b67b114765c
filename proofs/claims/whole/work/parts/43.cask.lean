/-! the class's calls that ask, first half -/
def aLine (A : LF) (n : Int → Int) (s i w : Int) : Int := if w < 0 ∨ 5 < w then -102 else if w = 0 then lnN (A s i) else if w ≤ 3 then lnC (A s i) (w - 1) else if w = 5 then (if KP A n s i = -1 then 0 else 1) else (if KP A n s i = -1 then CHG A n s i else KP A n s i)
def stF (x : St) (w : Int) : Int := if w = 0 then x.1 else if w = 1 then x.2.1 else if w = 2 then x.2.2.1 else if w = 3 then x.2.2.2.1 else x.2.2.2.2
def scA (L : List St) (i : Int) : St := L.getD i.toNat (0, 0, 0, 0, 0)
def isSt (L : List St) (i : Int) : Prop := 0 ≤ i ∧ i < L.length
def aStep (L : List St) (i w : Int) : Int := if w < 0 ∨ 4 < w then -102 else stF (scA L i) w
def aLtr (A : LF) (x : St) (w : Int) : Int := if x.1 < 3 then -103 else if w < 0 ∨ 2 < w then -102 else if w = 0 then cml (A 0 x.2.1) (A 1 x.2.2.1) else if w = 1 then lnN (A 0 x.2.1) - cml (A 0 x.2.1) (A 1 x.2.2.1) else lnN (A 1 x.2.2.1) - cml (A 0 x.2.1) (A 1 x.2.2.1)
def aRkd (RK : LF) (k j : Int) : Int := if k < 0 ∨ 5 ≤ k ∨ j < 0 ∨ 3 ≤ j then -102 else RK k j
theorem scA_at {L : List St} {i : Int} (h : isSt L i) : ∃ w : i.toNat < L.length, scA L i = L[i.toNat] := by
  obtain ⟨h0, h1⟩ := h
  have w : i.toNat < L.length := by omega
  refine ⟨w, ?_⟩
  unfold scA
  rw [List.getD_eq_getElem?_getD, List.getElem?_eq_getElem w]
  rfl
theorem scA_mem {L : List St} {i : Int} (h : isSt L i) : scA L i ∈ L := by
  obtain ⟨w, e⟩ := scA_at h
  rw [e]
  exact List.getElem_mem w
theorem StC.at {M : AM} {L : List St} {G i : Int} (h : StC M L G) (hi : isSt L i) : M 72 i.toNat = (scA L i).1 ∧ M 73 i.toNat = (scA L i).2.1 ∧ M 74 i.toNat = (scA L i).2.2.1 ∧ M 75 i.toNat = (scA L i).2.2.2.1 ∧ M 76 i.toNat = (scA L i).2.2.2.2 := by
  obtain ⟨w, e⟩ := scA_at hi
  rw [e, ← h.2.2 i.toNat w]
  exact ⟨rfl, rfl, rfl, rfl, rfl⟩
section CASK
variable {g : AG} {d : Nat} {M : AM} {pg : Int → Int} {z : Int} {A Ai RK : LF} {n ni RN : Int → Int} {T I rd : Int} {Q : Int → AM → Prop}
theorem LAm.sz {o : Nat} (h : LAm M o A n) {s : Int} (hs : s = 0 ∨ s = 1) : M (o + 5) s.toNat = n s := by
  rcases hs with rfl | rfl
  · exact h.1
  · exact h.2.1
theorem LAm.bd {o : Nat} (h : LAm M o A n) {s : Int} (hs : s = 0 ∨ s = 1) : 0 ≤ n s ∧ n s ≤ 8 := by
  rcases hs with rfl | rfl
  · exact h.2.2.1
  · exact h.2.2.2.1
theorem c_hasL {s i : Int} (hA : LAm M 4 A n) (h1 : rg s) (h2 : rg i) (h : Q (bI (isLn n s i)) M) : MetI g mX7_has (d + 2) [vR 5, vI s, vI i] M Q := by
  refine c_has isSides_5 h1 h2 ?_
  have e : ((s = 0 ∨ s = 1) ∧ 0 ≤ i ∧ i < M (5 + 4) s.toNat) ↔ isLn n s i := by
    constructor
    · rintro ⟨a, b, c⟩
      rw [show M (5 + 4) s.toNat = n s from hA.sz a] at c
      exact ⟨a, b, c⟩
    · rintro ⟨a, b, c⟩
      refine ⟨a, b, ?_⟩
      rw [show M (5 + 4) s.toNat = n s from hA.sz a]
      exact c
  rw [bI_iff e]
  exact h
theorem c_shasL {L : List St} {G i : Int} (hS : StC M L G) (hi : rg i) (h : Q (bI (isSt L i)) M) : MetI g mX6_has (d + 1) [vR 71, vI i] M Q := c_shas hS hi h
theorem c_line {s i w : Int} (hT : TxC M A n T) (ok : OkT A n T) (h1 : rg s) (h2 : rg i) (h3 : rg w) (h : Q (cI (isLn n s i) (aLine A n s i w) (-101)) M) : MetI g mX8_line (d + 3) [vR 0, vI s, vI i, vI w] M Q := by
  obtain ⟨t1, t2, t3, t4, t5, t6⟩ := hT
  refine en_X8_line (sg_X8_line_0 ⟨h1, h2, c_hasL t1 h1 h2 (fun _ => ⟨fun c => ?_, fun c => ?_⟩)⟩)
  · have L := bI_of c
    have i8 := isLn_r t1.2.2.1 t1.2.2.2.1 L
    rw [cI_t L] at h
    unfold aLine at h
    have e1 := t1.2.2.2.2 s i L.1 L.2.1 L.2.2
    rw [show 4 + 3 + s.toNat = 7 + s.toNat by omega] at e1
    rw [t2 s i L, t4 s i L, e1]
    have ho := ok.1 s i
    have hs := L.1
    have hi := L.2.1
    refine ⟨h3, fun c1 => ?_, fun c1 => ⟨fun c2 => ⟨⟨by omega, by omega⟩, ⟨by omega, by omega⟩, fun c3 => ⟨fun c4 => ⟨fun c5 => ⟨fun c6 => ?_, fun c6 => ?_⟩, fun c5 => ⟨fun c6 => ?_, fun c6 => ?_⟩⟩, fun c4 => ⟨⟨by omega, by omega⟩, c_codeAt (d := d) ho.1 (by omega) (by omega) (fun _ => ?_)⟩⟩, fun c3 => c_lettersIn (d := d + 1) ho.1 (fun _ => ?_)⟩, fun c2 => ?_⟩⟩
    · rwa [if_pos (Or.inl c1)] at h
    · rwa [if_neg (by omega), if_neg c3, if_neg (by omega), if_neg c5, if_neg c6] at h
    · rwa [if_neg (by omega), if_neg c3, if_neg (by omega), if_neg c5, if_pos c6] at h
    · rwa [if_neg (by omega), if_neg c3, if_neg (by omega), if_pos c5, if_neg c6] at h
    · rwa [if_neg (by omega), if_neg c3, if_neg (by omega), if_pos c5, if_pos c6] at h
    · rwa [if_neg (by omega), if_neg c3, if_pos (by omega)] at h
    · rwa [if_neg (by omega), if_pos c3] at h
    · rwa [if_pos (by omega)] at h
  · rwa [cI_f (bI_not c)] at h
theorem c_step {i w : Int} (hT : TxC M A n T) (h1 : rg i) (h2 : rg w) (h : Q (cI (isSt (SCR A n) i) (aStep (SCR A n) i w) (-101)) M) : MetI g mX8_step (d + 2) [vR 0, vI i, vI w] M Q := by
  obtain ⟨t1, t2, t3, t4, t5, t6⟩ := hT
  have l16 := SCR_len (A := A) t1.2.2.1 t1.2.2.2.1
  refine en_X8_step (sg_X8_step_0 ⟨h1, c_shasL t3 h1 (fun _ => ⟨fun c => ?_, fun c => ?_⟩)⟩)
  · have L : isSt (SCR A n) i := bI_of c
    obtain ⟨e1, e2, e3, e4, e5⟩ := t3.at L
    obtain ⟨L0, L1⟩ := L
    rw [cI_t ⟨L0, L1⟩] at h
    unfold aStep stF at h
    rw [e1, e2, e3, e4, e5]
    have b : 0 ≤ i ∧ i < 16 := ⟨by omega, by omega⟩
    refine ⟨h2, fun c1 => ?_, fun c1 => ⟨b, ?_⟩, fun c1 => ⟨b, ?_⟩, fun c1 => ⟨b, ?_⟩, fun c1 => ⟨b, ?_⟩, fun c1 => ⟨b, ?_⟩⟩
    · rwa [if_pos c1] at h
    · rwa [if_neg (by omega), if_pos c1] at h
    · rwa [if_neg (by omega), if_neg (by omega), if_pos c1] at h
    · rwa [if_neg (by omega), if_neg (by omega), if_neg (by omega), if_pos c1] at h
    · rwa [if_neg (by omega), if_neg (by omega), if_neg (by omega), if_neg (by omega), if_pos c1] at h
    · rwa [if_neg (by omega), if_neg (by omega), if_neg (by omega), if_neg (by omega), if_neg (by omega)] at h
  · rwa [cI_f (bI_not c)] at h
theorem c_letters {i w : Int} (hT : TxC M A n T) (ok : OkT A n T) (h1 : rg i) (h2 : rg w) (h : ∀ M', KpC M M' → Q (cI (isSt (SCR A n) i) (aLtr A (scA (SCR A n) i) w) (-101)) M') : MetI g mX8_letters (d + 4) [vR 0, vI i, vI w] M Q := by
  obtain ⟨t1, t2, t3, t4, t5, t6⟩ := hT
  have l16 := SCR_len (A := A) t1.2.2.1 t1.2.2.2.1
  refine en_X8_letters (sg_X8_letters_0 ⟨h1, c_shasL t3 h1 (fun _ => ⟨fun c => ?_, fun c => ?_⟩)⟩)
  · have L : isSt (SCR A n) i := bI_of c
    have so := SCR_ok (A := A) t1.2.2.1 t1.2.2.2.1 _ (scA_mem L)
    obtain ⟨e1, e2, e3, e4, e5⟩ := t3.at L
    rw [cI_t L] at h
    obtain ⟨L0, L1⟩ := L
    unfold aLtr at h
    generalize scA (SCR A n) i = x at *
    rw [e1]
    refine ⟨⟨by omega, by omega⟩, c_isOfKind (d := d + 2) so.1 ⟨by decide, by decide⟩ (fun _ => ⟨fun c1 => ?_, fun c1 => ?_⟩)⟩
    · have k3 : ¬ x.1 < 3 := by
        have := bI_of c1
        unfold ofK at this
        omega
      obtain ⟨o1, o2⟩ := so.2 (by omega)
      have n0 := t1.2.2.1
      have n1 := t1.2.2.2.1
      have r1 := ok.1 0 x.2.1
      have r2 := ok.1 1 x.2.2.1
      have f1 : M 7 x.2.1.toNat = A 0 x.2.1 := t1.2.2.2.2 0 _ (Or.inl rfl) o1.1 o1.2
      have f2 : M 8 x.2.2.1.toNat = A 1 x.2.2.1 := t1.2.2.2.2 1 _ (Or.inr rfl) o2.1 o2.2
      rw [e2, e3, f1, f2]
      have cr := cml_r (A 0 x.2.1) (A 1 x.2.2.1)
      have l1 := lnN_r (A 0 x.2.1)
      have l2 := lnN_r (A 1 x.2.2.1)
      refine ⟨⟨by omega, by omega⟩, ⟨by omega, by omega⟩, c_commonLetters r1.1 r2.1 (fun M1 k1 _ => ?_)⟩
      have h := h M1 (fun k hk => k1 k (by omega))
      rw [if_neg k3] at h
      refine ⟨h2, fun c2 => ?_, fun c2 => ?_, fun c2 => c_lettersIn (d := d + 2) r1.1 (fun _ => ⟨⟨by omega, by omega⟩, ?_⟩), fun c2 => c_lettersIn (d := d + 2) r2.1 (fun _ => ⟨⟨by omega, by omega⟩, ?_⟩)⟩
      · rwa [if_pos c2] at h
      · rwa [if_neg (by omega), if_pos c2] at h
      · rwa [if_neg (by omega), if_neg (by omega), if_pos c2] at h
      · rwa [if_neg (by omega), if_neg (by omega), if_neg (by omega)] at h
    · have := bI_not c1
      have so1 := so.1
      unfold ofK at this
      have h := h M (KpC.rf M)
      rwa [if_pos (by omega)] at h
  · have h := h M (KpC.rf M)
    rwa [cI_f (bI_not c)] at h
theorem c_like {i j : Int} (hT : TxC M A n T) (ok : OkT A n T) (h1 : rg i) (h2 : rg j) (h : ∀ M', KpC M M' → Q (cI (isLn n 0 i ∧ isLn n 1 j) (likB (A 0 i) (A 1 j)) (-101)) M') : MetI g mX8_like (d + 5) [vR 0, vI i, vI j] M Q := by
  obtain ⟨t1, t2, t3, t4, t5, t6⟩ := hT
  have n0 := t1.2.2.1
  have n1 := t1.2.2.2.1
  refine en_X8_like (sg_X8_like_0 ⟨h1, c_hasL (d := d + 2) t1 ⟨by decide, by decide⟩ h1 (fun _ => ⟨fun c => ?_, fun c => ⟨h2, c_hasL (d := d + 2) t1 ⟨by decide, by decide⟩ h2 (fun _ => ⟨fun c1 => ?_, fun c1 => ?_⟩)⟩⟩)⟩)
  · have h := h M (KpC.rf M)
    rwa [cI_f (fun q => bI_not c q.1)] at h
  · have L0 := bI_of c
    have L1 := bI_of c1
    have i8 := isLn_r n0 n1 L0
    have j8 := isLn_r n0 n1 L1
    have e1 : M 7 i.toNat = A 0 i := t1.2.2.2.2 0 _ L0.1 L0.2.1 L0.2.2
    have e2 : M 8 j.toNat = A 1 j := t1.2.2.2.2 1 _ L1.1 L1.2.1 L1.2.2
    rw [e1, e2]
    have q0 := L0.2.1
    have q1 := L1.2.1
    refine ⟨⟨by omega, by omega⟩, ⟨by omega, by omega⟩, c_fraction (ok.1 0 i).1 (ok.1 1 j).1 (fun M1 k1 => c_singleBits (d := d + 3) (likB_s _ _) (fun _ => ?_))⟩
    have h := h M1 (fun k hk => k1 k (by omega))
    rwa [cI_t ⟨L0, L1⟩] at h
  · have h := h M (KpC.rf M)
    rwa [cI_f (fun q => bI_not c1 q.2)] at h
theorem c_racked {k j : Int} (hK : RkC M RK RN) (ok : OkK RK RN) (h1 : rg k) (h2 : rg j) (h : Q (aRkd RK k j) M) : MetI g mX8_racked (d + 1) [vR 0, vI k, vI j] M Q := by
  unfold aRkd at h
  refine en_X8_racked (sg_X8_racked_0 ⟨h1, fun c1 => ?_, fun c1 => ⟨fun c2 => ?_, fun c2 => ⟨h2, fun c3 => ?_, fun c3 => ⟨fun c4 => ⟨⟨by omega, by omega⟩, fun c5 => ?_, fun c5 => ⟨⟨by omega, by omega⟩, ?_⟩⟩, fun c4 => ?_⟩⟩⟩⟩)
  · rwa [if_pos (by omega)] at h
  · rwa [if_pos (by omega)] at h
  · rwa [if_pos (by omega)] at h
  · rw [if_neg (by omega)] at h
    obtain ⟨k1, k2⟩ := hK k (by omega) (by omega)
    rw [k1] at c5
    rwa [(ok k (by omega) (by omega)).2.2 j c5 (by omega)] at h
  · rw [if_neg (by omega)] at h
    obtain ⟨k1, k2⟩ := hK k (by omega) (by omega)
    rw [k1] at c5
    rwa [k2 j (by omega) (by omega)]
  · rwa [if_pos (by omega)] at h
/-- a step is put on a rack -/
def mayR (L : List St) (RN : Int → Int) (i k : Int) : Prop := isSt L i ∧ (0 ≤ k ∧ k < 5) ∧ RN k < 3 ∧ ofK (scA L i).1 k
noncomputable def noR (L : List St) (RN : Int → Int) (i k : Int) : Int := cI (isSt L i) (cI (0 ≤ k ∧ k < 5) (cI (RN k < 3) (-1) (-104)) (-102)) (-101)
theorem c_rack0 {i k : Int} (hT : TxC M A n T) (hK : RkC M RK RN) (h1 : rg i) (h2 : rg k) (hn : ¬ mayR (SCR A n) RN i k) (h : Q (noR (SCR A n) RN i k) M) : MetI g mX8_rack (d + 2) [vR 0, vI i, vI k] M Q := by
  obtain ⟨t1, t2, t3, t4, t5, t6⟩ := hT
  have l16 := SCR_len (A := A) t1.2.2.1 t1.2.2.2.1
  unfold noR at h
  refine en_X8_rack (sg_X8_rack_0 ⟨h1, c_shasL t3 h1 (fun _ => ⟨fun c => ⟨h2, fun c1 => ?_, fun c1 => ⟨fun c2 => ⟨⟨by omega, by omega⟩, ?_⟩, fun c2 => ?_⟩⟩, fun c => ?_⟩)⟩)
  · rwa [cI_t (bI_of c), cI_f (by omega)] at h
  · have L : isSt (SCR A n) i := bI_of c
    have so := SCR_ok (A := A) t1.2.2.1 t1.2.2.2.1 _ (scA_mem L)
    obtain ⟨e1, e2, e3, e4, e5⟩ := t3.at L
    rw [cI_t L, cI_t ⟨by omega, by omega⟩] at h
    rw [e1, (hK k (by omega) (by omega)).1]
    obtain ⟨L0, L1⟩ := L
    refine ⟨fun c3 => ⟨⟨by omega, by omega⟩, c_isOfKind (d := d) so.1 ⟨by omega, by omega⟩ (fun _ => ⟨fun c4 => ?_, fun c4 => ?_⟩)⟩, fun c3 => ?_⟩
    · exact absurd ⟨⟨L0, L1⟩, ⟨by omega, by omega⟩, c3, bI_of c4⟩ hn
    · rwa [cI_t c3] at h
    · rwa [cI_f c3] at h
  · rwa [cI_t (bI_of c), cI_f (by omega)] at h
  · rwa [cI_f (bI_not c)] at h
theorem c_rack1 {i k : Int} (hT : TxC M A n T) (hK : RkC M RK RN) (ok : OkK RK RN) (h1 : rg i) (h2 : rg k) (hy : mayR (SCR A n) RN i k) (h : ∀ M', RkC M' (f2 RK k (RN k) i) (f1 RN k (RN k + 1)) → (∀ k, k < 82 ∨ 87 < k → M' k = M k) → Q (RN k + 1) M') : MetI g mX8_rack (d + 2) [vR 0, vI i, vI k] M Q := by
  obtain ⟨t1, t2, t3, t4, t5, t6⟩ := hT
  have l16 := SCR_len (A := A) t1.2.2.1 t1.2.2.2.1
  obtain ⟨L, b, c3, y⟩ := hy
  have so := SCR_ok (A := A) t1.2.2.1 t1.2.2.2.1 _ (scA_mem L)
  obtain ⟨e1, e2, e3, e4, e5⟩ := t3.at L
  have L' := L
  obtain ⟨L0, L1⟩ := L'
  have ek := (hK k b.1 b.2).1
  have ob := (ok k b.1 b.2).1
  refine en_X8_rack (sg_X8_rack_0 ⟨h1, c_shasL t3 h1 (fun _ => ⟨fun _ => ⟨h2, fun w => by omega, fun _ => ⟨fun _ => ⟨⟨by omega, by omega⟩, ?_⟩, fun w => by omega⟩⟩, fun c => absurd L (bI_not c)⟩)⟩)
  rw [e1, ek]
  refine ⟨fun _ => ⟨⟨by omega, by omega⟩, c_isOfKind (d := d) so.1 ⟨by omega, by omega⟩ (fun _ => ⟨fun _ => ?_, fun c => absurd y (bI_not c)⟩)⟩, fun w => absurd c3 w⟩
  refine en_X4_append (sg_X4_append_0 ⟨h2, fun w => by omega, fun _ => ⟨fun w => by omega, fun _ => ⟨⟨by omega, by omega⟩, ?_⟩⟩⟩)
  rw [ek]
  refine ⟨fun _ => ⟨⟨by omega, by omega⟩, h1, ⟨by omega, by omega⟩, fun _ => ?_⟩, fun w => absurd c3 w⟩
  refine h _ (fun x x0 x5 => ?_) (fun q hq => by rw [mU_ne (by omega), mU_ne (by omega)])
  obtain ⟨g1, g2⟩ := hK x x0 x5
  have ox := (ok x x0 x5).1
  unfold f1 f2
  by_cases e : x = k
  · subst e
    rw [if_pos rfl]
    refine ⟨mU_at, fun j j0 j1 => ?_⟩
    rw [mU_ne (by omega)]
    by_cases e2 : j = RN x
    · rw [if_pos ⟨rfl, e2⟩, e2, mU_at]
    · rw [if_neg (fun q => e2 q.2), mU_nej (by omega)]
      exact g2 j j0 (by omega)
  · rw [if_neg e]
    refine ⟨?_, fun j j0 j1 => ?_⟩
    · rw [mU_nej (by omega), mU_ne (by omega)]
      exact g1
    · rw [mU_ne (by omega), mU_ne (by omega), if_neg (fun q => e q.1)]
      exact g2 j j0 j1
end CASK
