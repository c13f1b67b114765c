/-! the script's entries; the state that both sides hold -/
def StOk (n : Int → Int) (x : St) : Prop := (0 ≤ x.1 ∧ x.1 ≤ 4) ∧ (3 ≤ x.1 → (0 ≤ x.2.1 ∧ x.2.1 < n 0) ∧ 0 ≤ x.2.2.1 ∧ x.2.2.1 < n 1)
theorem StOk.lo {n : Int → Int} {a : Int} (b : Int × Int × Int × Int) (h0 : 0 ≤ a) (h1 : a < 3) : StOk n (a, b) := ⟨⟨h0, by omega⟩, fun w => by simp only at w; omega⟩
theorem dpS_ok {n : Int → Int} (A : LF) (i p j q G : Int) : ∀ (m : Nat) (k : Int), ∀ x ∈ dpS A i p j q G m k, StOk n x := by
  intro m
  induction m with
  | zero => intro k x hx; cases hx
  | succ m ih =>
    intro k x hx
    rw [dpS_s] at hx
    split at hx
    · exact ih (k + 1) x hx
    · rcases List.mem_cons.mp hx with rfl | hx
      · exact StOk.lo _ (by decide) (by decide)
      · exact ih (k + 1) x hx
theorem adS_ok {n : Int → Int} (A : LF) {i p j q : Int} (G : Int) (i0 : 0 ≤ i) (j0 : 0 ≤ j) (p1 : p ≤ n 0) (q1 : q ≤ n 1) : ∀ (m : Nat) (k : Int), 0 ≤ k → ∀ x ∈ adS A i p j q G m k, StOk n x := by
  intro m
  induction m with
  | zero => intro k k0 x hx; cases hx
  | succ m ih =>
    intro k k0 x hx
    rw [adS_s] at hx
    rcases List.mem_cons.mp hx with rfl | hx
    · have cv := (chB_v (A 0 (i + k)) (A 1 (j + k))).1
      by_cases c : isCh A i p j q k
      · rw [if_pos c]
        obtain ⟨c1, c2, c3⟩ := c
        refine ⟨?_, fun _ => ⟨?_, ?_⟩⟩ <;> simp only <;> omega
      · rw [if_neg c]
        exact StOk.lo _ (by decide) (by decide)
    · exact ih (k + 1) (by omega) x hx
theorem scS_ok {A P : LF} {n : Int → Int} (W : WFs P n) : ∀ (m : Nat) (i j G : Int), 0 ≤ i → i ≤ n 0 → 0 ≤ j → j ≤ n 1 → Cut P 0 i j → ∀ x ∈ scS A P n m i j G, StOk n x := by
  intro m
  induction m with
  | zero => intro i j G i0 i1 j0 j1 C x hx; cases hx
  | succ m ih =>
    intro i j G i0 i1 j0 j1 C x hx
    rw [scS_s] at hx
    obtain ⟨wk1, wk2⟩ := walk W C i0 i1 j0 j1
    obtain ⟨p1, p2, _, _⟩ := nk_ok P n 0 i i1
    obtain ⟨q1, q2, _, _⟩ := nk_ok P n 1 j j1
    generalize nk P n 0 i = p at *
    generalize nk P n 1 j = q at *
    rcases List.mem_append.mp hx with hx | hx
    · unfold gpS at hx
      rcases List.mem_append.mp hx with hx | hx
      · exact dpS_ok A i p j q G _ _ x hx
      · exact adS_ok A G i0 j0 p2 q2 _ _ (by omega) x hx
    · by_cases c : n 0 ≤ p
      · rw [if_pos c] at hx
        cases hx
      · rw [if_neg c] at hx
        rcases List.mem_cons.mp hx with rfl | hx
        · exact StOk.lo _ (by decide) (by decide)
        · have w := wk1.mp (by omega)
          exact ih (p + 1) (q + 1) _ (by omega) (by omega) (by omega) (by omega) (wk2 (by omega)) x hx
theorem SCR_ok {A : LF} {n : Int → Int} (h0 : 0 ≤ n 0 ∧ n 0 ≤ 8) (h1 : 0 ≤ n 1 ∧ n 1 ≤ 8) : ∀ x ∈ SCR A n, StOk n x :=
  scS_ok (KP_wf (A := A) h0.1 h1.1) 9 0 0 0 (by omega) h0.1 (by omega) h1.1 ⟨fun x x0 x1 => by omega, fun x x0 x1 => by omega⟩
theorem SCR_0 {A : LF} {n : Int → Int} (h0 : n 0 = 0) (h1 : n 1 = 0) : SCR A n = [] ∧ GAPS A n = 0 := by
  have e0 : nk (KP A n) n 0 0 = 0 := nk_end (by omega)
  have e1 : nk (KP A n) n 1 0 = 0 := nk_end (by omega)
  constructor
  · unfold SCR
    rw [scS_s, e0, e1, if_pos (by omega)]
    rfl
  · unfold GAPS
    rw [scG_s, e0, e1, if_pos (by omega)]
    rfl
theorem lnC_out {z i : Int} (h : lnN z ≤ i) : lnC z i = -1 := by
  unfold lnC
  rw [if_neg (by omega), if_neg (by omega), if_neg (by omega)]
theorem lnC_r (z i : Int) : -1 ≤ lnC z i ∧ lnC z i < 128 := by
  unfold lnC
  split
  · omega
  · split
    · omega
    · split <;> omega
noncomputable def cI (p : Prop) (a b : Int) : Int := @ite Int p (Classical.propDecidable p) a b
theorem cI_t {p : Prop} {a b : Int} (h : p) : cI p a b = a := by unfold cI; rw [if_pos h]
theorem cI_f {p : Prop} {a b : Int} (h : ¬ p) : cI p a b = b := by unfold cI; rw [if_neg h]
theorem bI_of {p : Prop} (h : ¬ bI p = 0) : p := Classical.byContradiction fun q => h (bI_f q)
theorem bI_not {p : Prop} (h : bI p = 0) : ¬ p := fun q => by rw [bI_t q] at h; cases h
/-- is there such a line -/
def isLn (n : Int → Int) (s i : Int) : Prop := (s = 0 ∨ s = 1) ∧ 0 ≤ i ∧ i < n s
/-- the text, its match and its script, in the class -/
def TxC (M : AM) (A : LF) (n : Int → Int) (T : Int) : Prop := LAm M 4 A n ∧ (∀ s i, isLn n s i → M (11 + s.toNat) i.toNat = KP A n s i) ∧ StC M (SCR A n) (GAPS A n) ∧ (∀ s i, isLn n s i → M (78 + s.toNat) i.toNat = CHG A n s i) ∧ M 0 8 = T ∧ (T = 1 → M 4 7 = ANC A n ∧ M 4 8 = SLN A n)
def ImC (M : AM) (I : Int) (Ai : LF) (ni : Int → Int) (rd : Int) : Prop := M 0 9 = I ∧ (I = 1 → LAm M 51 Ai ni) ∧ M 0 10 = rd
def RkC (M : AM) (RK : LF) (RN : Int → Int) : Prop := ∀ k, 0 ≤ k → k < 5 → M 87 k.toNat = RN k ∧ ∀ j, 0 ≤ j → j < RN k → M (82 + k.toNat) j.toNat = RK k j
/-- the same in the reference -/
def LAq (M : AM) (a b : Nat) (A : LF) (n : Int → Int) : Prop := M b 0 = n 0 ∧ M b 1 = n 1 ∧ (0 ≤ n 0 ∧ n 0 ≤ 8) ∧ (0 ≤ n 1 ∧ n 1 ≤ 8) ∧ ∀ s i, s = 0 ∨ s = 1 → 0 ≤ i → i < n s → M a (16 * s + i).toNat = A s i
def TxR (M : AM) (A : LF) (n : Int → Int) (T : Int) : Prop := LAr M A n ∧ (∀ s i, isLn n s i → M 94 (16 * s + i).toNat = KP A n s i) ∧ StR M (SCR A n) (GAPS A n) ∧ (∀ s i, isLn n s i → M 102 (16 * s + i).toNat = CHG A n s i) ∧ M 88 9 = T ∧ (T = 1 → M 88 12 = ANC A n ∧ M 88 13 = SLN A n)
def ImR (M : AM) (I : Int) (Ai : LF) (ni : Int → Int) (rd : Int) : Prop := M 88 10 = rd ∧ M 88 29 ≤ rd ∧ (M 88 29 = rd ↔ I = 1) ∧ (I = 1 → LAq M 106 107 Ai ni)
def RkR (M : AM) (RK : LF) : Prop := ∀ k j, 0 ≤ k → k < 5 → 0 ≤ j → j < 3 → M 103 (3 * k + j).toNat = RK k j
/-- what holds of the state itself -/
def OkT (A : LF) (n : Int → Int) (T : Int) : Prop := (∀ s i, rg (A s i) ∧ 0 ≤ A s i) ∧ (T = 0 ∨ T = 1) ∧ (T = 0 → n 0 = 0 ∧ n 1 = 0)
def OkI (T I : Int) (Ai : LF) : Prop := (I = 0 ∨ I = 1) ∧ (I = 1 → T = 1) ∧ ∀ s i, rg (Ai s i) ∧ 0 ≤ Ai s i
def OkK (RK : LF) (RN : Int → Int) : Prop := ∀ k, 0 ≤ k → k < 5 → (0 ≤ RN k ∧ RN k ≤ 3) ∧ (∀ j, 0 ≤ j → j < RN k → 0 ≤ RK k j ∧ RK k j < 16) ∧ ∀ j, RN k ≤ j → j < 3 → RK k j = -1
def KpC (M M' : AM) : Prop := ∀ k, (k < 3 ∨ (3 < k ∧ k < 13) ∨ (51 < k ∧ k < 57) ∨ 70 < k) → M' k = M k
theorem KpC.rf (M : AM) : KpC M M := fun _ _ => rfl
theorem KpC.tr {M M1 M2 : AM} (h1 : KpC M M1) (h2 : KpC M1 M2) : KpC M M2 := fun k hk => (h2 k hk).trans (h1 k hk)
def KpR (M M' : AM) : Prop := (∀ k, k ≠ 88 → k ≠ 90 → k ≠ 91 → (k < 95 ∨ 100 < k) → k ≠ 104 → k ≠ 105 → M' k = M k) ∧ ∀ j, j ≠ 2 → j ≠ 3 → j ≠ 6 → j ≠ 15 → j ≠ 26 → j ≠ 32 → M' 88 j = M 88 j
theorem KpR.rf (M : AM) : KpR M M := ⟨fun _ _ _ _ _ _ _ => rfl, fun _ _ _ _ _ _ _ => rfl⟩
theorem KpR.tr {M M1 M2 : AM} (h1 : KpR M M1) (h2 : KpR M1 M2) : KpR M M2 := ⟨fun k a b c e f i => (h2.1 k a b c e f i).trans (h1.1 k a b c e f i), fun j a b c e f i => (h2.2 j a b c e f i).trans (h1.2 j a b c e f i)⟩
section STATE
variable {M M' : AM} {pg : Int → Int} {z : Int} {A Ai RK : LF} {n ni RN : Int → Int} {T I rd : Int}
theorem LAm.same {o : Nat} (h : LAm M o A n) (f : ∀ k, o + 3 ≤ k → k ≤ o + 5 → M' k = M k) : LAm M' o A n := by
  obtain ⟨h1, h2, h3, h4, h5⟩ := h
  refine ⟨by rw [f _ (by omega) (by omega)]; exact h1, by rw [f _ (by omega) (by omega)]; exact h2, h3, h4, fun s i hs i0 i1 => ?_⟩
  rw [f _ (by omega) (by omega)]
  exact h5 s i hs i0 i1
theorem LAq.same {a b : Nat} (h : LAq M a b A n) (fa : M' a = M a) (fb : M' b = M b) : LAq M' a b A n := by
  unfold LAq
  rw [fa, fb]
  exact h
theorem PgC.same (h : PgC M pg z) (f1 : M' 1 = M 1) (f2 : M' 2 = M 2) : PgC M' pg z := by
  unfold PgC
  rw [f1, f2]
  exact h
theorem TxC.same (h : TxC M A n T) (f : ∀ k, (k = 0 ∨ k = 4 ∨ (7 ≤ k ∧ k ≤ 9) ∨ k = 11 ∨ k = 12 ∨ (71 ≤ k ∧ k ≤ 79)) → M' k = M k) : TxC M' A n T := by
  obtain ⟨h1, h2, h3, h4, h5, h6⟩ := h
  refine ⟨h1.same (fun k _ _ => f k (by omega)), fun s i q => ?_, h3.same (fun k _ _ => f k (by omega)), fun s i q => ?_, by rw [f 0 (by omega)]; exact h5, by rw [f 4 (by omega)]; exact h6⟩
  · have := q.1
    rw [f _ (by omega)]
    exact h2 s i q
  · have := q.1
    rw [f _ (by omega)]
    exact h4 s i q
theorem ImC.same (h : ImC M I Ai ni rd) (f : ∀ k, (k = 0 ∨ (54 ≤ k ∧ k ≤ 56)) → M' k = M k) : ImC M' I Ai ni rd := by
  obtain ⟨h1, h2, h3⟩ := h
  exact ⟨by rw [f 0 (by omega)]; exact h1, fun w => (h2 w).same (fun k _ _ => f k (by omega)), by rw [f 0 (by omega)]; exact h3⟩
theorem RkC.same (h : RkC M RK RN) (f : ∀ k, 82 ≤ k → k ≤ 87 → M' k = M k) : RkC M' RK RN := by
  intro k k0 k1
  obtain ⟨h1, h2⟩ := h k k0 k1
  refine ⟨by rw [f 87 (by omega) (by omega)]; exact h1, fun j j0 j1 => ?_⟩
  rw [f _ (by omega) (by omega)]
  exact h2 j j0 j1
theorem PgC.kp (h : PgC M pg z) (f : KpC M M') : PgC M' pg z := h.same (f 1 (by omega)) (f 2 (by omega))
theorem TxC.kp (h : TxC M A n T) (f : KpC M M') : TxC M' A n T := h.same (fun k hk => f k (by omega))
theorem ImC.kp (h : ImC M I Ai ni rd) (f : KpC M M') : ImC M' I Ai ni rd := h.same (fun k hk => f k (by omega))
theorem RkC.kp (h : RkC M RK RN) (f : KpC M M') : RkC M' RK RN := h.same (fun k _ _ => f k (by omega))
theorem PgR.same (h : PgR M pg z) (f1 : M' 88 1 = M 88 1) (f2 : M' 89 = M 89) : PgR M' pg z := by
  unfold PgR
  rw [f1, f2]
  exact h
theorem TxR.same (h : TxR M A n T) (f : ∀ k, (92 ≤ k ∧ k ≤ 94) ∨ k = 101 ∨ k = 102 → M' k = M k) (f8 : ∀ j, j = 9 ∨ j = 12 ∨ j = 13 ∨ j = 22 ∨ j = 23 → M' 88 j = M 88 j) : TxR M' A n T := by
  obtain ⟨h1, h2, h3, h4, h5, h6⟩ := h
  refine ⟨h1.fr' (f 92 (by omega)) (f 93 (by omega)), ?_, h3.same (f8 22 (by omega)) (f8 23 (by omega)) (f 101 (by omega)), ?_, by rw [f8 9 (by omega)]; exact h5, ?_⟩
  · rw [f 94 (by omega)]
    exact h2
  · rw [f 102 (by omega)]
    exact h4
  · rw [f8 12 (by omega), f8 13 (by omega)]
    exact h6
theorem ImR.same (h : ImR M I Ai ni rd) (f : ∀ k, k = 106 ∨ k = 107 → M' k = M k) (f8 : ∀ j, j = 10 ∨ j = 29 → M' 88 j = M 88 j) : ImR M' I Ai ni rd := by
  obtain ⟨h1, h2, h3, h4⟩ := h
  unfold ImR
  rw [f8 10 (by omega), f8 29 (by omega)]
  exact ⟨h1, h2, h3, fun w => (h4 w).same (f 106 (by omega)) (f 107 (by omega))⟩
theorem RkR.same (h : RkR M RK) (f : M' 103 = M 103) : RkR M' RK := by
  unfold RkR
  rw [f]
  exact h
theorem PgR.kp (h : PgR M pg z) (f : KpR M M') : PgR M' pg z := h.same (f.2 1 (by decide) (by decide) (by decide) (by decide) (by decide) (by decide)) (f.1 89 (by decide) (by decide) (by decide) (by decide) (by decide) (by decide))
theorem TxR.kp (h : TxR M A n T) (f : KpR M M') : TxR M' A n T := h.same (fun k hk => f.1 k (by omega) (by omega) (by omega) (by omega) (by omega) (by omega)) (fun j hj => f.2 j (by omega) (by omega) (by omega) (by omega) (by omega) (by omega))
theorem ImR.kp (h : ImR M I Ai ni rd) (f : KpR M M') : ImR M' I Ai ni rd := h.same (fun k hk => f.1 k (by omega) (by omega) (by omega) (by omega) (by omega) (by omega)) (fun j hj => f.2 j (by omega) (by omega) (by omega) (by omega) (by omega) (by omega))
theorem RkR.kp (h : RkR M RK) (f : KpR M M') : RkR M' RK := h.same (f.1 103 (by decide) (by decide) (by decide) (by decide) (by decide) (by decide))
/-- all of it -/
def RpC (M : AM) (pg : Int → Int) (z : Int) (A : LF) (n : Int → Int) (T I : Int) (Ai : LF) (ni : Int → Int) (rd : Int) (RK : LF) (RN : Int → Int) : Prop := PgC M pg z ∧ TxC M A n T ∧ ImC M I Ai ni rd ∧ RkC M RK RN
def RpR (M : AM) (pg : Int → Int) (z : Int) (A : LF) (n : Int → Int) (T I : Int) (Ai : LF) (ni : Int → Int) (rd : Int) (RK : LF) : Prop := PgR M pg z ∧ TxR M A n T ∧ ImR M I Ai ni rd ∧ RkR M RK
theorem RpC.kp (h : RpC M pg z A n T I Ai ni rd RK RN) (f : KpC M M') : RpC M' pg z A n T I Ai ni rd RK RN := ⟨h.1.kp f, h.2.1.kp f, h.2.2.1.kp f, h.2.2.2.kp f⟩
theorem RpR.kp (h : RpR M pg z A n T I Ai ni rd RK) (f : KpR M M') : RpR M' pg z A n T I Ai ni rd RK := ⟨h.1.kp f, h.2.1.kp f, h.2.2.1.kp f, h.2.2.2.kp f⟩
theorem RpC.lo (h : RpC M pg z A n T I Ai ni rd RK RN) (f : ∀ k, k < 88 → M' k = M k) : RpC M' pg z A n T I Ai ni rd RK RN := ⟨h.1.same (f 1 (by omega)) (f 2 (by omega)), h.2.1.same (fun k hk => f k (by omega)), h.2.2.1.same (fun k hk => f k (by omega)), h.2.2.2.same (fun k _ _ => f k (by omega))⟩
theorem RpR.hi (h : RpR M pg z A n T I Ai ni rd RK) (f : ∀ k, 88 ≤ k → M' k = M k) : RpR M' pg z A n T I Ai ni rd RK := ⟨h.1.same (by rw [f 88 (by omega)]) (f 89 (by omega)), h.2.1.same (fun k hk => f k (by omega)) (fun j _ => by rw [f 88 (by omega)]), h.2.2.1.same (fun k hk => f k (by omega)) (fun j _ => by rw [f 88 (by omega)]), h.2.2.2.same (f 103 (by omega))⟩
theorem KpC.hi (f : KpC M M') : ∀ k, 88 ≤ k → M' k = M k := fun k hk => f k (by omega)
theorem KpR.lo (f : KpR M M') : ∀ k, k < 88 → M' k = M k := fun k hk => f.1 k (by omega) (by omega) (by omega) (by omega) (by omega) (by omega)
theorem isLn_r (h0 : 0 ≤ n 0 ∧ n 0 ≤ 8) (h1 : 0 ≤ n 1 ∧ n 1 ≤ 8) {s i : Int} (h : isLn n s i) : i < 8 := by
  obtain ⟨rfl | rfl, q1, q2⟩ := h <;> omega
end STATE
