/-! the script of steps: what it must be -/
abbrev St := Int × Int × Int × Int × Int
def nkN (P : LF) (s : Int) : Nat → Int → Int
  | 0, i => i
  | m + 1, i => if P s i = -1 then nkN P s m (i + 1) else i
def nk (P : LF) (n : Int → Int) (s i : Int) : Int := nkN P s (n s - i).toNat i
theorem nkN_ok (P : LF) (s : Int) : ∀ (m : Nat) (i : Int), i ≤ nkN P s m i ∧ nkN P s m i ≤ i + m ∧ (∀ x, i ≤ x → x < nkN P s m i → P s x = -1) ∧ (nkN P s m i < i + m → P s (nkN P s m i) ≠ -1) := by
  intro m
  induction m with
  | zero =>
    intro i
    refine ⟨Int.le_refl _, ?_, fun x h1 h2 => ?_, fun h => ?_⟩ <;> simp only [nkN] at * <;> omega
  | succ m ih =>
    intro i
    have e : nkN P s (m + 1) i = if P s i = -1 then nkN P s m (i + 1) else i := rfl
    rw [e]
    obtain ⟨h1, h2, h3, h4⟩ := ih (i + 1)
    by_cases c : P s i = -1
    · rw [if_pos c]
      refine ⟨by omega, by omega, fun x q1 q2 => ?_, fun q => h4 (by omega)⟩
      by_cases e : x = i
      · rw [e]; exact c
      · exact h3 x (by omega) q2
    · rw [if_neg c]
      exact ⟨Int.le_refl _, by omega, fun x q1 q2 => by omega, fun _ => c⟩
theorem nk_ok (P : LF) (n : Int → Int) (s i : Int) (h : i ≤ n s) : i ≤ nk P n s i ∧ nk P n s i ≤ n s ∧ (∀ x, i ≤ x → x < nk P n s i → P s x = -1) ∧ (nk P n s i < n s → P s (nk P n s i) ≠ -1) := by
  have := nkN_ok P s (n s - i).toNat i
  unfold nk
  refine ⟨this.1, by omega, this.2.2.1, fun q => this.2.2.2 (by omega)⟩
theorem nk_end {P : LF} {n : Int → Int} {s i : Int} (h : n s ≤ i) : nk P n s i = i := by
  unfold nk
  rw [show (n s - i).toNat = 0 by omega]
  rfl
theorem nk_go {P : LF} {n : Int → Int} {s i : Int} (h : i < n s) (hp : P s i = -1) : nk P n s i = nk P n s (i + 1) := by
  unfold nk
  rw [show (n s - i).toNat = (n s - (i + 1)).toNat + 1 by omega]
  exact if_pos hp
theorem nk_at {P : LF} {n : Int → Int} {s i : Int} (h : i < n s) (hp : ¬ P s i = -1) : nk P n s i = i := by
  unfold nk
  rw [show (n s - i).toNat = (n s - (i + 1)).toNat + 1 by omega]
  exact if_neg hp
theorem walk {P : LF} {n : Int → Int} {i j : Int} (W : WFs P n) (C : Cut P 0 i j) (i0 : 0 ≤ i) (i1 : i ≤ n 0) (j0 : 0 ≤ j) (j1 : j ≤ n 1) : (nk P n 0 i < n 0 ↔ nk P n 1 j < n 1) ∧ (nk P n 0 i < n 0 → Cut P 0 (nk P n 0 i + 1) (nk P n 1 j + 1)) := by
  obtain ⟨a1, a2, a3, a4⟩ := nk_ok P n 0 i i1
  obtain ⟨b1, b2, b3, b4⟩ := nk_ok P n 1 j j1
  generalize nk P n 0 i = p at *
  generalize nk P n 1 j = q at *
  have w0 := (W 0 (Or.inl rfl)).1
  have w1 := (W 1 (Or.inr rfl)).1
  have m1 := (W 1 (Or.inr rfl)).2
  rw [show (1 : Int) - 0 = 1 by decide] at w0
  rw [show (1 : Int) - 1 = 0 by decide] at w1
  obtain ⟨c1, c2⟩ := C
  rw [show (1 : Int) - 0 = 1 by decide] at c2
  have k1 : p < n 0 → q < n 1 ∧ P 0 p = q ∧ P 1 q = p := by
    intro h
    rcases w0 p (by omega) h with e | ⟨e1, e2, e3⟩
    · exact absurd e (a4 h)
    · have y1 : j ≤ P 0 p := Classical.byContradiction fun w => by
        have := c2 (P 0 p) e1 (by omega) (by rw [e3]; omega)
        rw [e3] at this
        omega
      have y2 : q ≤ P 0 p := Classical.byContradiction fun w => by
        have := b3 (P 0 p) y1 (by omega)
        rw [e3] at this
        omega
      have hq : q < n 1 := by omega
      rcases w1 q (by omega) hq with f | ⟨f1, f2, f3⟩
      · exact absurd f (b4 hq)
      · have x1 : i ≤ P 1 q := Classical.byContradiction fun w => by
          have := c1 (P 1 q) f1 (by omega) (by rw [f3]; omega)
          rw [f3] at this
          omega
        have x2 : p ≤ P 1 q := Classical.byContradiction fun w => by
          have := a3 (P 1 q) x1 (by omega)
          rw [f3] at this
          omega
        by_cases e : q = P 0 p
        · refine ⟨hq, e.symm, ?_⟩
          rw [e]
          exact e3
        · have := m1 q (P 0 p) (by omega) (by omega) e2 (b4 hq) (by rw [e3]; omega)
          rw [e3] at this
          omega
  refine ⟨⟨fun h => (k1 h).1, fun h => ?_⟩, fun h => ?_⟩
  · rcases w1 q (by omega) h with f | ⟨f1, f2, f3⟩
    · exact absurd f (b4 h)
    · have x1 : i ≤ P 1 q := Classical.byContradiction fun w => by
        have := c1 (P 1 q) f1 (by omega) (by rw [f3]; omega)
        rw [f3] at this
        omega
      have x2 : p ≤ P 1 q := Classical.byContradiction fun w => by
        have := a3 (P 1 q) x1 (by omega)
        rw [f3] at this
        omega
      omega
  · obtain ⟨hq, e1, e2⟩ := k1 h
    refine ⟨fun x x0 x1 hx => ?_, fun y y0 y1 hy => ?_⟩
    · by_cases u : x < i
      · have := c1 x x0 u hx
        omega
      · by_cases v : x < p
        · exact absurd (a3 x (by omega) v) hx
        · rw [show x = p by omega, e1]
          omega
    · rw [show (1 : Int) - 0 = 1 by decide] at *
      by_cases u : y < j
      · have := c2 y y0 u hy
        omega
      · by_cases v : y < q
        · exact absurd (b3 y (by omega) v) hy
        · rw [show y = q by omega, e2]
          omega
/-- is the k-th dropped line of a gap changed into the k-th added -/
abbrev isCh (A : LF) (i p j q k : Int) : Prop := i + k < p ∧ j + k < q ∧ chB (A 0 (i + k)) (A 1 (j + k)) ≠ 0
def dpS (A : LF) (i p j q G : Int) : Nat → Int → List St
  | 0, _ => []
  | m + 1, k => if isCh A i p j q k then dpS A i p j q G m (k + 1) else (1, i + k, -1, 0, G) :: dpS A i p j q G m (k + 1)
theorem dpS_s (A : LF) (i p j q G : Int) (m : Nat) (k : Int) : dpS A i p j q G (m + 1) k = if isCh A i p j q k then dpS A i p j q G m (k + 1) else (1, i + k, -1, 0, G) :: dpS A i p j q G m (k + 1) := rfl
def adS (A : LF) (i p j q G : Int) : Nat → Int → List St
  | 0, _ => []
  | m + 1, k => (if isCh A i p j q k then (chB (A 0 (i + k)) (A 1 (j + k)), i + k, j + k, likB (A 0 (i + k)) (A 1 (j + k)), G) else (2, -1, j + k, 0, G)) :: adS A i p j q G m (k + 1)
theorem adS_s (A : LF) (i p j q G : Int) (m : Nat) (k : Int) : adS A i p j q G (m + 1) k = (if isCh A i p j q k then (chB (A 0 (i + k)) (A 1 (j + k)), i + k, j + k, likB (A 0 (i + k)) (A 1 (j + k)), G) else (2, -1, j + k, 0, G)) :: adS A i p j q G m (k + 1) := rfl
def gpS (A : LF) (i p j q G : Int) : List St := dpS A i p j q G (p - i).toNat 0 ++ adS A i p j q G (q - j).toNat 0
theorem dpS_len (A : LF) (i p j q G : Int) : ∀ (m : Nat) (k : Int), (dpS A i p j q G m k).length ≤ m := by
  intro m
  induction m with
  | zero => intro k; exact Nat.le_refl _
  | succ m ih =>
    intro k
    have := ih (k + 1)
    rw [dpS_s]
    split
    · omega
    · rw [List.length_cons]; omega
theorem adS_len (A : LF) (i p j q G : Int) : ∀ (m : Nat) (k : Int), (adS A i p j q G m k).length = m := by
  intro m
  induction m with
  | zero => intro k; rfl
  | succ m ih =>
    intro k
    rw [adS_s, List.length_cons, ih]
def gI (i p j q : Int) : Int := if i < p ∨ j < q then 1 else 0
def scS (A P : LF) (n : Int → Int) : Nat → Int → Int → Int → List St
  | 0, _, _, _ => []
  | m + 1, i, j, G => gpS A i (nk P n 0 i) j (nk P n 1 j) G ++ (if n 0 ≤ nk P n 0 i then [] else (0, nk P n 0 i, nk P n 1 j, 1065353216, -1) :: scS A P n m (nk P n 0 i + 1) (nk P n 1 j + 1) (G + gI i (nk P n 0 i) j (nk P n 1 j)))
theorem scS_s (A P : LF) (n : Int → Int) (m : Nat) (i j G : Int) : scS A P n (m + 1) i j G = gpS A i (nk P n 0 i) j (nk P n 1 j) G ++ (if n 0 ≤ nk P n 0 i then [] else (0, nk P n 0 i, nk P n 1 j, 1065353216, -1) :: scS A P n m (nk P n 0 i + 1) (nk P n 1 j + 1) (G + gI i (nk P n 0 i) j (nk P n 1 j))) := rfl
def scG (P : LF) (n : Int → Int) : Nat → Int → Int → Int → Int
  | 0, _, _, G => G
  | m + 1, i, j, G => if n 0 ≤ nk P n 0 i then G + gI i (nk P n 0 i) j (nk P n 1 j) else scG P n m (nk P n 0 i + 1) (nk P n 1 j + 1) (G + gI i (nk P n 0 i) j (nk P n 1 j))
theorem scG_s (P : LF) (n : Int → Int) (m : Nat) (i j G : Int) : scG P n (m + 1) i j G = if n 0 ≤ nk P n 0 i then G + gI i (nk P n 0 i) j (nk P n 1 j) else scG P n m (nk P n 0 i + 1) (nk P n 1 j + 1) (G + gI i (nk P n 0 i) j (nk P n 1 j)) := rfl
/-- the steps and the number of gaps -/
def SCR (A : LF) (n : Int → Int) : List St := scS A (KP A n) n 9 0 0 0
def GAPS (A : LF) (n : Int → Int) : Int := scG (KP A n) n 9 0 0 0
theorem chB_v (x y : Int) : (chB x y = 0 ∨ chB x y = 3 ∨ chB x y = 4) ∧ (chB x y = 0 ↔ 2 * (2 * cml x y) < lnN x + lnN y) ∧ (chB x y = 4 ↔ ¬ 4 * (2 * cml x y) < 3 * (lnN x + lnN y)) := by
  have nx := lnN_r x
  have ny := lnN_r y
  unfold chB
  split
  · split <;> omega
  · omega
/-- which lines are changed with which -/
def lo (i j s : Int) : Int := if s = 0 then i else j
theorem lo_0 (i j : Int) : lo i j 0 = i := rfl
theorem lo_1 (i j : Int) : lo i j 1 = j := rfl
def cwF (A : LF) (i p j q s x : Int) : Int := if isCh A i p j q (x - lo i j s) then lo j i s + (x - lo i j s) else -1
def TbG (T1 T2 : LF) (i j : Int) (F : LF) : Prop := ∀ s x, s = 0 ∨ s = 1 → 0 ≤ x → x < 8 → T2 s x = if x < lo i j s then T1 s x else F s x
def chF (A P : LF) (n : Int → Int) : Nat → Int → Int → LF
  | 0, _, _ => fun _ _ => -1
  | m + 1, i, j => fun s x => if x ≤ lo (nk P n 0 i) (nk P n 1 j) s ∨ n 0 ≤ nk P n 0 i then cwF A i (nk P n 0 i) j (nk P n 1 j) s x else chF A P n m (nk P n 0 i + 1) (nk P n 1 j + 1) s x
theorem chF_end {A P : LF} {n : Int → Int} {m : Nat} {i j : Int} (h : n 0 ≤ nk P n 0 i) : chF A P n (m + 1) i j = cwF A i (nk P n 0 i) j (nk P n 1 j) := by
  funext s x
  exact if_pos (Or.inr h)
theorem chF_go {A P : LF} {n : Int → Int} {m : Nat} {i j : Int} {T1 T2 T3 : LF} (h : ¬ n 0 ≤ nk P n 0 i) (h1 : i ≤ nk P n 0 i) (h2 : j ≤ nk P n 1 j) (k1 : TbG T1 T2 i j (cwF A i (nk P n 0 i) j (nk P n 1 j))) (k2 : TbG T2 T3 (nk P n 0 i + 1) (nk P n 1 j + 1) (chF A P n m (nk P n 0 i + 1) (nk P n 1 j + 1))) : TbG T1 T3 i j (chF A P n (m + 1) i j) := by
  intro s x hs x0 x1
  have e : chF A P n (m + 1) i j s x = if x ≤ lo (nk P n 0 i) (nk P n 1 j) s ∨ n 0 ≤ nk P n 0 i then cwF A i (nk P n 0 i) j (nk P n 1 j) s x else chF A P n m (nk P n 0 i + 1) (nk P n 1 j + 1) s x := rfl
  rw [e, k2 s x hs x0 x1, k1 s x hs x0 x1]
  generalize nk P n 0 i = p at *
  generalize nk P n 1 j = q at *
  rcases hs with rfl | rfl
  · rw [lo_0, lo_0, lo_0]
    by_cases c : x ≤ p
    · rw [if_pos (by omega), if_pos (Or.inl c)]
    · rw [if_neg (by omega), if_neg (by omega), if_neg (by omega)]
  · rw [lo_1, lo_1, lo_1]
    by_cases c : x ≤ q
    · rw [if_pos (by omega), if_pos (Or.inl c)]
    · rw [if_neg (by omega), if_neg (by omega), if_neg (by omega)]
def CHG (A : LF) (n : Int → Int) : LF := chF A (KP A n) n 9 0 0
