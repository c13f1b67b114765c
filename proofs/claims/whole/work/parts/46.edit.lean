/-! the lines edited, on both sides; the script laid anew -/
def insA (A : LF) (n : Int → Int) (s p v : Int) : LF := fun t i => if t = s ∧ i = p then v else if t = s ∧ p < i ∧ i ≤ n s then A t (i - 1) else A t i
def remA (A : LF) (n : Int → Int) (s p : Int) : LF := fun t i => if t = s ∧ p ≤ i ∧ i < n s - 1 then A t (i + 1) else A t i
def swpA (A : LF) (s p q : Int) : LF := fun t i => if t = s ∧ i = p then A t q else if t = s ∧ i = q then A t p else A t i
def excA (A : LF) : LF := fun t i => A (1 - t) i
def excN (n : Int → Int) : Int → Int := fun t => n (1 - t)
def okA (A : LF) : Prop := ∀ s i, rg (A s i) ∧ 0 ≤ A s i
theorem okA.ins {A : LF} (h : okA A) {n : Int → Int} {s p v : Int} (hv : rg v ∧ 0 ≤ v) : okA (insA A n s p v) := by
  intro t i
  unfold insA
  split
  · exact hv
  · split <;> exact h _ _
theorem okA.rem {A : LF} (h : okA A) {n : Int → Int} {s p : Int} : okA (remA A n s p) := by
  intro t i
  unfold remA
  split <;> exact h _ _
theorem okA.swp {A : LF} (h : okA A) {s p q : Int} : okA (swpA A s p q) := by
  intro t i
  unfold swpA
  split
  · exact h _ _
  · split <;> exact h _ _
theorem okA.exc {A : LF} (h : okA A) : okA (excA A) := fun t i => h _ _
def RK0 : LF := fun _ _ => -1
def RN0 : Int → Int := fun _ => 0
theorem OkK_0 : OkK RK0 RN0 := fun k _ _ => ⟨⟨Int.le_refl _, (by decide : (0 : Int) ≤ 3)⟩, fun j j0 j1 => by unfold RN0 at j1; omega, fun _ _ _ => rfl⟩
section EDIT
variable {g : AG} {d : Nat} {M : AM} {A : LF} {n : Int → Int} {T : Int}
theorem LAm.cg {o : Nat} {A' : LF} {n' : Int → Int} (h : LAm M o A n) (e0 : n' 0 = n 0) (e1 : n' 1 = n 1) (e : ∀ s i, (s = 0 ∨ s = 1) → 0 ≤ i → i < n' s → A s i = A' s i) : LAm M o A' n' := by
  obtain ⟨h1, h2, h3, h4, h5⟩ := h
  refine ⟨by rw [e0]; exact h1, by rw [e1]; exact h2, by rw [e0]; exact h3, by rw [e1]; exact h4, fun s i hs i0 i1 => ?_⟩
  rw [← e s i hs i0 i1]
  refine h5 s i hs i0 ?_
  rcases hs with rfl | rfl
  · rw [← e0]; exact i1
  · rw [← e1]; exact i1
theorem LAr.cg {A' : LF} {n' : Int → Int} (h : LAr M A n) (e0 : n' 0 = n 0) (e1 : n' 1 = n 1) (e : ∀ s i, (s = 0 ∨ s = 1) → 0 ≤ i → i < n' s → A s i = A' s i) : LAr M A' n' := by
  obtain ⟨h1, h2, h3, h4, h5⟩ := h
  refine ⟨by rw [e0]; exact h1, by rw [e1]; exact h2, by rw [e0]; exact h3, by rw [e1]; exact h4, fun s i hs i0 i1 => ?_⟩
  rw [← e s i hs i0 i1]
  refine h5 s i hs i0 ?_
  rcases hs with rfl | rfl
  · rw [← e0]; exact i1
  · rw [← e1]; exact i1
/-- a size more or less -/
theorem f1_bd {s x : Int} (hs : s = 0 ∨ s = 1) (h0 : 0 ≤ n 0 ∧ n 0 ≤ 8) (h1 : 0 ≤ n 1 ∧ n 1 ≤ 8) (hx : 0 ≤ x ∧ x ≤ 8) : (0 ≤ f1 n s x 0 ∧ f1 n s x 0 ≤ 8) ∧ 0 ≤ f1 n s x 1 ∧ f1 n s x 1 ≤ 8 := by
  unfold f1
  constructor
  · split
    · exact hx
    · exact h0
  · split
    · exact hx
    · exact h1
theorem LAm_of {o : Nat} {M' : AM} {A' : LF} {n' : Int → Int} (h0 : 0 ≤ n' 0 ∧ n' 0 ≤ 8) (h1 : 0 ≤ n' 1 ∧ n' 1 ≤ 8) (hs : ∀ s, s = 0 ∨ s = 1 → M' (o + 5) s.toNat = n' s) (hl : ∀ s i, s = 0 ∨ s = 1 → 0 ≤ i → i < n' s → i < 8 → M' (o + 3 + s.toNat) i.toNat = A' s i) : LAm M' o A' n' := by
  refine ⟨hs 0 (Or.inl rfl), hs 1 (Or.inr rfl), h0, h1, fun s i q i0 i1 => hl s i q i0 i1 ?_⟩
  rcases q with rfl | rfl <;> omega
theorem LAr_of {M' : AM} {A' : LF} {n' : Int → Int} (h0 : 0 ≤ n' 0 ∧ n' 0 ≤ 8) (h1 : 0 ≤ n' 1 ∧ n' 1 ≤ 8) (hs : ∀ s, s = 0 ∨ s = 1 → M' 93 s.toNat = n' s) (hl : ∀ s i, s = 0 ∨ s = 1 → 0 ≤ i → i < n' s → i < 8 → M' 92 (16 * s + i).toNat = A' s i) : LAr M' A' n' := by
  refine ⟨hs 0 (Or.inl rfl), hs 1 (Or.inr rfl), h0, h1, fun s i q i0 i1 => hl s i q i0 i1 ?_⟩
  rcases q with rfl | rfl <;> omega
theorem LAm.ins {o : Nat} {s p v : Int} (hA : LAm M o A n) (hs : s = 0 ∨ s = 1) (hp : 0 ≤ p ∧ p ≤ n s) (hn : n s ≤ 7) : LAm (sIns M (o + 1) s.toNat p.toNat v) o (insA A n s p v) (f1 n s (n s + 1)) := by
  obtain ⟨b0, b1⟩ := f1_bd (x := n s + 1) hs hA.2.2.1 hA.2.2.2.1 ⟨by omega, by omega⟩
  have es := hA.sz hs
  refine LAm_of b0 b1 (fun t ht => ?_) (fun t i ht i0 i1 i8 => ?_)
  · have et := hA.sz ht
    unfold sIns f1
    by_cases e : t = s
    · subst e
      rw [if_pos ⟨by omega, rfl⟩, if_pos rfl, et]
    · rw [if_neg (by omega), if_neg (by omega), if_neg (by omega), if_neg e]
      exact et
  · have el := hA.2.2.2.2 t
    unfold f1 at i1
    unfold sIns insA
    rw [show o + 1 + 4 = o + 5 by omega, es, if_neg (by omega)]
    by_cases e : t = s
    · subst e
      rw [if_pos rfl] at i1
      by_cases e2 : i = p
      · rw [if_pos ⟨by omega, by omega⟩, if_pos ⟨rfl, e2⟩]
      · rw [if_neg (by omega)]
        by_cases e3 : p < i
        · rw [if_pos ⟨by omega, by omega, by omega⟩, if_neg (fun w => e2 w.2), if_pos ⟨rfl, e3, by omega⟩, show i.toNat - 1 = (i - 1).toNat by omega]
          exact el (i - 1) ht (by omega) (by omega)
        · rw [if_neg (by omega), if_neg (fun w => e2 w.2), if_neg (by omega)]
          exact el i ht i0 (by omega)
    · rw [if_neg e] at i1
      rw [if_neg (by omega), if_neg (by omega), if_neg (by omega), if_neg (by omega)]
      exact el i ht i0 i1
theorem sIns_fr {o : Nat} {s p : Nat} {v : Int} (hs : s < 2) : ∀ k, (k < o + 3 ∨ o + 5 < k) → sIns M (o + 1) s p v k = M k := by
  intro k hk
  funext j
  unfold sIns
  rw [if_neg (by omega), if_neg (by omega), if_neg (by omega)]
theorem LAm.rem {o : Nat} {s p : Int} (hA : LAm M o A n) (hs : s = 0 ∨ s = 1) (hp : 0 ≤ p ∧ p < n s) : LAm (sRem M (o + 1) s.toNat p.toNat) o (remA A n s p) (f1 n s (n s - 1)) := by
  have bs := hA.bd hs
  obtain ⟨b0, b1⟩ := f1_bd (x := n s - 1) hs hA.2.2.1 hA.2.2.2.1 ⟨by omega, by omega⟩
  have es := hA.sz hs
  refine LAm_of b0 b1 (fun t ht => ?_) (fun t i ht i0 i1 i8 => ?_)
  · have et := hA.sz ht
    unfold sRem f1
    by_cases e : t = s
    · subst e
      rw [if_pos ⟨by omega, rfl⟩, if_pos rfl, et]
    · rw [if_neg (by omega), if_neg (by omega), if_neg e]
      exact et
  · have el := hA.2.2.2.2 t
    unfold f1 at i1
    unfold sRem remA
    rw [show o + 1 + 4 = o + 5 by omega, es, if_neg (by omega)]
    by_cases e : t = s
    · subst e
      rw [if_pos rfl] at i1
      by_cases e3 : p ≤ i
      · rw [if_pos ⟨by omega, by omega, by omega⟩, if_pos ⟨rfl, e3, by omega⟩, show i.toNat + 1 = (i + 1).toNat by omega]
        exact el (i + 1) ht (by omega) (by omega)
      · rw [if_neg (by omega), if_neg (by omega)]
        exact el i ht i0 (by omega)
    · rw [if_neg e] at i1
      rw [if_neg (by omega), if_neg (by omega)]
      exact el i ht i0 i1
theorem sRem_fr {o : Nat} {s p : Nat} (hs : s < 2) : ∀ k, (k < o + 3 ∨ o + 5 < k) → sRem M (o + 1) s p k = M k := by
  intro k hk
  funext j
  unfold sRem
  rw [if_neg (by omega), if_neg (by omega)]
theorem LAm.swp {o : Nat} {s p q : Int} (hA : LAm M o A n) (hs : s = 0 ∨ s = 1) (hp : 0 ≤ p ∧ p < n s) (hq : 0 ≤ q ∧ q < n s) : LAm (sSwp M (o + 1) s.toNat p.toNat q.toNat) o (swpA A s p q) n := by
  refine LAm_of hA.2.2.1 hA.2.2.2.1 (fun t ht => ?_) (fun t i ht i0 i1 i8 => ?_)
  · have et := hA.sz ht
    unfold sSwp
    rw [if_neg (by omega), if_neg (by omega)]
    exact et
  · have el := hA.2.2.2.2 t
    unfold sSwp swpA
    by_cases e : t = s
    · subst e
      by_cases e2 : i = p
      · rw [if_pos ⟨by omega, by omega⟩, if_pos ⟨rfl, e2⟩]
        exact el q ht hq.1 hq.2
      · rw [if_neg (by omega)]
        by_cases e3 : i = q
        · rw [if_pos ⟨by omega, by omega⟩, if_neg (fun w => e2 w.2), if_pos ⟨rfl, e3⟩]
          exact el p ht hp.1 hp.2
        · rw [if_neg (by omega), if_neg (fun w => e2 w.2), if_neg (fun w => e3 w.2)]
          exact el i ht i0 i1
    · rw [if_neg (by omega), if_neg (by omega), if_neg (by omega), if_neg (by omega)]
      exact el i ht i0 i1
theorem sSwp_fr {o : Nat} {s p q : Nat} (hs : s < 2) : ∀ k, (k < o + 3 ∨ o + 5 < k) → sSwp M (o + 1) s p q k = M k := by
  intro k hk
  funext j
  unfold sSwp
  rw [if_neg (by omega), if_neg (by omega)]
theorem LAm.exc {o : Nat} (hA : LAm M o A n) : LAm (sExc M (o + 1)) o (excA A) (excN n) := by
  refine LAm_of hA.2.2.2.1 hA.2.2.1 (fun t ht => ?_) (fun t i ht i0 i1 i8 => ?_)
  · rcases ht with rfl | rfl
    · unfold sExc
      rw [if_pos ⟨rfl, rfl⟩]
      exact hA.2.1
    · unfold sExc
      rw [if_neg (fun w => absurd w.2 (by decide)), if_pos ⟨rfl, rfl⟩]
      exact hA.1
  · rcases ht with rfl | rfl
    · have := hA.2.2.2.2 1 i (Or.inr rfl) i0 i1
      unfold sExc excA
      rw [if_neg (by omega), if_neg (by omega), if_pos ⟨by omega, by omega⟩]
      exact this
    · have := hA.2.2.2.2 0 i (Or.inl rfl) i0 i1
      unfold sExc excA
      rw [if_neg (by omega), if_neg (by omega), if_neg (by omega), if_pos ⟨by omega, by omega⟩]
      exact this
theorem sExc_fr {o : Nat} : ∀ k, (k < o + 3 ∨ o + 5 < k) → sExc M (o + 1) k = M k := by
  intro k hk
  funext j
  unfold sExc
  rw [if_neg (by omega), if_neg (by omega), if_neg (by omega), if_neg (by omega)]
theorem LAm.cpy {o o2 : Nat} (hA : LAm M o2 A n) : LAm (sCpy M (o + 1) (o2 + 1)) o A n := by
  refine LAm_of hA.2.2.1 hA.2.2.2.1 (fun t ht => ?_) (fun t i ht i0 i1 i8 => ?_)
  · have et := hA.sz ht
    unfold sCpy
    rw [if_pos ⟨by omega, by omega⟩]
    exact et
  · have el := hA.2.2.2.2 t i ht i0 i1
    unfold sCpy
    rcases ht with rfl | rfl
    · rw [if_neg (by omega), if_pos ⟨by omega, by omega⟩]
      exact el
    · rw [if_neg (by omega), if_neg (by omega), if_pos ⟨by omega, by omega⟩]
      exact el
theorem sCpy_fr {o o2 : Nat} : ∀ k, (k < o + 3 ∨ o + 5 < k) → sCpy M (o + 1) (o2 + 1) k = M k := by
  intro k hk
  funext j
  unfold sCpy
  rw [if_neg (by omega), if_neg (by omega), if_neg (by omega)]
/-! the script anew -/
theorem c_anew {Q : Int → AM → Prop} (hA : LAm M 4 A n) (hR : okA A) (e8 : M 0 8 = T) (h : ∀ M', TxC M' A n T → RkC M' RK0 RN0 → FrA M M' → Q (SCR A n).length M') : MetI g mX8_compareAnew (d + 23) [vR 0] M Q := by
  have b0 := hA.2.2.1
  have b1 := hA.2.2.2.1
  refine c_compareAnew hA (fun s i => (hR s i).1) (fun M' k1 k2 k3 k4 k5 k6 k7 => h M' ⟨?_, fun s i L => ?_, k4, fun s i L => ?_, ?_, fun _ => ⟨k2, k3⟩⟩ (fun k k0 k5 => ⟨?_, fun j j0 j1 => ?_⟩) k7)
  · exact hA.same (fun k _ _ => k7 k (by omega))
  · exact k1 s i L.1 L.2.1 (isLn_r b0 b1 L)
  · exact k5 s i L.1 L.2.1 (isLn_r b0 b1 L)
  · rw [k7 0 (by omega)]
    exact e8
  · exact k6 k.toNat (by omega)
  · unfold RN0 at j1
    omega
theorem r_lay {Q : AM → Prop} (hA : LAr M A n) (hR : okA A) (e9 : M 88 9 = T) (h : ∀ M', TxR M' A n T → RkR M' RK0 → FrL M M' → Q M') : MetV g mX9_layScript (d + 7) [vR 88] M Q := by
  have b0 := hA.2.2.1
  have b1 := hA.2.2.2.1
  refine r_layScript hA hR (fun M' k1 k2 k3 k4 k5 k6 k7 => h M' ⟨?_, fun s i L => ?_, k4, fun s i L => ?_, ?_, fun _ => ⟨k2, k3⟩⟩ (fun k j k0 k5 j0 j3 => ?_) k7)
  · exact hA.fr' (k7.1 92 (by decide) (by omega)) (k7.1 93 (by decide) (by omega))
  · exact k1 s i L.1 L.2.1 (by have := isLn_r b0 b1 L; omega)
  · exact k5 s i L.1 L.2.1 (isLn_r b0 b1 L)
  · rw [k7.2 9 (by decide) (by decide) (by decide) (by decide) (by decide)]
    exact e9
  · exact k6 (3 * k + j).toNat (by omega)
/-! the reference's edits -/
theorem r_insert {Q : AM → Prop} {s p v : Int} (hA : LAr M A n) (hs : s = 0 ∨ s = 1) (hp : 0 ≤ p ∧ p ≤ n s) (hn : n s ≤ 7) (hv : rg v) (h : ∀ M', LAr M' (insA A n s p v) (f1 n s (n s + 1)) → (∀ k, k ≠ 92 → k ≠ 93 → M' k = M k) → Q M') : MetV g mX9_insert (d + 1) [vR 88, vI s, vI p, vI v] M Q := by
  obtain ⟨b0, b1⟩ := f1_bd (x := n s + 1) hs hA.2.2.1 hA.2.2.2.1 ⟨by omega, by omega⟩
  have es := hA.sz hs
  have loop : ∀ (m : Nat) (l : Int) (M1 : AM), l = p + m → l ≤ n s → (∀ t i, t = 0 ∨ t = 1 → 0 ≤ i → i ≤ n t → i < 9 → ¬ (t = s ∧ i = l) → (i < n t ∨ t = s) → M1 92 (16 * t + i).toNat = if t = s ∧ l < i then A t (i - 1) else A t i) → (∀ k, k ≠ 92 → M1 k = M k) → (l < n s → M1 92 (16 * s + l).toNat = A s l) → S_X9_insert_8 g (d + 1) s p v l M1 Q := by
    intro m
    induction m with
    | zero =>
      intro l M1 hl ln hM gF hz
      have e : l = p := by omega
      subst e
      have e93 : M1 93 = M 93 := gF 93 (by decide)
      refine sg_X9_insert_8 ⟨⟨by omega, by omega⟩, ⟨by omega, by omega⟩, fun _ => ⟨⟨by omega, by omega⟩, hv, ⟨by omega, by omega⟩, ?_, ?_⟩, fun w => by omega⟩
      · rw [e93, es]; exact ⟨by omega, by omega⟩
      · refine h _ (LAr_of b0 b1 (fun t ht => ?_) (fun t i ht i0 i1 i8 => ?_)) (fun k a b => by rw [mU_ne b, mU_ne a]; exact gF k a)
        · unfold f1
          by_cases q : t = s
          · subst q
            rw [mU_at, if_pos rfl, e93, es]
          · rw [mU_nej (by omega), mU_ne (by decide), if_neg q, e93]
            exact hA.sz ht
        · rw [mU_ne (by decide)]
          unfold f1 at i1
          unfold insA
          by_cases q : t = s ∧ i = l
          · obtain ⟨rfl, rfl⟩ := q
            rw [mU_at, if_pos ⟨rfl, rfl⟩]
          · rw [mU_nej (by omega), if_neg q]
            by_cases q2 : t = s
            · subst q2
              rw [if_pos rfl] at i1
              rw [hM t i ht i0 (by omega) (by omega) q (Or.inr rfl)]
              by_cases q3 : l < i
              · rw [if_pos ⟨rfl, q3⟩, if_pos ⟨rfl, q3, by omega⟩]
              · rw [if_neg (by omega), if_neg (by omega)]
            · rw [if_neg q2] at i1
              rw [hM t i ht i0 (by omega) (by omega) q (Or.inl i1), if_neg (by omega), if_neg (by omega)]
    | succ m ih =>
      intro l M1 hl ln hM gF hz
      refine sg_X9_insert_8 ⟨⟨by omega, by omega⟩, ⟨by omega, by omega⟩, fun w => by omega, fun _ => ⟨⟨by omega, by omega⟩, ⟨by omega, by omega⟩, ?_⟩⟩
      have ev : M1 92 (16 * s + l - 1).toNat = A s (l - 1) := by
        have := hM s (l - 1) hs (by omega) (by omega) (by omega) (by omega) (Or.inr rfl)
        rw [if_neg (by omega), show 16 * s + (l - 1) = 16 * s + l - 1 by omega] at this
        exact this
      rw [ev]
      refine ih (l + -1) _ (by omega) (by omega) (fun t i ht i0 i1 i9 q q5 => ?_) (fun k hk => by rw [mU_ne hk]; exact gF k hk) (fun _ => ?_)
      · by_cases q2 : t = s ∧ i = l
        · obtain ⟨rfl, rfl⟩ := q2
          rw [mU_at, if_pos ⟨rfl, by omega⟩]
        · rw [mU_nej (by omega), hM t i ht i0 i1 i9 q2 q5]
          by_cases q3 : t = s ∧ l < i
          · rw [if_pos q3, if_pos ⟨q3.1, by omega⟩]
          · rw [if_neg q3, if_neg (by omega)]
      · rw [mU_nej (by omega)]
        have := hM s (l + -1) hs (by omega) (by omega) (by omega) (by omega) (Or.inr rfl)
        rw [if_neg (by omega)] at this
        exact this
  refine en_X9_insert (sg_X9_insert_0 ⟨⟨by omega, by omega⟩, ?_⟩)
  rw [es]
  refine loop (n s - p).toNat (n s) M (by omega) (Int.le_refl _) (fun t i ht i0 i1 i9 q q5 => ?_) (fun _ _ => rfl) (fun w => by omega)
  have i2 : i < n t := by
    rcases q5 with w | w
    · exact w
    · subst w
      omega
  rw [if_neg (by intro w; rw [w.1] at i2; omega)]
  exact hA.2.2.2.2 t i ht i0 i2
theorem r_remove {Q : AM → Prop} {s p : Int} (hA : LAr M A n) (hs : s = 0 ∨ s = 1) (hp : 0 ≤ p ∧ p < n s) (h : ∀ M', LAr M' (remA A n s p) (f1 n s (n s - 1)) → (∀ k, k ≠ 92 → k ≠ 93 → M' k = M k) → Q M') : MetV g mX9_remove (d + 1) [vR 88, vI s, vI p] M Q := by
  have bs := hA.bd hs
  obtain ⟨b0, b1⟩ := f1_bd (x := n s - 1) hs hA.2.2.1 hA.2.2.2.1 ⟨by omega, by omega⟩
  have es := hA.sz hs
  have loop : ∀ (m : Nat) (l : Int) (M1 : AM), l + m = n s - 1 → p ≤ l → (∀ t i, t = 0 ∨ t = 1 → 0 ≤ i → i < n t → i < 8 → M1 92 (16 * t + i).toNat = if t = s ∧ p ≤ i ∧ i < l then A t (i + 1) else A t i) → (∀ k, k ≠ 92 → M1 k = M k) → S_X9_remove_2 g (d + 1) s l M1 Q := by
    intro m
    induction m with
    | zero =>
      intro l M1 hl pl hM gF
      have e93 : M1 93 = M 93 := gF 93 (by decide)
      refine sg_X9_remove_2 ?_
      rw [e93, es]
      refine ⟨⟨by omega, by omega⟩, ⟨by omega, by omega⟩, ⟨by omega, by omega⟩, fun _ => ?_, fun w => by omega⟩
      refine h _ (LAr_of b0 b1 (fun t ht => ?_) (fun t i ht i0 i1 i8 => ?_)) (fun k a b => by rw [mU_ne b]; exact gF k a)
      · unfold f1
        by_cases q : t = s
        · subst q
          rw [mU_at, if_pos rfl]
        · rw [mU_nej (by omega), if_neg q, e93]
          exact hA.sz ht
      · rw [mU_ne (by decide)]
        unfold f1 at i1
        unfold remA
        have i2 : i < n t := by
          by_cases q : t = s
          · subst q
            rw [if_pos rfl] at i1
            omega
          · rwa [if_neg q] at i1
        rw [hM t i ht i0 i2 i8, show n s - 1 = l by omega]
    | succ m ih =>
      intro l M1 hl pl hM gF
      have e93 : M1 93 = M 93 := gF 93 (by decide)
      refine sg_X9_remove_2 ?_
      rw [e93, es]
      refine ⟨⟨by omega, by omega⟩, ⟨by omega, by omega⟩, ⟨by omega, by omega⟩, fun w => by omega, fun _ => ⟨⟨by omega, by omega⟩, ⟨by omega, by omega⟩, ?_⟩⟩
      have ev : M1 92 (16 * s + l + 1).toNat = A s (l + 1) := by
        have := hM s (l + 1) hs (by omega) (by omega) (by omega)
        rw [if_neg (by omega), show 16 * s + (l + 1) = 16 * s + l + 1 by omega] at this
        exact this
      rw [ev]
      refine ih (l + 1) _ (by omega) (by omega) (fun t i ht i0 i1 i8 => ?_) (fun k hk => by rw [mU_ne hk]; exact gF k hk)
      by_cases q2 : t = s ∧ i = l
      · obtain ⟨rfl, rfl⟩ := q2
        rw [mU_at, if_pos ⟨rfl, by omega, by omega⟩]
      · rw [mU_nej (by omega), hM t i ht i0 i1 i8]
        by_cases q3 : t = s ∧ p ≤ i ∧ i < l
        · rw [if_pos q3, if_pos ⟨q3.1, q3.2.1, by omega⟩]
        · rw [if_neg q3, if_neg (by omega)]
  refine en_X9_remove (sg_X9_remove_0 (loop (n s - 1 - p).toNat p M (by omega) (Int.le_refl _) (fun t i ht i0 i1 i8 => ?_) (fun _ _ => rfl)))
  rw [if_neg (by omega)]
  exact hA.2.2.2.2 t i ht i0 i1
end EDIT
