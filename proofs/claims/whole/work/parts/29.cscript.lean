/-! the class's Script -/
def StC (M : AM) (L : List St) (G : Int) : Prop := M 71 6 = L.length ∧ M 71 7 = G ∧ ∀ (k : Nat) (h : k < L.length), (M 72 k, M 73 k, M 74 k, M 75 k, M 76 k) = L[k]
theorem StC.same {M M' : AM} {L : List St} {G : Int} (h : StC M L G) (f : ∀ k, 71 ≤ k → k ≤ 76 → M' k = M k) : StC M' L G := by
  obtain ⟨h1, h2, h3⟩ := h
  refine ⟨by rw [f 71 (by decide) (by decide)]; exact h1, by rw [f 71 (by decide) (by decide)]; exact h2, fun k q => ?_⟩
  rw [f 72 (by decide) (by decide), f 73 (by decide) (by decide), f 74 (by decide) (by decide), f 75 (by decide) (by decide), f 76 (by decide) (by decide)]
  exact h3 k q
section CSCRIPT
variable {g : AG} {d : Nat} {M : AM} {A : LF} {n : Int → Int} {L : List St} {G : Int}
theorem c_addStep {Q : AM → Prop} {a b c e v : Int} {x : UInt32} (hS : StC M L G) (hl : L.length < 16) (ha : rg a) (hb : rg b) (hc : rg c) (hx : sB x = some v) (he : rg e)
    (h : ∀ M', StC M' (L ++ [(a, b, c, v, e)]) G → (∀ k, k < 71 ∨ 76 < k → M' k = M k) → Q M') : MetV g mX6_addStep (d + 2) [vR 71, vI a, vI b, vI c, vF x, vI e] M Q := by
  obtain ⟨h1, h2, h3⟩ := hS
  refine en_X6_addStep (sg_X6_addStep_0 ⟨fun _ => ⟨⟨by omega, by omega⟩, ha, hb, hc, ?_⟩, fun w => by omega⟩)
  refine c_singleBits hx (fun _ => ?_)
  rw [mU_ne (k' := 71) (by decide), mU_ne (k' := 71) (by decide), mU_ne (k' := 71) (by decide), h1]
  refine ⟨⟨by omega, by omega⟩, he, ⟨by omega, by omega⟩, ?_⟩
  rw [show ((L.length : Int)).toNat = L.length by omega]
  refine h _ ⟨?_, ?_, fun k hk => ?_⟩ (fun k hk => ?_)
  · rw [mU_at, List.length_append]; rfl
  · rw [mU_nej (by decide)]
    repeat rw [mU_ne (k' := 71) (by decide)]
    exact h2
  · rw [List.length_append] at hk
    have hk : k < L.length + 1 := hk
    simp only [ne_eq, mU_ne, Nat.reduceEqDiff, not_false_eq_true]
    by_cases q : k < L.length
    · have q' : k ≠ L.length := by omega
      simp only [mU_nej' q']
      rw [List.getElem_append_left q]
      exact h3 k q
    · have q' : k = L.length := by omega
      subst q'
      rw [mU_at, mU_at, mU_at, mU_at, mU_at, List.getElem_append_right (Nat.le_refl _)]
      simp
  · repeat rw [mU_ne (by omega)]
theorem c_nextKept {Q : Int → AM → Prop} {P : LF} {s i : Int} (hs : s = 0 ∨ s = 1) (hA : LAm M 4 A n) (hP : PAm M 4 P) (i0 : 0 ≤ i) (i1 : i ≤ n s) (h : Q (nk P n s i) M) : MetI g mX6_nextKept (d + 1) [vR 71, vR 4, vI s, vI i] M Q := by
  have ns : M 9 s.toNat = n s := by rcases hs with e | e <;> subst e; exact hA.1; exact hA.2.1
  have n8 : n s ≤ 8 := by rcases hs with e | e <;> subst e; exact hA.2.2.1.2; exact hA.2.2.2.1.2
  have loop : ∀ (m : Nat) (i : Int), i + m = n s → 0 ≤ i → Q (nk P n s i) M → S_X6_nextKept_3 g (d + 1) s i M Q := by
    intro m
    induction m with
    | zero =>
      intro i hm i0 hq
      rw [nk_end (by omega)] at hq
      refine sg_X6_nextKept_3 ⟨⟨by omega, by omega⟩, ⟨by omega, by omega⟩, fun _ => hq, fun w => absurd (show M 9 s.toNat ≤ i by rw [ns]; omega) w⟩
    | succ m ih =>
      intro i hm i0 hq
      have e := hP s i hs i0 (by omega)
      rw [show 4 + 7 + s.toNat = 11 + s.toNat by omega] at e
      refine sg_X6_nextKept_3 ⟨⟨by omega, by omega⟩, ⟨by omega, by omega⟩, fun w => by rw [ns] at w; omega, fun _ => ⟨⟨by omega, by omega⟩, fun w => ?_, fun w => ?_⟩⟩
      · rw [e] at w
        rw [nk_at (by omega) w] at hq
        exact hq
      · rw [e] at w
        rw [nk_go (by omega) w] at hq
        exact ih (i + 1) (by omega) (by omega) hq
  exact en_X6_nextKept (sg_X6_nextKept_0 (loop (n s - i).toNat i (by omega) i0 h))
/-- the table of changed lines, after a gap was looked at -/
def CwC (M : AM) (A : LF) (i p j q : Int) : Prop := (∀ k, 0 ≤ k → i + k < p → M 78 (i + k).toNat = if isCh A i p j q k then j + k else -1) ∧ ∀ k, 0 ≤ k → j + k < q → M 79 (j + k).toNat = if isCh A i p j q k then i + k else -1
def TC (M : AM) : LF := fun s x => M (78 + s.toNat) x.toNat
theorem c_findChanged {Q : AM → Prop} {i p j q : Int} (hA : LAm M 4 A n) (hR : ∀ s i, rg (A s i)) (i0 : 0 ≤ i) (i1 : i ≤ p) (i2 : p ≤ n 0) (j0 : 0 ≤ j) (j1 : j ≤ q) (j2 : q ≤ n 1) (z1 : ∀ x : Int, i ≤ x → x < 8 → M 78 x.toNat = -1) (z2 : ∀ x : Int, j ≤ x → x < 8 → M 79 x.toNat = -1)
    (h : ∀ M', CwC M' A i p j q → (∀ x : Int, p ≤ x → x < 8 → M' 78 x.toNat = -1) → (∀ x : Int, q ≤ x → x < 8 → M' 79 x.toNat = -1) → TbG (TC M) (TC M') i j (cwF A i p j q) → (∀ k, k < 60 ∨ (70 < k ∧ k < 78) ∨ 79 < k → M' k = M k) → Q M') : MetV g mX6_findChanged (d + 5) [vR 71, vR 5, vR 57, vI i, vI p, vI j, vI q] M Q := by
  have b1 := hA.2.2.1
  have b2 := hA.2.2.2.1
  have loop : ∀ (t : Int), t = (if q - j < p - i then q - j else p - i) → ∀ (m : Nat) (l : Int) (M1 : AM), l + m = t → 0 ≤ l →
      (∀ k, 0 ≤ k → i + k < 8 → M1 78 (i + k).toNat = if k < l ∧ isCh A i p j q k then j + k else -1) → (∀ k, 0 ≤ k → j + k < 8 → M1 79 (j + k).toNat = if k < l ∧ isCh A i p j q k then i + k else -1) → (∀ x : Int, 0 ≤ x → x < i → M1 78 x.toNat = M 78 x.toNat) → (∀ x : Int, 0 ≤ x → x < j → M1 79 x.toNat = M 79 x.toNat) → (∀ k, k < 60 ∨ (70 < k ∧ k < 78) ∨ 79 < k → M1 k = M k) → S_X6_findChanged_17 g (d + 5) i j t l M1 Q := by
    intro t et m
    induction m with
    | zero =>
      intro l M1 hm l0 g1 g2 g3 g4 gF
      have hl : l = p - i ∨ l = q - j := by split at et <;> omega
      have tl : t ≤ p - i ∧ t ≤ q - j := by split at et <;> omega
      refine sg_X6_findChanged_17 ⟨⟨by omega, by omega⟩, ⟨by omega, by omega⟩, fun _ => ?_, fun w => by omega⟩
      have ck : ∀ k, isCh A i p j q k → k < l := fun k q => by obtain ⟨q1, q2, _⟩ := q; omega
      have cc : ∀ (k u : Int), (if k < l ∧ isCh A i p j q k then u else -1) = if isCh A i p j q k then u else -1 := by
        intro k u
        by_cases w : isCh A i p j q k
        · rw [if_pos ⟨ck k w, w⟩, if_pos w]
        · rw [if_neg (fun w2 => w w2.2), if_neg w]
      refine h M1 ⟨fun k q1 q2 => by rw [g1 k q1 (by omega), cc], fun k q1 q2 => by rw [g2 k q1 (by omega), cc]⟩ (fun x q1 q2 => ?_) (fun x q1 q2 => ?_) ?_ gF
      · have := g1 (x - i) (by omega) (by omega)
        rw [if_neg (by rintro ⟨_, w, _⟩; omega), show i + (x - i) = x by omega] at this
        exact this
      · have := g2 (x - j) (by omega) (by omega)
        rw [if_neg (by rintro ⟨_, _, w, _⟩; omega), show j + (x - j) = x by omega] at this
        exact this
      · intro s x hs x0 x1
        rcases hs with rfl | rfl
        · rw [lo_0]
          by_cases c : x < i
          · rw [if_pos c]
            exact g3 x x0 c
          · have := g1 (x - i) (by omega) (by omega)
            rw [cc] at this
            rw [if_neg c]
            unfold cwF
            rw [lo_0, lo_0, ← this]
            show M1 78 x.toNat = _
            congr 1
            omega
        · rw [lo_1]
          by_cases c : x < j
          · rw [if_pos c]
            exact g4 x x0 c
          · have := g2 (x - j) (by omega) (by omega)
            rw [cc] at this
            rw [if_neg c]
            unfold cwF
            rw [lo_1, lo_1, ← this]
            show M1 79 x.toNat = _
            congr 1
            omega
    | succ m ih =>
      intro l M1 hm l0 g1 g2 g3 g4 gF
      have tl : t ≤ p - i ∧ t ≤ q - j := by split at et <;> omega
      have e1 : M1 7 (i + l).toNat = A 0 (i + l) := by rw [gF 7 (by omega)]; exact hA.2.2.2.2 0 _ (Or.inl rfl) (by omega) (by omega)
      have e2 : M1 8 (j + l).toNat = A 1 (j + l) := by rw [gF 8 (by omega)]; exact hA.2.2.2.2 1 _ (Or.inr rfl) (by omega) (by omega)
      refine sg_X6_findChanged_17 ⟨⟨by omega, by omega⟩, ⟨by omega, by omega⟩, fun w => by omega, fun _ => ⟨⟨by omega, by omega⟩, ⟨by omega, by omega⟩, ?_⟩⟩
      rw [e1, e2]
      obtain ⟨_, cv0, _⟩ := chB_v (A 0 (i + l)) (A 1 (j + l))
      have lk := (lik_all (A 0 (i + l)) (A 1 (j + l))).2.2.2.1
      refine c_fraction (hR _ _) (hR _ _) (fun M2 k1 => ⟨fun w => ?_, fun w => ⟨⟨by omega, by omega⟩, ⟨by omega, by omega⟩, ?_⟩⟩)
      · have hn : ¬ isCh A i p j q l := fun c => c.2.2 (cv0.mpr (lk.mp w))
        refine ih (l + 1) M2 (by omega) (by omega) (fun k q1 q2 => ?_) (fun k q1 q2 => ?_) (fun x x0 x1 => by rw [k1 78 (by decide)]; exact g3 x x0 x1) (fun x x0 x1 => by rw [k1 79 (by decide)]; exact g4 x x0 x1) (fun k hk => by rw [k1 k (by omega)]; exact gF k hk)
        · rw [k1 78 (by decide), g1 k q1 q2]
          by_cases e : k = l
          · subst e
            rw [if_neg (fun c => hn c.2), if_neg (fun c => hn c.2)]
          · by_cases u : isCh A i p j q k
            · by_cases v : k < l
              · rw [if_pos ⟨v, u⟩, if_pos ⟨by omega, u⟩]
              · rw [if_neg (fun c => v c.1), if_neg (fun c => by omega)]
            · rw [if_neg (fun c => u c.2), if_neg (fun c => u c.2)]
        · rw [k1 79 (by decide), g2 k q1 q2]
          by_cases e : k = l
          · subst e
            rw [if_neg (fun c => hn c.2), if_neg (fun c => hn c.2)]
          · by_cases u : isCh A i p j q k
            · by_cases v : k < l
              · rw [if_pos ⟨v, u⟩, if_pos ⟨by omega, u⟩]
              · rw [if_neg (fun c => v c.1), if_neg (fun c => by omega)]
            · rw [if_neg (fun c => u c.2), if_neg (fun c => u c.2)]
      · have hn : isCh A i p j q l := ⟨by omega, by omega, fun c => w (lk.mpr (cv0.mp c))⟩
        refine ih (l + 1) _ (by omega) (by omega) (fun k q1 q2 => ?_) (fun k q1 q2 => ?_) (fun x x0 x1 => by rw [mU_ne (show (78 : Nat) ≠ 79 by decide), mU_nej (by omega), k1 78 (by decide)]; exact g3 x x0 x1) (fun x x0 x1 => by rw [mU_nej (by omega), mU_ne (show (79 : Nat) ≠ 78 by decide), k1 79 (by decide)]; exact g4 x x0 x1) (fun k hk => by rw [mU_ne (by omega), mU_ne (by omega), k1 k (by omega)]; exact gF k hk)
        · rw [mU_ne (show (78 : Nat) ≠ 79 by decide)]
          by_cases e : k = l
          · subst e
            rw [mU_at, if_pos ⟨by omega, hn⟩]
          · rw [mU_nej (by omega), k1 78 (by decide), g1 k q1 q2]
            by_cases u : isCh A i p j q k
            · by_cases v : k < l
              · rw [if_pos ⟨v, u⟩, if_pos ⟨by omega, u⟩]
              · rw [if_neg (fun c => v c.1), if_neg (fun c => by omega)]
            · rw [if_neg (fun c => u c.2), if_neg (fun c => u c.2)]
        · by_cases e : k = l
          · subst e
            rw [mU_at, if_pos ⟨by omega, hn⟩]
          · rw [mU_nej (by omega), mU_ne (show (79 : Nat) ≠ 78 by decide), k1 79 (by decide), g2 k q1 q2]
            by_cases u : isCh A i p j q k
            · by_cases v : k < l
              · rw [if_pos ⟨v, u⟩, if_pos ⟨by omega, u⟩]
              · rw [if_neg (fun c => v c.1), if_neg (fun c => by omega)]
            · rw [if_neg (fun c => u c.2), if_neg (fun c => u c.2)]
  refine en_X6_findChanged (sg_X6_findChanged_0 ⟨⟨by omega, by omega⟩, ⟨by omega, by omega⟩, ?_⟩)
  refine loop _ rfl (if q - j < p - i then q - j else p - i).toNat 0 M (by split <;> omega) (by omega) (fun k q1 q2 => ?_) (fun k q1 q2 => ?_) (fun _ _ _ => rfl) (fun _ _ _ => rfl) (fun _ _ => rfl)
  · rw [z1 _ (by omega) q2, if_neg (fun c => by omega)]
  · rw [z2 _ (by omega) q2, if_neg (fun c => by omega)]
theorem c_addDropped {Q : AM → Prop} {i p j q : Int} (hS : StC M L G) (hl : (L.length : Int) ≤ i + j) (hC : CwC M A i p j q) (i0 : 0 ≤ i) (i1 : i ≤ p) (i2 : p ≤ 8) (j0 : 0 ≤ j) (j8 : j ≤ 8) (G0 : 0 ≤ G ∧ G ≤ 20)
    (h : ∀ M', StC M' (L ++ dpS A i p j q G (p - i).toNat 0) G → (∀ k, k < 71 ∨ 76 < k → M' k = M k) → Q M') : MetV g mX6_addDropped (d + 3) [vR 71, vI i, vI p] M Q := by
  have loop : ∀ (m : Nat) (k : Int) (M1 : AM) (L1 : List St), i + k + m = p → 0 ≤ k → StC M1 L1 G → (L1.length : Int) ≤ i + j + k → (∀ c, c < 71 ∨ 76 < c → M1 c = M c) →
      (∀ M', StC M' (L1 ++ dpS A i p j q G m k) G → (∀ c, c < 71 ∨ 76 < c → M' c = M c) → Q M') → S_X6_addDropped_2 g (d + 3) p (i + k) M1 Q := by
    intro m
    induction m with
    | zero =>
      intro k M1 L1 hm k0 s1 l1 gF hk
      refine sg_X6_addDropped_2 ⟨⟨by omega, by omega⟩, ⟨by omega, by omega⟩, fun _ => ?_, fun w => by omega⟩
      exact hk M1 (by rw [show dpS A i p j q G 0 k = [] from rfl, List.append_nil]; exact s1) gF
    | succ m ih =>
      intro k M1 L1 hm k0 s1 l1 gF hk
      rw [dpS_s] at hk
      have e := hC.1 k k0 (by omega)
      rw [← gF 78 (by decide)] at e
      refine sg_X6_addDropped_2 ⟨⟨by omega, by omega⟩, ⟨by omega, by omega⟩, fun w => by omega, fun _ => ⟨⟨by omega, by omega⟩, fun w => ?_, fun w => ?_⟩⟩
      · have hc : isCh A i p j q k := Classical.byContradiction fun c => w (by rw [e, if_neg c])
        rw [if_pos hc] at hk
        rw [Int.add_assoc]
        exact ih (k + 1) M1 L1 (by omega) (by omega) s1 (by omega) gF hk
      · have hc : ¬ isCh A i p j q k := fun c => by rw [e, if_pos c] at w; omega
        rw [if_neg hc] at hk
        rw [s1.2.1]
        refine c_addStep s1 (by omega) ⟨by decide, by decide⟩ ⟨by omega, by omega⟩ ⟨by decide, by decide⟩ LT_0 ⟨by omega, by omega⟩ (fun M2 k1 k2 => ?_)
        rw [Int.add_assoc]
        refine ih (k + 1) M2 _ (by omega) (by omega) k1 (by rw [List.length_append]; simp; omega) (fun c hc => by rw [k2 c hc]; exact gF c hc) ?_
        rw [List.append_assoc]
        exact hk
  have := loop (p - i).toNat 0 M L (by omega) (Int.le_refl _) hS (by omega) (fun _ _ => rfl) h
  rw [Int.add_zero] at this
  exact en_X6_addDropped (sg_X6_addDropped_0 this)
end CSCRIPT
