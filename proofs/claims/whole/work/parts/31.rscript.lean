/-! the reference's script -/
def StR (M : AM) (L : List St) (G : Int) : Prop := M 88 22 = L.length ∧ M 88 23 = G ∧ ∀ (k : Nat) (h : k < L.length), (M 101 (5 * k), M 101 (5 * k + 1), M 101 (5 * k + 2), M 101 (5 * k + 3), M 101 (5 * k + 4)) = L[k]
theorem StR.same {M M' : AM} {L : List St} {G : Int} (h : StR M L G) (f1 : M' 88 22 = M 88 22) (f2 : M' 88 23 = M 88 23) (f3 : M' 101 = M 101) : StR M' L G := by
  obtain ⟨h1, h2, h3⟩ := h
  exact ⟨f1.trans h1, f2.trans h2, fun k q => by rw [f3]; exact h3 k q⟩
/-- only the script's own places change -/
def FrG (M M' : AM) : Prop := (∀ k, k ≠ 88 → (k < 100 ∨ 102 < k) → M' k = M k) ∧ ∀ j, j ≠ 22 → j ≠ 23 → M' 88 j = M 88 j
theorem FrG.rf (M : AM) : FrG M M := ⟨fun _ _ _ => rfl, fun _ _ _ => rfl⟩
theorem FrG.tr {M M1 M2 : AM} (h1 : FrG M M1) (h2 : FrG M1 M2) : FrG M M2 := ⟨fun k a b => (h2.1 k a b).trans (h1.1 k a b), fun j a b => (h2.2 j a b).trans (h1.2 j a b)⟩
theorem FrG.of {M M1 : AM} (h : ∀ k, k ≠ 100 → M1 k = M k) : FrG M M1 := ⟨fun k a b => h k (by omega), fun j _ _ => by rw [h 88 (by decide)]⟩
theorem LAr.fg {M M' : AM} {A : LF} {n : Int → Int} (h : LAr M A n) (f : FrG M M') : LAr M' A n := by
  obtain ⟨h1, h2, h3, h4, h5⟩ := h
  refine ⟨by rw [f.1 _ (by omega) (by omega)]; exact h1, by rw [f.1 _ (by omega) (by omega)]; exact h2, h3, h4, fun s i hs h0 hi => ?_⟩
  rw [f.1 _ (by omega) (by omega)]
  exact h5 s i hs h0 hi
section RSCRIPT
variable {g : AG} {d : Nat} {M : AM} {A : LF} {n : Int → Int} {L : List St} {G : Int}
theorem r_addStep {Q : AM → Prop} {a b c e v : Int} (hS : StR M L G) (hl : L.length < 16) (ha : rg a) (hb : rg b) (hc : rg c) (hv : rg v) (he : rg e)
    (h : ∀ M', StR M' (L ++ [(a, b, c, v, e)]) G → FrG M M' → M' 102 = M 102 → Q M') : MetV g mX9_addStep (d + 1) [vR 88, vI a, vI b, vI c, vI v, vI e] M Q := by
  obtain ⟨h1, h2, h3⟩ := hS
  refine en_X9_addStep (sg_X9_addStep_0 ?_)
  rw [h1]
  refine ⟨⟨by omega, by omega⟩, ha, ⟨by omega, by omega⟩, hb, ⟨by omega, by omega⟩, hc, ⟨by omega, by omega⟩, hv, ⟨by omega, by omega⟩, he, ⟨by omega, by omega⟩, ?_⟩
  rw [show ((5 : Int) * (L.length : Int)).toNat = 5 * L.length by omega, show ((5 : Int) * (L.length : Int) + 1).toNat = 5 * L.length + 1 by omega, show ((5 : Int) * (L.length : Int) + 2).toNat = 5 * L.length + 2 by omega, show ((5 : Int) * (L.length : Int) + 3).toNat = 5 * L.length + 3 by omega, show ((5 : Int) * (L.length : Int) + 4).toNat = 5 * L.length + 4 by omega]
  refine h _ ⟨?_, ?_, fun k hk => ?_⟩ ⟨fun k hk hk2 => ?_, fun j hj hj2 => ?_⟩ ?_
  · rw [mU_at, List.length_append]; rfl
  · rw [mU_nej (by decide)]
    repeat rw [mU_ne (k' := 88) (by decide)]
    exact h2
  · rw [List.length_append] at hk
    have hk : k < L.length + 1 := hk
    rw [mU_ne (k' := 101) (show (101 : Nat) ≠ 88 by decide)]
    by_cases q : k < L.length
    · have w : ∀ x y : Nat, x ≤ 4 → y ≤ 4 → 5 * k + x ≠ 5 * L.length + y := fun x y hx hy => by omega
      have w0 : ∀ x : Nat, x ≤ 4 → 5 * k + x ≠ 5 * L.length := fun x hx => by omega
      rw [List.getElem_append_left q, ← h3 k q]
      refine Prod.ext ?_ (Prod.ext ?_ (Prod.ext ?_ (Prod.ext ?_ ?_)))
      · show mU _ 101 _ _ 101 (5 * k + 0) = _
        rw [mU_nej (w 0 4 (by decide) (by decide)), mU_nej (w 0 3 (by decide) (by decide)), mU_nej (w 0 2 (by decide) (by decide)), mU_nej (w 0 1 (by decide) (by decide)), mU_nej (w0 0 (by decide))]
        rfl
      · show mU _ 101 _ _ 101 (5 * k + 1) = _
        rw [mU_nej (w 1 4 (by decide) (by decide)), mU_nej (w 1 3 (by decide) (by decide)), mU_nej (w 1 2 (by decide) (by decide)), mU_nej (w 1 1 (by decide) (by decide)), mU_nej (w0 1 (by decide))]
      · show mU _ 101 _ _ 101 (5 * k + 2) = _
        rw [mU_nej (w 2 4 (by decide) (by decide)), mU_nej (w 2 3 (by decide) (by decide)), mU_nej (w 2 2 (by decide) (by decide)), mU_nej (w 2 1 (by decide) (by decide)), mU_nej (w0 2 (by decide))]
      · show mU _ 101 _ _ 101 (5 * k + 3) = _
        rw [mU_nej (w 3 4 (by decide) (by decide)), mU_nej (w 3 3 (by decide) (by decide)), mU_nej (w 3 2 (by decide) (by decide)), mU_nej (w 3 1 (by decide) (by decide)), mU_nej (w0 3 (by decide))]
      · show mU _ 101 _ _ 101 (5 * k + 4) = _
        rw [mU_nej (w 4 4 (by decide) (by decide)), mU_nej (w 4 3 (by decide) (by decide)), mU_nej (w 4 2 (by decide) (by decide)), mU_nej (w 4 1 (by decide) (by decide)), mU_nej (w0 4 (by decide))]
    · have q' : k = L.length := by omega
      subst q'
      rw [List.getElem_append_right (Nat.le_refl _)]
      simp [mU]
  · rw [mU_ne hk]
    repeat rw [mU_ne (by omega)]
  · rw [mU_nej hj]
    repeat rw [mU_ne (k' := 88) (by decide)]
  · repeat rw [mU_ne (k' := 102) (by decide)]
theorem r_countGap {Q : Int → AM → Prop} {P : LF} {s i : Int} (hs : s = 0 ∨ s = 1) (hA : LAr M A n) (hP : PAr M P) (i0 : 0 ≤ i) (i1 : i ≤ n s) (h : Q (nk P n s i - i) M) : MetI g mX9_countGap (d + 1) [vR 88, vI s, vI i] M Q := by
  have ns : M 93 s.toNat = n s := by rcases hs with e | e <;> subst e; exact hA.1; exact hA.2.1
  have n8 : n s ≤ 8 := by rcases hs with e | e <;> subst e; exact hA.2.2.1.2; exact hA.2.2.2.1.2
  have loop : ∀ (m : Nat) (k : Int), i + k + m = n s → 0 ≤ k → nk P n s (i + k) = nk P n s i → S_X9_countGap_2 g (d + 1) s i k M Q := by
    intro m
    induction m with
    | zero =>
      intro k hm k0 hq
      rw [nk_end (by omega)] at hq
      refine sg_X9_countGap_2 ⟨⟨by omega, by omega⟩, ⟨by omega, by omega⟩, fun _ => ⟨⟨by omega, by omega⟩, ?_⟩, fun w => absurd (show M 93 s.toNat ≤ i + k by rw [ns]; omega) w⟩
      rw [← hq, show i + k - i = k by omega] at h
      exact h
    | succ m ih =>
      intro k hm k0 hq
      have e := hP s (i + k) hs (by omega) (by omega)
      rw [← Int.add_assoc] at e
      refine sg_X9_countGap_2 ⟨⟨by omega, by omega⟩, ⟨by omega, by omega⟩, fun w => by rw [ns] at w; omega, fun _ => ⟨⟨by omega, by omega⟩, fun w => ⟨⟨by omega, by omega⟩, ?_⟩, fun w => ?_⟩⟩
      · rw [e] at w
        rw [nk_at (by omega) w] at hq
        rw [← hq, show i + k - i = k by omega] at h
        exact h
      · rw [e] at w
        rw [nk_go (by omega) w, Int.add_assoc] at hq
        exact ih (k + 1) (by omega) (by omega) hq
  exact en_X9_countGap (sg_X9_countGap_0 (loop (n s - i).toNat 0 (by omega) (by omega) (by rw [Int.add_zero])))
def TR (M : AM) : LF := fun s x => M 102 (16 * s + x).toNat
theorem r_layGap {Q : AM → Prop} {i p j q : Int} (hA : LAr M A n) (hR : ∀ s i, rg (A s i) ∧ 0 ≤ A s i) (hS : StR M L G) (hl : (L.length : Int) ≤ i + j) (i0 : 0 ≤ i) (i1 : i ≤ p) (i2 : p ≤ n 0) (j0 : 0 ≤ j) (j1 : j ≤ q) (j2 : q ≤ n 1) (G0 : 0 ≤ G ∧ G ≤ 20) (z1 : ∀ x : Int, i ≤ x → x < 8 → M 102 x.toNat = -1) (z2 : ∀ x : Int, j ≤ x → x < 8 → M 102 (16 + x).toNat = -1)
    (h : ∀ M', StR M' (L ++ gpS A i p j q G) (G + 1) → TbG (TR M) (TR M') i j (cwF A i p j q) → FrG M M' → Q M') : MetV g mX9_layGap (d + 5) [vR 88, vI i, vI j, vI (p - i), vI (q - j)] M Q := by
  have b1 := hA.2.2.1
  have b2 := hA.2.2.2.1
  have lin : ∀ (M1 : AM) (k : Int), FrG M M1 → 0 ≤ k → i + k < p → M1 92 (i + k).toNat = A 0 (i + k) := fun M1 k f k0 k1 => by
    rw [f.1 92 (by decide) (by decide), ← hA.2.2.2.2 0 (i + k) (Or.inl rfl) (by omega) (by omega), show (16 : Int) * 0 + (i + k) = i + k by omega]
  have lin2 : ∀ (M1 : AM) (k : Int), FrG M M1 → 0 ≤ k → j + k < q → M1 92 (16 + j + k).toNat = A 1 (j + k) := fun M1 k f k0 k1 => by
    rw [f.1 92 (by decide) (by decide), ← hA.2.2.2.2 1 (j + k) (Or.inr rfl) (by omega) (by omega), show (16 : Int) * 1 + (j + k) = 16 + j + k by omega]
  have lp2 : ∀ (m : Nat) (k : Int) (M1 : AM) (L1 : List St), j + k + m = q → 0 ≤ k → StR M1 L1 G → (L1.length : Int) ≤ p + j + k → (∀ k, 0 ≤ k → j + k < 8 → M1 102 (16 + j + k).toNat = if isCh A i p j q k then i + k else -1) → TbG (TR M) (TR M1) i j (cwF A i p j q) → FrG M M1 →
      (∀ M', StR M' (L1 ++ adS A i p j q G m k) (G + 1) → TbG (TR M) (TR M') i j (cwF A i p j q) → FrG M M' → Q M') → S_X9_layGap_126 g (d + 5) j (q - j) k M1 Q := by
    intro m
    induction m with
    | zero =>
      intro k M1 L1 hm k0 s1 l1 g2 g9 gF hk
      refine sg_X9_layGap_126 ⟨⟨by omega, by omega⟩, ⟨by omega, by omega⟩, fun _ => ?_, fun w => by omega⟩
      rw [s1.2.1]
      refine ⟨⟨by omega, by omega⟩, hk _ ⟨?_, mU_at, fun k hk => ?_⟩ (fun s x hs x0 x1 => ?_) ⟨fun k q1 q2 => by rw [mU_ne q1]; exact gF.1 k q1 q2, fun j' q1 q2 => by rw [mU_nej q2]; exact gF.2 j' q1 q2⟩⟩
      · rw [mU_nej (by decide), show adS A i p j q G 0 k = [] from rfl, List.append_nil]; exact s1.1
      · rw [mU_ne (by decide)]
        simp only [show ∀ k, adS A i p j q G 0 k = [] from fun _ => rfl, List.append_nil] at hk ⊢
        exact s1.2.2 _ hk
      · rw [← g9 s x hs x0 x1]
        unfold TR
        rw [mU_ne (by decide)]
    | succ m ih =>
      intro k M1 L1 hm k0 s1 l1 g2 g9 gF hk
      rw [adS_s] at hk
      have e := g2 k k0 (by omega)
      have nxt : ∀ (M2 : AM) (s : St), StR M2 (L1 ++ [s]) G → M2 102 = M1 102 → FrG M M2 → (∀ M', StR M' (L1 ++ s :: adS A i p j q G m (k + 1)) (G + 1) → TbG (TR M) (TR M') i j (cwF A i p j q) → FrG M M' → Q M') → S_X9_layGap_126 g (d + 5) j (q - j) (k + 1) M2 Q := by
        intro M2 s q1 q2 q3 q4
        refine ih (k + 1) M2 _ (by omega) (by omega) q1 (by rw [List.length_append]; simp; omega) (by rw [q2]; exact g2) (fun s x hs x0 x1 => by rw [← g9 s x hs x0 x1]; unfold TR; rw [q2]) q3 ?_
        rw [List.append_assoc]
        exact q4
      refine sg_X9_layGap_126 ⟨⟨by omega, by omega⟩, ⟨by omega, by omega⟩, fun w => by omega, fun _ => ⟨⟨by omega, by omega⟩, fun w => ?_, fun w => ⟨⟨by omega, by omega⟩, ?_⟩⟩⟩
      · have hc : isCh A i p j q k := Classical.byContradiction fun c => w (by rw [e, if_neg c])
        rw [if_pos hc] at hk
        rw [if_pos hc] at e
        obtain ⟨c1, c2, c3⟩ := hc
        rw [e, lin M1 k gF k0 c1, lin2 M1 k gF k0 c2]
        obtain ⟨cv, _, _⟩ := chB_v (A 0 (i + k)) (A 1 (j + k))
        refine ⟨⟨by omega, by omega⟩, r_changeBy (hR _ _).1 (hR _ _).2 (hR _ _).1 (hR _ _).2 (fun M2 k1 _ => ?_)⟩
        have f2 : FrG M M2 := gF.tr (FrG.of k1)
        rw [lin M2 k f2 k0 c1, lin2 M2 k f2 k0 c2]
        refine r_likeBits (hR _ _).1 (hR _ _).2 (hR _ _).1 (hR _ _).2 (fun M3 k3 rb => ⟨⟨by omega, by omega⟩, ?_⟩)
        have f3 : FrG M M3 := f2.tr (FrG.of k3)
        have s3 : StR M3 L1 G := s1.same (by rw [k3 88 (by decide), k1 88 (by decide)]) (by rw [k3 88 (by decide), k1 88 (by decide)]) (by rw [k3 101 (by decide), k1 101 (by decide)])
        rw [s3.2.1]
        exact r_addStep (d := d + 3) s3 (by omega) ⟨by omega, by omega⟩ ⟨by omega, by omega⟩ ⟨by omega, by omega⟩ rb ⟨by omega, by omega⟩ (fun M4 m1 m2 m3 => nxt M4 _ m1 (by rw [m3, k3 102 (by decide), k1 102 (by decide)]) (f3.tr m2) hk)
      · have hc : ¬ isCh A i p j q k := fun c => by rw [e, if_pos c] at w; omega
        rw [if_neg hc] at hk
        rw [s1.2.1]
        exact r_addStep (d := d + 3) s1 (by omega) ⟨by decide, by decide⟩ ⟨by decide, by decide⟩ ⟨by omega, by omega⟩ ⟨by decide, by decide⟩ ⟨by omega, by omega⟩ (fun M4 m1 m2 m3 => nxt M4 _ m1 m3 (gF.tr m2) hk)
  have lp1 : ∀ (t : Int), t ≤ p - i ∧ t ≤ q - j ∧ (t = p - i ∨ t = q - j) → ∀ (m : Nat) (k : Int) (M1 : AM) (L1 : List St), i + k + m = p → 0 ≤ k → StR M1 L1 G → (L1.length : Int) ≤ i + j + k → (∀ x, 0 ≤ x → j + x < 8 → M1 102 (16 + j + x).toNat = if x < k ∧ isCh A i p j q x then i + x else -1) → (∀ x, 0 ≤ x → i + x < 8 → M1 102 (i + x).toNat = if x < k ∧ isCh A i p j q x then j + x else -1) → (∀ x : Int, 0 ≤ x → x < i → M1 102 x.toNat = M 102 x.toNat) → (∀ x : Int, 0 ≤ x → x < j → M1 102 (16 + x).toNat = M 102 (16 + x).toNat) → FrG M M1 →
      (∀ M', StR M' (L1 ++ (dpS A i p j q G m k ++ adS A i p j q G (q - j).toNat 0)) (G + 1) → TbG (TR M) (TR M') i j (cwF A i p j q) → FrG M M' → Q M') → S_X9_layGap_17 g (d + 5) i j (p - i) (q - j) t k M1 Q := by
    intro t ht m
    induction m with
    | zero =>
      intro k M1 L1 hm k0 s1 l1 g2 g1 g3 g4 gF hk
      refine sg_X9_layGap_17 ⟨⟨by omega, by omega⟩, ⟨by omega, by omega⟩, fun _ => ?_, fun w => by omega⟩
      rw [show dpS A i p j q G 0 k = [] from rfl, List.nil_append] at hk
      have cc : ∀ (x u : Int), (if x < k ∧ isCh A i p j q x then u else -1) = if isCh A i p j q x then u else -1 := by
        intro x u
        by_cases w : isCh A i p j q x
        · rw [if_pos ⟨by have := w.1; omega, w⟩, if_pos w]
        · rw [if_neg (fun c => w c.2), if_neg w]
      refine lp2 (q - j).toNat 0 M1 L1 (by omega) (by omega) s1 (by omega) (fun x x0 x1 => by rw [g2 x x0 x1, cc]) (fun s x hs x0 x1 => ?_) gF hk
      rcases hs with rfl | rfl
      · rw [lo_0]
        unfold TR
        rw [show (16 : Int) * 0 + x = x by omega]
        by_cases c : x < i
        · rw [if_pos c]
          exact g3 x x0 c
        · have := g1 (x - i) (by omega) (by omega)
          rw [cc] at this
          rw [if_neg c]
          unfold cwF
          rw [lo_0, lo_0, ← this]
          congr 1
          omega
      · rw [lo_1]
        unfold TR
        rw [show (16 : Int) * 1 + x = 16 + x by omega]
        by_cases c : x < j
        · rw [if_pos c]
          exact g4 x x0 c
        · have := g2 (x - j) (by omega) (by omega)
          rw [cc] at this
          rw [if_neg c]
          unfold cwF
          rw [lo_1, lo_1, ← this]
          congr 1
          omega
    | succ m ih =>
      intro k M1 L1 hm k0 s1 l1 g2 g1 g3 g4 gF hk
      rw [dpS_s] at hk
      have drop : ∀ M2 : AM, (∀ c, c ≠ 100 → M2 c = M1 c) → ¬ isCh A i p j q k → MetV g mX9_addStep (d + 4) [vR 88, vI 1, vI (i + k), vI (-1), vI 0, vI (M2 88 23)] M2 (fun M9 => S_X9_layGap_17 g (d + 5) i j (p - i) (q - j) t (k + 1) M9 Q) := by
        intro M2 k1 hc
        rw [if_neg hc] at hk
        have sk : ∀ x u : Int, (if x < k ∧ isCh A i p j q x then u else -1) = if x < k + 1 ∧ isCh A i p j q x then u else -1 := by
          intro x u
          by_cases w : isCh A i p j q x
          · by_cases v : x < k
            · rw [if_pos ⟨v, w⟩, if_pos ⟨by omega, w⟩]
            · by_cases e : x = k
              · subst e
                exact absurd w hc
              · rw [if_neg (fun c => v c.1), if_neg (fun c => by omega)]
          · rw [if_neg (fun c => w c.2), if_neg (fun c => w c.2)]
        have s2 : StR M2 L1 G := s1.same (by rw [k1 88 (by decide)]) (by rw [k1 88 (by decide)]) (by rw [k1 101 (by decide)])
        rw [s2.2.1]
        refine r_addStep (d := d + 3) s2 (by omega) ⟨by decide, by decide⟩ ⟨by omega, by omega⟩ ⟨by decide, by decide⟩ ⟨by decide, by decide⟩ ⟨by omega, by omega⟩ (fun M4 m1 m2 m3 => ?_)
        refine ih (k + 1) M4 _ (by omega) (by omega) m1 (by rw [List.length_append]; simp; omega) (fun x x0 x1 => by rw [m3, k1 102 (by decide), g2 x x0 x1, sk]) (fun x x0 x1 => by rw [m3, k1 102 (by decide), g1 x x0 x1, sk]) (by rw [m3, k1 102 (by decide)]; exact g3) (by rw [m3, k1 102 (by decide)]; exact g4) ((gF.tr (FrG.of k1)).tr m2) (by rw [List.append_assoc]; exact hk)
      refine sg_X9_layGap_17 ⟨⟨by omega, by omega⟩, ⟨by omega, by omega⟩, fun w => by omega, fun _ => ⟨⟨by omega, by omega⟩, fun w => ⟨⟨by omega, by omega⟩, drop M1 (fun _ _ => rfl) ?_⟩, fun w => ⟨⟨by omega, by omega⟩, ⟨by omega, by omega⟩, ?_⟩⟩⟩
      · rintro ⟨c1, c2, _⟩
        omega
      · rw [lin M1 k gF k0 (by omega), lin2 M1 k gF k0 (by omega)]
        obtain ⟨cv, _, _⟩ := chB_v (A 0 (i + k)) (A 1 (j + k))
        refine r_changeBy (hR _ _).1 (hR _ _).2 (hR _ _).1 (hR _ _).2 (fun M2 k1 _ => ⟨fun w2 => ⟨⟨by omega, by omega⟩, drop M2 k1 (fun c => c.2.2 (by omega))⟩, fun w2 => ⟨⟨by omega, by omega⟩, ⟨by omega, by omega⟩, ?_⟩⟩)
        have hc : isCh A i p j q k := ⟨by omega, by omega, by omega⟩
        rw [if_pos hc] at hk
        have sk : ∀ x u : Int, x ≠ k → (if x < k ∧ isCh A i p j q x then u else -1) = if x < k + 1 ∧ isCh A i p j q x then u else -1 := by
          intro x u e
          by_cases w : isCh A i p j q x
          · by_cases v : x < k
            · rw [if_pos ⟨v, w⟩, if_pos ⟨by omega, w⟩]
            · rw [if_neg (fun c => v c.1), if_neg (fun c => by omega)]
          · rw [if_neg (fun c => w c.2), if_neg (fun c => w c.2)]
        have s2 : StR M2 L1 G := s1.same (by rw [k1 88 (by decide)]) (by rw [k1 88 (by decide)]) (by rw [k1 101 (by decide)])
        have f2 : FrG M M2 := gF.tr (FrG.of k1)
        refine ih (k + 1) _ L1 (by omega) (by omega) (s2.same (by rw [mU_ne (by decide), mU_ne (by decide)]) (by rw [mU_ne (by decide), mU_ne (by decide)]) (by rw [mU_ne (by decide), mU_ne (by decide)])) (by omega) (fun x x0 x1 => ?_) (fun x x0 x1 => ?_) (fun x x0 x1 => ?_) (fun x x0 x1 => ?_) ⟨fun c q1 q2 => by rw [mU_ne (by omega), mU_ne (by omega)]; exact f2.1 c q1 q2, fun c q1 q2 => by rw [mU_ne (by omega), mU_ne (by omega)]; exact f2.2 c q1 q2⟩ hk
        · by_cases e : x = k
          · subst e
            rw [mU_at, if_pos ⟨by omega, hc⟩]
          · rw [mU_nej (by omega), mU_nej (by omega), k1 102 (by decide), g2 x x0 x1, sk x _ e]
        · by_cases e : x = k
          · subst e
            rw [mU_nej (by omega), mU_at, if_pos ⟨by omega, hc⟩]
          · rw [mU_nej (by omega), mU_nej (by omega), k1 102 (by decide), g1 x x0 x1, sk x _ e]
        · rw [mU_nej (by omega), mU_nej (by omega), k1 102 (by decide)]
          exact g3 x x0 x1
        · rw [mU_nej (by omega), mU_nej (by omega), k1 102 (by decide)]
          exact g4 x x0 x1
  have st : ∀ t : Int, t ≤ p - i ∧ t ≤ q - j ∧ (t = p - i ∨ t = q - j) → S_X9_layGap_17 g (d + 5) i j (p - i) (q - j) t 0 M Q := fun t ht => by
    refine lp1 t ht (p - i).toNat 0 M L (by omega) (by omega) hS (by omega) (fun x x0 x1 => ?_) (fun x x0 x1 => ?_) (fun _ _ _ => rfl) (fun _ _ _ => rfl) (FrG.rf M) h
    · rw [if_neg (fun c => by omega), Int.add_assoc]
      exact z2 (j + x) (by omega) x1
    · rw [if_neg (fun c => by omega)]
      exact z1 (i + x) (by omega) x1
  exact en_X9_layGap (sg_X9_layGap_0 ⟨⟨by omega, by omega⟩, ⟨by omega, by omega⟩, fun w => st _ ⟨by omega, by omega, by omega⟩, fun w => st _ ⟨by omega, by omega, by omega⟩⟩)
end RSCRIPT
