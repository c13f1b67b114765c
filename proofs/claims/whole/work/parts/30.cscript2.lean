/-! the class's Script: added lines, build, asking -/
section CSCRIPT2
variable {g : AG} {d : Nat} {M : AM} {A : LF} {n : Int → Int} {L : List St} {G : Int}
theorem c_addAdded {Q : AM → Prop} {i p j q : Int} (hA : LAm M 4 A n) (hR : ∀ s i, rg (A s i)) (hS : StC M L G) (hl : (L.length : Int) ≤ p + j) (hC : CwC M A i p j q) (i0 : 0 ≤ i) (i1 : i ≤ p) (i2 : p ≤ n 0) (j0 : 0 ≤ j) (j1 : j ≤ q) (j2 : q ≤ n 1) (G0 : 0 ≤ G ∧ G ≤ 20)
    (h : ∀ M', StC M' (L ++ adS A i p j q G (q - j).toNat 0) G → (∀ k, k < 60 ∨ 76 < k → M' k = M k) → Q M') : MetV g mX6_addAdded (d + 5) [vR 71, vR 5, vR 57, vI j, vI q] M Q := by
  have b1 := hA.2.2.1
  have b2 := hA.2.2.2.1
  have loop : ∀ (m : Nat) (k : Int) (M1 : AM) (L1 : List St), j + k + m = q → 0 ≤ k → StC M1 L1 G → (L1.length : Int) ≤ p + j + k → (∀ c, c < 60 ∨ 76 < c → M1 c = M c) →
      (∀ M', StC M' (L1 ++ adS A i p j q G m k) G → (∀ c, c < 60 ∨ 76 < c → M' c = M c) → Q M') → S_X6_addAdded_3 g (d + 5) q (j + k) M1 Q := by
    intro m
    induction m with
    | zero =>
      intro k M1 L1 hm k0 s1 l1 gF hk
      refine sg_X6_addAdded_3 ⟨⟨by omega, by omega⟩, ⟨by omega, by omega⟩, fun _ => ?_, fun w => by omega⟩
      exact hk M1 (by rw [show adS A i p j q G 0 k = [] from rfl, List.append_nil]; exact s1) gF
    | succ m ih =>
      intro k M1 L1 hm k0 s1 l1 gF hk
      rw [adS_s] at hk
      have e := hC.2 k k0 (by omega)
      rw [← gF 79 (by decide)] at e
      have nxt : ∀ (M2 : AM) (s : St), StC M2 (L1 ++ [s]) G → (∀ c, c < 60 ∨ 76 < c → M2 c = M c) → (∀ M', StC M' (L1 ++ s :: adS A i p j q G m (k + 1)) G → (∀ c, c < 60 ∨ 76 < c → M' c = M c) → Q M') → S_X6_addAdded_3 g (d + 5) q (j + k + 1) M2 Q := by
        intro M2 s q1 q2 q3
        rw [Int.add_assoc]
        refine ih (k + 1) M2 _ (by omega) (by omega) q1 (by rw [List.length_append]; simp; omega) q2 ?_
        rw [List.append_assoc]
        exact q3
      refine sg_X6_addAdded_3 ⟨⟨by omega, by omega⟩, ⟨by omega, by omega⟩, fun w => by omega, fun _ => ⟨⟨by omega, by omega⟩, fun w => ?_, fun w => ?_⟩⟩
      · have hc : isCh A i p j q k := Classical.byContradiction fun c => w (by rw [e, if_neg c])
        rw [if_pos hc] at hk
        rw [if_pos hc] at e
        obtain ⟨c1, c2, c3⟩ := hc
        rw [e]
        have e1 : M1 7 (i + k).toNat = A 0 (i + k) := by rw [gF 7 (by omega)]; exact hA.2.2.2.2 0 _ (Or.inl rfl) (by omega) (by omega)
        have e2 : M1 8 (j + k).toNat = A 1 (j + k) := by rw [gF 8 (by omega)]; exact hA.2.2.2.2 1 _ (Or.inr rfl) (by omega) (by omega)
        rw [e1, e2]
        refine ⟨⟨by omega, by omega⟩, c_fraction (hR _ _) (hR _ _) (fun M2 k1 => ?_)⟩
        have s2 : StC M2 L1 G := s1.same (fun c q1 q2 => k1 c (by omega))
        have lk := (lik_all (A 0 (i + k)) (A 1 (j + k))).2.2.2.2
        obtain ⟨cv, _, cv4⟩ := chB_v (A 0 (i + k)) (A 1 (j + k))
        have hb := likB_s (A 0 (i + k)) (A 1 (j + k))
        rw [s2.2.1]
        refine ⟨fun w2 => ?_, fun w2 => ?_⟩
        · have hv : chB (A 0 (i + k)) (A 1 (j + k)) = 3 := by
            have := lk.mp w2
            have : ¬ chB (A 0 (i + k)) (A 1 (j + k)) = 4 := fun q => cv4.mp q this
            omega
          rw [hv] at hk
          exact c_addStep s2 (by omega) ⟨by decide, by decide⟩ ⟨by omega, by omega⟩ ⟨by omega, by omega⟩ hb ⟨by omega, by omega⟩ (fun M3 k3 k4 => nxt M3 _ k3 (fun c hc => by rw [k4 c (by omega), k1 c (by omega)]; exact gF c hc) hk)
        · have hv : chB (A 0 (i + k)) (A 1 (j + k)) = 4 := cv4.mpr (fun q => w2 (lk.mpr q))
          rw [hv] at hk
          exact c_addStep s2 (by omega) ⟨by decide, by decide⟩ ⟨by omega, by omega⟩ ⟨by omega, by omega⟩ hb ⟨by omega, by omega⟩ (fun M3 k3 k4 => nxt M3 _ k3 (fun c hc => by rw [k4 c (by omega), k1 c (by omega)]; exact gF c hc) hk)
      · have hc : ¬ isCh A i p j q k := fun c => by rw [e, if_pos c] at w; omega
        rw [if_neg hc] at hk
        rw [s1.2.1]
        exact c_addStep s1 (by omega) ⟨by decide, by decide⟩ ⟨by decide, by decide⟩ ⟨by omega, by omega⟩ LT_0 ⟨by omega, by omega⟩ (fun M3 k3 k4 => nxt M3 _ k3 (fun c hc => by rw [k4 c (by omega)]; exact gF c hc) hk)
  have := loop (q - j).toNat 0 M L (by omega) (Int.le_refl _) hS (by omega) (fun _ _ => rfl) h
  rw [Int.add_zero] at this
  exact en_X6_addAdded (sg_X6_addAdded_0 this)
theorem c_build {Q : AM → Prop} {P : LF} (hA : LAm M 4 A n) (hR : ∀ s i, rg (A s i)) (hP : PAm M 4 P) (W : WFs P n)
    (h : ∀ M', StC M' (scS A P n 9 0 0 0) (scG P n 9 0 0 0) → (∀ s x, s = 0 ∨ s = 1 → 0 ≤ x → x < 8 → TC M' s x = chF A P n 9 0 0 s x) → (∀ k, k < 60 ∨ 79 < k → M' k = M k) → Q M') : MetV g mX6_build (d + 6) [vR 71, vR 4, vR 57] M Q := by
  have b1 := hA.2.2.1
  have b2 := hA.2.2.2.1
  have loop : ∀ (m : Nat) (t i j : Int) (M1 : AM) (L1 : List St) (G : Int), t + m = 9 → 0 ≤ t → t ≤ i → i ≤ n 0 + 1 → i ≤ n 0 → 0 ≤ j → j ≤ n 1 → 0 ≤ G → G ≤ t → Cut P 0 i j → StC M1 L1 G → (L1.length : Int) ≤ i + j →
      (∀ x : Int, i ≤ x → x < 8 → M1 78 x.toNat = -1) → (∀ x : Int, j ≤ x → x < 8 → M1 79 x.toNat = -1) → (∀ k, k < 60 ∨ 79 < k → M1 k = M k) →
      (∀ M', StC M' (L1 ++ scS A P n m i j G) (scG P n m i j G) → TbG (TC M1) (TC M') i j (chF A P n m i j) → (∀ k, k < 60 ∨ 79 < k → M' k = M k) → Q M') → S_X6_build_60 g (d + 6) i j t M1 Q := by
    intro m
    induction m with
    | zero => intro t i j M1 L1 G h1 h2 h3 h4 h5; omega
    | succ m ih =>
      intro t i j M1 L1 G h1 h2 h3 h4 h5 j0 j1 G0 G1 C hS hl z1 z2 gF hk
      rw [scS_s, scG_s] at hk
      have lam : ∀ M2 : AM, (∀ k, k < 60 ∨ 79 < k → M2 k = M k) → LAm M2 4 A n := fun M2 f => ⟨by rw [f 9 (by decide)]; exact hA.1, by rw [f 9 (by decide)]; exact hA.2.1, b1, b2, fun s x hs x0 x1 => by rw [f _ (by omega)]; exact hA.2.2.2.2 s x hs x0 x1⟩
      have pam : ∀ M2 : AM, (∀ k, k < 60 ∨ 79 < k → M2 k = M k) → PAm M2 4 P := fun M2 f s x hs x0 x1 => by rw [f _ (by omega)]; exact hP s x hs x0 x1
      have ce := @chF_end A P n m i j
      have cg := @chF_go A P n m i j
      obtain ⟨wk1, wk2⟩ := walk W C (by omega) h5 j0 j1
      obtain ⟨p1, p2, _, _⟩ := nk_ok P n 0 i h5
      obtain ⟨q1, q2, _, _⟩ := nk_ok P n 1 j j1
      refine sg_X6_build_60 ⟨⟨by omega, by omega⟩, fun w => by omega, fun _ => ⟨⟨by omega, by omega⟩, ?_⟩⟩
      refine c_nextKept (d := d + 4) (Or.inl rfl) (lam M1 gF) (pam M1 gF) (by omega) h5 (fun _ => ⟨⟨by omega, by omega⟩, ?_⟩)
      refine c_nextKept (d := d + 4) (Or.inr rfl) (lam M1 gF) (pam M1 gF) j0 j1 (fun _ => ?_)
      generalize nk P n 0 i = p at *
      generalize nk P n 1 j = q at *
      have fin : ∀ (M2 : AM) (G2 : Int), G2 = G + gI i p j q → StC M2 (L1 ++ gpS A i p j q G) G2 → ((L1 ++ gpS A i p j q G).length : Int) ≤ p + q → (∀ x : Int, p ≤ x → x < 8 → M2 78 x.toNat = -1) → (∀ x : Int, q ≤ x → x < 8 → M2 79 x.toNat = -1) → TbG (TC M1) (TC M2) i j (cwF A i p j q) → (∀ k, k < 60 ∨ 79 < k → M2 k = M k) →
          ((n 0 ≤ p → Q M2) ∧ (¬ n 0 ≤ p → ((q < n 1 → MetV g mX6_addStep (d + 5) [vR 71, vI 0, vI p, vI q, vF FP.fconst1, vI (-1)] M2 (fun M' => S_X6_build_60 g (d + 6) (p + 1) (q + 1) (t + 1) M' Q)) ∧ (¬ q < n 1 → Q M2)))) := by
        intro M2 G2 eG s2 l2 y1 y2 y3 f2
        rw [← eG] at hk
        have gi : gI i p j q = 0 ∨ gI i p j q = 1 := by unfold gI; split <;> simp
        refine ⟨fun w => ?_, fun w => ⟨fun w2 => ?_, fun w2 => absurd (wk1.mp (by omega)) w2⟩⟩
        · rw [if_pos w, if_pos w, List.append_nil] at hk
          exact hk M2 s2 (by rw [ce w]; exact y3) f2
        · rw [if_neg w, if_neg w] at hk
          refine c_addStep (d := d + 3) s2 (by omega) ⟨by decide, by decide⟩ ⟨by omega, by omega⟩ ⟨by omega, by omega⟩ LT_1 ⟨by decide, by decide⟩ (fun M3 k3 k4 => ?_)
          refine ih (t + 1) (p + 1) (q + 1) M3 _ G2 (by omega) (by omega) (by omega) (by omega) (by omega) (by omega) (by omega) (by omega) (by omega) (wk2 (by omega)) k3 (by rw [List.length_append] at *; simp at *; omega) (fun x x0 x1 => by rw [k4 78 (by decide)]; exact y1 x (by omega) x1) (fun x x0 x1 => by rw [k4 79 (by decide)]; exact y2 x (by omega) x1) (fun k hk => by rw [k4 k (by omega)]; exact f2 k hk) ?_
          intro M4 k5 k6
          refine hk M4 ?_ (cg w p1 q1 y3 (fun s x hs x0 x1 => by rw [k6 s x hs x0 x1, show TC M3 s x = TC M2 s x from by unfold TC; rw [k4 _ (by omega)]]))
          rw [List.append_assoc, List.append_assoc] at k5
          rw [← List.append_assoc] at k5 ⊢
          exact k5
      have lens : ((L1 ++ gpS A i p j q G).length : Int) ≤ p + q := by
        have := dpS_len A i p j q G (p - i).toNat 0
        have := adS_len A i p j q G (q - j).toNat 0
        unfold gpS
        rw [List.length_append, List.length_append]
        omega
      have gap : i < p ∨ j < q → MetV g mX6_findChanged (d + 5) [vR 71, vR 5, vR 57, vI i, vI p, vI j, vI q] M1 (fun M12 => MetV g mX6_addDropped (d + 5) [vR 71, vI i, vI p] M12 (fun M15 => MetV g mX6_addAdded (d + 5) [vR 71, vR 5, vR 57, vI j, vI q] M15 (fun M18 => rg ((M18 71 7) + 1) ∧ (((M18 9 0) ≤ p → (Q (mU M18 71 7 ((M18 71 7) + 1)))) ∧ (¬ (M18 9 0) ≤ p → ((q < (M18 9 1) → (MetV g mX6_addStep (d + 5) [vR 71, vI 0, vI p, vI q, vF FP.fconst1, vI (-1)] (mU M18 71 7 ((M18 71 7) + 1)) (fun M27 => S_X6_build_60 g (d + 6) (p + 1) (q + 1) (t + 1) M27 Q))) ∧ (¬ q < (M18 9 1) → (Q (mU M18 71 7 ((M18 71 7) + 1))))))))))  := by
        intro hg
        refine c_findChanged (lam M1 gF) hR (by omega) p1 p2 j0 q1 q2 z1 z2 (fun M2 k1 k2 k3 k9 k4 => ?_)
        have s2 : StC M2 L1 G := hS.same (fun c r1 r2 => k4 c (by omega))
        refine c_addDropped (d := d + 2) s2 hl k1 (by omega) p1 (by omega) j0 (by omega) ⟨G0, by omega⟩ (fun M3 m1 m2 => ?_)
        have f3 : ∀ k, k < 60 ∨ 79 < k → M3 k = M k := fun k hk => by rw [m2 k (by omega), k4 k (by omega)]; exact gF k hk
        have k1' : CwC M3 A i p j q := ⟨fun k r1 r2 => by rw [m2 78 (by decide)]; exact k1.1 k r1 r2, fun k r1 r2 => by rw [m2 79 (by decide)]; exact k1.2 k r1 r2⟩
        refine c_addAdded (lam M3 f3) hR m1 ?_ k1' (by omega) p1 p2 j0 q1 q2 ⟨G0, by omega⟩ (fun M4 o1 o2 => ?_)
        · have := dpS_len A i p j q G (p - i).toNat 0
          rw [List.length_append]
          omega
        · rw [List.append_assoc] at o1
          have o1 : StC M4 (L1 ++ gpS A i p j q G) G := o1
          have f4 : ∀ k, k < 60 ∨ 79 < k → M4 k = M k := fun k hk => by rw [o2 k (by omega)]; exact f3 k hk
          have l4 := lam M4 f4
          rw [o1.2.1, show M4 9 0 = n 0 from l4.1, show M4 9 1 = n 1 from l4.2.1]
          refine ⟨⟨by omega, by omega⟩, ?_⟩
          refine fin _ (G + 1) (by unfold gI; rw [if_pos hg]) ⟨?_, mU_at, fun k hk => ?_⟩ lens (fun x x0 x1 => ?_) (fun x x0 x1 => ?_) (fun s x hs x0 x1 => by rw [← k9 s x hs x0 x1]; unfold TC; rw [mU_ne (by omega), o2 _ (by omega), m2 _ (by omega)]) (fun k hk => by rw [mU_ne (by omega)]; exact f4 k hk)
          · rw [mU_nej (by decide)]; exact o1.1
          · repeat rw [mU_ne (by decide)]
            exact o1.2.2 k hk
          · rw [mU_ne (by decide), o2 78 (by decide), m2 78 (by decide)]; exact k2 x x0 x1
          · rw [mU_ne (by decide), o2 79 (by decide), m2 79 (by decide)]; exact k3 x x0 x1
      refine ⟨fun w => gap (Or.inl w), fun w => ⟨fun w2 => ?_, fun w2 => gap (Or.inr (by omega))⟩⟩
      have l4 := lam M1 gF
      rw [show M1 9 0 = n 0 from l4.1, show M1 9 1 = n 1 from l4.2.1]
      have ep : p = i := by omega
      have eq : q = j := by omega
      have eg : gpS A i p j q G = [] := by
        unfold gpS
        rw [show (p - i).toNat = 0 by omega, show (q - j).toNat = 0 by omega]
        rfl
      refine fin M1 G (by unfold gI; rw [if_neg (by omega)]; omega) (by rw [eg, List.append_nil]; exact hS) lens (fun x x0 x1 => z1 x (by omega) x1) (fun x x0 x1 => z2 x (by omega) x1) ?_ gF
      intro s x hs x0 x1
      unfold cwF
      by_cases c : x < lo i j s
      · rw [if_pos c]
      · rw [if_neg c, if_neg]
        · rcases hs with rfl | rfl
          · rw [lo_0] at c
            exact z1 x (by omega) x1
          · rw [lo_1] at c
            exact z2 x (by omega) x1
        · rintro ⟨c1, c2, _⟩
          rcases hs with rfl | rfl
          · rw [lo_0] at c c1
            omega
          · rw [lo_1] at c c2
            omega
  have clr : ∀ (m : Nat) (l : Int) (M1 : AM), l + m = 8 → 0 ≤ l → M1 71 6 = 0 → M1 71 7 = 0 → (∀ x : Int, 0 ≤ x → x < l → M1 78 x.toNat = -1 ∧ M1 79 x.toNat = -1) → (∀ k, k < 60 ∨ 79 < k → M1 k = M k) → S_X6_build_18 g (d + 6) l M1 Q := by
    intro m
    induction m with
    | zero =>
      intro l M1 hm l0 e1 e2 hz gF
      refine sg_X6_build_18 ⟨⟨by omega, by omega⟩, fun _ => ?_, fun w => by omega⟩
      refine loop 9 0 0 0 M1 [] 0 (by decide) (by decide) (by decide) (by omega) (by omega) (by decide) (by omega) (by decide) (by decide) ⟨fun x x0 x1 => by omega, fun x x0 x1 => by omega⟩ ⟨e1, e2, fun k hk => absurd hk (Nat.not_lt_zero _)⟩ (by decide) (fun x x0 x1 => (hz x x0 (by omega)).1) (fun x x0 x1 => (hz x x0 (by omega)).2) gF ?_
      rw [List.nil_append]
      intro M2 q1 q2
      refine h M2 q1 (fun s x hs x0 x1 => ?_)
      rw [q2 s x hs x0 x1, if_neg]
      rcases hs with rfl | rfl
      · rw [lo_0]; omega
      · rw [lo_1]; omega
    | succ m ih =>
      intro l M1 hm l0 e1 e2 hz gF
      refine sg_X6_build_18 ⟨⟨by omega, by omega⟩, fun w => by omega, fun _ => ⟨⟨by omega, by omega⟩, ?_⟩⟩
      refine ih (l + 1) _ (by omega) (by omega) (by rw [mU_ne (by decide), mU_ne (by decide)]; exact e1) (by rw [mU_ne (by decide), mU_ne (by decide)]; exact e2) (fun x x0 x1 => ?_) (fun k hk => by rw [mU_ne (by omega), mU_ne (by omega)]; exact gF k hk)
      rw [mU_ne (show (78 : Nat) ≠ 79 by decide)]
      by_cases e : x = l
      · subst e
        rw [mU_at, mU_at]
        exact ⟨rfl, rfl⟩
      · rw [mU_nej (by omega), mU_nej (by omega), mU_ne (show (79 : Nat) ≠ 78 by decide)]
        exact hz x x0 (by omega)
  refine en_X6_build (sg_X6_build_0 (clr 8 0 _ (by decide) (by decide) ?_ mU_at (fun x x0 x1 => by omega) (fun k hk => by rw [mU_ne (by omega), mU_ne (by omega)])))
  rw [mU_nej (by decide), mU_at]
end CSCRIPT2
