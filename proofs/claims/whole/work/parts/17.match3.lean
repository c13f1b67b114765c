theorem mc_le (A : LF) : ∀ (f : Nat) (a b c d : Int), a ≤ b → 0 ≤ c → c ≤ d → 0 ≤ mc A f a b c d ∧ mc A f a b c d ≤ b - a
  | 0, a, b, _, _, h1, _, _ => by
    unfold mc
    omega
  | f + 1, a, b, c, d, h1, hc, h2 => by
    unfold mc
    obtain ⟨p1, p2, p3, p4, p5, p6, p7⟩ := mpP_ok A _ a b c d rfl h1 h2
    generalize mpP A a b c d = P at p1 p2 p3 p4 p5 p6 p7 ⊢
    obtain ⟨s1, s2, s3, s4, s5, s6, s7⟩ := mpS_ok A _ P.2.1 b P.2.2 d rfl p2 p4
    generalize mpS A P.2.1 b P.2.2 d = S at s1 s2 s3 s4 s5 s6 s7 ⊢
    unfold mcM
    split
    · next hne =>
      obtain ⟨k1, k2, k3⟩ := chn_ok (A := A) (a := P.2.1) (b := S.2.1) (c := P.2.2) (d := S.2.2) (by omega)
      obtain ⟨b1, b2, -⟩ := btw_ok _ P.2.1 P.2.2 k1 s1 s3
      generalize btw S.2.1 S.2.2 (chn A P.2.1 S.2.1 P.2.2 S.2.2) P.2.1 P.2.2 = ps at b1 b2
      have key : ∀ ps : List (Int × Int × Int × Int), (∀ p ∈ ps, PB P.2.1 S.2.1 P.2.2 S.2.2 p) → 0 ≤ (ps.map (fun q => mc A f q.1 q.2.1 q.2.2.1 q.2.2.2)).sum ∧ (ps.map (fun q => mc A f q.1 q.2.1 q.2.2.1 q.2.2.2)).sum ≤ (ps.map (fun p => p.2.1 - p.1)).sum := by
        intro ps
        induction ps with
        | nil => intro _; simp
        | cons p ps ih =>
          intro h
          have i1 := ih (fun x hx => h x (List.mem_cons_of_mem _ hx))
          have hp := h p List.mem_cons_self
          have i2 := mc_le A f p.1 p.2.1 p.2.2.1 p.2.2.2 hp.2.1 (by have := hp.2.2.2.1; omega) hp.2.2.2.2.1
          simp only [List.map_cons, List.sum_cons]
          omega
      have := key ps (fun p hp => (b1 p hp).1)
      omega
    · omega
theorem btw_nn {b d : Int} (l : List (Int × Int)) (a c : Int) (h : CH b d a c l) (h1 : a ≤ b) (h2 : c ≤ d) : 0 ≤ ((btw b d l a c).map (fun p => p.2.1 - p.1)).sum := by
  have t1 := (btw_ok l a c h h1 h2).1
  generalize btw b d l a c = ps at t1
  induction ps with
  | nil => simp
  | cons p ps ih =>
    have a1 := ih (fun x hx => t1 x (List.mem_cons_of_mem _ hx))
    have a2 := (t1 p List.mem_cons_self).1.2.1
    simp only [List.map_cons, List.sum_cons]
    omega
/-- the chain stands in P, and nothing else in its parts -/
def ChP (P : LF) (b e : Int) (r : List (Int × Int)) (a c : Int) : Prop := (∀ q ∈ r, P 0 q.1 = q.2 ∧ P 1 q.2 = q.1) ∧ (∀ i, a ≤ i → i < b → (∀ q ∈ r, q.1 ≠ i) → P 0 i = -1) ∧ ∀ j, c ≤ j → j < e → (∀ q ∈ r, q.2 ≠ j) → P 1 j = -1
section MATCH3
variable {g : AG} {o : Nat} {A : LF} {n : Int → Int}
/-- what matchParts does, for parts of fewer than f lines -/
def MPc (g : AG) (o : Nat) (A : LF) (n : Int → Int) (f : Nat) : Prop := ∀ (d : Nat) (a b c e : Int) (M : AM) (P : LF) (Q : AM → Prop), b - a < f → 0 ≤ a → a ≤ b → b ≤ n 0 → 0 ≤ c → c ≤ e → e ≤ n 1 → LAm M o A n → PAm M o P → 0 ≤ M o 7 → M o 7 + (b - a) ≤ 900 → (∀ i, a ≤ i → i < b → P 0 i = -1) → (∀ j, c ≤ j → j < e → P 1 j = -1) → f ≤ 9 →
  (∀ M', PAm M' o (kps (mp A f a b c e) P) → M' o 7 = M o 7 + mc A f a b c e → FrM o M M' → Q M') → MetV g mX2_matchParts (d + (2 * f + 3)) [vR o, vI a, vI b, vI c, vI e, vI (9 - (f : Int))] M Q
theorem c_between {f : Nat} (hf : 1 ≤ f) (hf9 : f ≤ 8) (IH : MPc g o A n f) (hm : IsMatch o) {d : Nat} {b e : Int} {Q : AM → Prop} (h2 : b ≤ n 0) (h5 : e ≤ n 1) : ∀ (m : Nat) (x aN cN : Int) (r : List (Int × Int)) (M1 : AM) (P1 : LF), b = x + m → 0 ≤ aN → aN ≤ x → x ≤ b → 0 ≤ cN → cN ≤ e → CH b e aN cN r → (∀ q ∈ r, x ≤ q.1) → (∀ p ∈ btw b e r aN cN, p.2.1 - p.1 < f) → ChP P1 b e r aN cN → LAm M1 o A n → PAm M1 o P1 → 0 ≤ M1 o 7 → M1 o 7 + ((btw b e r aN cN).map (fun p => p.2.1 - p.1)).sum ≤ 900 →
    (∀ M', PAm M' o (kps ((btw b e r aN cN).flatMap (fun q => mp A f q.1 q.2.1 q.2.2.1 q.2.2.2)) P1) → M' o 7 = M1 o 7 + ((btw b e r aN cN).map (fun q => mc A f q.1 q.2.1 q.2.2.1 q.2.2.2)).sum → FrM o M1 M' → Q M') → S_X2_matchBetweenAnchors_9 g (d + (2 * f + 3) + 1) o b e (9 - (f : Int) - 1) aN cN x M1 Q := by
  intro m
  induction m with
  | zero =>
    intro x aN cN r M1 P1 hx q1 q2 q3 q4 q5 hCH hr hpl hCP hA hP h7 h8 hk
    have b1 := hA.2.2.1
    have b2 := hA.2.2.2.1
    have er : r = [] := by
      cases r with
      | nil => rfl
      | cons y r =>
        have := hCH.2.2.1
        have := hr y List.mem_cons_self
        omega
    subst er
    simp only [btw, List.map_cons, List.map_nil, List.sum_cons, List.sum_nil] at h8
    have hl := hpl (aN, b, cN, e) (List.mem_singleton.mpr rfl)
    refine sg_X2_matchBetweenAnchors_9 hm ⟨⟨by omega, by omega⟩, ⟨by omega, by omega⟩, fun _ => ⟨⟨by omega, by omega⟩, ⟨by omega, by omega⟩, ⟨by omega, by omega⟩, ⟨by omega, by omega⟩, ?_⟩, fun w => by omega⟩
    rw [show (9 : Int) - (f : Int) - 1 + 1 = 9 - (f : Int) by omega]
    refine IH d aN b cN e M1 P1 _ hl q1 (by omega) h2 q4 q5 h5 hA hP h7 (by omega) (fun i i1 i2 => hCP.2.1 i i1 i2 (fun q hq => absurd hq List.not_mem_nil)) (fun j j1 j2 => hCP.2.2 j j1 j2 (fun q hq => absurd hq List.not_mem_nil)) (by omega) (fun M' k1 k2 k3 => hk M' ?_ ?_ k3)
    · simpa [btw] using k1
    · rw [k2]
      simp [btw]
  | succ m ih =>
    intro x aN cN r M1 P1 hx q1 q2 q3 q4 q5 hCH hr hpl hCP hA hP h7 h8 hk
    have b1 := hA.2.2.1
    have b2 := hA.2.2.2.1
    have eP : M1 (o + 7) x.toNat = P1 0 x := hP 0 x (Or.inl rfl) (by omega) (by omega)
    refine sg_X2_matchBetweenAnchors_9 hm ⟨⟨by omega, by omega⟩, ⟨by omega, by omega⟩, fun w => by omega, fun _ => ⟨⟨by omega, by omega⟩, fun w => ?_, fun w => ?_⟩⟩
    · rw [eP] at w
      refine ih (x + 1) aN cN r M1 P1 (by omega) q1 (by omega) (by omega) q4 q5 hCH (fun q hq => ?_) hpl hCP hA hP h7 h8 hk
      have h1 := hr q hq
      have h2 := (hCP.1 q hq).1
      have h3 := CH_in r aN cN hCH q hq
      unfold InR at h3
      rcases Int.lt_or_eq_of_le h1 with z | z
      · omega
      · rw [← z, w] at h2
        omega
    · rw [eP] at w ⊢
      obtain ⟨q, hq, eq⟩ : ∃ q ∈ r, q.1 = x := Classical.byContradiction fun z => w (hCP.2.1 x q2 (by omega) (fun q hq e => z ⟨q, hq, e⟩))
      cases r with
      | nil => exact absurd hq List.not_mem_nil
      | cons y r =>
        have hy : y.1 = x := by
          rcases List.mem_cons.mp hq with e0 | hq2
          · rw [← e0]; exact eq
          · have a1 := CH_in r _ _ hCH.2.2.2.2 q hq2
            have a2 := hr y List.mem_cons_self
            unfold InR at a1
            omega
        have hy2 : P1 0 x = y.2 := by
          rw [← hy]
          exact (hCP.1 y List.mem_cons_self).1
        obtain ⟨g1, g2, g3, g4, g5⟩ := hCH
        have hnn := btw_nn r (y.1 + 1) (y.2 + 1) g5 (by omega) (by omega)
        rw [btw_cons, List.map_cons, List.sum_cons] at h8
        dsimp only at h8
        rw [hy2]
        refine ⟨⟨by omega, by omega⟩, ⟨by omega, by omega⟩, ⟨by omega, by omega⟩, ?_⟩
        rw [show (9 : Int) - (f : Int) - 1 + 1 = 9 - (f : Int) by omega]
        have hl := hpl (aN, y.1, cN, y.2) (by rw [btw_cons]; exact List.mem_cons_self)
        dsimp only at hl
        have hrin : ∀ q ∈ r, InR (y.1 + 1) b (y.2 + 1) e q := CH_in r _ _ g5
        refine IH d aN x cN y.2 M1 P1 _ (by omega) q1 (by omega) (by omega) q4 g2 (by omega) hA hP h7 (by omega) (fun i i1 i2 => hCP.2.1 i i1 (by omega) (fun q hq => ?_)) (fun j j1 j2 => hCP.2.2 j j1 (by omega) (fun q hq => ?_)) (by omega) (fun M2 k1 k2 k3 => ?_)
        · have := hr q hq
          omega
        · rcases List.mem_cons.mp hq with e0 | hq2
          · rw [e0]; omega
          · have := hrin q hq2
            unfold InR at this
            omega
        · have hok := mp_ok A f aN x cN y.2 (by omega) q4 g2
          have hmc := mc_le A f aN x cN y.2 (by omega) q4 g2
          refine ih (x + 1) (x + 1) (y.2 + 1) r M2 (kps (mp A f aN x cN y.2) P1) (by omega) (by omega) (by omega) (by omega) (by omega) (by omega) (by rw [← hy]; exact g5) (fun q hq => by have := hrin q hq; unfold InR at this; omega) (fun p hp => hpl p (by rw [btw_cons, hy]; exact List.mem_cons_of_mem _ hp)) ⟨fun q hq => ?_, fun i i1 i2 i3 => ?_, fun j j1 j2 j3 => ?_⟩ (hA.fr k3) k1 (by rw [k2]; omega) (by rw [k2, ← hy]; rw [← hy] at hmc; omega) (fun M' j1 j2 j3 => hk M' ?_ ?_ (k3.tr j3))
          · have hq' := hrin q hq
            have hcq := hCP.1 q (List.mem_cons_of_mem _ hq)
            unfold InR at hq'
            refine ⟨?_, ?_⟩
            · rw [kps_out0 _ _ _ (fun z hz => by have := (hok.2 z hz).1; unfold InR at this; omega)]
              exact hcq.1
            · rw [kps_out1 _ _ _ (fun z hz => by have := (hok.2 z hz).1; unfold InR at this; omega)]
              exact hcq.2
          · rw [kps_out0 _ _ _ (fun z hz => by have := (hok.2 z hz).1; unfold InR at this; omega)]
            refine hCP.2.1 i (by omega) i2 (fun q hq => ?_)
            rcases List.mem_cons.mp hq with e0 | hq2
            · rw [e0]; omega
            · exact i3 q hq2
          · rw [kps_out1 _ _ _ (fun z hz => by have := (hok.2 z hz).1; unfold InR at this; omega)]
            refine hCP.2.2 j (by omega) j2 (fun q hq => ?_)
            rcases List.mem_cons.mp hq with e0 | hq2
            · rw [e0]; omega
            · exact j3 q hq2
          · rw [btw_cons, List.flatMap_cons, kps_app, hy]
            exact j1
          · rw [btw_cons, List.map_cons, List.sum_cons, hy, j2, k2]
            dsimp only
            omega
theorem c_matchParts (hm : IsMatch o) : ∀ (f : Nat), MPc g o A n f
  | 0 => by
    intro d a b c e M P Q hb
    intros
    omega
  | f + 1 => by
    intro d a b c e M P Q hb h0 h1 h2 h3 h4 h5 hA hP h7 h8 hz0 hz1 hf9 hk
    have IH := c_matchParts hm f
    have b1 := hA.2.2.1
    have b2 := hA.2.2.2.1
    rw [show d + (2 * (f + 1) + 3) = d + (2 * f + 3) + 1 + 1 by omega]
    have r : ∀ z : Int, -1 ≤ z → z ≤ 9 → rg z := fun z q1 q2 => ⟨by omega, by omega⟩
    -- the middle
    have mid : ∀ (a' b' c' d' : Int) (M1 : AM) (P1 : LF), a ≤ a' → a' ≤ b' → b' ≤ b → c ≤ c' → c' ≤ d' → d' ≤ e → LAm M1 o A n → PAm M1 o P1 → M1 o 7 = M o 7 → FrM o M M1 → (∀ i, a' ≤ i → i < b' → P1 0 i = -1) → (∀ j, c' ≤ j → j < d' → P1 1 j = -1) →
        (∀ M', PAm M' o (kps (mpM A (fun q => mp A f q.1 q.2.1 q.2.2.1 q.2.2.2) a' b' c' d') P1) → M' o 7 = M o 7 + mcM A (fun q => mc A f q.1 q.2.1 q.2.2.1 q.2.2.2) a' b' c' d' → FrM o M M' → Q M') → S_X2_matchParts_108 g (d + (2 * f + 3) + 1 + 1) o (9 - ((f + 1 : Nat) : Int)) a' c' b' d' M1 Q := by
      intro a' b' c' d' M1 P1 p1 p2 p3 p4 p5 p6 hA1 hP1 e7 hF1 w0 w1 hk1
      refine sg_X2_matchParts_108 hm ⟨r a' (by omega) (by omega), r b' (by omega) (by omega), fun w => ?_, fun w => ⟨r c' (by omega) (by omega), r d' (by omega) (by omega), fun w2 => ?_, fun w2 => ?_⟩⟩
      · refine hk1 M1 ?_ ?_ hF1
        · unfold mpM
          rw [if_neg (by omega)]
          exact hP1
        · unfold mcM
          rw [if_neg (by omega), e7]
          omega
      · refine MetV.rm (fun hRM => ?_)
        refine c_findAnchors hm hRM hA1 (by omega) p2 (by omega) (by omega) p5 (by omega) (fun M2 k1 k2 => ?_)
        have hF2 : FrM o M1 M2 := ⟨fun k hk => k2 k (by omega), fun j _ => by rw [k2 o (by omega)]⟩
        refine c_keepLongestChain (P := P1) hm (by omega) p2 (by omega) (by omega) (by omega) k1 (hP1.same (k2 _ (by omega)) (k2 _ (by omega))) (by rw [k2 o (by omega), e7]; omega) (fun M3 j1 j2 j3 _ => ⟨fun w3 => ?_, fun w3 => ⟨r _ (by omega) (by omega), ?_⟩⟩)
        · have hnil : anL A a' b' c' d' a' = [] := Classical.byContradiction fun z => by rw [bI_t z] at w3; cases w3
          have hcn : chn A a' b' c' d' = [] := by
            unfold chn
            rw [hnil]
            rfl
          rw [hcn] at j1 j2
          refine c_keepMost hm ((hA1.fr hF2).fr j3) (by omega) p2 (by omega) (by omega) p5 (by omega) j1 (fun M4 i1 i2 i3 => hk1 M4 ?_ ?_ (((hF1.tr hF2).tr j3).tr i3))
          · unfold mpM
            rw [if_pos (by omega), if_pos hnil]
            exact i1
          · unfold mcM
            rw [if_neg (fun z => z.2.2 hnil), i2, j2, k2 o (by omega), e7]
            show M o 7 + 0 = _
            omega
        · have hne : anL A a' b' c' d' a' ≠ [] := fun z => w3 (bI_f (fun q => q z))
          obtain ⟨c1, c2, c3⟩ := chn_ok (A := A) (a := a') (b := b') (c := c') (d := d') (by omega)
          have hlen := List.length_pos_iff.mpr (c3 hne)
          obtain ⟨t1, t2, t3⟩ := btw_ok _ a' c' c1 p2 p5
          have hNX : NX (chn A a' b' c' d') := (par_ok (rc := fun _ => []) _ a' c' c1 p2 p5 (fun q hq => (c2 q hq).2) (fun p hp => ⟨NX_nil, fun q hq => absurd hq List.not_mem_nil⟩)).1 |> fun z => NX_mem z (fun q hq => List.mem_append_left _ hq)
          rw [show (9 : Int) - ((f + 1 : Nat) : Int) = 9 - (f : Int) - 1 by omega]
          refine en_X2_matchBetweenAnchors (sg_X2_matchBetweenAnchors_0 hm ?_)
          refine c_between (f := f) (by omega) (by omega) IH hm (d := d) (by omega) (by omega) (b' - a').toNat a' a' c' (chn A a' b' c' d') M3 _ (by omega) (by omega) (Int.le_refl _) p2 (by omega) p5 c1 (fun q hq => (c2 q hq).1.1) (fun p hp => by have := (t1 p hp).2; omega) ⟨fun q hq => kps_in _ _ hNX q hq, fun i i1 i2 i3 => ?_, fun j jj1 jj2 jj3 => ?_⟩ ((hA1.fr hF2).fr j3) j1 (by rw [j2, k2 o (by omega), e7]; omega) ?_ (fun M4 i1 i2 i3 => hk1 M4 ?_ ?_ (((hF1.tr hF2).tr j3).tr i3))
          · rw [kps_out0 _ _ _ i3]
            exact w0 i i1 i2
          · rw [kps_out1 _ _ _ jj3]
            exact w1 j jj1 jj2
          · rw [j2, k2 o (by omega), e7]
            omega
          · unfold mpM
            rw [if_pos (by omega), if_neg hne, kps_app]
            exact i1
          · unfold mcM
            rw [if_pos ⟨by omega, by omega, hne⟩, i2, j2, k2 o (by omega), e7]
            omega
      · refine hk1 M1 ?_ ?_ hF1
        · unfold mpM
          rw [if_neg (by omega)]
          exact hP1
        · unfold mcM
          rw [if_neg (by omega), e7]
          omega
    -- the last ones
    have suf : ∀ (m : Nat) (a' b' c' d' : Int) (M1 : AM) (P1 : LF), (b' - a').toNat = m → a ≤ a' → a' ≤ b' → b' ≤ b → c ≤ c' → c' ≤ d' → d' ≤ e → LAm M1 o A n → PAm M1 o P1 → M1 o 7 = M o 7 → FrM o M M1 → (∀ i, a' ≤ i → i < b' → P1 0 i = -1) → (∀ j, c' ≤ j → j < d' → P1 1 j = -1) →
        (∀ M2, PAm M2 o (kps (mpS A a' b' c' d').1 P1) → M2 o 7 = M o 7 → FrM o M M2 → S_X2_matchParts_108 g (d + (2 * f + 3) + 1 + 1) o (9 - ((f + 1 : Nat) : Int)) a' c' (mpS A a' b' c' d').2.1 (mpS A a' b' c' d').2.2 M2 Q) → S_X2_matchParts_62 g (d + (2 * f + 3) + 1 + 1) o (9 - ((f + 1 : Nat) : Int)) a' c' b' d' M1 Q := by
      intro m
      induction m using Nat.strongRecOn with
      | _ m ih =>
        intro a' b' c' d' M1 P1 hmm p1 p2 p3 p4 p5 p6 hA1 hP1 e7 hF1 w0 w1 hk1
        rw [mpS_eq] at hk1
        refine sg_X2_matchParts_62 hm ⟨r b' (by omega) (by omega), r a' (by omega) (by omega), fun w => ?_, fun w => ⟨r d' (by omega) (by omega), r c' (by omega) (by omega), fun w2 => ?_, fun w2 => ⟨r _ (by omega) (by omega), r _ (by omega) (by omega), ?_⟩⟩⟩
        · rw [if_neg (by omega)] at hk1
          exact hk1 M1 hP1 e7 hF1
        · rw [if_neg (by omega)] at hk1
          exact hk1 M1 hP1 e7 hF1
        · refine c_same hm hA1 ⟨by omega, by omega⟩ ⟨by omega, by omega⟩ (fun _ => ⟨fun c1 => ?_, fun c1 => ⟨r _ (by omega) (by omega), r _ (by omega) (by omega), ?_⟩⟩)
          · have hne : ¬ A 0 (b' - 1) = A 1 (d' - 1) := fun q => by rw [bI_t q] at c1; cases c1
            rw [if_neg (fun z => hne z.2.2)] at hk1
            exact hk1 M1 hP1 e7 hF1
          · have heq : A 0 (b' - 1) = A 1 (d' - 1) := Classical.byContradiction fun q => c1 (bI_f q)
            rw [if_pos ⟨by omega, by omega, heq⟩] at hk1
            rw [show b' + -1 = b' - 1 by omega, show d' + -1 = d' - 1 by omega]
            refine c_mkeep hm ⟨by omega, by omega⟩ ⟨by omega, by omega⟩ ?_
            refine ih _ (by omega) a' (b' - 1) c' (d' - 1) _ (kp P1 (b' - 1) (d' - 1)) rfl p1 (by omega) (by omega) p4 (by omega) (by omega) (hA1.fr (((FrM.rf o M1).up (by omega)).up (by omega))) (hP1.keep ⟨by omega, by omega⟩ ⟨by omega, by omega⟩) (by rw [mU_ne (by omega), mU_ne (by omega)]; exact e7) ((hF1.up (by omega)).up (by omega)) (fun i i1 i2 => ?_) (fun j j1 j2 => ?_) hk1
            · rw [kp_ne0 _ (by omega)]
              exact w0 i i1 (by omega)
            · rw [kp_ne1 _ (by omega)]
              exact w1 j j1 (by omega)
    -- the first ones
    have pre : ∀ (m : Nat) (a' c' : Int) (M1 : AM) (P1 : LF), (b - a').toNat = m → a ≤ a' → a' ≤ b → c ≤ c' → c' ≤ e → LAm M1 o A n → PAm M1 o P1 → M1 o 7 = M o 7 → FrM o M M1 → (∀ i, a' ≤ i → i < b → P1 0 i = -1) → (∀ j, c' ≤ j → j < e → P1 1 j = -1) →
        (∀ M2, PAm M2 o (kps (mpP A a' b c' e).1 P1) → M2 o 7 = M o 7 → FrM o M M2 → S_X2_matchParts_62 g (d + (2 * f + 3) + 1 + 1) o (9 - ((f + 1 : Nat) : Int)) (mpP A a' b c' e).2.1 (mpP A a' b c' e).2.2 b e M2 Q) → S_X2_matchParts_14 g (d + (2 * f + 3) + 1 + 1) o b e (9 - ((f + 1 : Nat) : Int)) a' c' M1 Q := by
      intro m
      induction m using Nat.strongRecOn with
      | _ m ih =>
        intro a' c' M1 P1 hmm p1 p2 p4 p5 hA1 hP1 e7 hF1 w0 w1 hk1
        rw [mpP_eq] at hk1
        refine sg_X2_matchParts_14 hm ⟨r a' (by omega) (by omega), r b (by omega) (by omega), fun w => ?_, fun w => ⟨r c' (by omega) (by omega), r e (by omega) (by omega), fun w2 => ?_, fun w2 => ?_⟩⟩
        · rw [if_neg (by omega)] at hk1
          exact hk1 M1 hP1 e7 hF1
        · rw [if_neg (by omega)] at hk1
          exact hk1 M1 hP1 e7 hF1
        · refine c_same hm hA1 ⟨by omega, by omega⟩ ⟨by omega, by omega⟩ (fun _ => ⟨fun c1 => ?_, fun c1 => ?_⟩)
          · have hne : ¬ A 0 a' = A 1 c' := fun q => by rw [bI_t q] at c1; cases c1
            rw [if_neg (fun z => hne z.2.2)] at hk1
            exact hk1 M1 hP1 e7 hF1
          · have heq : A 0 a' = A 1 c' := Classical.byContradiction fun q => c1 (bI_f q)
            rw [if_pos ⟨by omega, by omega, heq⟩] at hk1
            refine c_mkeep hm ⟨by omega, by omega⟩ ⟨by omega, by omega⟩ ?_
            refine ih _ (by omega) (a' + 1) (c' + 1) _ (kp P1 a' c') rfl (by omega) (by omega) (by omega) (by omega) (hA1.fr (((FrM.rf o M1).up (by omega)).up (by omega))) (hP1.keep ⟨by omega, by omega⟩ ⟨by omega, by omega⟩) (by rw [mU_ne (by omega), mU_ne (by omega)]; exact e7) ((hF1.up (by omega)).up (by omega)) (fun i i1 i2 => ?_) (fun j j1 j2 => ?_) hk1
            · rw [kp_ne0 _ (by omega)]
              exact w0 i (by omega) i2
            · rw [kp_ne1 _ (by omega)]
              exact w1 j (by omega) j2
    refine en_X2_matchParts (sg_X2_matchParts_0 hm ⟨r _ (by omega) (by omega), fun _ => ?_, fun w => by omega⟩)
    obtain ⟨t1, t2, t3, t4, t5, t6, t7⟩ := mpP_ok A _ a b c e rfl h1 h4
    obtain ⟨s1, s2, s3, s4, s5, s6, s7⟩ := mpS_ok A _ (mpP A a b c e).2.1 b (mpP A a b c e).2.2 e rfl t2 t4
    have z0 : ∀ i, (mpP A a b c e).2.1 ≤ i → i < b → kps (mpP A a b c e).1 P 0 i = -1 := fun i i1 i2 => by
      rw [kps_out0 _ _ _ (fun q hq => by have := (t7 q hq).1; unfold InR at this; omega)]
      exact hz0 i (by omega) i2
    have z1 : ∀ j, (mpP A a b c e).2.2 ≤ j → j < e → kps (mpP A a b c e).1 P 1 j = -1 := fun j j1 j2 => by
      rw [kps_out1 _ _ _ (fun q hq => by have := (t7 q hq).1; unfold InR at this; omega)]
      exact hz1 j (by omega) j2
    refine pre _ a c M P rfl (Int.le_refl _) h1 (Int.le_refl _) h4 hA hP rfl (FrM.rf o M) hz0 hz1 (fun M2 k1 k2 k3 => ?_)
    refine suf _ _ b _ e M2 _ rfl t1 t2 (Int.le_refl _) t3 t4 (Int.le_refl _) (hA.fr k3) k1 k2 k3 z0 z1 (fun M3 j1 j2 j3 => ?_)
    refine mid _ _ _ _ M3 _ t1 s1 s2 t3 s3 s4 (hA.fr j3) j1 j2 j3 (fun i i1 i2 => ?_) (fun j jj1 jj2 => ?_) (fun M4 i1 i2 i3 => hk M4 ?_ ?_ i3)
    · rw [kps_out0 _ _ _ (fun q hq => by have := (s7 q hq).1; unfold InR at this; omega)]
      exact z0 i i1 (by omega)
    · rw [kps_out1 _ _ _ (fun q hq => by have := (s7 q hq).1; unfold InR at this; omega)]
      exact z1 j jj1 (by omega)
    · unfold mp
      rw [kps_app, kps_app]
      exact i1
    · unfold mc
      exact i2
end MATCH3
