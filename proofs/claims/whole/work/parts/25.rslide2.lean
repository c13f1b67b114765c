section RSLIDE2
variable {g : AG} {d : Nat} {A : LF} {n : Int → Int}
/-- a turn first, or all from behind it on: the same -/
theorem sA_turn {A P : LF} {f : Nat} {i j : Int} (h0 : cb (tn A P i j).1 0 (tn A P i j).2.2.1 = 0) (h1 : cb (tn A P i j).1 1 (tn A P i j).2.2.2 = 0) : sA A (f + 1) P i j = ((sA A (f + 1) (tn A P i j).1 (tn A P i j).2.2.1 (tn A P i j).2.2.2).1, (tn A P i j).2.1 + (sA A (f + 1) (tn A P i j).1 (tn A P i j).2.2.1 (tn A P i j).2.2.2).2) := by
  have e : ∀ (P' : LF) (a b : Int), sA A (f + 1) P' a b = if (tn A P' a b).2.2.1 ≤ 0 ∨ (tn A P' a b).2.2.2 ≤ 0 then ((tn A P' a b).1, (tn A P' a b).2.1) else ((sA A f (tn A P' a b).1 ((tn A P' a b).2.2.1 - 1) ((tn A P' a b).2.2.2 - 1)).1, (tn A P' a b).2.1 + (sA A f (tn A P' a b).1 ((tn A P' a b).2.2.1 - 1) ((tn A P' a b).2.2.2 - 1)).2) := fun _ _ _ => rfl
  rw [e P i j, e (tn A P i j).1 (tn A P i j).2.2.1 (tn A P i j).2.2.2, tn_0 h0 h1]
  generalize tn A P i j = T
  dsimp only
  split
  · simp
  · simp
theorem sA_pass {A P : LF} {f : Nat} {i j : Int} (h0 : cb P 0 i = 0) (h1 : cb P 1 j = 0) (hi : 0 < i) (hj : 0 < j) : sA A (f + 1) P i j = sA A f P (i - 1) (j - 1) := by
  have e : sA A (f + 1) P i j = if (tn A P i j).2.2.1 ≤ 0 ∨ (tn A P i j).2.2.2 ≤ 0 then ((tn A P i j).1, (tn A P i j).2.1) else ((sA A f (tn A P i j).1 ((tn A P i j).2.2.1 - 1) ((tn A P i j).2.2.2 - 1)).1, (tn A P i j).2.1 + (sA A f (tn A P i j).1 ((tn A P i j).2.2.1 - 1) ((tn A P i j).2.2.2 - 1)).2) := rfl
  rw [e, tn_0 h0 h1]
  dsimp only
  rw [if_neg (by omega), Int.zero_add]
theorem sA_zero {A P : LF} {f : Nat} : sA A (f + 1) P 0 0 = (P, 0) := by
  have h0 : cb P 0 0 = 0 := by rw [cb_eq, if_neg (by omega)]
  have h1 : cb P 1 0 = 0 := by rw [cb_eq, if_neg (by omega)]
  have e : sA A (f + 1) P 0 0 = if (tn A P 0 0).2.2.1 ≤ 0 ∨ (tn A P 0 0).2.2.2 ≤ 0 then ((tn A P 0 0).1, (tn A P 0 0).2.1) else ((sA A f (tn A P 0 0).1 ((tn A P 0 0).2.2.1 - 1) ((tn A P 0 0).2.2.2 - 1)).1, (tn A P 0 0).2.1 + (sA A f (tn A P 0 0).1 ((tn A P 0 0).2.2.1 - 1) ((tn A P 0 0).2.2.2 - 1)).2) := rfl
  rw [e, tn_0 h0 h1]
  dsimp only
  rw [if_pos (by omega)]
theorem r_slideAll {M : AM} {Q : AM → Prop} {P : LF} (hA : LAr M A n) (hP : PAr M P) (W : WFs P n) (h : ∀ M', PAr M' (sA A 9 P (n 0) (n 1)).1 → M' 88 13 = (sA A 9 P (n 0) (n 1)).2 → FrR M M' → M' 88 12 = M 88 12 → Q M') : MetV g mX9_slideAll (d + 3) [vR 88] M Q := by
  have b1 := hA.2.2.1
  have b2 := hA.2.2.2.1
  have loop : ∀ (m : Nat) (i j : Int) (M1 : AM) (P1 : LF) (f : Nat), (i + j).toNat = m → 0 ≤ i → i ≤ n 0 → 0 ≤ j → j ≤ n 1 → i < f → LAr M1 A n → PAr M1 P1 → WFs P1 n → Cut P1 0 i j → 0 ≤ M1 88 13 → M1 88 13 + 16 * (i + j) ≤ 400 → FrR M M1 → M1 88 12 = M 88 12 →
      (∀ M', PAr M' (sA A f P1 i j).1 → M' 88 13 = M1 88 13 + (sA A f P1 i j).2 → FrR M M' → M' 88 12 = M 88 12 → Q M') → S_X9_slideAll_19 g (d + 3) i j M1 Q := by
    intro m
    induction m using Nat.strongRecOn with
    | _ m ih =>
      intro i j M1 P1 f hm i0 i1 j0 j1 hf hA1 hP1 W1 C1 q0 q1 F1 e12 hk
      obtain ⟨f, rfl⟩ : ∃ f' : Nat, f = f' + 1 := ⟨f - 1, by omega⟩
      have c0 := cb_r P1 0 _ i rfl
      have c1 := cb_r P1 1 _ j rfl
      have r0 := cb_run P1 0 _ i rfl
      have r1 := cb_run P1 1 _ j rfl
      have tr := tn_r A P1 i0 j0
      obtain ⟨t1, t2, t3, t4⟩ := tn_wf (A := A) W1 C1 i0 i1 j0 j1
      have body : 0 < i ∨ 0 < j → S_X9_slideAll_27 g (d + 3) i j M1 Q := by
        intro hij
        -- a gap: slide, and go on ahead of it
        have gap : ¬ (cb P1 0 i = 0 ∧ cb P1 1 j = 0) → ∀ s0 : Int, s0 = bI (cb P1 0 i = 0 ∨ cb P1 1 j = 0) → S_X9_slideAll_72 g (d + 3) i j (cb P1 0 i) (cb P1 1 j) s0 M1 Q := by
          intro hn s0 hs0
          -- behind the slides: the matching P5, k slides
          have tail : ∀ (M5 : AM) (P5 : LF) (k : Int), PAr M5 P5 → M5 88 13 = M1 88 13 + k → FrR M1 M5 → M5 88 12 = M1 88 12 → 0 ≤ k → k ≤ i → k ≤ j → tn A P1 i j = (P5, k, i - k - cb P5 0 (i - k), j - k - cb P5 1 (j - k)) → MetI g mX9_countBack (d + 2) [vR 88, vI 0, vI (i - k)] M5 (fun z21 M20 => rg z21 → (rg (j - k) ∧ (MetI g mX9_countBack (d + 2) [vR 88, vI 1, vI (j - k)] M20 (fun z25 M24 => rg z25 → (S_X9_slideAll_19 g (d + 3) ((i - k) - z21) ((j - k) - z25) M24 Q))))) := by
            intro M5 P5 k hP5 e5 F5 e512 k0 k1 k2 et
            rw [et] at t1 t2 t3 t4 tr
            dsimp only at t1 t2 t3 t4 tr
            refine r_countBack (Or.inl rfl) hP5 (by omega) (by omega) (fun _ => ⟨⟨by omega, by omega⟩, r_countBack (Or.inr rfl) hP5 (by omega) (by omega) (fun _ => ?_)⟩)
            have hlt : i - k - cb P5 0 (i - k) + (j - k - cb P5 1 (j - k)) < i + j := by
              rcases int_lg 0 k with z | z
              · have := cb_r P5 0 _ (i - k) rfl
                have := cb_r P5 1 _ (j - k) rfl
                omega
              · have ek : k = 0 := by omega
                subst ek
                rw [Int.sub_zero, Int.sub_zero] at et ⊢
                -- no slide: the matching is the same
                have h5 : cb P5 0 i + cb P5 1 j > 0 := by
                  have := cb_r P5 0 _ i rfl
                  have := cb_r P5 1 _ j rfl
                  refine Classical.byContradiction fun w => hn ?_
                  have e5 : P5 = P1 := by
                    unfold tn at et
                    split at et
                    · exact (Prod.mk.inj et).1.symm
                    · split at et
                      · have x1 := (Prod.mk.inj et).1
                        have x2 := (Prod.mk.inj (Prod.mk.inj et).2).1
                        rw [← x1]
                        have x3 := slp_eq A P1 0 (i - cb P1 0 i) i j
                        by_cases hm : mayS A P1 0 (i - cb P1 0 i) i j
                        · rw [if_pos hm] at x3
                          have x4 := congrArg Prod.snd x3
                          dsimp only at x4
                          have x5 := slp_r A 0 _ (sl1 P1 0 (i - cb P1 0 i) i j) (i - cb P1 0 i - 1) (i - 1) (j - 1) rfl
                          omega
                        · rw [if_neg hm] at x3
                          rw [x3]
                      · have x1 := (Prod.mk.inj et).1
                        have x2 := (Prod.mk.inj (Prod.mk.inj et).2).1
                        rw [← x1]
                        have x3 := slp_eq A P1 1 (j - cb P1 1 j) j i
                        by_cases hm : mayS A P1 1 (j - cb P1 1 j) j i
                        · rw [if_pos hm] at x3
                          have x4 := congrArg Prod.snd x3
                          dsimp only at x4
                          have x5 := slp_r A 1 _ (sl1 P1 1 (j - cb P1 1 j) j i) (j - cb P1 1 j - 1) (j - 1) (i - 1) rfl
                          omega
                        · rw [if_neg hm] at x3
                          rw [x3]
                  rw [e5] at w
                  omega
                omega
            refine ih _ (by omega) _ _ M5 P5 (f + 1) rfl (by omega) (by omega) (by omega) (by omega) (by omega) (hA1.fr F5) hP5 t1 t2 (by omega) (by omega) (F1.tr F5) (e512.trans e12) (fun M' v1 v2 v3 v4 => ?_)
            rw [sA_turn (by rw [et]; exact t3) (by rw [et]; exact t4), et] at hk
            exact hk M' v1 (by dsimp only; omega) v3 v4
          refine sg_X9_slideAll_72 ⟨by rw [hs0]; rcases bI_01 (cb P1 0 i = 0 ∨ cb P1 1 j = 0) with z | z <;> rw [z] <;> exact ⟨by decide, by decide⟩, fun w => ⟨⟨by omega, by omega⟩, ?_⟩, fun w => ⟨⟨by omega, by omega⟩, fun w2 => ⟨⟨by omega, by omega⟩, ⟨by omega, by omega⟩, ⟨by omega, by omega⟩, ?_⟩, fun w2 => ⟨⟨by omega, by omega⟩, ⟨by omega, by omega⟩, ⟨by omega, by omega⟩, ?_⟩⟩⟩
          · have hmix : 0 < cb P1 0 i ∧ 0 < cb P1 1 j := by
              refine Classical.byContradiction fun z => ?_
              rw [hs0, bI_t (by omega)] at w
              cases w
            refine tail M1 P1 0 hP1 (by omega) (FrR.rf M1) rfl (by omega) i0 j0 ?_
            unfold tn
            rw [if_pos (Or.inl hmix), Int.sub_zero, Int.sub_zero, r0.2.2, r1.2.2, Int.sub_zero, Int.sub_zero]
          · have z0 : cb P1 0 i = 0 := by omega
            have z1 : 0 < cb P1 1 j := by omega
            rw [z0, Int.zero_add]
            have C2 : Cut P1 1 (j - cb P1 1 j) i := Cut.back (Or.inr rfl) W1 (show i ≤ n (1 - 1) from i1) C1.sym
            have sr := slp_r A 1 _ P1 (j - cb P1 1 j) j i rfl
            obtain ⟨a1, a2, a3⟩ := slp_wf (A := A) (Or.inr rfl) _ P1 (j - cb P1 1 j) j i rfl W1 C2 (by omega) (by omega) j1 i0 (show i ≤ n (1 - 1) from i1) r1.1
            refine r_slideGap (Or.inr rfl) hA1 hP1 W1 ⟨i0, i1⟩ ⟨j0, j1⟩ (by omega) (by omega) (j - cb P1 1 j) j i (by rw [if_neg (by decide)]) (by rw [if_neg (by decide)]) rfl (by omega) C2 r1.1 r1.2.2 (show cb P1 (1 - 1) i = 0 from z0) (fun M5 u1 u2 u3 u4 _ => ⟨⟨by omega, by omega⟩, ?_⟩)
            refine tail M5 _ _ u1 u2 u3 u4 (by omega) (by omega) (by omega) ?_
            have ca := cb_add (slp A P1 1 (j - cb P1 1 j) j i).1 1 (cb P1 1 j).toNat (j - cb P1 1 j - (slp A P1 1 (j - cb P1 1 j) j i).2) (j - (slp A P1 1 (j - cb P1 1 j) j i).2) (by omega) (by omega) a3
            unfold tn
            rw [if_neg (by omega), if_neg (by omega)]
            refine Prod.ext rfl (Prod.ext rfl (Prod.ext rfl ?_))
            dsimp only
            omega
          · have z0 : 0 < cb P1 0 i := by omega
            have z1 : cb P1 1 j = 0 := by
              refine Classical.byContradiction fun z => w ?_
              rw [hs0]
              exact bI_f (by omega)
            rw [z1, Int.add_zero]
            have C2 : Cut P1 0 (i - cb P1 0 i) j := Cut.back (Or.inl rfl) W1 (show j ≤ n (1 - 0) from j1) C1
            have sr := slp_r A 0 _ P1 (i - cb P1 0 i) i j rfl
            obtain ⟨a1, a2, a3⟩ := slp_wf (A := A) (Or.inl rfl) _ P1 (i - cb P1 0 i) i j rfl W1 C2 (by omega) (by omega) i1 j0 (show j ≤ n (1 - 0) from j1) r0.1
            refine r_slideGap (Or.inl rfl) hA1 hP1 W1 ⟨i0, i1⟩ ⟨j0, j1⟩ (by omega) (by omega) (i - cb P1 0 i) i j (by rw [if_pos rfl]) (by rw [if_pos rfl]) rfl (by omega) C2 r0.1 r0.2.2 (show cb P1 (1 - 0) j = 0 from z1) (fun M5 u1 u2 u3 u4 _ => ⟨⟨by omega, by omega⟩, ?_⟩)
            refine tail M5 _ _ u1 u2 u3 u4 (by omega) (by omega) (by omega) ?_
            have ca := cb_add (slp A P1 0 (i - cb P1 0 i) i j).1 0 (cb P1 0 i).toNat (i - cb P1 0 i - (slp A P1 0 (i - cb P1 0 i) i j).2) (i - (slp A P1 0 (i - cb P1 0 i) i j).2) (by omega) (by omega) a3
            unfold tn
            rw [if_neg (by omega), if_pos (by omega)]
            refine Prod.ext rfl (Prod.ext rfl (Prod.ext ?_ rfl))
            dsimp only
            omega
        refine sg_X9_slideAll_27 ⟨⟨by omega, by omega⟩, r_countBack (Or.inl rfl) hP1 i0 (by omega) (fun _ => ⟨⟨by omega, by omega⟩, r_countBack (Or.inr rfl) hP1 j0 (by omega) (fun _ => ⟨⟨by omega, by omega⟩, fun w => ⟨fun w2 => gap (by omega) 1 (bI_t (Or.inl w2)).symm, fun w2 => ⟨fun w3 => gap (by omega) 0 (bI_f (by omega)).symm, fun w3 => gap (by omega) 1 (bI_t (Or.inr w3)).symm⟩⟩, fun w => ?_⟩)⟩)⟩
        have z0 : cb P1 0 i = 0 := by omega
        have z1 : cb P1 1 j = 0 := by omega
        obtain ⟨l1, l2, l3, l4⟩ := wf_last (Or.inl rfl) W1 C1 i0 i1 j0 (show j ≤ n (1 - 0) from j1) (fun z e => by have := r0.2.1; rw [z0, Int.sub_zero] at this; exact this z e) (fun z e => by have := r1.2.1; rw [z1, Int.sub_zero] at this; exact this z e) hij
        have l4 : P1 1 (j - 1) = i - 1 := l4
        rw [sA_pass z0 z1 l1 l2] at hk
        obtain ⟨Ws, Wm⟩ := W1 0 (Or.inl rfl)
        obtain ⟨Wo, Wn⟩ := W1 1 (Or.inr rfl)
        refine ih _ (by omega) (i + -1) (j + -1) M1 P1 f rfl (by omega) (by omega) (by omega) (by omega) (by omega) hA1 hP1 W1 ⟨fun x x0 x1 hx => ?_, fun y y0 y1 hy => ?_⟩ q0 (by omega) F1 e12 (by rw [show i + -1 = i - 1 by omega, show j + -1 = j - 1 by omega]; exact hk)
        · have := Wm x (i - 1) x0 (by omega) (by omega) hx (by omega)
          omega
        · have hy : P1 1 y ≠ -1 := hy
          show P1 1 y < _
          have := Wn y (j - 1) y0 (by omega) (by omega) hy (by omega)
          omega
      refine sg_X9_slideAll_19 ⟨⟨by omega, by omega⟩, fun w => body (Or.inl w), fun w => ⟨⟨by omega, by omega⟩, fun w2 => ?_, fun w2 => body (Or.inr (by omega))⟩⟩
      have ei : i = 0 := by omega
      have ej : j = 0 := by omega
      subst ei
      subst ej
      rw [sA_zero] at hk
      exact hk M1 hP1 (by dsimp only; omega) F1 e12
  refine en_X9_slideAll (sg_X9_slideAll_0 ?_)
  rw [hA.1, hA.2.1]
  have F1 : FrR M (mU M 88 13 0) := (FrR.rf M).up8 (by omega)
  refine loop _ (n 0) (n 1) _ P 9 rfl b1.1 (Int.le_refl _) b2.1 (Int.le_refl _) (by omega) (hA.fr F1) (hP.same (mU_ne (by decide))) W (Cut_full W) (by rw [mU_at]; omega) (by rw [mU_at]; omega) F1 (mU_nej (by decide)) (fun M' v1 v2 v3 v4 => h M' v1 (by rw [mU_at] at v2; omega) v3 v4)
theorem r_layKept {M : AM} {Q : AM → Prop} (hA : LAr M A n) (h : ∀ M', PAr M' (KP A n) → M' 88 12 = ANC A n → M' 88 13 = SLN A n → FrR M M' → Q M') : MetV g mX9_layKept (d + 6) [vR 88] M Q := by
  have b1 := hA.2.2.1
  have b2 := hA.2.2.2.1
  refine en_X9_layKept (sg_X9_layKept_0 (r_matchAll hA (fun M1 k1 k2 k3 => ?_)))
  refine r_slideAll (d := d + 2) (hA.fr k3) k1 (P0_wf b1.1 b2.1) (fun M2 j1 j2 j3 j4 => h M2 j1 (j4.trans k2) j2 (k3.tr j3))
end RSLIDE2
