/-! the reference's layScript -/
def FrL (M M' : AM) : Prop := (∀ k, k ≠ 88 → (k < 94 ∨ 103 < k) → M' k = M k) ∧ ∀ j, j ≠ 12 → j ≠ 13 → j ≠ 15 → j ≠ 22 → j ≠ 23 → M' 88 j = M 88 j
theorem LAr.fr' {M M' : AM} {A : LF} {n : Int → Int} (h : LAr M A n) (f1 : M' 92 = M 92) (f2 : M' 93 = M 93) : LAr M' A n := by
  obtain ⟨h1, h2, h3, h4, h5⟩ := h
  exact ⟨by rw [f2]; exact h1, by rw [f2]; exact h2, h3, h4, fun s i hs h0 hi => by rw [f1]; exact h5 s i hs h0 hi⟩
section RSCRIPT2
variable {g : AG} {d : Nat} {M : AM} {A : LF} {n : Int → Int}
theorem r_layScript {Q : AM → Prop} (hA : LAr M A n) (hR : ∀ s i, rg (A s i) ∧ 0 ≤ A s i)
    (h : ∀ M', PAr M' (KP A n) → M' 88 12 = ANC A n → M' 88 13 = SLN A n → StR M' (SCR A n) (GAPS A n) → (∀ s x, s = 0 ∨ s = 1 → 0 ≤ x → x < 8 → TR M' s x = CHG A n s x) → (∀ k : Nat, k < 15 → M' 103 k = -1) → FrL M M' → Q M') : MetV g mX9_layScript (d + 7) [vR 88] M Q := by
  have b1 := hA.2.2.1
  have b2 := hA.2.2.2.1
  have loop : ∀ (P : LF) (M0 : AM), LAr M0 A n → PAr M0 P → WFs P n → ∀ (m : Nat) (i j : Int) (M1 : AM) (L1 : List St) (G : Int), n 0 - i < m → 0 ≤ i → i ≤ n 0 → 0 ≤ j → j ≤ n 1 → 0 ≤ G → G ≤ i → Cut P 0 i j → StR M1 L1 G → (L1.length : Int) ≤ i + j →
      (∀ x : Int, i ≤ x → x < 8 → M1 102 x.toNat = -1) → (∀ x : Int, j ≤ x → x < 8 → M1 102 (16 + x).toNat = -1) → FrG M0 M1 →
      (∀ M', StR M' (L1 ++ scS A P n m i j G) (scG P n m i j G) → TbG (TR M1) (TR M') i j (chF A P n m i j) → FrG M0 M' → Q M') → S_X9_layScript_60 g (d + 7) i j M1 Q := by
    intro P M0 hA0 hP0 W m
    induction m with
    | zero => intro i j M1 L1 G h1 h2 h3; omega
    | succ m ih =>
      intro i j M1 L1 G h1 i0 i1 j0 j1 G0 G1 C hS hl z1 z2 gF hk
      rw [scS_s, scG_s] at hk
      have hA1 := hA0.fg gF
      have hP1 : PAr M1 P := hP0.same (gF.1 94 (by decide) (by decide))
      have ce := @chF_end A P n m i j
      have cg := @chF_go A P n m i j
      obtain ⟨wk1, wk2⟩ := walk W C i0 i1 j0 j1
      obtain ⟨p1, p2, _, _⟩ := nk_ok P n 0 i i1
      obtain ⟨q1, q2, _, _⟩ := nk_ok P n 1 j j1
      have c1 := @r_countGap g (d + 5) M1 A n
      have n93 : ∀ M2 : AM, FrG M0 M2 → M2 93 0 = n 0 ∧ M2 93 1 = n 1 := fun M2 f => ⟨(hA0.fg f).1, (hA0.fg f).2.1⟩
      have fin : ∀ (M2 : AM) (G2 : Int), G2 = G + gI i (nk P n 0 i) j (nk P n 1 j) → StR M2 (L1 ++ gpS A i (nk P n 0 i) j (nk P n 1 j) G) G2 → ((L1 ++ gpS A i (nk P n 0 i) j (nk P n 1 j) G).length : Int) ≤ nk P n 0 i + nk P n 1 j → TbG (TR M1) (TR M2) i j (cwF A i (nk P n 0 i) j (nk P n 1 j)) → FrG M0 M2 →
          (rg (nk P n 0 i) ∧ (((M2 93 0) ≤ (nk P n 0 i) → (S_X9_layScript_60 g (d + 7) (nk P n 0 i) (nk P n 1 j) M2 Q)) ∧ (¬ (M2 93 0) ≤ (nk P n 0 i) → (rg (nk P n 1 j) ∧ (MetV g mX9_addStep (d + 6) [vR 88, vI 0, vI (nk P n 0 i), vI (nk P n 1 j), vI 1065353216, vI (-1)] M2 (fun M27 => S_X9_layScript_60 g (d + 7) (nk P n 0 i + 1) (nk P n 1 j + 1) M27 Q)))))) := by
        intro M2 G2 eG s2 l2 y3 f2
        rw [← eG] at hk
        generalize nk P n 0 i = p at *
        generalize nk P n 1 j = q at *
        have gi : gI i p j q = 0 ∨ gI i p j q = 1 := by unfold gI; split <;> simp
        rw [(n93 M2 f2).1]
        refine ⟨⟨by omega, by omega⟩, fun w => ?_, fun w => ⟨⟨by omega, by omega⟩, ?_⟩⟩
        · rw [if_pos w, if_pos w, List.append_nil] at hk
          have hq : n 1 ≤ q := Classical.byContradiction fun c => by have := wk1.mpr (by omega); omega
          refine sg_X9_layScript_60 ⟨⟨by omega, by omega⟩, fun c => ?_, fun _ => ⟨⟨by omega, by omega⟩, fun _ => hk M2 s2 (by rw [ce w]; exact y3) f2, fun c => ?_⟩⟩
          · rw [(n93 M2 f2).1] at c; omega
          · rw [(n93 M2 f2).2] at c; omega
        · rw [if_neg w, if_neg w] at hk
          have wq := wk1.mp (by omega)
          refine r_addStep (d := d + 5) s2 (by omega) ⟨by decide, by decide⟩ ⟨by omega, by omega⟩ ⟨by omega, by omega⟩ ⟨by decide, by decide⟩ ⟨by decide, by decide⟩ (fun M3 k3 k4 k5 => ?_)
          have up : ∀ (s x : Int), s = 0 ∨ s = 1 → 0 ≤ x → x < 8 → lo (p + 1) (q + 1) s ≤ x → TR M3 s x = -1 := by
            intro s x hs x0 x1 hx
            have e : TR M3 s x = TR M2 s x := by unfold TR; rw [k5]
            rw [e, y3 s x hs x0 x1]
            unfold cwF
            rcases hs with rfl | rfl
            · rw [lo_0] at hx ⊢
              rw [if_neg (by omega), if_neg]
              rintro ⟨v, _, _⟩
              omega
            · rw [lo_1] at hx ⊢
              rw [if_neg (by omega), if_neg]
              rintro ⟨_, v, _⟩
              omega
          refine ih (p + 1) (q + 1) M3 _ G2 (by omega) (by omega) (by omega) (by omega) (by omega) (by omega) (by omega) (wk2 (by omega)) k3 (by rw [List.length_append] at *; simp at *; omega) (fun x x0 x1 => ?_) (fun x x0 x1 => ?_) (f2.tr k4) ?_
          · have := up 0 x (Or.inl rfl) (by omega) x1 x0
            unfold TR at this
            rw [show (16 : Int) * 0 + x = x by omega] at this
            exact this
          · have := up 1 x (Or.inr rfl) (by omega) x1 x0
            unfold TR at this
            rw [show (16 : Int) * 1 + x = 16 + x by omega] at this
            exact this
          · intro M4 m5 m6
            refine hk M4 ?_ (cg w p1 q1 y3 (fun s x hs x0 x1 => by rw [m6 s x hs x0 x1, show TR M3 s x = TR M2 s x from by unfold TR; rw [k5]]))
            rw [List.append_assoc, List.append_assoc] at m5
            rw [← List.append_assoc] at m5 ⊢
            exact m5
      have lens : ((L1 ++ gpS A i (nk P n 0 i) j (nk P n 1 j) G).length : Int) ≤ nk P n 0 i + nk P n 1 j := by
        have := dpS_len A i (nk P n 0 i) j (nk P n 1 j) G (nk P n 0 i - i).toNat 0
        have := adS_len A i (nk P n 0 i) j (nk P n 1 j) G (nk P n 1 j - j).toNat 0
        unfold gpS
        rw [List.length_append, List.length_append]
        omega
      have inner : ∀ M8 : AM, M8 = M1 → (rg ((nk P n 0 i - i) + (nk P n 1 j - j)) ∧ ((((nk P n 0 i - i) + (nk P n 1 j - j)) ≤ 0 → (rg (i + (nk P n 0 i - i)) ∧ (((M8 93 0) ≤ (i + (nk P n 0 i - i)) → (S_X9_layScript_60 g (d + 7) (i + (nk P n 0 i - i)) (j + (nk P n 1 j - j)) M8 Q)) ∧ (¬ (M8 93 0) ≤ (i + (nk P n 0 i - i)) → (rg (j + (nk P n 1 j - j)) ∧ (MetV g mX9_addStep (d + 6) [vR 88, vI 0, vI (i + (nk P n 0 i - i)), vI (j + (nk P n 1 j - j)), vI 1065353216, vI (-1)] M8 (fun M17 => S_X9_layScript_60 g (d + 7) ((i + (nk P n 0 i - i)) + 1) ((j + (nk P n 1 j - j)) + 1) M17 Q))))))) ∧ (¬ ((nk P n 0 i - i) + (nk P n 1 j - j)) ≤ 0 → (MetV g mX9_layGap (d + 6) [vR 88, vI i, vI j, vI (nk P n 0 i - i), vI (nk P n 1 j - j)] M8 (fun M20 => rg (i + (nk P n 0 i - i)) ∧ (((M20 93 0) ≤ (i + (nk P n 0 i - i)) → (S_X9_layScript_60 g (d + 7) (i + (nk P n 0 i - i)) (j + (nk P n 1 j - j)) M20 Q)) ∧ (¬ (M20 93 0) ≤ (i + (nk P n 0 i - i)) → (rg (j + (nk P n 1 j - j)) ∧ (MetV g mX9_addStep (d + 6) [vR 88, vI 0, vI (i + (nk P n 0 i - i)), vI (j + (nk P n 1 j - j)), vI 1065353216, vI (-1)] M20 (fun M27 => S_X9_layScript_60 g (d + 7) ((i + (nk P n 0 i - i)) + 1) ((j + (nk P n 1 j - j)) + 1) M27 Q)))))))))) := by
        intro M8 e8
        subst e8
        rw [show i + (nk P n 0 i - i) = nk P n 0 i by omega, show j + (nk P n 1 j - j) = nk P n 1 j by omega]
        refine ⟨⟨by omega, by omega⟩, fun w => ?_, fun w => ?_⟩
        · refine fin M8 G (by unfold gI; rw [if_neg (by omega)]; omega) ?_ lens ?_ gF
          · unfold gpS
            rw [show (nk P n 0 i - i).toNat = 0 by omega, show (nk P n 1 j - j).toNat = 0 by omega]
            rw [show ([] : List St) = [] ++ [] from rfl] at *
            exact (List.append_nil L1).symm ▸ hS
          · intro s x hs x0 x1
            unfold cwF
            by_cases c : x < lo i j s
            · rw [if_pos c]
            · rw [if_neg c, if_neg]
              · rcases hs with rfl | rfl
                · rw [lo_0] at c
                  unfold TR
                  rw [show (16 : Int) * 0 + x = x by omega]
                  exact z1 x (by omega) x1
                · rw [lo_1] at c
                  unfold TR
                  rw [show (16 : Int) * 1 + x = 16 + x by omega]
                  exact z2 x (by omega) x1
              · rintro ⟨c1, c2, _⟩
                rcases hs with rfl | rfl
                · rw [lo_0] at c c1
                  omega
                · rw [lo_1] at c c2
                  omega
        · refine r_layGap (d := d + 1) hA1 hR hS hl i0 p1 p2 j0 q1 q2 ⟨G0, by omega⟩ z1 z2 (fun M2 k1 k2 k3 => ?_)
          exact fin M2 (G + 1) (by unfold gI; rw [if_pos (by omega)]) k1 lens k2 (gF.tr k3)
      have m0 := (n93 M1 gF).1
      have m1 := (n93 M1 gF).2
      refine sg_X9_layScript_60 ⟨⟨by omega, by omega⟩, fun w => ?_, fun w => ⟨⟨by omega, by omega⟩, fun w2 => ?_, fun w2 => ?_⟩⟩
      · refine r_countGap (d := d + 5) (Or.inl rfl) hA1 hP1 i0 i1 (fun _ => ⟨⟨by omega, by omega⟩, ?_⟩)
        exact r_countGap (d := d + 5) (Or.inr rfl) hA1 hP1 j0 j1 (fun _ => inner M1 rfl)
      · rw [m0] at w
        rw [m1] at w2
        have ep : nk P n 0 i = i := nk_end (by omega)
        have eq : nk P n 1 j = j := nk_end (by omega)
        obtain ⟨v1, v2⟩ := (inner M1 rfl).2
        have v3 := (v1 (by omega)).2.1 (by rw [m0]; omega)
        have fn := fin M1 G (by unfold gI; rw [if_neg (by omega)]; omega)
        rw [ep, eq, if_pos (by omega), if_pos (by omega), List.append_nil] at hk
        refine hk M1 ?_ ?_ gF
        · unfold gpS gI
          rw [show (i - i).toNat = 0 by omega, show (j - j).toNat = 0 by omega, if_neg (by omega), Int.add_zero]
          exact (List.append_nil L1).symm ▸ hS
        · rw [ce (by omega)]
          intro s x hs x0 x1
          unfold cwF
          by_cases c : x < lo i j s
          · rw [if_pos c]
          · rw [if_neg c, if_neg]
            · rcases hs with rfl | rfl
              · rw [lo_0] at c
                unfold TR
                rw [show (16 : Int) * 0 + x = x by omega]
                exact z1 x (by omega) x1
              · rw [lo_1] at c
                unfold TR
                rw [show (16 : Int) * 1 + x = 16 + x by omega]
                exact z2 x (by omega) x1
            · rintro ⟨c1, c2, _⟩
              rw [ep] at c1
              rw [eq] at c2
              rcases hs with rfl | rfl
              · rw [lo_0] at c c1
                omega
              · rw [lo_1] at c c2
                omega
      · refine r_countGap (d := d + 5) (Or.inl rfl) hA1 hP1 i0 i1 (fun _ => ?_)
        exact r_countGap (d := d + 5) (Or.inr rfl) hA1 hP1 j0 j1 (fun _ => inner M1 rfl)
  have clr : ∀ (M0 : AM), LAr M0 A n → PAr M0 (KP A n) → M0 88 12 = ANC A n → M0 88 13 = SLN A n → (∀ k : Nat, k < 15 → M0 103 k = -1) → FrL M M0 → ∀ (m : Nat) (l : Int) (M1 : AM), l + m = 32 → 0 ≤ l → M1 88 22 = 0 → M1 88 23 = 0 → (∀ x : Int, 0 ≤ x → x < l → M1 102 x.toNat = -1) → FrG M0 M1 → S_X9_layScript_37 g (d + 7) l M1 Q := by
    intro M0 y1 y2 y3 y4 y5 y6 m
    induction m with
    | zero =>
      intro l M1 hm l0 e1 e2 hz gF
      refine sg_X9_layScript_37 ⟨⟨by omega, by omega⟩, fun _ => ?_, fun w => by omega⟩
      refine loop (KP A n) M0 y1 y2 (KP_wf b1.1 b2.1) 9 0 0 M1 [] 0 (by omega) (by decide) (by omega) (by decide) (by omega) (by decide) (by decide) ⟨fun x x0 x1 => by omega, fun x x0 x1 => by omega⟩ ⟨e1, e2, fun k hk => absurd hk (Nat.not_lt_zero _)⟩ (by decide) (fun x x0 x1 => hz x x0 (by omega)) (fun x x0 x1 => hz (16 + x) (by omega) (by omega)) gF ?_
      rw [List.nil_append]
      intro M2 q1 q2 q3
      refine h M2 (y2.same (q3.1 94 (by decide) (by decide))) (by rw [q3.2 12 (by decide) (by decide)]; exact y3) (by rw [q3.2 13 (by decide) (by decide)]; exact y4) q1 (fun s x hs x0 x1 => ?_) (by rw [q3.1 103 (by decide) (by decide)]; exact y5) ⟨fun k r1 r2 => by rw [q3.1 k r1 (by omega)]; exact y6.1 k r1 r2, fun j r1 r2 r3 r4 r5 => by rw [q3.2 j r4 r5]; exact y6.2 j r1 r2 r3 r4 r5⟩
      rw [q2 s x hs x0 x1, if_neg]
      · rfl
      · rcases hs with rfl | rfl
        · rw [lo_0]; omega
        · rw [lo_1]; omega
    | succ m ih =>
      intro l M1 hm l0 e1 e2 hz gF
      refine sg_X9_layScript_37 ⟨⟨by omega, by omega⟩, fun w => by omega, fun _ => ⟨⟨by omega, by omega⟩, ?_⟩⟩
      refine ih (l + 1) _ (by omega) (by omega) (by rw [mU_ne (by decide)]; exact e1) (by rw [mU_ne (by decide)]; exact e2) (fun x x0 x1 => ?_) ⟨fun k r1 r2 => by rw [mU_ne (by omega)]; exact gF.1 k r1 r2, fun j r1 r2 => by rw [mU_ne (by decide)]; exact gF.2 j r1 r2⟩
      by_cases e : x = l
      · subst e
        rw [mU_at]
      · rw [mU_nej (by omega)]
        exact hz x x0 (by omega)
  have rck : ∀ (m : Nat) (l : Int) (M1 : AM), l + m = 15 → 0 ≤ l → (∀ k : Nat, (k : Int) < l → M1 103 k = -1) → (∀ k, k ≠ 103 → M1 k = M k) → S_X9_layScript_2 g (d + 7) l M1 Q := by
    intro m
    induction m with
    | zero =>
      intro l M1 hm l0 hz gF
      refine sg_X9_layScript_2 ⟨⟨by omega, by omega⟩, fun _ => ?_, fun w => by omega⟩
      have hA1 : LAr M1 A n := hA.fr' (gF 92 (by decide)) (gF 93 (by decide))
      refine r_layKept hA1 (fun M2 k1 k2 k3 k4 => ?_)
      have hA2 := hA1.fr k4
      have w : ∀ k, k ≠ 88 → mU (mU M2 88 22 0) 88 23 0 k = M2 k := fun k hk => by rw [mU_ne hk, mU_ne hk]
      refine clr (mU (mU M2 88 22 0) 88 23 0) (hA2.fr' (w 92 (by decide)) (w 93 (by decide))) (k1.same (w 94 (by decide))) ?_ ?_ (fun k hk => ?_) ⟨fun k r1 r2 => ?_, fun j r1 r2 r3 r4 r5 => ?_⟩ 32 0 _ (by decide) (by decide) ?_ mU_at (fun x x0 x1 => by omega) (FrG.rf _)
      · rw [mU_nej (by decide), mU_nej (by decide)]; exact k2
      · rw [mU_nej (by decide), mU_nej (by decide)]; exact k3
      · rw [w 103 (by decide), k4.1 103 (by decide) (by decide)]
        exact hz k (by omega)
      · rw [w k r1, k4.1 k r1 (by omega)]
        exact gF k (by omega)
      · rw [mU_nej r5, mU_nej r4, k4.2 j r1 r2 r3, gF 88 (by decide)]
      · rw [mU_nej (by decide), mU_at]
    | succ m ih =>
      intro l M1 hm l0 hz gF
      refine sg_X9_layScript_2 ⟨⟨by omega, by omega⟩, fun w => by omega, fun _ => ⟨⟨by omega, by omega⟩, ?_⟩⟩
      refine ih (l + 1) _ (by omega) (by omega) (fun k hk => ?_) (fun k hk => by rw [mU_ne hk]; exact gF k hk)
      by_cases e : k = l.toNat
      · subst e
        rw [mU_at]
      · rw [mU_nej e]
        exact hz k (by omega)
  exact en_X9_layScript (sg_X9_layScript_0 (rck 15 0 M (by decide) (by decide) (fun k hk => by omega) (fun _ _ => rfl)))
end RSCRIPT2
