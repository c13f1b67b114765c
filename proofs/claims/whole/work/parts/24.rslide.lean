/-! the reference's slides are the same -/
section RSLIDE
variable {g : AG} {d : Nat} {A : LF} {n : Int → Int}
theorem r_countBack {M : AM} {Q : Int → AM → Prop} {P : LF} {s i : Int} (hs : s = 0 ∨ s = 1) (hP : PAr M P) (h0 : 0 ≤ i) (h8 : i ≤ 8) (h : Q (cb P s i) M) : MetI g mX9_countBack (d + 1) [vR 88, vI s, vI i] M Q := by
  have loop : ∀ (m : Nat) (l : Int), i - l = m → 0 ≤ l → Q (l + cb P s (i - l)) M → S_X9_countBack_2 g (d + 1) s i l M Q := by
    intro m
    induction m with
    | zero =>
      intro l hl l0 hq
      refine sg_X9_countBack_2 ⟨⟨by omega, by omega⟩, fun _ => ⟨⟨by omega, by omega⟩, ?_⟩, fun w => by omega⟩
      rw [cb_eq, if_neg (by omega), Int.add_zero] at hq
      exact hq
    | succ m ih =>
      intro l hl l0 hq
      have e := hP s (i - l - 1) hs (by omega) (by omega)
      rw [show 16 * s + (i - l - 1) = 16 * s + i - l - 1 by omega] at e
      rw [cb_eq] at hq
      refine sg_X9_countBack_2 ⟨⟨by omega, by omega⟩, fun w => by omega, fun _ => ⟨⟨by omega, by omega⟩, fun w => ⟨⟨by omega, by omega⟩, ?_⟩, fun w => ?_⟩⟩
      · rw [e] at w
        rw [if_neg (fun z => w z.2), Int.add_zero] at hq
        exact hq
      · rw [e] at w
        rw [if_pos ⟨by omega, w⟩] at hq
        refine ih (l + 1) (by omega) (by omega) ?_
        rw [show i - (l + 1) = i - l - 1 by omega, Int.add_assoc]
        exact hq
  refine en_X9_countBack (sg_X9_countBack_0 (loop i.toNat 0 (by omega) (by omega) ?_))
  rw [Int.zero_add, Int.sub_zero]
  exact h
theorem r_isSliding {M : AM} {Q : Int → AM → Prop} {s to sz : Int} (hs : s = 0 ∨ s = 1) (hA : LAr M A n) (h1 : 1 ≤ sz) (h2 : 0 ≤ to - sz) (h3 : to ≤ n s) (h : Q (bI (1 ≤ to - sz ∧ A s (to - sz - 1) = A s (to - 1))) M) : MetI g mX9_isSliding (d + 1) [vR 88, vI s, vI to, vI sz] M Q := by
  have bn : n s ≤ 8 := by
    have b1 := hA.2.2.1
    have b2 := hA.2.2.2.1
    rcases hs with rfl | rfl <;> omega
  refine en_X9_isSliding (sg_X9_isSliding_0 ⟨⟨by omega, by omega⟩, fun w => ?_, fun w => ⟨⟨by omega, by omega⟩, ⟨by omega, by omega⟩, fun w2 => ?_, fun w2 => ?_⟩⟩)
  · rwa [bI_f (by omega)] at h
  · have e1 := hA.2.2.2.2 s (to - 1) hs (by omega) (by omega)
    have e2 := hA.2.2.2.2 s (to - sz - 1) hs (by omega) (by omega)
    rw [show 16 * s + (to - 1) = 16 * s + to - 1 by omega] at e1
    rw [e1, e2] at w2
    rwa [bI_f (fun q => w2 q.2.symm)] at h
  · have e1 := hA.2.2.2.2 s (to - 1) hs (by omega) (by omega)
    have e2 := hA.2.2.2.2 s (to - sz - 1) hs (by omega) (by omega)
    rw [show 16 * s + (to - 1) = 16 * s + to - 1 by omega] at e1
    rw [e1, e2] at w2
    rwa [bI_t ⟨by omega, w2.symm⟩] at h
theorem r_slide {M : AM} {Q : AM → Prop} {P : LF} {s to sz go : Int} (hs : s = 0 ∨ s = 1) (hP : PAr M P) (h1 : 1 ≤ sz) (h2 : 1 ≤ to - sz) (h3 : to ≤ 8) (h4 : 1 ≤ go ∧ go ≤ 8) (hp : P s (to - sz - 1) = go - 1) (h13 : 0 ≤ M 88 13 ∧ M 88 13 ≤ 1000)
    (h : ∀ M', PAr M' (sl1 P s (to - sz) to go) → M' 88 13 = M 88 13 + 1 → FrR M M' → M' 88 12 = M 88 12 → Q M') : MetV g mX9_slide (d + 1) [vR 88, vI s, vI to, vI sz] M Q := by
  have e1 := hP s (to - sz - 1) hs (by omega) (by omega)
  rw [hp] at e1
  refine en_X9_slide (sg_X9_slide_0 ?_)
  rw [e1]
  refine ⟨⟨by omega, by omega⟩, ⟨by omega, by omega⟩, ⟨by omega, by omega⟩, ⟨by omega, by omega⟩, ⟨by omega, by omega⟩, ?_⟩
  have hP3 := ((hP.set (v := -1) hs (show 0 ≤ to - sz - 1 ∧ to - sz - 1 < 16 by omega)).set (v := go - 1) hs (show 0 ≤ to - 1 ∧ to - 1 < 16 by omega)).set (s := 1 - s) (v := to - 1) (by omega) (show 0 ≤ go - 1 ∧ go - 1 < 16 by omega)
  rw [show 16 * s + (to - 1) = 16 * s + to - 1 by omega] at hP3
  refine h _ (hP3.same (mU_ne (by decide))) mU_at ((((FrR.rf M).up (by omega)).up (by omega)).up (by omega) |>.up8 (by omega)) ?_
  rw [mU_nej (by decide), mU_ne (by decide), mU_ne (by decide), mU_ne (by decide)]
/-- the test of the reference's loop is the class's -/
theorem may_iff {P : LF} {s gs ge go : Int} (hs : s = 0 ∨ s = 1) (W : WFs P n) (C : Cut P s gs go) (g0 : 0 ≤ gs) (g1 : gs ≤ n s) (o0 : 0 ≤ go) (o1 : go ≤ n (1 - s)) : mayS A P s gs ge go ↔ (1 ≤ gs ∧ A s (gs - 1) = A s (ge - 1)) ∧ cb P s gs = 0 ∧ cb P (1 - s) go = 0 := by
  have z1 : cb P s gs = 0 ↔ (0 < gs → P s (gs - 1) ≠ -1) := by
    have := cb_r P s _ (gs - 1) rfl
    rw [cb_eq]
    split
    · next h => exact ⟨fun z => by omega, fun z => absurd h.2 (z h.1)⟩
    · next h => exact ⟨fun _ z e => h ⟨z, e⟩, fun _ => rfl⟩
  have z2 : cb P (1 - s) go = 0 ↔ (0 < go → P (1 - s) (go - 1) ≠ -1) := by
    have := cb_r P (1 - s) _ (go - 1) rfl
    rw [cb_eq]
    split
    · next h => exact ⟨fun z => by omega, fun z => absurd h.2 (z h.1)⟩
    · next h => exact ⟨fun _ z e => h ⟨z, e⟩, fun _ => rfl⟩
  rw [z1, z2]
  constructor
  · intro h
    exact ⟨⟨h.1, h.2.2.2.2⟩, fun _ => h.2.2.1, fun _ => h.2.2.2.1⟩
  · rintro ⟨⟨q1, q2⟩, q3, q4⟩
    obtain ⟨l1, l2, l3, l4⟩ := wf_last hs W C g0 g1 o0 o1 q3 q4 (Or.inl (by omega))
    exact ⟨q1, by omega, q3 (by omega), q4 l2, q2⟩
theorem r_slideGap {M : AM} {Q : Int → AM → Prop} {P : LF} {s i j sz : Int} (hs : s = 0 ∨ s = 1) (hA : LAr M A n) (hP : PAr M P) (W : WFs P n) (i0 : 0 ≤ i ∧ i ≤ n 0) (j0 : 0 ≤ j ∧ j ≤ n 1) (hz : 1 ≤ sz) (h13 : 0 ≤ M 88 13 ∧ M 88 13 ≤ 800)
    (gs ge go : Int) (e0 : ge = if s = 0 then i else j) (e1 : go = if s = 0 then j else i) (e2 : gs = ge - sz) (g0 : 0 ≤ gs) (C : Cut P s gs go) (hr : ∀ x, gs ≤ x → x < ge → P s x = -1) (c0 : cb P s gs = 0) (c1 : cb P (1 - s) go = 0)
    (h : ∀ M', PAr M' (slp A P s gs ge go).1 → M' 88 13 = M 88 13 + (slp A P s gs ge go).2 → FrR M M' → M' 88 12 = M 88 12 → Q (slp A P s gs ge go).2 M') : MetI g mX9_slideGap (d + 2) [vR 88, vI s, vI i, vI j, vI sz] M Q := by
  have b1 := hA.2.2.1
  have b2 := hA.2.2.2.1
  have gn : ge ≤ n s ∧ go ≤ n (1 - s) ∧ 0 ≤ go := by
    rcases hs with rfl | rfl
    · rw [if_pos rfl] at e0 e1
      exact ⟨by omega, show go ≤ n 1 by omega, by omega⟩
    · rw [if_neg (by decide)] at e0 e1
      exact ⟨by omega, show go ≤ n 0 by omega, by omega⟩
  have bn : n s ≤ 8 ∧ n (1 - s) ≤ 8 := by rcases hs with rfl | rfl; exact ⟨b1.2, b2.2⟩; exact ⟨b2.2, b1.2⟩
  -- joined (l6 = 1): the end
  have stop : ∀ (k : Int) (M1 : AM), 0 ≤ k → k ≤ 8 → Q k M1 → S_X9_slideGap_6 g (d + 2) s i j sz k 1 M1 Q := fun k M1 k0 k8 hq => sg_X9_slideGap_6 ⟨⟨by decide, by decide⟩, fun _ => ⟨⟨by omega, by omega⟩, hq⟩, fun w => absurd w (by decide)⟩
  have loop : ∀ (m : Nat) (k : Int) (M1 : AM) (P1 : LF), (gs - k).toNat = m → 0 ≤ k → k ≤ gs → k ≤ go → LAr M1 A n → PAr M1 P1 → WFs P1 n → Cut P1 s (gs - k) (go - k) → (∀ x, gs - k ≤ x → x < ge - k → P1 s x = -1) → cb P1 s (gs - k) = 0 → cb P1 (1 - s) (go - k) = 0 → M1 88 13 = M 88 13 + k → FrR M M1 → M1 88 12 = M 88 12 →
      (∀ M', PAr M' (slp A P1 s (gs - k) (ge - k) (go - k)).1 → M' 88 13 = M 88 13 + (k + (slp A P1 s (gs - k) (ge - k) (go - k)).2) → FrR M M' → M' 88 12 = M 88 12 → Q (k + (slp A P1 s (gs - k) (ge - k) (go - k)).2) M') → S_X9_slideGap_6 g (d + 2) s i j sz k 0 M1 Q := by
    intro m
    induction m with
    | zero =>
      intro k M1 P1 hm k0 k1 k2 hA1 hP1 W1 C1 hr1 d0 d1 e13 F1 e12 hk
      have hn : ¬ mayS A P1 s (gs - k) (ge - k) (go - k) := by omega
      rw [slp_eq, if_neg hn] at hk
      have fin := hk M1 hP1 (by dsimp only; omega) F1 e12
      dsimp only at fin
      rw [Int.add_zero] at fin
      refine sg_X9_slideGap_6 ⟨⟨by decide, by decide⟩, fun w => absurd rfl w, fun _ => ⟨⟨by omega, by omega⟩, fun w => ⟨⟨by omega, by omega⟩, ⟨by omega, by omega⟩, ?_⟩, fun w => ⟨⟨by omega, by omega⟩, ⟨by omega, by omega⟩, ?_⟩⟩⟩
      · have hs1 : s = 1 := by omega
        subst hs1
        rw [if_neg (by decide)] at e0
        refine r_isSliding (Or.inr rfl) hA1 hz (by omega) (by omega) (fun _ => ⟨fun _ => ⟨⟨by omega, by omega⟩, fin⟩, fun w2 => absurd (bI_f (by omega)) w2⟩)
      · subst w
        rw [if_pos rfl] at e0
        refine r_isSliding (Or.inl rfl) hA1 hz (by omega) (by omega) (fun _ => ⟨fun _ => ⟨⟨by omega, by omega⟩, fin⟩, fun w2 => absurd (bI_f (by omega)) w2⟩)
    | succ m ih =>
      intro k M1 P1 hm k0 k1 k2 hA1 hP1 W1 C1 hr1 d0 d1 e13 F1 e12 hk
      have hmay := may_iff (A := A) (ge := ge - k) hs W1 C1 (by omega) (by omega) (by omega) (by omega)
      -- not sliding
      have no : ¬ (1 ≤ gs - k ∧ A s (gs - k - 1) = A s (ge - k - 1)) → rg k ∧ Q k M1 := by
        intro hn
        rw [slp_eq, if_neg (fun z => hn (hmay.mp z).1)] at hk
        have fin := hk M1 hP1 (by dsimp only; omega) F1 e12
        dsimp only at fin
        rw [Int.add_zero] at fin
        exact ⟨⟨by omega, by omega⟩, fin⟩
      -- sliding
      have yes : (1 ≤ gs - k ∧ A s (gs - k - 1) = A s (ge - k - 1)) → 1 ≤ go - k ∧ P1 s (ge - k - sz - 1) = go - k - 1 ∧ ∀ M2, PAr M2 (sl1 P1 s (ge - k - sz) (ge - k) (go - k)) → M2 88 13 = M1 88 13 + 1 → FrR M1 M2 → M2 88 12 = M1 88 12 → MetI g mX9_countBack (d + 1) [vR 88, vI 0, vI (i - (k + 1))] M2 (fun z19 M18 => rg z19 → (rg (j - (k + 1)) ∧ (MetI g mX9_countBack (d + 1) [vR 88, vI 1, vI (j - (k + 1))] M18 (fun z23 M22 => rg z23 → (rg (z19 + z23) ∧ (((z19 + z23) ≤ sz → (S_X9_slideGap_6 g (d + 2) s i j sz (k + 1) 0 M22 Q)) ∧ (¬ (z19 + z23) ≤ sz → (S_X9_slideGap_6 g (d + 2) s i j sz (k + 1) 1 M22 Q)))))))) := by
        intro hy
        have hM := hmay.mpr ⟨hy, d0, d1⟩
        obtain ⟨l1, l2, l3, l4⟩ := wf_last hs W1 C1 (by omega) (by omega) (by omega) (by omega) (fun _ => hM.2.2.1) (fun _ => hM.2.2.2.1) (Or.inl (by omega))
        refine ⟨by omega, by rw [show ge - k - sz = gs - k by omega]; exact l3, fun M2 u1 u2 u3 u4 => ?_⟩
        rw [show ge - k - sz = gs - k by omega] at u1
        rw [slp_eq, if_pos hM] at hk
        dsimp only at hk
        rw [show gs - k - 1 = gs - (k + 1) by omega, show ge - k - 1 = ge - (k + 1) by omega, show go - k - 1 = go - (k + 1) by omega] at hk
        generalize hP2 : sl1 P1 s (gs - k) (ge - k) (go - k) = P2 at u1 hk
        have W2 : WFs P2 n := by
          rw [← hP2]
          exact sl1_wf hs W1 hM.1 (by omega) (by omega) hM.2.1 (by omega) l3 hr1
        have C2 : Cut P2 s (gs - (k + 1)) (go - (k + 1)) := by
          obtain ⟨Ws, Wm⟩ := W1 s hs
          obtain ⟨Wo, Wn⟩ := W1 (1 - s) (by omega)
          rw [← hP2]
          refine ⟨fun x x0 x1 hx => ?_, fun y y0 y1 hy => ?_⟩
          · rw [sl1_c hs (by omega) (by omega)] at hx ⊢
            have := Wm x (gs - k - 1) x0 (by omega) (by omega) hx (by omega)
            omega
          · rw [sl1_e hs (by omega)] at hy ⊢
            have := Wn y (go - k - 1) y0 (by omega) (by omega) hy (by omega)
            omega
        have hr2 : ∀ x, gs - (k + 1) ≤ x → x < ge - (k + 1) → P2 s x = -1 := fun x q1 q2 => by
          rw [← hP2]
          by_cases e : x = gs - k - 1
          · rw [e]; exact sl1_b hs (by omega)
          · rw [sl1_c hs (by omega) e]
            exact hr1 x (by omega) (by omega)
        have cadd := cb_add P2 s _ (gs - (k + 1)) (ge - (k + 1)) (show ge - (k + 1) = gs - (k + 1) + (sz.toNat : Int) by omega) (by omega) hr2
        have cn1 := cb_r P2 s _ (gs - (k + 1)) rfl
        have cn2 := cb_r P2 (1 - s) _ (go - (k + 1)) rfl
        have hA2 := hA1.fr u3
        -- the two counts together
        have hsum : cb P2 0 (i - (k + 1)) + cb P2 1 (j - (k + 1)) = sz + (cb P2 s (gs - (k + 1)) + cb P2 (1 - s) (go - (k + 1))) := by
          rcases hs with rfl | rfl
          · rw [if_pos rfl] at e0 e1
            rw [e0] at cadd
            rw [cadd, e1]
            show _ = sz + (cb P2 0 (gs - (k + 1)) + cb P2 1 (j - (k + 1)))
            omega
          · rw [if_neg (by decide)] at e0 e1
            rw [e0] at cadd
            rw [cadd, e1]
            show _ = sz + (cb P2 1 (gs - (k + 1)) + cb P2 0 (i - (k + 1)))
            omega
        have hi1 : 0 ≤ i - (k + 1) ∧ i - (k + 1) ≤ 8 ∧ 0 ≤ j - (k + 1) ∧ j - (k + 1) ≤ 8 := by
          rcases hs with rfl | rfl
          · rw [if_pos rfl] at e0 e1
            omega
          · rw [if_neg (by decide)] at e0 e1
            omega
        refine r_countBack (Or.inl rfl) u1 hi1.1 hi1.2.1 (fun _ => ⟨⟨by omega, by omega⟩, r_countBack (Or.inr rfl) u1 hi1.2.2.1 hi1.2.2.2 (fun _ => ⟨⟨by omega, by omega⟩, fun w => ?_, fun w => ?_⟩)⟩)
        · refine ih (k + 1) M2 P2 (by omega) (by omega) (by omega) (by omega) hA2 u1 W2 C2 hr2 (by omega) (by omega) (by omega) (F1.tr u3) (u4.trans e12) (fun M' v1 v2 v3 v4 => ?_)
          have fin := hk M' v1 (by omega) v3 v4
          rw [show k + ((slp A P2 s (gs - (k + 1)) (ge - (k + 1)) (go - (k + 1))).2 + 1) = k + 1 + (slp A P2 s (gs - (k + 1)) (ge - (k + 1)) (go - (k + 1))).2 by omega] at fin
          exact fin
        · have hn : ¬ mayS A P2 s (gs - (k + 1)) (ge - (k + 1)) (go - (k + 1)) := fun z => by
            have := (may_iff (A := A) (ge := ge - (k + 1)) hs W2 C2 (by omega) (by omega) (by omega) (by omega)).mp z
            omega
          rw [slp_eq, if_neg hn] at hk
          dsimp only at hk
          refine stop (k + 1) M2 (by omega) (by omega) ?_
          have fin := hk M2 u1 (by omega) (F1.tr u3) (u4.trans e12)
          rw [Int.zero_add] at fin
          exact fin
      refine sg_X9_slideGap_6 ⟨⟨by decide, by decide⟩, fun w => absurd rfl w, fun _ => ⟨⟨by omega, by omega⟩, fun w => ⟨⟨by omega, by omega⟩, ⟨by omega, by omega⟩, ?_⟩, fun w => ⟨⟨by omega, by omega⟩, ⟨by omega, by omega⟩, ?_⟩⟩⟩
      · have hs1 : s = 1 := by omega
        subst hs1
        rw [if_neg (by decide)] at e0 e1
        have es : j - k - sz = gs - k := by omega
        refine r_isSliding (Or.inr rfl) hA1 hz (by omega) (by omega) (fun _ => ⟨fun w2 => no (fun z => by rw [es, show j - k = ge - k by omega, bI_t z] at w2; cases w2), fun w2 => ⟨fun _ => ?_, fun w3 => absurd w3 (by decide)⟩⟩)
        have hy : 1 ≤ gs - k ∧ A 1 (gs - k - 1) = A 1 (ge - k - 1) := Classical.byContradiction fun z => w2 (by rw [es, show j - k = ge - k by omega]; exact bI_f z)
        obtain ⟨y1, y2, y3⟩ := yes hy
        rw [show j - k = ge - k by omega]
        exact r_slide (Or.inr rfl) hP1 hz (by omega) (by omega) ⟨y1, by omega⟩ y2 (by omega) (fun M2 u1 u2 u3 u4 => ⟨⟨by omega, by omega⟩, y3 M2 u1 u2 u3 u4⟩)
      · subst w
        rw [if_pos rfl] at e0 e1
        have es : i - k - sz = gs - k := by omega
        refine r_isSliding (Or.inl rfl) hA1 hz (by omega) (by omega) (fun _ => ⟨fun w2 => no (fun z => by rw [es, show i - k = ge - k by omega, bI_t z] at w2; cases w2), fun w2 => ⟨fun w3 => absurd rfl w3, fun _ => ?_⟩⟩)
        have hy : 1 ≤ gs - k ∧ A 0 (gs - k - 1) = A 0 (ge - k - 1) := Classical.byContradiction fun z => w2 (by rw [es, show i - k = ge - k by omega]; exact bI_f z)
        obtain ⟨y1, y2, y3⟩ := yes hy
        rw [show i - k = ge - k by omega]
        exact r_slide (Or.inl rfl) hP1 hz (by omega) (by omega) ⟨y1, by omega⟩ y2 (by omega) (fun M2 u1 u2 u3 u4 => ⟨⟨by omega, by omega⟩, y3 M2 u1 u2 u3 u4⟩)
  refine en_X9_slideGap (sg_X9_slideGap_0 (loop gs.toNat 0 M P (by omega) (by omega) g0 gn.2.2 hA hP W (by rw [Int.sub_zero, Int.sub_zero]; exact C) (by rw [Int.sub_zero, Int.sub_zero]; exact hr) (by rw [Int.sub_zero]; exact c0) (by rw [Int.sub_zero]; exact c1) (by omega) (FrR.rf M) rfl ?_))
  rw [Int.sub_zero, Int.sub_zero, Int.sub_zero]
  intro M' v1 v2 v3 v4
  rw [Int.zero_add] at v2 ⊢
  exact h M' v1 v2 v3 v4
end RSLIDE
