theorem MetA.rm {g : AG} {n : MI} {d : Nat} {as : List AV} {M : AM} {Q : Option AV → AM → Prop} (h : RM M → MetA g n d as M Q) : MetA g n d as M Q := by
  intro p e ha hc hk s m args below hf happ hP hK
  exact h hP.2.2.1 p e ha hc hk s m args below hf happ hP hK
theorem MetI.rm {g : AG} {n : MI} {d : Nat} {as : List AV} {M : AM} {Q : Int → AM → Prop} (h : RM M → MetI g n d as M Q) : MetI g n d as M Q := MetA.rm h
theorem MetV.rm {g : AG} {n : MI} {d : Nat} {as : List AV} {M : AM} {Q : AM → Prop} (h : RM M → MetV g n d as M Q) : MetV g n d as M Q := MetA.rm h
/-! the anchors' weights -/
theorem mxl_cons (n : Int) (q : Int × Int × Int) (w : List (Int × Int × Int)) (m : Int) : mxl n (q :: w) m = mxl n w (if n < q.2.1 ∧ m < q.2.2 then q.2.2 else m) := rfl
theorem pck_cons (q : Int × Int × Int) (w : List (Int × Int × Int)) (want last : Int) : pck (q :: w) want last = if q.2.2 = want ∧ last < q.2.1 then (q.1, q.2.1) :: pck w (want - 1) q.2.1 else pck w want last := rfl
def WW (A : LF) (a b c e x : Int) : List (Int × Int × Int) := anW (anL A a b c e x)
theorem WW_y {A : LF} {a b c e x : Int} (h : x < b) (hy : isAn A a b c e x) : WW A a b c e x = (x, plc (A 1) (A 0 x) c e, 1 + mxl (plc (A 1) (A 0 x) c e) (WW A a b c e (x + 1)) 0) :: WW A a b c e (x + 1) := by
  unfold WW
  rw [anL_eq, if_pos h, if_pos hy]
  rfl
theorem WW_n {A : LF} {a b c e x : Int} (hy : ¬ isAn A a b c e x) : WW A a b c e x = WW A a b c e (x + 1) := by
  unfold WW
  by_cases h : x < b
  · rw [anL_eq, if_pos h, if_neg hy]
  · rw [anL_eq, if_neg h, anL_eq A a b c e (x + 1), if_neg (by omega)]
theorem WW_e {A : LF} {a b c e x : Int} (h : b ≤ x) : WW A a b c e x = [] := by
  unfold WW
  rw [anL_eq, if_neg (by omega)]
  rfl
theorem anL_len {A : LF} {a b c e : Int} : ∀ (m : Nat) (x : Int), (b - x).toNat = m → (anL A a b c e x).length ≤ m := by
  intro m
  induction m with
  | zero =>
    intro x hx
    rw [anL_eq, if_neg (by omega)]
    exact Nat.le_refl _
  | succ m ih =>
    intro x hx
    rw [anL_eq, if_pos (by omega)]
    have := ih (x + 1) (by omega)
    split
    · simp only [List.length_cons]
      omega
    · omega
theorem WW_len {A : LF} {a b c e x : Int} (q : Int × Int × Int) (h : q ∈ WW A a b c e x) : 1 ≤ q.2.2 ∧ q.2.2 ≤ (b - x).toNat := by
  have h1 := anW_mem _ q h
  have h2 := anL_len (A := A) (a := a) (b := b) (c := c) (e := e) _ x rfl
  omega
def cfS (A : LF) (a b c e x : Int) : Int := if isAn A a b c e x then 1 + mxl (plc (A 1) (A 0 x) c e) (WW A a b c e (x + 1)) 0 else 0
theorem cfS_r {A : LF} {a b c e x : Int} (h : x < b) : 0 ≤ cfS A a b c e x ∧ cfS A a b c e x ≤ b - x := by
  unfold cfS
  split
  · have h1 := mxl_r (plc (A 1) (A 0 x) c e) (WW A a b c e (x + 1)) 0
    have h2 := mxl_ub (plc (A 1) (A 0 x) c e) (b - x - 1) (WW A a b c e (x + 1)) 0 (fun q hq => by have := (WW_len q hq).2; omega) (by omega)
    omega
  · omega
section MATCH2
variable {g : AG} {d : Nat} {M : AM} {o : Nat} {A : LF} {n : Int → Int}
theorem c_measureChains {Q : Int → AM → Prop} {a b c e : Int} (hm : IsMatch o) (h0 : 0 ≤ a) (h1 : a ≤ b) (h2 : b ≤ 8) (h3 : 0 ≤ c) (h5 : e ≤ 8) (hW : ∀ x, a ≤ x → x < b → M (o + 20) x.toNat = an0 A a b c e x)
    (h : ∀ M', (∀ x, a ≤ x → x < b → M' (o + 21) x.toNat = cfS A a b c e x) → (∀ k, k ≠ o + 21 → M' k = M k) → Q (mxa (WW A a b c e a) 0) M') : MetI g mX2_measureChains (d + 1) [vR o, vI a, vI b] M Q := by
  have outer : ∀ (m : Nat) (x l : Int) (M1 : AM), x = a - 1 + m → x < b → (∀ y, x < y → y < b → M1 (o + 21) y.toNat = cfS A a b c e y) → (∀ k, k ≠ o + 21 → M1 k = M k) → IsMx (WW A a b c e (x + 1)) l → 0 ≤ l → l ≤ 8 → S_X2_measureChains_7 g (d + 1) o a b l x M1 Q := by
    intro m
    induction m with
    | zero =>
      intro x l M1 hx hxb g1 g2 g3 l0 l8
      refine sg_X2_measureChains_7 hm ⟨⟨by omega, by omega⟩, ⟨by omega, by omega⟩, fun _ => ⟨⟨by omega, by omega⟩, ?_⟩, fun w => by omega⟩
      rw [show x + 1 = a by omega] at g3
      rw [IsMx_un g3 (mxa_mx _ (fun q hq => (WW_len q hq).1))]
      exact h M1 (fun y p1 p2 => g1 y (by omega) p2) g2
    | succ m ih =>
      intro x l M1 hx hxb g1 g2 g3 l0 l8
      have ea : ∀ y, a ≤ y → y < b → M1 (o + 20) y.toNat = an0 A a b c e y := fun y p1 p2 => by rw [g2 _ (by omega)]; exact hW y p1 p2
      refine sg_X2_measureChains_7 hm ⟨⟨by omega, by omega⟩, ⟨by omega, by omega⟩, fun w => by omega, fun _ => ⟨⟨by omega, by omega⟩, fun w => ?_, fun w => ?_⟩⟩
      · rw [ea x (by omega) hxb, ← Ne, an0_ne h3] at w
        have en : an0 A a b c e x = plc (A 1) (A 0 x) c e := by unfold an0; rw [if_pos w]
        have inner : ∀ (k : Nat) (y l5 : Int) (M2 : AM), b = y + k → x < y → 0 ≤ l5 → l5 ≤ b - x - 1 → (∀ z, x < z → z < b → M2 (o + 21) z.toNat = cfS A a b c e z) → (∀ k, k ≠ o + 21 → M2 k = M k) → mxl (plc (A 1) (A 0 x) c e) (WW A a b c e y) l5 = mxl (plc (A 1) (A 0 x) c e) (WW A a b c e (x + 1)) 0 → S_X2_measureChains_44 g (d + 1) o a b l x l5 y M2 Q := by
          intro k
          induction k with
          | zero =>
            intro y l5 M2 hy hxy p0 p8 q1 q2 q3
            refine sg_X2_measureChains_44 hm ⟨⟨by omega, by omega⟩, ⟨by omega, by omega⟩, fun _ => ⟨⟨by omega, by omega⟩, ⟨by omega, by omega⟩, ⟨by omega, by omega⟩, ?_⟩, fun w => by omega⟩
            rw [WW_e (by omega)] at q3
            have q3 : l5 = mxl (plc (A 1) (A 0 x) c e) (WW A a b c e (x + 1)) 0 := q3
            refine ih (x + -1) _ _ (by omega) (by omega) (fun z p1 p2 => ?_) (fun k hk => by rw [mU_ne hk]; exact q2 k hk) ?_ (by split <;> omega) (by split <;> omega)
            · by_cases ez : z = x
              · subst ez
                rw [mU_at]
                unfold cfS
                rw [if_pos w, ← q3]
                omega
              · rw [mU_nej (by omega)]
                exact q1 z (by omega) p2
            · rw [show x + -1 + 1 = x by omega, WW_y hxb w, ← q3]
              refine ⟨fun q hq => ?_, ?_⟩
              · rcases List.mem_cons.mp hq with rfl | hq
                · dsimp only
                  split <;> omega
                · have := g3.1 q hq
                  split <;> omega
              · by_cases hl : l < l5 + 1
                · rw [if_pos hl]
                  exact Or.inr ⟨_, List.mem_cons_self, by dsimp only; omega⟩
                · rw [if_neg hl]
                  rcases g3.2 with ⟨-, e0⟩ | ⟨q, hq, e0⟩
                  · omega
                  · exact Or.inr ⟨q, List.mem_cons_of_mem _ hq, e0⟩
          | succ k ihk =>
            intro y l5 M2 hy hxy p0 p8 q1 q2 q3
            have eb : ∀ z, a ≤ z → z < b → M2 (o + 20) z.toNat = an0 A a b c e z := fun z p1 p2 => by rw [q2 _ (by omega)]; exact hW z p1 p2
            have ey := eb y (by omega) (by omega)
            have ex := eb x (by omega) hxb
            have hcf := q1 y hxy (by omega)
            have hcr := cfS_r (A := A) (a := a) (b := b) (c := c) (e := e) (show y < b by omega)
            have hpl := plc_ok (A 1) (A 0 x) _ c e rfl (by rw [w.2]; omega)
            refine sg_X2_measureChains_44 hm ⟨⟨by omega, by omega⟩, ⟨by omega, by omega⟩, fun w => by omega, fun _ => ⟨⟨by omega, by omega⟩, ⟨by omega, by omega⟩, fun w2 => ?_, fun w2 => ⟨⟨by omega, by omega⟩, ?_⟩⟩⟩
            · refine ihk (y + 1) l5 M2 (by omega) (by omega) p0 p8 q1 q2 ?_
              rw [ey, ex, en] at w2
              by_cases hy2 : isAn A a b c e y
              · rw [WW_y (by omega) hy2, mxl_cons, if_neg] at q3
                · exact q3
                · rintro ⟨q4, -⟩
                  dsimp only at q4
                  unfold an0 at w2
                  rw [if_pos hy2] at w2
                  omega
              · rw [WW_n hy2] at q3
                exact q3
            · have hy2 : isAn A a b c e y := Classical.byContradiction fun q => by
                rw [ey, ex, en] at w2
                unfold an0 at w2
                rw [if_neg q] at w2
                omega
              refine ihk (y + 1) _ M2 (by omega) (by omega) (by split <;> omega) (by rw [hcf]; split <;> omega) q1 q2 ?_
              rw [ey, ex, en] at w2
              unfold an0 at w2
              rw [if_pos hy2] at w2
              rw [WW_y (by omega) hy2, mxl_cons] at q3
              dsimp only at q3
              rw [← q3, hcf]
              unfold cfS
              rw [if_pos hy2]
              congr 1
              by_cases hl : l5 < 1 + mxl (plc (A 1) (A 0 y) c e) (WW A a b c e (y + 1)) 0
              · rw [if_pos hl, if_pos ⟨by omega, hl⟩]
              · rw [if_neg hl, if_neg (fun q => hl q.2)]
        exact inner (b - x - 1).toNat (x + 1) 0 _ (by omega) (by omega) (by omega) (by omega) (fun z p1 p2 => by rw [mU_nej (by omega)]; exact g1 z p1 p2) (fun k hk => by rw [mU_ne hk]; exact g2 k hk) rfl
      · rw [ea x (by omega) hxb] at w
        have hn : ¬ isAn A a b c e x := fun q => (an0_ne h3).mpr q w
        refine ih (x + -1) l _ (by omega) (by omega) (fun y p1 p2 => ?_) (fun k hk => by rw [mU_ne hk]; exact g2 k hk) ?_ l0 l8
        · by_cases ey : y = x
          · subst ey
            rw [mU_at]
            unfold cfS
            rw [if_neg hn]
          · rw [mU_nej (by omega)]
            exact g1 y (by omega) p2
        · rw [show x + -1 + 1 = x by omega, WW_n hn]
          exact g3
  refine en_X2_measureChains (sg_X2_measureChains_0 hm (outer (b - a).toNat (b - 1) 0 M (by omega) (by omega) (fun y p1 p2 => by omega) (fun _ _ => rfl) ?_ (by omega) (by omega)))
  rw [WW_e (by omega)]
  exact ⟨fun q hq => absurd hq List.not_mem_nil, Or.inl ⟨rfl, rfl⟩⟩
theorem c_keepLongestChain {Q : Int → AM → Prop} {a b c e : Int} {P : LF} (hm : IsMatch o) (h0 : 0 ≤ a) (h1 : a ≤ b) (h2 : b ≤ 8) (h3 : 0 ≤ c) (h5 : e ≤ 8) (hW : ∀ x, a ≤ x → x < b → M (o + 20) x.toNat = an0 A a b c e x) (hP : PAm M o P) (h7 : 0 ≤ M o 7 ∧ M o 7 ≤ 1000)
    (h : ∀ M', PAm M' o (kps (chn A a b c e) P) → M' o 7 = M o 7 + (chn A a b c e).length → FrM o M M' → Q (bI (anL A a b c e a ≠ [])) M') : MetI g mX2_keepLongestChain (d + 2) [vR o, vI a, vI b] M Q := by
  have loop : ∀ (m : Nat) (x l3 l4 l5 : Int) (M1 : AM) (P1 : LF), b = x + m → a ≤ x → 0 ≤ l3 ∧ l3 ≤ 8 → -1 ≤ l5 ∧ l5 < 8 → l4 = bI (anL A a b c e a ≠ []) → (∀ y, a ≤ y → y < b → M1 (o + 20) y.toNat = an0 A a b c e y) → (∀ y, a ≤ y → y < b → M1 (o + 21) y.toNat = cfS A a b c e y) → PAm M1 o P1 → FrM o M M1 → 0 ≤ M1 o 7 ∧ M1 o 7 ≤ 1000 + (x - a) →
      (∀ M', PAm M' o (kps (pck (WW A a b c e x) l3 l5) P1) → M' o 7 = M1 o 7 + (pck (WW A a b c e x) l3 l5).length → FrM o M M' → Q l4 M') → S_X2_keepLongestChain_24 g (d + 2) o b l3 l4 l5 x M1 Q := by
    intro m
    induction m with
    | zero =>
      intro x l3 l4 l5 M1 P1 hx hax r3 r5 e4 g1 g2 g3 g4 g5 hk
      refine sg_X2_keepLongestChain_24 hm ⟨⟨by omega, by omega⟩, ⟨by omega, by omega⟩, fun _ => ⟨by rw [e4]; exact bI_01 _, ?_⟩, fun w => by omega⟩
      rw [WW_e (by omega)] at hk
      refine hk M1 g3 ?_ g4
      show M1 o 7 = M1 o 7 + 0
      omega
    | succ m ih =>
      intro x l3 l4 l5 M1 P1 hx hax r3 r5 e4 g1 g2 g3 g4 g5 hk
      have ex := g1 x hax (by omega)
      have ec := g2 x hax (by omega)
      have hcr := cfS_r (A := A) (a := a) (b := b) (c := c) (e := e) (show x < b by omega)
      have hr := an0_r (A := A) (a := a) (b := b) (c := c) (e := e) (x := x) h3 h5
      have skip : ¬ (isAn A a b c e x ∧ cfS A a b c e x = l3 ∧ l5 < an0 A a b c e x) → S_X2_keepLongestChain_24 g (d + 2) o b l3 l4 l5 (x + 1) M1 Q := by
        intro hn
        refine ih (x + 1) l3 l4 l5 M1 P1 (by omega) (by omega) r3 r5 e4 g1 g2 g3 g4 (by omega) ?_
        by_cases hy : isAn A a b c e x
        · rw [WW_y (by omega) hy, pck_cons, if_neg] at hk
          · exact hk
          · rintro ⟨q1, q2⟩
            refine hn ⟨hy, ?_, ?_⟩
            · unfold cfS
              rw [if_pos hy]
              exact q1
            · unfold an0
              rw [if_pos hy]
              exact q2
        · rw [WW_n hy] at hk
          exact hk
      refine sg_X2_keepLongestChain_24 hm ⟨⟨by omega, by omega⟩, ⟨by omega, by omega⟩, fun w => by omega, fun _ => ⟨⟨by omega, by omega⟩, ⟨by omega, by omega⟩, fun w => ?_, fun w => ⟨⟨by omega, by omega⟩, fun w2 => ?_, fun w2 => ?_⟩⟩⟩
      · rw [ex] at w
        exact skip (by omega)
      · rw [ec] at w2
        exact skip (fun q => w2 q.2.1)
      · rw [ex] at w ⊢
        rw [ec] at w2
        have hy : isAn A a b c e x := (an0_ne h3).mp (by omega)
        have en : an0 A a b c e x = plc (A 1) (A 0 x) c e := by unfold an0; rw [if_pos hy]
        have hl3 : 1 ≤ l3 := by
          rw [← w2]
          unfold cfS
          rw [if_pos hy]
          have := mxl_r (plc (A 1) (A 0 x) c e) (WW A a b c e (x + 1)) 0
          omega
        refine c_mkeep hm ⟨by omega, by omega⟩ ⟨by omega, by omega⟩ ?_
        have e7 : (mU (mU M1 (o + 7) x.toNat (an0 A a b c e x)) (o + 8) (an0 A a b c e x).toNat x) o 7 = M1 o 7 := by
          rw [mU_ne (by omega), mU_ne (by omega)]
        rw [e7]
        refine ⟨⟨by omega, by omega⟩, ?_⟩
        have hPk := g3.keep (i := x) (j := an0 A a b c e x) ⟨by omega, by omega⟩ ⟨by omega, by omega⟩
        refine ih (x + 1) (l3 + -1) l4 _ _ (kp P1 x (an0 A a b c e x)) (by omega) (by omega) ⟨by omega, by omega⟩ ⟨by omega, by omega⟩ e4 ?_ ?_ (hPk.same (by rw [mU_ne (by omega)]) (by rw [mU_ne (by omega)])) (((g4.up (by omega)).up (by omega)).up7) (by rw [mU_at]; omega) ?_
        · intro y p1 p2
          rw [mU_ne (by omega), mU_ne (by omega), mU_ne (by omega)]
          exact g1 y p1 p2
        · intro y p1 p2
          rw [mU_ne (by omega), mU_ne (by omega), mU_ne (by omega)]
          exact g2 y p1 p2
        · rw [WW_y (by omega) hy, pck_cons, if_pos] at hk
          · intro M' k1 k2 k3
            refine hk M' ?_ ?_ k3
            · rw [kps_cons]
              dsimp only
              rw [en, show l3 + -1 = l3 - 1 by omega] at k1
              exact k1
            · rw [mU_at, en, show l3 + -1 = l3 - 1 by omega] at k2
              rw [k2]
              simp only [List.length_cons]
              omega
          · dsimp only
            rw [en] at w
            unfold cfS at w2
            rw [if_pos hy] at w2
            exact ⟨w2, by omega⟩
  refine en_X2_keepLongestChain (sg_X2_keepLongestChain_0 hm ⟨⟨by omega, by omega⟩, ⟨by omega, by omega⟩, c_measureChains hm h0 h1 h2 h3 h5 hW (fun M1 k1 k2 _ => ?_)⟩)
  have hmx := mxa_mx (WW A a b c e a) (fun q hq => (WW_len q hq).1)
  have hm1 := (mxa_ok (WW A a b c e a) 0).1
  have hm8 : mxa (WW A a b c e a) 0 ≤ 8 := by
    rcases hmx.2 with ⟨-, q⟩ | ⟨q, hq, e0⟩
    · omega
    · have := (WW_len q hq).2
      omega
  have hne : anL A a b c e a ≠ [] ↔ 0 < mxa (WW A a b c e a) 0 := by
    constructor
    · intro hn
      rcases hmx.2 with ⟨q, -⟩ | ⟨q, hq, e0⟩
      · exfalso
        apply hn
        cases hl : anL A a b c e a with
        | nil => rfl
        | cons y r =>
          unfold WW at q
          rw [hl] at q
          unfold anW at q
          cases q
      · have := (WW_len q hq).1
        omega
    · intro hp hn
      unfold WW at hp
      rw [hn] at hp
      exact absurd hp (by decide)
  have hFr : FrM o M M1 := ⟨fun k hk => k2 k (by omega), fun j _ => by rw [k2 o (by omega)]⟩
  have go : ∀ l4, l4 = bI (anL A a b c e a ≠ []) → S_X2_keepLongestChain_24 g (d + 2) o b (mxa (WW A a b c e a) 0) l4 (-1) a M1 Q := fun l4 e4 =>
    loop (b - a).toNat a _ l4 (-1) M1 P (by omega) (Int.le_refl _) ⟨hm1, hm8⟩ ⟨by omega, by omega⟩ e4 (fun y p1 p2 => by rw [k2 _ (by omega)]; exact hW y p1 p2) k1 (hP.same (k2 _ (by omega)) (k2 _ (by omega))) hFr (by rw [k2 o (by omega)]; omega) (fun M' j1 j2 j3 => by
      rw [e4]
      refine h M' j1 ?_ j3
      rw [j2, k2 o (by omega)]
      rfl)
  refine ⟨fun w => go 0 (bI_f (fun q => by have := hne.mp q; omega)).symm, fun w => go 1 (bI_t (hne.mpr (by omega))).symm⟩
theorem c_keepMost {Q : AM → Prop} {a b c e : Int} {P : LF} (hm : IsMatch o) (hA : LAm M o A n) (h0 : 0 ≤ a) (h1 : a ≤ b) (h2 : b ≤ n 0) (h3 : 0 ≤ c) (h4 : c ≤ e) (h5 : e ≤ n 1) (hP : PAm M o P)
    (h : ∀ M', PAm M' o (kps (mpK A (lcT (A 0) (A 1) b e) b e a c) P) → M' o 7 = M o 7 → FrM o M M' → Q M') : MetV g mX2_keepMost (d + 2) [vR o, vI a, vI b, vI c, vI e] M Q := by
  have b1 := hA.2.2.1
  have b2 := hA.2.2.2.1
  have loop : ∀ (m : Nat) (i j : Int) (M1 : AM) (P1 : LF), (b - i).toNat + (e - j).toNat = m → a ≤ i → i ≤ b → c ≤ j → j ≤ e → (∀ i j, a ≤ i → i ≤ b → c ≤ j → j ≤ e → M1 (o + 11 + i.toNat) j.toNat = lcT (A 0) (A 1) b e i j) → PAm M1 o P1 → M1 o 7 = M o 7 → FrM o M M1 →
      (∀ M', PAm M' o (kps (mpK A (lcT (A 0) (A 1) b e) b e i j) P1) → M' o 7 = M o 7 → FrM o M M' → Q M') → S_X2_keepMost_37 g (d + 2) o b e i j M1 Q := by
    intro m
    induction m using Nat.strongRecOn with
    | _ m ih =>
      intro i j M1 P1 hmm p1 p2 p3 p4 gT gP g7 gF hk
      rw [mpK_eq] at hk
      have r : ∀ z : Int, 0 ≤ z → z ≤ 8 → rg z := fun z q1 q2 => ⟨by omega, by omega⟩
      refine sg_X2_keepMost_37 hm ⟨r i (by omega) (by omega), r b (by omega) (by omega), fun w => ?_, fun w => ⟨r j (by omega) (by omega), r e (by omega) (by omega), fun w2 => ?_, fun w2 => ?_⟩⟩
      · rw [if_neg (by omega)] at hk
        exact hk M1 gP g7 gF
      · rw [if_neg (by omega)] at hk
        exact hk M1 gP g7 gF
      · rw [if_pos (by omega)] at hk
        refine c_same hm (hA.fr gF) ⟨by omega, by omega⟩ ⟨by omega, by omega⟩ (fun _ => ⟨fun c1 => ?_, fun c1 => ?_⟩)
        · have hne : ¬ A 0 i = A 1 j := fun q => by rw [bI_t q] at c1; cases c1
          rw [if_neg hne] at hk
          refine ⟨⟨by omega, by omega⟩, ⟨by omega, by omega⟩, ⟨by omega, by omega⟩, ⟨by omega, by omega⟩, fun c2 => ?_, fun c2 => ?_⟩
          · rw [gT (i + 1) j (by omega) (by omega) p3 p4, gT i (j + 1) p1 p2 (by omega) (by omega)] at c2
            rw [if_neg (by omega)] at hk
            exact ih _ (by omega) i (j + 1) M1 P1 rfl p1 p2 (by omega) (by omega) gT gP g7 gF hk
          · rw [gT (i + 1) j (by omega) (by omega) p3 p4, gT i (j + 1) p1 p2 (by omega) (by omega)] at c2
            rw [if_pos (by omega)] at hk
            exact ih _ (by omega) (i + 1) j M1 P1 rfl (by omega) (by omega) p3 p4 gT gP g7 gF hk
        · have heq : A 0 i = A 1 j := Classical.byContradiction fun q => c1 (bI_f q)
          rw [if_pos heq] at hk
          refine c_mkeep hm ⟨by omega, by omega⟩ ⟨by omega, by omega⟩ ?_
          refine ih _ (by omega) (i + 1) (j + 1) _ (kp P1 i j) rfl (by omega) (by omega) (by omega) (by omega) ?_ (gP.keep ⟨by omega, by omega⟩ ⟨by omega, by omega⟩) (by rw [mU_ne (by omega), mU_ne (by omega)]; exact g7) ((gF.up (by omega)).up (by omega)) hk
          intro i' j' q1 q2 q3 q4
          rw [mU_ne (by omega), mU_ne (by omega)]
          exact gT i' j' q1 q2 q3 q4
  have kr0 : KD[o + 3]? = some (.inr (.inl 8)) := hm.2.1.2.2.1 0 (by omega)
  have kr1 : KD[o + 4]? = some (.inr (.inl 8)) := hm.2.1.2.2.1 1 (by omega)
  have eT : ∀ i j, a ≤ i → i ≤ b → c ≤ j → j ≤ e → lcT (fun i => M (o + 3) i.toNat) (fun j => M (o + 4) j.toNat) b e i j = lcT (A 0) (A 1) b e i j := fun i j q1 q2 q3 q4 =>
    lcT_congr q2 q4 (fun k r1 r2 => hA.2.2.2.2 0 k (Or.inl rfl) (by omega) (by omega)) (fun k r1 r2 => hA.2.2.2.2 1 k (Or.inr rfl) (by omega) (by omega))
  refine en_X2_keepMost (sg_X2_keepMost_0 hm ⟨⟨by omega, by omega⟩, ⟨by omega, by omega⟩, ⟨by omega, by omega⟩, ⟨by omega, by omega⟩, c_most hm.2.2.2.2.1 kr0 kr1 ⟨h0, h1, by omega, by omega⟩ ⟨h3, h4, by omega, by omega⟩ (by omega) (by omega) (fun M1 k1 k2 _ => ?_)⟩)
  have hFr : FrM o M M1 := ⟨fun k hk => k2 k (by omega), fun j _ => by rw [k2 o (by omega)]⟩
  exact loop _ a c M1 P rfl (Int.le_refl _) h1 (Int.le_refl _) h4 (fun i j q1 q2 q3 q4 => by rw [← eT i j q1 q2 q3 q4]; exact k1 i j q1 q2 q3 q4) (hP.same (k2 _ (by omega)) (k2 _ (by omega))) (by rw [k2 o (by omega)]) hFr h
end MATCH2
