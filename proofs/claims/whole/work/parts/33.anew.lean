/-! compareAnew; how many steps of a kind -/
def kN (k : Int) : List St → Int
  | [] => 0
  | s :: L => (if s.1 = k then 1 else 0) + kN k L
theorem kN_c (k : Int) (s : St) (L : List St) : kN k (s :: L) = (if s.1 = k then 1 else 0) + kN k L := rfl
theorem kN_r (k : Int) : ∀ L : List St, 0 ≤ kN k L ∧ kN k L ≤ L.length := by
  intro L
  induction L with
  | nil => exact ⟨Int.le_refl _, Int.le_refl _⟩
  | cons s L ih =>
    rw [kN_c, List.length_cons]
    split <;> omega
section ANEW
variable {g : AG} {d : Nat} {M : AM} {A : LF} {n : Int → Int}
theorem c_rclear {Q : AM → Prop} (h : ∀ M', (∀ k : Nat, k < 5 → M' 87 k = 0) → (∀ k, k ≠ 87 → M' k = M k) → Q M') : MetV g mX4_clear (d + 1) [vR 80] M Q := by
  have loop : ∀ (m : Nat) (l : Int) (M1 : AM), l + m = 5 → 0 ≤ l → (∀ k : Nat, (k : Int) < l → M1 87 k = 0) → (∀ k, k ≠ 87 → M1 k = M k) → S_X4_clear_2 g (d + 1) l M1 Q := by
    intro m
    induction m with
    | zero =>
      intro l M1 hm l0 hz gF
      exact sg_X4_clear_2 ⟨⟨by omega, by omega⟩, fun _ => h M1 (fun k hk => hz k (by omega)) gF, fun w => by omega⟩
    | succ m ih =>
      intro l M1 hm l0 hz gF
      refine sg_X4_clear_2 ⟨⟨by omega, by omega⟩, fun w => by omega, fun _ => ⟨⟨by omega, by omega⟩, ?_⟩⟩
      refine ih (l + 1) _ (by omega) (by omega) (fun k hk => ?_) (fun k hk => by rw [mU_ne hk]; exact gF k hk)
      by_cases e : k = l.toNat
      · subst e
        rw [mU_at]
      · rw [mU_nej e]
        exact hz k (by omega)
  exact en_X4_clear (sg_X4_clear_0 (loop 5 0 M (by decide) (by decide) (fun k hk => by omega) (fun _ _ => rfl)))
/-- what compareAnew may change -/
def FrA (M M' : AM) : Prop := ∀ k, (k < 4 ∨ (4 < k ∧ k < 11) ∨ (27 < k ∧ k < 60) ∨ (79 < k ∧ k ≠ 87)) → M' k = M k
theorem c_compareAnew {Q : Int → AM → Prop} (hA : LAm M 4 A n) (hR : ∀ s i, rg (A s i))
    (h : ∀ M', PAm M' 4 (KP A n) → M' 4 7 = ANC A n → M' 4 8 = SLN A n → StC M' (SCR A n) (GAPS A n) → (∀ s x, s = 0 ∨ s = 1 → 0 ≤ x → x < 8 → TC M' s x = CHG A n s x) → (∀ k : Nat, k < 5 → M' 87 k = 0) → FrA M M' → Q (SCR A n).length M') : MetI g mX8_compareAnew (d + 23) [vR 0] M Q := by
  have b1 := hA.2.2.1
  have b2 := hA.2.2.2.1
  refine en_X8_compareAnew (sg_X8_compareAnew_0 ?_)
  refine c_compare isMatch_4 hA (fun M1 k1 k2 k3 k4 => ?_)
  have hA1 : LAm M1 4 A n := ⟨by rw [k4 (4 + 5) (by omega)]; exact hA.1, by rw [k4 (4 + 5) (by omega)]; exact hA.2.1, b1, b2, fun s x hs x0 x1 => by rw [k4 _ (by omega)]; exact hA.2.2.2.2 s x hs x0 x1⟩
  refine c_build (d := d + 16) hA1 hR k1 (KP_wf b1.1 b2.1) (fun M2 m1 m2 m3 => ?_)
  refine c_rclear (d := d + 21) (fun M3 o1 o2 => ?_)
  have s3 : StC M3 (SCR A n) (GAPS A n) := StC.same (M := M2) m1 (fun k _ _ => o2 k (by omega))
  rw [s3.1]
  refine h M3 (fun s x hs x0 x1 => ?_) ?_ ?_ s3 (fun s x hs x0 x1 => ?_) o1 (fun k hk => ?_)
  · rw [o2 _ (by omega), m3 _ (by omega)]
    exact k1 s x hs x0 x1
  · rw [o2 _ (by omega), m3 _ (by omega)]
    exact k2
  · rw [o2 _ (by omega), m3 _ (by omega)]
    exact k3
  · have := m2 s x hs x0 x1
    unfold TC at this ⊢
    rw [o2 _ (by omega)]
    exact this
  · rw [o2 k (by omega), m3 k (by omega)]
    exact k4 k (by omega)
theorem c_shas {Q : Int → AM → Prop} {L : List St} {G i : Int} (hS : StC M L G) (hi : rg i) (h : Q (bI (0 ≤ i ∧ i < L.length)) M) : MetI g mX6_has (d + 1) [vR 71, vI i] M Q := by
  refine en_X6_has (sg_X6_has_0 ⟨hi, fun c => ?_, fun c => ⟨fun c2 => ?_, fun c2 => ?_⟩⟩)
  · rwa [bI_f (by omega)] at h
  · rw [hS.1] at c2
    rwa [bI_f (by omega)] at h
  · rw [hS.1] at c2
    rwa [bI_t (by omega)] at h
theorem c_howManyOf {Q : Int → AM → Prop} {L : List St} {G k : Int} (hS : StC M L G) (hL : L.length ≤ 16) (hk : rg k) (h : Q (kN k L) M) : MetI g mX6_howManyOf (d + 1) [vR 71, vI k] M Q := by
  have loop : ∀ (m : Nat) (l : Nat) (f : Int), l + m = L.length → 0 ≤ f → f ≤ l → f + kN k (L.drop l) = kN k L → S_X6_howManyOf_4 g (d + 1) k f l M Q := by
    intro m
    induction m with
    | zero =>
      intro l f hm f0 f1 e
      rw [List.drop_eq_nil_of_le (by omega), show kN k [] = 0 from rfl, Int.add_zero] at e
      rw [← e] at h
      exact sg_X6_howManyOf_4 ⟨⟨by omega, by omega⟩, fun _ => ⟨⟨by omega, by omega⟩, h⟩, fun w => absurd (show M 71 6 ≤ (l : Int) by rw [hS.1]; omega) w⟩
    | succ m ih =>
      intro l f hm f0 f1 e
      have hl : l < L.length := by omega
      rw [List.drop_eq_getElem_cons hl, kN_c] at e
      have e3 := congrArg Prod.fst (hS.2.2 l hl)
      have e3 : M 72 l = (L[l]).1 := e3
      refine sg_X6_howManyOf_4 ⟨⟨by omega, by omega⟩, fun w => by rw [hS.1] at w; omega, fun _ => ⟨⟨by omega, by omega⟩, hk, fun w => ?_, fun w => ?_⟩⟩
      · rw [show ((l : Int)).toNat = l by omega, e3] at w
        rw [if_neg w] at e
        exact ih (l + 1) (f + 0) (by omega) (by omega) (by omega) (by omega)
      · rw [show ((l : Int)).toNat = l by omega, e3] at w
        rw [if_pos w] at e
        exact ih (l + 1) (f + 1) (by omega) (by omega) (by omega) (by omega)
  exact en_X6_howManyOf (sg_X6_howManyOf_0 (loop L.length 0 0 (by omega) (by omega) (by omega) (by rw [List.drop_zero]; omega)))
theorem r_stepsOf {Q : Int → AM → Prop} {L : List St} {G k : Int} (hS : StR M L G) (hL : L.length ≤ 16) (hk : rg k) (h : Q (kN k L) M) : MetI g mX9_stepsOf (d + 1) [vR 88, vI k] M Q := by
  have loop : ∀ (m : Nat) (l : Nat) (f : Int), l + m = L.length → 0 ≤ f → f ≤ l → f + kN k (L.drop l) = kN k L → S_X9_stepsOf_4 g (d + 1) k f l M Q := by
    intro m
    induction m with
    | zero =>
      intro l f hm f0 f1 e
      rw [List.drop_eq_nil_of_le (by omega), show kN k [] = 0 from rfl, Int.add_zero] at e
      rw [← e] at h
      exact sg_X9_stepsOf_4 ⟨⟨by omega, by omega⟩, fun _ => ⟨⟨by omega, by omega⟩, h⟩, fun w => absurd (show M 88 22 ≤ (l : Int) by rw [hS.1]; omega) w⟩
    | succ m ih =>
      intro l f hm f0 f1 e
      have hl : l < L.length := by omega
      rw [List.drop_eq_getElem_cons hl, kN_c] at e
      have e3 := congrArg Prod.fst (hS.2.2 l hl)
      have e3 : M 101 (5 * l) = (L[l]).1 := e3
      refine sg_X9_stepsOf_4 ⟨⟨by omega, by omega⟩, fun w => by rw [hS.1] at w; omega, fun _ => ⟨⟨by omega, by omega⟩, hk, fun w => ?_, fun w => ?_⟩⟩
      · rw [show ((5 : Int) * (l : Int)).toNat = 5 * l by omega, e3] at w
        rw [if_neg w] at e
        exact ih (l + 1) (f + 0) (by omega) (by omega) (by omega) (by omega)
      · rw [show ((5 : Int) * (l : Int)).toNat = 5 * l by omega, e3] at w
        rw [if_pos w] at e
        exact ih (l + 1) (f + 1) (by omega) (by omega) (by omega) (by omega)
  exact en_X9_stepsOf (sg_X9_stepsOf_0 (loop L.length 0 0 (by omega) (by omega) (by omega) (by rw [List.drop_zero]; omega)))
end ANEW
