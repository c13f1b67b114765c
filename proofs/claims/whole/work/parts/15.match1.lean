/-! the class's Match: views of its cells, and the contracts of its smaller methods -/
theorem cnt_un {f : Int → Int} {v : Int} : ∀ (n : Nat) (s e : Int), (e - s).toNat = n → cnt f v s e = 1 → ∀ x, s ≤ x → x < e → f x = v → plc f v s e = x := by
  intro n
  induction n with
  | zero =>
    intro s e hn h x h1 h2 _
    omega
  | succ n ih =>
    intro s e hn h x h1 h2 h3
    rw [cnt_eq, if_pos (by omega)] at h
    rw [plc_eq, if_pos (by omega)]
    by_cases hs : f s = v
    · rw [if_pos hs] at h ⊢
      by_cases e1 : x = s
      · exact e1.symm
      · exact absurd h3 (cnt_0 f v _ (s + 1) e rfl (by omega) x (by omega) h2)
    · rw [if_neg hs] at h ⊢
      exact ih (s + 1) e (by omega) (by omega) x (by
        rcases Int.lt_or_eq_of_le h1 with q | q
        · omega
        · rw [q] at hs
          exact absurd h3 hs) h2 h3
def LAm (M : AM) (o : Nat) (A : LF) (n : Int → Int) : Prop := M (o + 5) 0 = n 0 ∧ M (o + 5) 1 = n 1 ∧ (0 ≤ n 0 ∧ n 0 ≤ 8) ∧ (0 ≤ n 1 ∧ n 1 ≤ 8) ∧ ∀ s i, s = 0 ∨ s = 1 → 0 ≤ i → i < n s → M (o + 3 + s.toNat) i.toNat = A s i
def PAm (M : AM) (o : Nat) (P : LF) : Prop := ∀ s i, s = 0 ∨ s = 1 → 0 ≤ i → i < 8 → M (o + 7 + s.toNat) i.toNat = P s i
def FrM (o : Nat) (M M' : AM) : Prop := (∀ k, (k < o ∨ (o < k ∧ k < o + 7) ∨ (o + 8 < k ∧ k < o + 11) ∨ o + 21 < k) → M' k = M k) ∧ ∀ j, j ≠ 7 → M' o j = M o j
theorem FrM.rf (o : Nat) (M : AM) : FrM o M M := ⟨fun _ _ => rfl, fun _ _ => rfl⟩
theorem FrM.tr {o : Nat} {M M1 M2 : AM} (h1 : FrM o M M1) (h2 : FrM o M1 M2) : FrM o M M2 := ⟨fun k hk => (h2.1 k hk).trans (h1.1 k hk), fun j hj => (h2.2 j hj).trans (h1.2 j hj)⟩
theorem FrM.up {o : Nat} {M M1 : AM} (h1 : FrM o M M1) {k j : Nat} {z : Int} (hk : (o + 7 ≤ k ∧ k ≤ o + 8) ∨ (o + 11 ≤ k ∧ k ≤ o + 21)) : FrM o M (mU M1 k j z) := ⟨fun k' hk' => by rw [mU_ne (by omega)]; exact h1.1 k' hk', fun j' hj => by rw [mU_ne (by omega)]; exact h1.2 j' hj⟩
theorem FrM.up7 {o : Nat} {M M1 : AM} (h1 : FrM o M M1) {z : Int} : FrM o M (mU M1 o 7 z) := ⟨fun k' hk' => by rw [mU_ne (by omega)]; exact h1.1 k' hk', fun j' hj => by rw [mU_nej hj]; exact h1.2 j' hj⟩
theorem LAm.fr {o : Nat} {M M' : AM} {A : LF} {n : Int → Int} (h : LAm M o A n) (f : FrM o M M') : LAm M' o A n := by
  obtain ⟨h1, h2, h3, h4, h5⟩ := h
  refine ⟨by rw [f.1 _ (by omega)]; exact h1, by rw [f.1 _ (by omega)]; exact h2, h3, h4, fun s i hs h0 hi => ?_⟩
  rw [f.1 _ (by omega)]
  exact h5 s i hs h0 hi
theorem PAm.same {o : Nat} {M M' : AM} {P : LF} (h : PAm M o P) (h7 : M' (o + 7) = M (o + 7)) (h8 : M' (o + 8) = M (o + 8)) : PAm M' o P := by
  intro s i hs h0 hi
  rw [← h s i hs h0 hi]
  rcases hs with rfl | rfl
  · show M' (o + 7) _ = M (o + 7) _
    rw [h7]
  · show M' (o + 7 + 1) _ = M (o + 7 + 1) _
    rw [show o + 7 + 1 = o + 8 from rfl, h8]
theorem PAm.keep {o : Nat} {M : AM} {P : LF} (h : PAm M o P) {i j : Int} (hi : 0 ≤ i ∧ i < 8) (hj : 0 ≤ j ∧ j < 8) : PAm (mU (mU M (o + 7) i.toNat j) (o + 8) j.toNat i) o (kp P i j) := by
  intro s x hs h0 hx
  rcases hs with rfl | rfl
  · show mU _ _ _ _ (o + 7) _ = _
    rw [mU_ne (by omega)]
    by_cases e : x = i
    · subst e
      rw [mU_at, kp_at0]
    · rw [mU_nej (by omega), kp_ne0 _ e]
      exact h 0 x (Or.inl rfl) h0 hx
  · show mU _ _ _ _ (o + 7 + 1) _ = _
    rw [show o + 7 + 1 = o + 8 from rfl]
    by_cases e : x = j
    · subst e
      rw [mU_at, kp_at1]
    · rw [mU_nej (by omega), kp_ne1 _ e, mU_ne (by omega)]
      exact h 1 x (Or.inr rfl) h0 hx
section MATCH1
variable {g : AG} {d : Nat} {M : AM} {o : Nat} {A : LF} {n : Int → Int}
theorem c_same {Q : Int → AM → Prop} {i j : Int} (hm : IsMatch o) (hA : LAm M o A n) (hi : 0 ≤ i ∧ i < n 0) (hj : 0 ≤ j ∧ j < n 1) (h : Q (bI (A 0 i = A 1 j)) M) : MetI g mX2_same (d + 1) [vR o, vI i, vI j] M Q := by
  have e1 : M (o + 3) i.toNat = A 0 i := hA.2.2.2.2 0 i (Or.inl rfl) hi.1 hi.2
  have e2 : M (o + 4) j.toNat = A 1 j := hA.2.2.2.2 1 j (Or.inr rfl) hj.1 hj.2
  have b1 := hA.2.2.1
  have b2 := hA.2.2.2.1
  refine en_X2_same (sg_X2_same_0 hm ⟨⟨by omega, by omega⟩, ⟨by omega, by omega⟩, fun c => ?_, fun c => ?_⟩)
  · rw [e1, e2] at c
    rwa [bI_f c] at h
  · rw [e1, e2] at c
    rwa [bI_t c] at h
theorem c_mkeep {Q : AM → Prop} {i j : Int} (hm : IsMatch o) (hi : 0 ≤ i ∧ i < 8) (hj : 0 ≤ j ∧ j < 8) (h : Q (mU (mU M (o + 7) i.toNat j) (o + 8) j.toNat i)) : MetV g mX2_keep (d + 1) [vR o, vI i, vI j] M Q :=
  en_X2_keep (sg_X2_keep_0 hm ⟨hi, ⟨by omega, by omega⟩, hj, ⟨by omega, by omega⟩, h⟩)
theorem c_onlyPlaceOf {Q : Int → AM → Prop} {v s st en : Int} (hm : IsMatch o) (hA : LAm M o A n) (hs : s = 0 ∨ s = 1) (h0 : 0 ≤ st) (h1 : st ≤ en) (h2 : en ≤ n s) (hv : rg v) (h : Q (if cnt (A s) v st en = 1 then plc (A s) v st en else -1) M) : MetI g mX2_onlyPlaceOf (d + 1) [vR o, vI v, vI s, vI st, vI en] M Q := by
  have b1 := hA.2.2.1
  have b2 := hA.2.2.2.1
  have bn : n s ≤ 8 := by rcases hs with rfl | rfl <;> omega
  have loop : ∀ (m : Nat) (k l : Int), en = k + m → 0 ≤ k → -1 ≤ l → l < 8 → Q (if l = -1 then (if cnt (A s) v k en = 1 then plc (A s) v k en else -1) else if cnt (A s) v k en = 0 then l else -1) M → S_X2_onlyPlaceOf_6 g (d + 1) o v s en l k M Q := by
    intro m
    induction m with
    | zero =>
      intro k l hk k0 hl1 hl2 hq
      refine sg_X2_onlyPlaceOf_6 hm ⟨⟨by omega, by omega⟩, ⟨by omega, by omega⟩, fun c => ⟨⟨by omega, by omega⟩, ?_⟩, fun c => by omega⟩
      rw [cnt_eq, if_neg (show ¬ k < en by omega)] at hq
      by_cases e : l = -1
      · subst e
        simpa using hq
      · simpa [e] using hq
    | succ m ih =>
      intro k l hk k0 hl1 hl2 hq
      have hk2 : k < n s := by omega
      have e1 := hA.2.2.2.2 s k hs k0 hk2
      rw [cnt_eq, if_pos (show k < en by omega), plc_eq, if_pos (show k < en by omega)] at hq
      refine sg_X2_onlyPlaceOf_6 hm ⟨⟨by omega, by omega⟩, ⟨by omega, by omega⟩, fun c => by omega, fun _ => ⟨⟨by omega, by omega⟩, ⟨by omega, by omega⟩, hv, fun c => ?_, fun c => ⟨⟨by omega, by omega⟩, fun c2 => ?_, fun c2 => ?_⟩⟩⟩
      · rw [e1] at c
        rw [if_neg c, if_neg c, Int.zero_add] at hq
        exact ih (k + 1) l (by omega) (by omega) hl1 hl2 hq
      · rw [e1] at c
        subst c2
        rw [if_pos c, if_pos c, if_pos rfl] at hq
        refine ih (k + 1) k (by omega) (by omega) (by omega) (by omega) ?_
        rw [if_neg (by omega)]
        have hn := cnt_nn (A s) v _ (k + 1) en rfl
        by_cases z : cnt (A s) v (k + 1) en = 0
        · rw [if_pos z]
          rwa [if_pos (by omega)] at hq
        · rw [if_neg z]
          rwa [if_neg (by omega)] at hq
      · rw [e1] at c
        rw [if_pos c, if_neg c2] at hq
        have hn := cnt_nn (A s) v _ (k + 1) en rfl
        rwa [if_neg (by omega)] at hq
  refine en_X2_onlyPlaceOf (sg_X2_onlyPlaceOf_0 hm (loop (en - st).toNat st (-1) (by omega) h0 (by omega) (by omega) ?_))
  rw [if_pos rfl]
  exact h
/-- with whom an old line is an anchor, or -1 -/
def an0 (A : LF) (a b c e x : Int) : Int := if isAn A a b c e x then plc (A 1) (A 0 x) c e else -1
theorem an0_r {A : LF} {a b c e x : Int} (hc : 0 ≤ c) (h8 : e ≤ 8) : -1 ≤ an0 A a b c e x ∧ an0 A a b c e x < 8 := by
  unfold an0
  split
  · next h =>
    have := plc_ok (A 1) (A 0 x) _ c e rfl (by rw [h.2]; omega)
    omega
  · omega
theorem an0_ne {A : LF} {a b c e x : Int} (hc : 0 ≤ c) : an0 A a b c e x ≠ -1 ↔ isAn A a b c e x := by
  unfold an0
  constructor
  · intro h
    exact Classical.byContradiction fun w => h (if_neg w)
  · intro h
    rw [if_pos h]
    have := plc_ok (A 1) (A 0 x) _ c e rfl (by rw [h.2]; omega)
    omega
theorem c_findAnchors {Q : AM → Prop} {a b c e : Int} (hm : IsMatch o) (hM : RM M) (hA : LAm M o A n) (h0 : 0 ≤ a) (h1 : a ≤ b) (h2 : b ≤ n 0) (h3 : 0 ≤ c) (h4 : c ≤ e) (h5 : e ≤ n 1) (h : ∀ M', (∀ x, a ≤ x → x < b → M' (o + 20) x.toNat = an0 A a b c e x) → (∀ k, k ≠ o + 20 → M' k = M k) → Q M') : MetV g mX2_findAnchors (d + 2) [vR o, vI a, vI b, vI c, vI e] M Q := by
  have b1 := hA.2.2.1
  have b2 := hA.2.2.2.1
  have loop : ∀ (m : Nat) (k : Int) (M1 : AM), b = k + m → a ≤ k → (∀ x, a ≤ x → x < k → M1 (o + 20) x.toNat = an0 A a b c e x) → (∀ y, y ≠ o + 20 → M1 y = M y) → S_X2_findAnchors_3 g (d + 2) o a b c e k M1 Q := by
    intro m
    induction m with
    | zero =>
      intro k M1 hk hak g1 g2
      refine sg_X2_findAnchors_3 hm ⟨⟨by omega, by omega⟩, ⟨by omega, by omega⟩, fun _ => h M1 (fun x p1 p2 => g1 x p1 (by omega)) g2, fun w => by omega⟩
    | succ m ih =>
      intro k M1 hk hak g1 g2
      have hA1 : LAm M1 o A n := hA.fr ⟨fun y hy => g2 y (by omega), fun j _ => by rw [g2 o (by omega)]⟩
      have e1 : M1 (o + 3) k.toNat = A 0 k := hA1.2.2.2.2 0 k (Or.inl rfl) (by omega) (by omega)
      have rv : rg (A 0 k) := by
        rw [← e1, g2 _ (by omega)]
        exact hM _ _ (by
          rintro ⟨q1, -⟩
          have := hm.1
          have h88 := k_88
          have := hm.2.1.2.2.1 0 (by omega)
          rw [show o + 1 + 2 + 0 = o + 3 by omega, q1, h88] at this
          cases this)
      have nxt : ∀ (M2 : AM) (z : Int), M2 = M1 → z = an0 A a b c e k → S_X2_findAnchors_3 g (d + 2) o a b c e (k + 1) (mU M2 (o + 20) k.toNat z) Q := by
        intro M2 z e2 ez
        subst e2
        refine ih (k + 1) _ (by omega) (by omega) (fun x p1 p2 => ?_) (fun y hy => by rw [mU_ne hy]; exact g2 y hy)
        by_cases ex : x = k
        · subst ex
          rw [mU_at, ez]
        · rw [mU_nej (by omega)]
          exact g1 x p1 (by omega)
      refine sg_X2_findAnchors_3 hm ⟨⟨by omega, by omega⟩, ⟨by omega, by omega⟩, fun w => by omega, fun _ => ⟨⟨by omega, by omega⟩, ⟨by omega, by omega⟩, ?_⟩⟩
      rw [e1]
      refine c_onlyPlaceOf hm hA1 (Or.inl rfl) h0 h1 h2 rv (fun _ => ⟨fun w => ?_, fun w => ⟨⟨by omega, by omega⟩, ⟨by omega, by omega⟩, c_onlyPlaceOf hm hA1 (Or.inr rfl) h3 h4 h5 rv (fun _ => ?_)⟩⟩)
      · refine nxt M1 _ rfl ?_
        unfold an0
        rw [if_neg]
        intro hn
        apply w
        rw [if_pos hn.1]
        exact cnt_un _ a b rfl hn.1 k hak (by omega) rfl
      · refine nxt M1 _ rfl ?_
        have hc1 : cnt (A 0) (A 0 k) a b = 1 := Classical.byContradiction fun q => by
          rw [if_neg q] at w
          omega
        unfold an0 isAn
        simp only [hc1, true_and]
  exact en_X2_findAnchors (sg_X2_findAnchors_0 hm (loop (b - a).toNat a M (by omega) (Int.le_refl _) (fun x p1 p2 => by omega) (fun _ _ => rfl)))
end MATCH1
