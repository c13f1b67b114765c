/-! the Sides of the class: contracts in closed form -/
def sIns (M : AM) (b s p : Nat) (v : Int) : AM := fun k j =>
  if k = b + 4 ∧ j = s then M k j + 1
  else if k = b + 2 + s ∧ j = p then v
  else if k = b + 2 + s ∧ p < j ∧ (j : Int) ≤ M (b + 4) s then M k (j - 1)
  else M k j
def sRem (M : AM) (b s p : Nat) : AM := fun k j =>
  if k = b + 4 ∧ j = s then M k j - 1
  else if k = b + 2 + s ∧ p ≤ j ∧ (j : Int) < M (b + 4) s - 1 then M k (j + 1)
  else M k j
def sSwp (M : AM) (b s p q : Nat) : AM := fun k j =>
  if k = b + 2 + s ∧ j = p then M k q
  else if k = b + 2 + s ∧ j = q then M k p
  else M k j
def sExc (M : AM) (b : Nat) : AM := fun k j =>
  if k = b + 4 ∧ j = 0 then M k 1
  else if k = b + 4 ∧ j = 1 then M k 0
  else if k = b + 2 ∧ j < 8 then M (b + 3) j
  else if k = b + 3 ∧ j < 8 then M (b + 2) j
  else M k j
def sCpy (M : AM) (b b2 : Nat) : AM := fun k j =>
  if k = b + 4 ∧ j < 2 then M (b2 + 4) j
  else if k = b + 2 ∧ j < 8 then M (b2 + 2) j
  else if k = b + 3 ∧ j < 8 then M (b2 + 3) j
  else M k j
theorem ifI {α : Type} {p q : Prop} [Decidable p] [Decidable q] {a b c e : α} (h : p ↔ q) (h1 : q → a = c) (h2 : ¬ q → b = e) : (if p then a else b) = (if q then c else e) := by
  by_cases hq : q
  · rw [if_pos (h.mpr hq), if_pos hq, h1 hq]
  · rw [if_neg (fun x => hq (h.mp x)), if_neg hq, h2 hq]
section SIDES
variable {g : AG} {d : Nat} {M : AM} {b : Nat}
theorem c_total {Q : Int → AM → Prop} (hs : IsSides b) (h0 : 0 ≤ M (b + 4) 0 ∧ M (b + 4) 0 ≤ 8) (h1 : 0 ≤ M (b + 4) 1 ∧ M (b + 4) 1 ≤ 8) (h : Q (M (b + 4) 0 + M (b + 4) 1) M) : MetI g mX7_total (d + 1) [vR b] M Q :=
  en_X7_total (sg_X7_total_0 hs ⟨⟨by omega, by omega⟩, h⟩)
theorem c_sclear {Q : AM → Prop} (hs : IsSides b) (h : Q (mU (mU M (b + 4) 0 0) (b + 4) 1 0)) : MetV g mX7_clear (d + 1) [vR b] M Q :=
  en_X7_clear (sg_X7_clear_0 hs h)
theorem c_has {Q : Int → AM → Prop} {s i : Int} (hs : IsSides b) (h1 : rg s) (h2 : rg i) (h : Q (bI ((s = 0 ∨ s = 1) ∧ 0 ≤ i ∧ i < M (b + 4) s.toNat)) M) : MetI g mX7_has (d + 2) [vR b, vI s, vI i] M Q := by
  refine en_X7_has (sg_X7_has_0 hs ⟨h1, c_isSide h1 (fun _ => ⟨fun c => ?_, fun c => ⟨h2, fun c2 => ?_, fun c2 => ⟨?_, fun c3 => ?_, fun c3 => ?_⟩⟩⟩)⟩)
  · rwa [bI_f (fun q => by rw [bI_t q.1] at c; cases c)] at h
  · rwa [bI_f (by omega)] at h
  · have := Classical.byContradiction fun w => c (bI_f w)
    omega
  · rwa [bI_f (by omega)] at h
  · have hp := Classical.byContradiction fun w => c (bI_f w)
    rwa [bI_t ⟨hp, by omega, by omega⟩] at h
theorem c_insert {Q : AM → Prop} {s p v : Int} (hs : IsSides b) (h1 : s = 0 ∨ s = 1) (hv : rg v) (hp : 0 ≤ p ∧ p ≤ M (b + 4) s.toNat) (hn : M (b + 4) s.toNat ≤ 7) (h : Q (sIns M b s.toNat p.toNat v)) : MetV g mX7_insert (d + 2) [vR b, vI s, vI p, vI v] M Q := by
  have hkr := hs.2.2.1 s.toNat (by omega)
  have rs : rg s := ⟨by omega, by omega⟩
  have rp : rg p := ⟨by omega, by omega⟩
  have loop : ∀ (m : Nat) (l : Int) (M1 : AM), l = p + m → l ≤ M (b + 4) s.toNat → (M1 = fun (k j : Nat) => if k = b + 2 + s.toNat ∧ l < (j : Int) ∧ (j : Int) ≤ M (b + 4) s.toNat then M k (j - 1) else M k j) → S_X7_insert_49 g (d + 2) b s p v (b + 2 + s.toNat) l M1 Q := by
    intro m
    induction m with
    | zero =>
      intro l M1 hl hl2 hM
      refine sg_X7_insert_49 hs hkr ⟨⟨by omega, by omega⟩, rp, fun c => ⟨⟨by omega, by omega⟩, hv, ⟨by omega, by omega⟩, ?_, ?_⟩, fun c => by omega⟩
      · rw [mU_ne (by omega), hM]
        simp only [show ¬ (b + 4 = b + 2 + s.toNat) by omega, false_and, if_false]
        exact ⟨by omega, by omega⟩
      · have e : (mU (mU M1 (b + 2 + s.toNat) p.toNat v) (b + 4) s.toNat ((mU M1 (b + 2 + s.toNat) p.toNat v) (b + 4) s.toNat + 1)) = sIns M b s.toNat p.toNat v := by
          rw [mU_ne (by omega), hM]
          funext k j
          simp only [mU, sIns, show ¬ (b + 4 = b + 2 + s.toNat) by omega, false_and, if_false]
          refine ifI Iff.rfl (fun q => by rw [q.1, q.2]) (fun q => ifI Iff.rfl (fun _ => rfl) (fun q2 => ?_))
          refine ifI ⟨fun w => ⟨w.1, by omega, w.2.2⟩, fun w => ⟨w.1, by omega, w.2.2⟩⟩ (fun _ => rfl) (fun _ => rfl)
        rw [e]
        exact h
    | succ m ih =>
      intro l M1 hl hl2 hM
      refine sg_X7_insert_49 hs hkr ⟨⟨by omega, by omega⟩, rp, fun c => by omega, fun c => ⟨⟨by omega, by omega⟩, ⟨by omega, by omega⟩, ih _ _ (by omega) (by omega) ?_⟩⟩
      rw [hM]
      funext k j
      simp only [mU]
      by_cases hk : k = b + 2 + s.toNat
      · subst hk
        simp only [true_and]
        by_cases hj : j = l.toNat
        · subst hj
          rw [if_pos rfl, if_neg (by omega), if_pos (by omega)]
          congr 1
          omega
        · rw [if_neg hj]
          exact ifI (by omega) (fun _ => rfl) (fun _ => rfl)
      · simp [hk]
  refine en_X7_insert (sg_X7_insert_0 hs ⟨rs, c_isSide rs (fun _ => ⟨fun c => ?_, fun c => ⟨rp, fun c2 => by omega, fun c2 => ⟨⟨by omega, by omega⟩, fun c3 => by omega, fun c3 => ⟨fun c4 => ?_, fun c4 => by omega⟩⟩⟩⟩)⟩)
  · rw [bI_t h1] at c
    cases c
  · refine loop (M (b + 4) s.toNat - p).toNat _ M (by omega) (Int.le_refl _) ?_
    funext k j
    rw [if_neg (by omega)]
theorem c_append {Q : AM → Prop} {s v : Int} (hs : IsSides b) (h1 : s = 0 ∨ s = 1) (hv : rg v) (h0 : v ≠ 0) (hn : 0 ≤ M (b + 4) s.toNat ∧ M (b + 4) s.toNat ≤ 7) (h : Q (sIns M b s.toNat (M (b + 4) s.toNat).toNat v)) : MetV g mX7_appendLine (d + 3) [vR b, vI s, vI v] M Q :=
  en_X7_appendLine (sg_X7_appendLine_0 hs ⟨hv, fun c => absurd c h0, fun _ => ⟨⟨by omega, by omega⟩, ⟨by omega, by omega⟩, c_insert hs h1 hv ⟨hn.1, Int.le_refl _⟩ hn.2 h⟩⟩)
theorem c_append0 {Q : AM → Prop} {s : Int} (hs : IsSides b) (h : Q M) : MetV g mX7_appendLine (d + 1) [vR b, vI s, vI 0] M Q :=
  en_X7_appendLine (sg_X7_appendLine_0 hs ⟨⟨by decide, by decide⟩, fun c => h, fun c => absurd rfl c⟩)
theorem c_remove {Q : AM → Prop} {s p : Int} (hs : IsSides b) (h1 : s = 0 ∨ s = 1) (hp : 0 ≤ p ∧ p < M (b + 4) s.toNat) (hn : M (b + 4) s.toNat ≤ 8) (h : Q (sRem M b s.toNat p.toNat)) : MetV g mX7_remove (d + 3) [vR b, vI s, vI p] M Q := by
  have hkr := hs.2.2.1 s.toNat (by omega)
  have rs : rg s := ⟨by omega, by omega⟩
  have rp : rg p := ⟨by omega, by omega⟩
  have loop : ∀ (m : Nat) (l : Int) (M1 : AM), l + m = M (b + 4) s.toNat - 1 → p ≤ l → (M1 = fun (k j : Nat) => if k = b + 4 ∧ j = s.toNat then M k j - 1 else if k = b + 2 + s.toNat ∧ p ≤ (j : Int) ∧ (j : Int) < l then M k (j + 1) else M k j) → S_X7_remove_30 g (d + 3) b s (b + 2 + s.toNat) l M1 Q := by
    intro m
    induction m with
    | zero =>
      intro l M1 hl hl2 hM
      have es : M1 (b + 4) s.toNat = M (b + 4) s.toNat - 1 := by rw [hM]; simp
      refine sg_X7_remove_30 hs hkr ⟨⟨by omega, by omega⟩, ⟨by omega, by omega⟩, fun c => ?_, fun c => by omega⟩
      have e : M1 = sRem M b s.toNat p.toNat := by
        rw [hM]
        funext k j
        simp only [sRem]
        exact ifI Iff.rfl (fun _ => rfl) (fun _ => ifI ⟨fun w => ⟨w.1, by omega, by omega⟩, fun w => ⟨w.1, by omega, by omega⟩⟩ (fun _ => rfl) (fun _ => rfl))
      rw [e]
      exact h
    | succ m ih =>
      intro l M1 hl hl2 hM
      have es : M1 (b + 4) s.toNat = M (b + 4) s.toNat - 1 := by rw [hM]; simp
      refine sg_X7_remove_30 hs hkr ⟨⟨by omega, by omega⟩, ⟨by omega, by omega⟩, fun c => by omega, fun c => ⟨⟨by omega, by omega⟩, ⟨by omega, by omega⟩, ih _ _ (by omega) (by omega) ?_⟩⟩
      rw [hM]
      funext k j
      simp only [mU, show ¬ (b + 2 + s.toNat = b + 4) by omega, false_and, if_false]
      by_cases hk : k = b + 2 + s.toNat
      · subst hk
        simp only [true_and, show ¬ (b + 2 + s.toNat = b + 4) by omega, false_and, if_false]
        by_cases hj : j = l.toNat
        · subst hj
          rw [if_pos rfl, if_neg (by omega), if_pos (by omega)]
          congr 1
          omega
        · rw [if_neg hj]
          exact ifI (by omega) (fun _ => rfl) (fun _ => rfl)
      · simp [hk]
  refine en_X7_remove (sg_X7_remove_0 hs ⟨rs, rp, c_has hs rs rp (fun _ => ⟨fun c => ⟨⟨by omega, by omega⟩, ⟨by omega, by omega⟩, ?_⟩, fun c => ?_⟩)⟩)
  · refine loop (M (b + 4) s.toNat - 1 - p).toNat p _ (by omega) (Int.le_refl _) ?_
    funext k j
    simp only [mU]
    refine ifI Iff.rfl (fun q => by rw [q.1, q.2]) (fun _ => ?_)
    rw [if_neg (by omega)]
  · rw [bI_t ⟨h1, hp.1, hp.2⟩] at c
    cases c
theorem c_exchangeLines {Q : AM → Prop} {s p q : Int} (hs : IsSides b) (h1 : s = 0 ∨ s = 1) (hp : 0 ≤ p ∧ p < M (b + 4) s.toNat) (hq : 0 ≤ q ∧ q < M (b + 4) s.toNat) (hn : M (b + 4) s.toNat ≤ 8) (hpq : p ≠ q) (h : Q (sSwp M b s.toNat p.toNat q.toNat)) : MetV g mX7_exchangeLines (d + 3) [vR b, vI s, vI p, vI q] M Q := by
  have rs : rg s := ⟨by omega, by omega⟩
  have rp : rg p := ⟨by omega, by omega⟩
  have rq : rg q := ⟨by omega, by omega⟩
  refine en_X7_exchangeLines (sg_X7_exchangeLines_0 hs ⟨rs, rp, c_has hs rs rp (fun _ => ⟨fun c => ?_, fun c => ⟨rq, c_has hs rs rq (fun _ => ⟨fun c => ⟨⟨by omega, by omega⟩, ⟨by omega, by omega⟩, ⟨by omega, by omega⟩, ?_⟩, fun c => ?_⟩)⟩⟩)⟩)
  · rw [bI_t ⟨h1, hp.1, hp.2⟩] at c
    cases c
  · have e : (mU (mU M (b + 2 + s.toNat) p.toNat (M (b + 2 + s.toNat) q.toNat)) (b + 2 + s.toNat) q.toNat (M (b + 2 + s.toNat) p.toNat)) = sSwp M b s.toNat p.toNat q.toNat := by
      funext k j
      simp only [mU, sSwp]
      by_cases hk : k = b + 2 + s.toNat
      · subst hk
        simp only [true_and]
        by_cases e1 : j = q.toNat
        · rw [if_pos e1, if_neg (by omega), if_pos e1]
        · rw [if_neg e1]
          exact ifI Iff.rfl (fun _ => rfl) (fun _ => by rw [if_neg e1])
      · simp [hk]
    rw [e]
    exact h
  · rw [bI_t ⟨h1, hq.1, hq.2⟩] at c
    cases c
theorem c_exchangeSides {Q : AM → Prop} (hs : IsSides b) (h : Q (sExc M b)) : MetV g mX7_exchangeSides (d + 1) [vR b] M Q := by
  have loop : ∀ (m : Nat) (l : Int) (M1 : AM), l + m = 8 → 0 ≤ l → (M1 = fun (k j : Nat) => if k = b + 2 ∧ (j : Int) < l then M (b + 3) j else if k = b + 3 ∧ (j : Int) < l then M (b + 2) j else M k j) → S_X7_exchangeSides_2 g (d + 1) b l M1 Q := by
    intro m
    induction m with
    | zero =>
      intro l M1 hl h0 hM
      refine sg_X7_exchangeSides_2 hs ⟨⟨by omega, by omega⟩, fun c => ?_, fun c => by omega⟩
      have e : (mU (mU M1 (b + 4) 0 (M1 (b + 4) 1)) (b + 4) 1 (M1 (b + 4) 0)) = sExc M b := by
        rw [hM]
        funext k j
        simp only [mU, sExc]
        by_cases hk : k = b + 4
        · subst hk
          simp only [true_and, show ¬ (b + 4 = b + 2) by omega, show ¬ (b + 4 = b + 3) by omega, false_and, if_false]
          by_cases e1 : j = 1
          · subst e1
            simp
          · simp [e1]
        · simp only [hk, false_and, if_false]
          exact ifI (by omega) (fun _ => rfl) (fun _ => ifI (by omega) (fun _ => rfl) (fun _ => rfl))
      rw [e]
      exact h
    | succ m ih =>
      intro l M1 hl h0 hM
      refine sg_X7_exchangeSides_2 hs ⟨⟨by omega, by omega⟩, fun c => by omega, fun c => ⟨⟨by omega, by omega⟩, ih _ _ (by omega) (by omega) ?_⟩⟩
      rw [hM]
      funext k j
      simp only [mU]
      by_cases hk : k = b + 3
      · subst hk
        simp only [true_and, show ¬ (b + 3 = b + 2) by omega, false_and, if_false, show ¬ (b + 2 = b + 3) by omega]
        by_cases e1 : j = l.toNat
        · subst e1
          rw [if_pos rfl, if_neg (by omega), if_pos (by omega)]
        · rw [if_neg e1]
          exact ifI (by omega) (fun _ => rfl) (fun _ => rfl)
      · simp only [hk, false_and, if_false]
        by_cases hk2 : k = b + 2
        · subst hk2
          simp only [true_and, show ¬ (b + 2 = b + 3) by omega, show ¬ (b + 3 = b + 2) by omega, false_and, if_false]
          by_cases e1 : j = l.toNat
          · subst e1
            rw [if_pos rfl, if_neg (by omega), if_pos (by omega)]
          · rw [if_neg e1]
            exact ifI (by omega) (fun _ => rfl) (fun _ => rfl)
        · simp only [hk2, false_and, if_false]
  refine en_X7_exchangeSides (sg_X7_exchangeSides_0 hs (loop 8 0 M rfl (Int.le_refl _) ?_))
  funext k j
  rw [if_neg (by omega), if_neg (by omega)]
theorem c_copyFrom {Q : AM → Prop} {b2 : Nat} (hs : IsSides b) (hs2 : IsSides b2) (hne : b + 5 ≤ b2 ∨ b2 + 5 ≤ b) (h : Q (sCpy M b b2)) : MetV g mX7_copyFrom (d + 1) [vR b, vR b2] M Q := by
  refine en_X7_copyFrom (sg_X7_copyFrom_0 hs hs2 (sg_X7_copyFrom_2 hs hs2 ⟨⟨by decide, by decide⟩, fun c => absurd c (by decide), fun _ => ⟨⟨by decide, by decide⟩, ?_⟩⟩))
  refine sg_X7_copyFrom_2 hs hs2 ⟨⟨by decide, by decide⟩, fun c => absurd c (by decide), fun _ => ⟨⟨by decide, by decide⟩, ?_⟩⟩
  refine sg_X7_copyFrom_2 hs hs2 ⟨⟨by decide, by decide⟩, fun _ => ?_, fun c => absurd (show (2 : Int) ≤ 0 + 1 + 1 by decide) c⟩
  have e : (mC (mU (mC (mU M (b + 4) (0 : Int).toNat (M (b2 + 4) (0 : Int).toNat)) (b2 + 2 + (0 : Int).toNat) (b + 2 + (0 : Int).toNat) 0 0 8) (b + 4) ((0 : Int) + 1).toNat ((mC (mU M (b + 4) (0 : Int).toNat (M (b2 + 4) (0 : Int).toNat)) (b2 + 2 + (0 : Int).toNat) (b + 2 + (0 : Int).toNat) 0 0 8) (b2 + 4) ((0 : Int) + 1).toNat)) (b2 + 2 + ((0 : Int) + 1).toNat) (b + 2 + ((0 : Int) + 1).toNat) 0 0 8) = sCpy M b b2 := by
    funext k j
    simp only [mC, mU, sCpy, show ((0 : Int) + 1).toNat = 1 from rfl, show (0 : Int).toNat = 0 from rfl, Nat.add_zero, Nat.zero_add, Nat.sub_zero, Nat.zero_le, true_and]
    by_cases k4 : k = b + 4
    · subst k4
      simp only [show ¬ (b + 4 = b + 2 + 1) by omega, show ¬ (b + 4 = b + 2) by omega, show ¬ (b2 + 4 = b + 2) by omega, show ¬ (b2 + 4 = b + 4) by omega, show ¬ (b + 4 = b + 3) by omega, false_and, if_false, true_and]
      by_cases j1 : j = 1
      · subst j1
        simp
      · by_cases j0 : j = 0
        · subst j0
          simp
        · simp [j1, j0, show ¬ j < 2 by omega]
    · by_cases k3 : k = b + 3
      · subst k3
        simp only [show b + 2 + 1 = b + 3 by omega, show b2 + 2 + 1 = b2 + 3 by omega, show ¬ (b2 + 3 = b + 4) by omega, show ¬ (b2 + 3 = b + 2) by omega, show ¬ (b + 3 = b + 4) by omega, show ¬ (b + 3 = b + 2) by omega, false_and, if_false, true_and]
      · by_cases k2 : k = b + 2
        · subst k2
          simp only [show ¬ (b + 2 = b + 2 + 1) by omega, show ¬ (b2 + 2 = b + 4) by omega, show ¬ (b + 2 = b + 4) by omega, show ¬ (b + 2 = b + 3) by omega, false_and, if_false, true_and]
        · simp [k4, k3, k2, show ¬ (k = b + 2 + 1) by omega]
  rw [e]
  exact h
end SIDES
