/-! the class's readInto: the lines of a text -/
def szP (r : RdS) (s : Int) : Int := if s = r.1 ∧ 0 < r.2.1 then r.2.2.1 s - 1 else r.2.2.1 s
def RdI (M : AM) (r : RdS) : Prop := ∀ s, s = 0 ∨ s = 1 → M 9 s.toNat = szP r s ∧ ∀ i, 0 ≤ i → i < szP r s → M (7 + s.toNat) i.toNat = r.2.2.2 s i
def pkd (r : RdS) : Int := if r.2.1 = 0 then 0 else r.2.2.2 r.1 (r.2.2.1 r.1 - 1)
section CREAD
variable {g : AG} {d : Nat} {M : AM} {pg : Int → Int} {z : Int}
theorem c_flush {Q : AM → Prop} {r : RdS} (ok : RdOk r) (hL : RdL r) (hI : RdI M r) (h : ∀ M', (∀ s, s = 0 ∨ s = 1 → M' 9 s.toNat = r.2.2.1 s ∧ ∀ i, 0 ≤ i → i < r.2.2.1 s → M' (7 + s.toNat) i.toNat = r.2.2.2 s i) → (∀ k, k ≠ 7 → k ≠ 8 → k ≠ 9 → M' k = M k) → Q M') : rg (pkd r) ∧ MetV g mX7_appendLine (d + 3) [vR 5, vI r.1, vI (pkd r)] M Q := by
  obtain ⟨sd, hr, n, A⟩ := r
  obtain ⟨o1, o2, o3, o4, o5, o6, o7⟩ := ok
  obtain ⟨l1, _, _⟩ := hL
  unfold RdI szP at hI
  unfold pkd
  simp only at o1 o2 o3 o4 o5 o6 o7 l1 hI h ⊢
  by_cases c : hr = 0
  · rw [if_pos c]
    refine ⟨⟨by decide, by decide⟩, c_append0 (d := d + 2) isSides_5 (h M (fun s hs => ?_) (fun _ _ _ _ => rfl))⟩
    have := hI s hs
    rw [if_neg (by omega)] at this
    exact this
  · rw [if_neg c]
    have np := o7 (by omega)
    have n8 : n sd ≤ 8 := by rcases o1 with rfl | rfl <;> omega
    have hv := okLn_rg (l1 sd (n sd - 1) o1 (by omega) (by omega))
    have hs := (hI sd o1).1
    rw [if_pos ⟨rfl, by omega⟩] at hs
    refine ⟨⟨by omega, by omega⟩, c_append isSides_5 o1 ⟨by omega, by omega⟩ (by omega) (by rw [show 5 + 4 = 9 from rfl, hs]; omega) (h _ (fun s hq => ?_) (fun k q1 q2 q3 => ?_))⟩
    · rw [show 5 + 4 = 9 from rfl, hs]
      obtain ⟨i1, i2⟩ := hI s hq
      by_cases e : s = sd
      · subst e
        rw [if_pos ⟨rfl, by omega⟩] at i1 i2
        refine ⟨?_, fun i i0 i3 => ?_⟩
        · unfold sIns
          rw [if_pos ⟨rfl, rfl⟩, i1]
          omega
        · unfold sIns
          rw [if_neg (by omega)]
          by_cases e2 : i = n s - 1
          · subst e2
            rw [if_pos ⟨by omega, rfl⟩]
          · rw [if_neg (by omega), if_neg (by omega)]
            exact i2 i i0 (by omega)
      · rw [if_neg (fun q => e q.1)] at i1 i2
        refine ⟨?_, fun i i0 i3 => ?_⟩
        · unfold sIns
          rw [if_neg (by omega), if_neg (by omega), if_neg (by omega)]
          exact i1
        · unfold sIns
          rw [if_neg (by omega), if_neg (by omega), if_neg (by omega)]
          exact i2 i i0 i3
    · funext j
      unfold sIns
      rw [if_neg (by omega), if_neg (by omega), if_neg (by omega)]
end CREAD
