/-! the reference's copy of an array -/
theorem r_copy {g : AG} {d : Nat} {M : AM} {Q : AM → Prop} {a1 n1 a2 n2 : Nat} (ha1 : KD[a1]? = some (.inr (.inl n1))) (ha2 : KD[a2]? = some (.inr (.inl n2))) (hn : n1 ≤ n2) (h9 : n1 ≤ 1000) (ne : a1 ≠ a2)
    (h : ∀ M', (∀ k : Nat, k < n1 → M' a2 k = M a1 k) → (∀ k : Nat, n1 ≤ k → M' a2 k = M a2 k) → (∀ k, k ≠ a2 → M' k = M k) → Q M') : MetV g mX9_copy (d + 1) [vR a1, vR a2] M Q := by
  have loop : ∀ (m : Nat) (l : Int) (M1 : AM), l + m = n1 → 0 ≤ l → (∀ k : Nat, (k : Int) < l → M1 a2 k = M a1 k) → (∀ k : Nat, l ≤ k → M1 a2 k = M a2 k) → (∀ k, k ≠ a2 → M1 k = M k) → S_X9_copy_2 g (d + 1) a1 n1 a2 n2 l M1 Q := by
    intro m
    induction m with
    | zero =>
      intro l M1 hm l0 g1 g2 gF
      exact sg_X9_copy_2 ha1 ha2 ⟨⟨by omega, by omega⟩, ⟨by omega, by omega⟩, fun _ => h M1 (fun k hk => g1 k (by omega)) (fun k hk => g2 k (by omega)) gF, fun w => by omega⟩
    | succ m ih =>
      intro l M1 hm l0 g1 g2 gF
      refine sg_X9_copy_2 ha1 ha2 ⟨⟨by omega, by omega⟩, ⟨by omega, by omega⟩, fun w => by omega, fun _ => ⟨⟨by omega, by omega⟩, ⟨by omega, by omega⟩, ?_⟩⟩
      refine ih (l + 1) _ (by omega) (by omega) (fun k hk => ?_) (fun k hk => ?_) (fun k hk => by rw [mU_ne hk]; exact gF k hk)
      · by_cases e : k = l.toNat
        · subst e
          rw [mU_at, gF a1 ne]
        · rw [mU_nej e]
          exact g1 k (by omega)
      · rw [mU_nej (by omega)]
        exact g2 k (by omega)
  exact en_X9_copy (sg_X9_copy_0 ha1 ha2 (loop n1 0 M (by omega) (by omega) (fun k hk => by omega) (fun _ _ => rfl) (fun _ _ => rfl)))
