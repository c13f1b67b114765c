/-! a script has at most sixteen steps -/
theorem scS_len {A P : LF} {n : Int → Int} (W : WFs P n) : ∀ (m : Nat) (i j G : Int), 0 ≤ i → i ≤ n 0 → 0 ≤ j → j ≤ n 1 → Cut P 0 i j → ((scS A P n m i j G).length : Int) ≤ (n 0 - i) + (n 1 - j) := by
  intro m
  induction m with
  | zero =>
    intro i j G i0 i1 j0 j1 C
    rw [show scS A P n 0 i j G = [] from rfl, List.length_nil]
    omega
  | succ m ih =>
    intro i j G i0 i1 j0 j1 C
    rw [scS_s]
    obtain ⟨wk1, wk2⟩ := walk W C i0 i1 j0 j1
    obtain ⟨p1, p2, _, _⟩ := nk_ok P n 0 i i1
    obtain ⟨q1, q2, _, _⟩ := nk_ok P n 1 j j1
    generalize nk P n 0 i = p at *
    generalize nk P n 1 j = q at *
    have a1 := dpS_len A i p j q G (p - i).toNat 0
    have a2 := adS_len A i p j q G (q - j).toNat 0
    unfold gpS
    rw [List.length_append, List.length_append]
    by_cases c : n 0 ≤ p
    · rw [if_pos c, List.length_nil]
      omega
    · have w := wk1.mp (by omega)
      have := ih (p + 1) (q + 1) (G + gI i p j q) (by omega) (by omega) (by omega) (by omega) (wk2 (by omega))
      rw [if_neg c, List.length_cons]
      omega
theorem SCR_len {A : LF} {n : Int → Int} (h0 : 0 ≤ n 0 ∧ n 0 ≤ 8) (h1 : 0 ≤ n 1 ∧ n 1 ≤ 8) : (SCR A n).length ≤ 16 := by
  have := scS_len (A := A) (KP_wf (A := A) h0.1 h1.1) 9 0 0 0 (by omega) h0.1 (by omega) h1.1 ⟨fun x x0 x1 => by omega, fun x x0 x1 => by omega⟩
  unfold SCR
  omega
