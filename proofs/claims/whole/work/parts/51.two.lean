/-! each call on both sides: the answers are the same, and so is the state -/
def Inv (r : Int) (M : AM) : Prop := ∃ (pg : Int → Int) (z : Int) (A : LF) (n : Int → Int) (T I : Int) (Ai : LF) (ni : Int → Int) (rd : Int) (RK : LF) (RN : Int → Int), RpC M pg z A n T I Ai ni rd RK RN ∧ RpR M pg z A n T I Ai ni rd RK ∧ OkT A n T ∧ OkI T I Ai ∧ OkK RK RN ∧ 0 ≤ rd ∧ rd ≤ r
theorem Inv.mk {r : Int} {M : AM} {pg : Int → Int} {z : Int} {A Ai RK : LF} {n ni RN : Int → Int} {T I rd : Int} (hC : RpC M pg z A n T I Ai ni rd RK RN) (hR : RpR M pg z A n T I Ai ni rd RK) (ok : OkT A n T) (okI : OkI T I Ai) (okK : OkK RK RN) (h0 : 0 ≤ rd) (h1 : rd ≤ r) : Inv r M := ⟨pg, z, A, n, T, I, Ai, ni, rd, RK, RN, hC, hR, ok, okI, okK, h0, h1⟩
theorem OkK.add {RK : LF} {RN : Int → Int} (h : OkK RK RN) {k i : Int} (h3 : RN k < 3) (hi : 0 ≤ i ∧ i < 16) : OkK (f2 RK k (RN k) i) (f1 RN k (RN k + 1)) := by
  intro x x0 x5
  obtain ⟨a, b, c⟩ := h x x0 x5
  unfold f1 f2
  by_cases e : x = k
  · subst e
    rw [if_pos rfl]
    refine ⟨⟨by omega, by omega⟩, fun j j0 j1 => ?_, fun j j1 j3 => ?_⟩
    · by_cases e2 : j = RN x
      · rw [if_pos ⟨rfl, e2⟩]
        exact hi
      · rw [if_neg (fun q => e2 q.2)]
        exact b j j0 (by omega)
    · rw [if_neg (by omega)]
      exact c j (by omega) j3
  · rw [if_neg e]
    refine ⟨a, fun j j0 j1 => ?_, fun j j1 j3 => ?_⟩
    · rw [if_neg (fun q => e q.1)]
      exact b j j0 j1
    · rw [if_neg (fun q => e q.1)]
      exact c j j1 j3
section TWO
variable {g : AG} {d : Nat} {M : AM} {r : Int} {S F : AM → Prop} {K : Int → AM → Prop} {a b c : Int}
theorem tw_letter (hI : Inv r M) (ha : rg a) (hS : ∀ M2, Inv (r + 1) M2 → S M2) (hK : ∀ z M1, MetI g mX9_letter (d + 24) [vR 88, vI a] M1 (fun z' M2 => rg z' → ((z = z' → S M2) ∧ (¬ z = z' → F M2))) → K z M1) : MetI g mX8_letter (d + 24) [vR 0, vI a] M (fun z M1 => rg z → K z M1) := by
  obtain ⟨pg, z, A, n, T, I, Ai, ni, rd, RK, RN, hC, hR, ok, okI, okK, r0, r1⟩ := hI
  by_cases c : (1 ≤ a ∧ a ≤ 126) ∧ z < 64
  · refine c_letter1 (d := d + 22) hC ha c (fun M1 k1 k2 _ => hK _ _ (r_letter1 (d := d + 22) (hR.hi k2) ha c (fun M2 j1 j2 _ => ⟨fun _ => hS M2 ?_, fun w => absurd rfl w⟩)))
    exact Inv.mk (k1.lo j2) j1 ok okI okK r0 (by omega)
  · refine c_letter0 (d := d + 22) hC ha c (fun _ => hK _ _ (r_letter0 (d := d + 22) hR ha c (fun _ => ⟨fun _ => hS M ?_, fun w => absurd rfl w⟩)))
    exact Inv.mk hC hR ok okI okK r0 (by omega)
theorem tw_blank (hI : Inv r M) (hS : ∀ M2, Inv (r + 1) M2 → S M2) : MetI g mX8_blank (d + 24) [vR 0] M (fun z M1 => rg z → MetI g mX9_blank (d + 24) [vR 88] M1 (fun z' M2 => rg z' → ((z = z' → S M2) ∧ (¬ z = z' → F M2)))) := by
  obtain ⟨pg, z, A, n, T, I, Ai, ni, rd, RK, RN, hC, hR, ok, okI, okK, r0, r1⟩ := hI
  refine c_blank (d := d + 23) hC (fun M1 k1 k2 _ => r_blank (d := d + 23) (hR.hi k2) (fun M2 j1 j2 _ => ⟨fun _ => hS M2 ?_, fun w => absurd rfl w⟩))
  exact Inv.mk (k1.lo j2) j1 ok okI okK r0 (by omega)
theorem tw_fault (hI : Inv r M) (hS : ∀ M2, Inv (r + 1) M2 → S M2) : MetI g mX8_fault (d + 24) [vR 0] M (fun z M1 => rg z → MetI g mX9_fault (d + 24) [vR 88] M1 (fun z' M2 => rg z' → ((z = z' → S M2) ∧ (¬ z = z' → F M2)))) := by
  obtain ⟨pg, z, A, n, T, I, Ai, ni, rd, RK, RN, hC, hR, ok, okI, okK, r0, r1⟩ := hI
  refine c_fault (d := d + 19) hC.1 (fun M1 k1 _ => r_fault (d := d + 20) (hR.hi k1.hi).1 (fun M2 j1 _ => ⟨fun _ => hS M2 ?_, fun w => absurd rfl w⟩))
  exact Inv.mk ((hC.kp k1).lo j1.lo) ((hR.hi k1.hi).kp j1) ok okI okK r0 (by omega)
theorem tw_text (hI : Inv r M) (hr : r ≤ 900) (hS : ∀ M2, Inv (r + 1) M2 → S M2) : MetI g mX8_text (d + 24) [vR 0] M (fun z M1 => rg z → MetI g mX9_text (d + 24) [vR 88] M1 (fun z' M2 => rg z' → ((z = z' → S M2) ∧ (¬ z = z' → F M2)))) := by
  obtain ⟨pg, z, A, n, T, I, Ai, ni, rd, RK, RN, hC, hR, ok, okI, okK, r0, r1⟩ := hI
  by_cases c : isTx pg z
  · refine c_text1 (d := d) hC ⟨r0, by omega⟩ c (fun M1 k1 k2 _ => r_text1 (d := d + 16) (hR.hi k2) ⟨r0, by omega⟩ c (fun M2 j1 j2 _ => ⟨fun _ => hS M2 ?_, fun w => absurd rfl w⟩))
    exact Inv.mk (k1.lo j2) j1 ⟨txA_ok pg z, Or.inr rfl, fun w => absurd w (by decide)⟩ ⟨Or.inl rfl, fun w => absurd w (by decide), okI.2.2⟩ OkK_0 (by omega) (by omega)
  · refine c_text0 (d := d) hC c (fun M1 k1 _ => r_text0 (d := d + 16) (hR.hi k1.hi) c (fun M2 j1 _ => ⟨fun _ => hS M2 ?_, fun w => absurd rfl w⟩))
    exact Inv.mk ((hC.kp k1).lo j1.lo) ((hR.hi k1.hi).kp j1) ok okI okK r0 (by omega)
theorem tw_line (hI : Inv r M) (ha : rg a) (hb : rg b) (hc : rg c) (hS : ∀ M2, Inv (r + 1) M2 → S M2) (hK : ∀ z M1, MetI g mX9_line (d + 24) [vR 88, vI a, vI b, vI c] M1 (fun z' M2 => rg z' → ((z = z' → S M2) ∧ (¬ z = z' → F M2))) → K z M1) : MetI g mX8_line (d + 24) [vR 0, vI a, vI b, vI c] M (fun z M1 => rg z → K z M1) := by
  obtain ⟨pg, z, A, n, T, I, Ai, ni, rd, RK, RN, hC, hR, ok, okI, okK, r0, r1⟩ := hI
  refine c_line (d := d + 21) hC.2.1 ok ha hb hc (fun _ => hK _ _ (r_line (d := d + 20) hR.2.1 ok ha hb hc (fun _ => ⟨fun _ => hS M ?_, fun w => absurd rfl w⟩)))
  exact Inv.mk hC hR ok okI okK r0 (by omega)
theorem tw_step (hI : Inv r M) (ha : rg a) (hb : rg b) (hS : ∀ M2, Inv (r + 1) M2 → S M2) (hK : ∀ z M1, MetI g mX9_step (d + 24) [vR 88, vI a, vI b] M1 (fun z' M2 => rg z' → ((z = z' → S M2) ∧ (¬ z = z' → F M2))) → K z M1) : MetI g mX8_step (d + 24) [vR 0, vI a, vI b] M (fun z M1 => rg z → K z M1) := by
  obtain ⟨pg, z, A, n, T, I, Ai, ni, rd, RK, RN, hC, hR, ok, okI, okK, r0, r1⟩ := hI
  refine c_step (d := d + 22) hC.2.1 ha hb (fun _ => hK _ _ (r_step (d := d + 21) hR.2.1 ha hb (fun _ => ⟨fun _ => hS M ?_, fun w => absurd rfl w⟩)))
  exact Inv.mk hC hR ok okI okK r0 (by omega)
theorem tw_letters (hI : Inv r M) (ha : rg a) (hb : rg b) (hS : ∀ M2, Inv (r + 1) M2 → S M2) (hK : ∀ z M1, MetI g mX9_letters (d + 24) [vR 88, vI a, vI b] M1 (fun z' M2 => rg z' → ((z = z' → S M2) ∧ (¬ z = z' → F M2))) → K z M1) : MetI g mX8_letters (d + 24) [vR 0, vI a, vI b] M (fun z M1 => rg z → K z M1) := by
  obtain ⟨pg, z, A, n, T, I, Ai, ni, rd, RK, RN, hC, hR, ok, okI, okK, r0, r1⟩ := hI
  refine c_letters (d := d + 20) hC.2.1 ok ha hb (fun M1 k1 _ => hK _ _ (r_letters (d := d + 19) (hR.hi k1.hi).2.1 ok ha hb (fun M2 j1 _ => ⟨fun _ => hS M2 ?_, fun w => absurd rfl w⟩)))
  exact Inv.mk ((hC.kp k1).lo j1.lo) ((hR.hi k1.hi).kp j1) ok okI okK r0 (by omega)
theorem tw_like (hI : Inv r M) (ha : rg a) (hb : rg b) (hS : ∀ M2, Inv (r + 1) M2 → S M2) (hK : ∀ z M1, MetI g mX9_like (d + 24) [vR 88, vI a, vI b] M1 (fun z' M2 => rg z' → ((z = z' → S M2) ∧ (¬ z = z' → F M2))) → K z M1) : MetI g mX8_like (d + 24) [vR 0, vI a, vI b] M (fun z M1 => rg z → K z M1) := by
  obtain ⟨pg, z, A, n, T, I, Ai, ni, rd, RK, RN, hC, hR, ok, okI, okK, r0, r1⟩ := hI
  refine c_like (d := d + 19) hC.2.1 ok ha hb (fun M1 k1 _ => hK _ _ (r_like (d := d + 19) (hR.hi k1.hi).2.1 ok ha hb (fun M2 j1 _ => ⟨fun _ => hS M2 ?_, fun w => absurd rfl w⟩)))
  exact Inv.mk ((hC.kp k1).lo j1.lo) ((hR.hi k1.hi).kp j1) ok okI okK r0 (by omega)
theorem tw_rack (hI : Inv r M) (ha : rg a) (hb : rg b) (hS : ∀ M2, Inv (r + 1) M2 → S M2) (hK : ∀ z M1, MetI g mX9_rack (d + 24) [vR 88, vI a, vI b] M1 (fun z' M2 => rg z' → ((z = z' → S M2) ∧ (¬ z = z' → F M2))) → K z M1) : MetI g mX8_rack (d + 24) [vR 0, vI a, vI b] M (fun z M1 => rg z → K z M1) := by
  obtain ⟨pg, z, A, n, T, I, Ai, ni, rd, RK, RN, hC, hR, ok, okI, okK, r0, r1⟩ := hI
  by_cases c : mayR (SCR A n) RN a b
  · have l16 := SCR_len (A := A) hC.2.1.1.2.2.1 hC.2.1.1.2.2.2.1
    have ab := c.1
    unfold isSt at ab
    refine c_rack1 (d := d + 22) hC.2.1 hC.2.2.2 okK ha hb c (fun M1 k1 k2 _ => hK _ _ (r_rack1 (d := d + 21) (hR.hi (fun k hk => k2 k (by omega))).2.1 (hR.hi (fun k hk => k2 k (by omega))).2.2.2 okK ha hb c (fun M2 j1 j2 _ => ⟨fun _ => hS M2 ?_, fun w => absurd rfl w⟩)))
    have c1 : RpC M1 pg z A n T I Ai ni rd _ _ := ⟨hC.1.same (k2 1 (by omega)) (k2 2 (by omega)), hC.2.1.same (fun k hk => k2 k (by omega)), hC.2.2.1.same (fun k hk => k2 k (by omega)), k1⟩
    have hR1 := hR.hi (M' := M1) (fun k hk => k2 k (by omega))
    refine Inv.mk (c1.lo (fun k hk => j2 k (by omega))) ⟨hR1.1.same (by rw [j2 88 (by decide)]) (j2 89 (by decide)), hR1.2.1.same (fun k hk => j2 k (by omega)) (fun j _ => by rw [j2 88 (by decide)]), hR1.2.2.1.same (fun k hk => j2 k (by omega)) (fun j _ => by rw [j2 88 (by decide)]), j1⟩ ok okI (okK.add c.2.2.1 ⟨by omega, by omega⟩) r0 (by omega)
  · refine c_rack0 (d := d + 22) hC.2.1 hC.2.2.2 ha hb c (fun _ => hK _ _ (r_rack0 (d := d + 21) hR.2.1 hR.2.2.2 okK ha hb c (fun _ => ⟨fun _ => hS M ?_, fun w => absurd rfl w⟩)))
    exact Inv.mk hC hR ok okI okK r0 (by omega)
theorem tw_racked (hI : Inv r M) (ha : rg a) (hb : rg b) (hS : ∀ M2, Inv (r + 1) M2 → S M2) (hK : ∀ z M1, MetI g mX9_racked (d + 24) [vR 88, vI a, vI b] M1 (fun z' M2 => rg z' → ((z = z' → S M2) ∧ (¬ z = z' → F M2))) → K z M1) : MetI g mX8_racked (d + 24) [vR 0, vI a, vI b] M (fun z M1 => rg z → K z M1) := by
  obtain ⟨pg, z, A, n, T, I, Ai, ni, rd, RK, RN, hC, hR, ok, okI, okK, r0, r1⟩ := hI
  refine c_racked (d := d + 23) hC.2.2.2 okK ha hb (fun _ => hK _ _ (r_racked (d := d + 22) hR.2.2.2 ha hb (fun _ => ⟨fun _ => hS M ?_, fun w => absurd rfl w⟩)))
  exact Inv.mk hC hR ok okI okK r0 (by omega)
theorem tw_put (hI : Inv r M) (ha : rg a) (hb : rg b) (hc : rg c) (hS : ∀ M2, Inv (r + 1) M2 → S M2) (hK : ∀ z M1, MetI g mX9_put (d + 24) [vR 88, vI a, vI b, vI c] M1 (fun z' M2 => rg z' → ((z = z' → S M2) ∧ (¬ z = z' → F M2))) → K z M1) : MetI g mX8_put (d + 24) [vR 0, vI a, vI b, vI c] M (fun z M1 => rg z → K z M1) := by
  obtain ⟨pg, z, A, n, T, I, Ai, ni, rd, RK, RN, hC, hR, ok, okI, okK, r0, r1⟩ := hI
  by_cases y : mayP n T a b c
  · refine c_put1 (d := d) hC ok ha hb hc y (fun M1 k1 k2 _ => hK _ _ (r_put1 (d := d + 16) (hR.hi k2) ok ha hb hc y (fun M2 j1 j2 _ => ⟨fun _ => hS M2 ?_, fun w => absurd rfl w⟩)))
    exact Inv.mk (k1.lo j2) j1 ⟨okA.ins ok.1 (okLn_ok y.2.1), ok.2.1, fun w => by have := y.2.2.1; omega⟩ okI OkK_0 r0 (by omega)
  · refine c_put0 (d := d) hC ok ha hb hc y (fun _ => hK _ _ (r_put0 (d := d + 16) hR ok ha hb hc y (fun _ => ⟨fun _ => hS M ?_, fun w => absurd rfl w⟩)))
    exact Inv.mk hC hR ok okI okK r0 (by omega)
theorem tw_take (hI : Inv r M) (ha : rg a) (hb : rg b) (hS : ∀ M2, Inv (r + 1) M2 → S M2) (hK : ∀ z M1, MetI g mX9_take (d + 24) [vR 88, vI a, vI b] M1 (fun z' M2 => rg z' → ((z = z' → S M2) ∧ (¬ z = z' → F M2))) → K z M1) : MetI g mX8_take (d + 24) [vR 0, vI a, vI b] M (fun z M1 => rg z → K z M1) := by
  obtain ⟨pg, z, A, n, T, I, Ai, ni, rd, RK, RN, hC, hR, ok, okI, okK, r0, r1⟩ := hI
  by_cases y : isLn n a b
  · refine c_take1 (d := d) hC ok ha hb y (fun M1 k1 k2 _ => hK _ _ (r_take1 (d := d + 16) (hR.hi k2) ok ha hb y (fun M2 j1 j2 _ => ⟨fun _ => hS M2 ?_, fun w => absurd rfl w⟩)))
    refine Inv.mk (k1.lo j2) j1 ⟨okA.rem ok.1, ok.2.1, fun w => ?_⟩ okI OkK_0 r0 (by omega)
    obtain ⟨y1, y2, y3⟩ := y
    have := ok.2.2 w
    rcases y1 with rfl | rfl <;> omega
  · refine c_take0 (d := d) hC ha hb y (fun _ => hK _ _ (r_take0 (d := d + 16) hR ha hb y (fun _ => ⟨fun _ => hS M ?_, fun w => absurd rfl w⟩)))
    exact Inv.mk hC hR ok okI okK r0 (by omega)
theorem tw_swap (hI : Inv r M) (ha : rg a) (hb : rg b) (hc : rg c) (hS : ∀ M2, Inv (r + 1) M2 → S M2) (hK : ∀ z M1, MetI g mX9_swap (d + 24) [vR 88, vI a, vI b, vI c] M1 (fun z' M2 => rg z' → ((z = z' → S M2) ∧ (¬ z = z' → F M2))) → K z M1) : MetI g mX8_swap (d + 24) [vR 0, vI a, vI b, vI c] M (fun z M1 => rg z → K z M1) := by
  obtain ⟨pg, z, A, n, T, I, Ai, ni, rd, RK, RN, hC, hR, ok, okI, okK, r0, r1⟩ := hI
  by_cases y : isLn n a b ∧ isLn n a c ∧ b ≠ c
  · refine c_swap1 (d := d) hC ok ha hb hc y (fun M1 k1 k2 _ => hK _ _ (r_swap1 (d := d + 16) (hR.hi k2) ok ha hb hc y (fun M2 j1 j2 _ => ⟨fun _ => hS M2 ?_, fun w => absurd rfl w⟩)))
    exact Inv.mk (k1.lo j2) j1 ⟨okA.swp ok.1, ok.2.1, ok.2.2⟩ okI OkK_0 r0 (by omega)
  · refine c_swap0 (d := d) hC ha hb hc y (fun _ => hK _ _ (r_swap0 (d := d + 16) hR ha hb hc y (fun _ => ⟨fun _ => hS M ?_, fun w => absurd rfl w⟩)))
    exact Inv.mk hC hR ok okI okK r0 (by omega)
theorem tw_turn (hI : Inv r M) (hS : ∀ M2, Inv (r + 1) M2 → S M2) : MetI g mX8_turn (d + 24) [vR 0] M (fun z M1 => rg z → MetI g mX9_turn (d + 24) [vR 88] M1 (fun z' M2 => rg z' → ((z = z' → S M2) ∧ (¬ z = z' → F M2)))) := by
  obtain ⟨pg, z, A, n, T, I, Ai, ni, rd, RK, RN, hC, hR, ok, okI, okK, r0, r1⟩ := hI
  rcases ok.2.1 with y | y
  · refine c_turn0 (d := d) hC y (fun _ => r_turn0 (d := d + 16) hR y (fun _ => ⟨fun _ => hS M ?_, fun w => absurd rfl w⟩))
    exact Inv.mk hC hR ok okI okK r0 (by omega)
  · refine c_turn1 (d := d) hC ok y (fun M1 k1 k2 _ => r_turn1 (d := d + 16) (hR.hi k2) ok y (fun M2 j1 j2 _ => ⟨fun _ => hS M2 ?_, fun w => absurd rfl w⟩))
    exact Inv.mk (k1.lo j2) j1 ⟨okA.exc ok.1, ok.2.1, fun w => by omega⟩ okI OkK_0 r0 (by omega)
theorem tw_cost (hI : Inv r M) (ha : rg a) (hS : ∀ M2, Inv (r + 1) M2 → S M2) (hK : ∀ z M1, MetI g mX9_cost (d + 24) [vR 88, vI a] M1 (fun z' M2 => rg z' → ((z = z' → S M2) ∧ (¬ z = z' → F M2))) → K z M1) : MetI g mX8_cost (d + 24) [vR 0, vI a] M (fun z M1 => rg z → K z M1) := by
  obtain ⟨pg, z, A, n, T, I, Ai, ni, rd, RK, RN, hC, hR, ok, okI, okK, r0, r1⟩ := hI
  refine c_cost (d := d + 21) hC.2.1 ok ha (fun M1 k1 _ => hK _ _ (r_cost (d := d + 20) (hR.hi k1.hi).2.1 ok ha (fun M2 j1 _ => ⟨fun _ => hS M2 ?_, fun w => absurd rfl w⟩)))
  exact Inv.mk ((hC.kp k1).lo j1.lo) ((hR.hi k1.hi).kp j1) ok okI okK r0 (by omega)
theorem tw_best (hI : Inv r M) (ha : rg a) (hS : ∀ M2, Inv (r + 1) M2 → S M2) (hK : ∀ z M1, MetI g mX9_best (d + 24) [vR 88, vI a] M1 (fun z' M2 => rg z' → ((z = z' → S M2) ∧ (¬ z = z' → F M2))) → K z M1) : MetI g mX8_best (d + 24) [vR 0, vI a] M (fun z M1 => rg z → K z M1) := by
  obtain ⟨pg, z, A, n, T, I, Ai, ni, rd, RK, RN, hC, hR, ok, okI, okK, r0, r1⟩ := hI
  refine c_best (d := d) hC.2.1 ok ha (fun M1 k1 _ => hK _ _ (r_best (d := d + 16) (hR.hi k1.hi) ok ha (fun M2 j1 j2 _ => ⟨fun _ => hS M2 ?_, fun w => absurd rfl w⟩)))
  exact Inv.mk ((hC.kp k1).lo j2) j1 ok okI okK r0 (by omega)
theorem tw_drawn (hI : Inv r M) (ha : rg a) (hb : rg b) (hc : rg c) (hS : ∀ M2, Inv (r + 1) M2 → S M2) (hK : ∀ z M1, MetI g mX9_drawn (d + 24) [vR 88, vI a, vI b, vI c] M1 (fun z' M2 => rg z' → ((z = z' → S M2) ∧ (¬ z = z' → F M2))) → K z M1) : MetI g mX8_drawn (d + 24) [vR 0, vI a, vI b, vI c] M (fun z M1 => rg z → K z M1) := by
  obtain ⟨pg, z, A, n, T, I, Ai, ni, rd, RK, RN, hC, hR, ok, okI, okK, r0, r1⟩ := hI
  refine c_drawn (d := d) ha hb hc (fun M1 k1 _ => hK _ _ (r_drawn (d := d + 16) (hR.hi k1.hi) ha hb hc (fun M2 j1 j2 _ => ⟨fun _ => hS M2 ?_, fun w => absurd rfl w⟩)))
  exact Inv.mk ((hC.kp k1).lo j2) j1 ok okI okK r0 (by omega)
theorem tw_all (hI : Inv r M) (hS : ∀ M2, Inv (r + 1) M2 → S M2) : MetL g mX8_all (d + 24) [vR 0] M (fun z M1 => MetL g mX9_all (d + 24) [vR 88] M1 (fun z' M2 => ((lCmp z z' = 0 → S M2) ∧ (¬ lCmp z z' = 0 → F M2)))) := by
  obtain ⟨pg, z, A, n, T, I, Ai, ni, rd, RK, RN, hC, hR, ok, okI, okK, r0, r1⟩ := hI
  refine c_all (d := d + 22) hC.2.1 ok (r_all (d := d + 21) hR.2.1 ok ⟨fun _ => hS M ?_, fun w => absurd (lCmp_self _) w⟩)
  exact Inv.mk hC hR ok okI okK r0 (by omega)
theorem tw_image (hI : Inv r M) (hS : ∀ M2, Inv (r + 1) M2 → S M2) : MetI g mX8_image (d + 24) [vR 0] M (fun z M1 => rg z → MetI g mX9_image (d + 24) [vR 88] M1 (fun z' M2 => rg z' → ((z = z' → S M2) ∧ (¬ z = z' → F M2)))) := by
  obtain ⟨pg, z, A, n, T, I, Ai, ni, rd, RK, RN, hC, hR, ok, okI, okK, r0, r1⟩ := hI
  rcases ok.2.1 with y | y
  · refine c_image0 (d := d + 22) hC y (fun _ => r_image0 (d := d + 22) hR y (fun _ => ⟨fun _ => hS M ?_, fun w => absurd rfl w⟩))
    exact Inv.mk hC hR ok okI okK r0 (by omega)
  · refine c_image1 (d := d + 22) hC y (fun M1 k1 k2 _ => r_image1 (d := d + 22) (hR.hi k2) y (fun M2 j1 j2 _ => ⟨fun _ => hS M2 ?_, fun w => absurd rfl w⟩))
    exact Inv.mk (k1.lo j2) j1 ok ⟨Or.inr rfl, fun _ => y, ok.1⟩ okK r0 (by omega)
theorem tw_restore (hI : Inv r M) (hS : ∀ M2, Inv (r + 1) M2 → S M2) : MetI g mX8_restore (d + 24) [vR 0] M (fun z M1 => rg z → MetI g mX9_restore (d + 24) [vR 88] M1 (fun z' M2 => rg z' → ((z = z' → S M2) ∧ (¬ z = z' → F M2)))) := by
  obtain ⟨pg, z, A, n, T, I, Ai, ni, rd, RK, RN, hC, hR, ok, okI, okK, r0, r1⟩ := hI
  rcases okI.1 with y | y
  · refine c_restore0 (d := d) hC y (fun _ => r_restore0 (d := d + 16) hR y (fun _ => ⟨fun _ => hS M ?_, fun w => absurd rfl w⟩))
    exact Inv.mk hC hR ok okI okK r0 (by omega)
  · refine c_restore1 (d := d) hC okI y (fun M1 k1 k2 _ => r_restore1 (d := d + 16) (hR.hi k2) okI y (fun M2 j1 j2 _ => ⟨fun _ => hS M2 ?_, fun w => absurd rfl w⟩))
    exact Inv.mk (k1.lo j2) j1 ⟨okI.2.2, ok.2.1, fun w => by have := okI.2.1 y; omega⟩ okI OkK_0 r0 (by omega)
theorem tw_count (hI : Inv r M) (ha : rg a) (hS : ∀ M2, Inv (r + 1) M2 → S M2) (hK : ∀ z M1, MetI g mX9_count (d + 24) [vR 88, vI a] M1 (fun z' M2 => rg z' → ((z = z' → S M2) ∧ (¬ z = z' → F M2))) → K z M1) : MetI g mX8_count (d + 24) [vR 0, vI a] M (fun z M1 => rg z → K z M1) := by
  obtain ⟨pg, z, A, n, T, I, Ai, ni, rd, RK, RN, hC, hR, ok, okI, okK, r0, r1⟩ := hI
  refine c_count (d := d + 22) hC.1 hC.2.1 hC.2.2.1 hC.2.2.2 okK ha (fun _ => hK _ _ (r_count (d := d + 20) hR.1 hR.2.1 hR.2.2.1 hR.2.2.2 okK ha (fun _ => ⟨fun _ => hS M ?_, fun w => absurd rfl w⟩)))
  exact Inv.mk hC hR ok okI okK r0 (by omega)
theorem tw_digest (hI : Inv r M) (hS : ∀ M2, Inv (r + 1) M2 → S M2) : MetL g mX8_digest (d + 24) [vR 0] M (fun z M1 => MetL g mX9_digest (d + 24) [vR 88] M1 (fun z' M2 => ((lCmp z z' = 0 → S M2) ∧ (¬ lCmp z z' = 0 → F M2)))) := by
  obtain ⟨pg, z, A, n, T, I, Ai, ni, rd, RK, RN, hC, hR, ok, okI, okK, r0, r1⟩ := hI
  refine c_digest (d := d + 19) hC ok okK (fun M1 k1 => r_digest (d := d + 19) (hR.hi k1.hi) ok okK (fun M2 j1 => ⟨fun _ => hS M2 ?_, fun w => absurd (lCmp_self _) w⟩))
  exact Inv.mk ((hC.kp k1).lo j1.lo) ((hR.hi k1.hi).kp j1) ok okI okK r0 (by omega)
/-- the law's loop -/
theorem law_loop {Q : Int → AM → Prop} (hL : gLn g ≤ 2048) (h : ∀ M', Q 1 M') : ∀ (m : Nat) (l r : Int) (M : AM), (gLn g : Int) - l ≤ m → (0 ≤ l ∧ l ≤ 3000) → 4 * r ≤ l → 0 ≤ r → r ≤ 600 → Inv r M → S_L_law_18 g (d + 25) l M Q := by
  intro m
  induction m with
  | zero =>
    intro l r M hm l0 lr r0 r6 hI
    exact sg_L_law_18 ⟨⟨by omega, by omega⟩, ⟨by omega, by omega⟩, fun _ => h M, fun w => by omega⟩
  | succ m ih =>
    intro l r M hm l0 lr r0 r6 hI
    by_cases c : (gLn g : Int) - 4 < l
    · exact sg_L_law_18 ⟨⟨by omega, by omega⟩, ⟨by omega, by omega⟩, fun _ => h M, fun w => absurd c w⟩
    · have nx : ∀ M2, Inv (r + 1) M2 → S_L_law_18 g (d + 25) (l + 4) M2 Q := fun M2 i2 => ih (l + 4) (r + 1) M2 (by omega) ⟨by omega, by omega⟩ (by omega) (by omega) (by omega) i2
      have i1 : Inv (r + 1) M := by
        obtain ⟨pg, z, A, n, T, I, Ai, ni, rd, RK, RN, hC, hR, ok, okI, okK, q0, q1⟩ := hI
        exact Inv.mk hC hR ok okI okK q0 (by omega)
      have rx : ∀ k, rg (gxs g k).toInt := fun k => rg_toInt _
      have hz : gLn g < 2147483648 := by omega
      have b1 : 0 ≤ l + 1 ∧ l + 1 < gLn g := ⟨by omega, by omega⟩
      have b2 : 0 ≤ l + 2 ∧ l + 2 < gLn g := ⟨by omega, by omega⟩
      have b3 : 0 ≤ l + 3 ∧ l + 3 < gLn g := ⟨by omega, by omega⟩
      refine sg_L_law_18 ⟨⟨by omega, by omega⟩, ⟨by omega, by omega⟩, fun w => absurd w c, fun _ => ⟨⟨by omega, by omega⟩, hz, fun _ => nx M i1, fun _ => ⟨b1, hz, ?_⟩, fun _ => ?_, fun _ => ?_, fun _ => ?_, fun _ => ⟨b1, hz, b2, hz, b3, hz, ?_⟩, fun _ => ⟨b1, hz, b2, hz, ?_⟩, fun _ => ⟨b1, hz, b2, hz, ?_⟩, fun _ => ⟨b1, hz, b2, hz, ?_⟩, fun _ => ⟨b1, hz, b2, hz, ?_⟩, fun _ => ⟨b1, hz, b2, hz, ?_⟩, fun _ => ⟨b1, hz, b2, hz, b3, hz, ?_⟩, fun _ => ⟨b1, hz, b2, hz, ?_⟩, fun _ => ⟨b1, hz, b2, hz, b3, hz, ?_⟩, fun _ => ?_, fun _ => ⟨b1, hz, ?_⟩, fun _ => ⟨b1, hz, ?_⟩, fun _ => ?_, fun _ => ⟨b1, hz, b2, hz, b3, hz, ?_⟩, fun _ => ?_, fun _ => ?_, fun _ => ⟨b1, hz, ?_⟩, fun _ => ?_⟩⟩
      · exact tw_letter hI (rx _) nx (fun _ _ q => ⟨b1, hz, q⟩)
      · exact tw_blank hI nx
      · exact tw_fault hI nx
      · exact tw_text hI (by omega) nx
      · exact tw_line hI (rx _) (rx _) (rx _) nx (fun _ _ q => ⟨b1, hz, b2, hz, b3, hz, q⟩)
      · exact tw_step hI (rx _) (rx _) nx (fun _ _ q => ⟨b1, hz, b2, hz, q⟩)
      · exact tw_letters hI (rx _) (rx _) nx (fun _ _ q => ⟨b1, hz, b2, hz, q⟩)
      · exact tw_like hI (rx _) (rx _) nx (fun _ _ q => ⟨b1, hz, b2, hz, q⟩)
      · exact tw_rack hI (rx _) (rx _) nx (fun _ _ q => ⟨b1, hz, b2, hz, q⟩)
      · exact tw_racked hI (rx _) (rx _) nx (fun _ _ q => ⟨b1, hz, b2, hz, q⟩)
      · exact tw_put hI (rx _) (rx _) (rx _) nx (fun _ _ q => ⟨b1, hz, b2, hz, b3, hz, q⟩)
      · exact tw_take hI (rx _) (rx _) nx (fun _ _ q => ⟨b1, hz, b2, hz, q⟩)
      · exact tw_swap hI (rx _) (rx _) (rx _) nx (fun _ _ q => ⟨b1, hz, b2, hz, b3, hz, q⟩)
      · exact tw_turn hI nx
      · exact tw_cost hI (rx _) nx (fun _ _ q => ⟨b1, hz, q⟩)
      · exact tw_best hI (rx _) nx (fun _ _ q => ⟨b1, hz, q⟩)
      · exact tw_all hI nx
      · exact tw_drawn hI (rx _) (rx _) (rx _) nx (fun _ _ q => ⟨b1, hz, b2, hz, b3, hz, q⟩)
      · exact tw_image hI nx
      · exact tw_restore hI nx
      · exact tw_count hI (rx _) nx (fun _ _ q => ⟨b1, hz, q⟩)
      · exact tw_digest hI nx
end TWO
