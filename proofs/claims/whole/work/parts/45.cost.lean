/-! cost, all, count, on both sides -/
def kcN (P : LF) : Nat → Int → Int
  | 0, _ => 0
  | m + 1, i => (if P 0 i = -1 then 0 else 1) + kcN P m (i + 1)
theorem kcN_s (P : LF) (m : Nat) (i : Int) : kcN P (m + 1) i = (if P 0 i = -1 then 0 else 1) + kcN P m (i + 1) := rfl
theorem kcN_r (P : LF) : ∀ (m : Nat) (i : Int), 0 ≤ kcN P m i ∧ kcN P m i ≤ m := by
  intro m
  induction m with
  | zero => intro i; exact ⟨Int.le_refl _, Int.le_refl _⟩
  | succ m ih =>
    intro i
    have := ih (i + 1)
    rw [kcN_s]
    split <;> omega
theorem kcN_cg {P P' : LF} : ∀ (m : Nat) (i : Int), (∀ x, i ≤ x → x < i + m → P 0 x = P' 0 x) → kcN P m i = kcN P' m i := by
  intro m
  induction m with
  | zero => intro i _; rfl
  | succ m ih =>
    intro i h
    rw [kcN_s, kcN_s, h i (by omega) (by omega), ih (i + 1) (fun x a b => h x (by omega) (by omega))]
/-- how many lines are kept -/
def kpN (P : LF) (n : Int → Int) : Int := kcN P (n 0).toNat 0
theorem kcN_n1 {P : LF} {n : Int → Int} (W : WFs P n) : ∀ (m : Nat) (i v : Int), i + m = n 0 → 0 ≤ i → v ≤ n 1 → (∀ x, i ≤ x → x < n 0 → P 0 x ≠ -1 → v ≤ P 0 x) → kcN P m i ≤ n 1 - v := by
  intro m
  induction m with
  | zero => intro i v _ _ hv _; show (0 : Int) ≤ _; omega
  | succ m ih =>
    intro i v hm i0 hv h
    rw [kcN_s]
    by_cases c : P 0 i = -1
    · rw [if_pos c]
      have := ih (i + 1) v (by omega) (by omega) hv (fun x a b => h x (by omega) b)
      omega
    · rw [if_neg c]
      have w := h i (by omega) (by omega) c
      have u : P 0 i < n 1 := by
        rcases (W 0 (Or.inl rfl)).1 i i0 (by omega) with q | q
        · exact absurd q c
        · exact q.2.1
      have := ih (i + 1) (v + 1) (by omega) (by omega) (by omega) (fun x a b e => by
        have := (W 0 (Or.inl rfl)).2 i x i0 (by omega) b c e
        omega)
      omega
theorem kpN_r {A : LF} {n : Int → Int} (h0 : 0 ≤ n 0 ∧ n 0 ≤ 8) (h1 : 0 ≤ n 1 ∧ n 1 ≤ 8) : 0 ≤ kpN (KP A n) n ∧ kpN (KP A n) n ≤ n 0 ∧ kpN (KP A n) n ≤ n 1 := by
  have W := KP_wf (A := A) h0.1 h1.1
  have a := kcN_r (KP A n) (n 0).toNat 0
  have b := kcN_n1 W (n 0).toNat 0 0 (by omega) (by omega) h1.1 (fun x x0 x1 e => by
    rcases (W 0 (Or.inl rfl)).1 x x0 x1 with q | q
    · exact absurd q e
    · exact q.1)
  unfold kpN
  omega
def COST (A : LF) (n : Int → Int) : Int := n 0 + n 1 - 2 * kpN (KP A n) n
theorem COST_r {A : LF} {n : Int → Int} (h0 : 0 ≤ n 0 ∧ n 0 ≤ 8) (h1 : 0 ≤ n 1 ∧ n 1 ≤ 8) : 0 ≤ COST A n ∧ COST A n ≤ 16 := by
  have := kpN_r (A := A) h0 h1
  unfold COST
  omega
def aCost (A : LF) (n : Int → Int) (w : Int) : Int := if w = 0 then COST A n else if w = 1 then n 0 + n 1 - 2 * lcT (A 0) (A 1) (n 0) (n 1) 0 0 else if w = 2 then SLN A n else if w = 3 then ANC A n else GAPS A n
noncomputable def rCost (A : LF) (n : Int → Int) (T w : Int) : Int := cI (0 ≤ w ∧ w ≤ 4) (cI (T = 1) (aCost A n w) (-103)) (-102)
def aAll (A : LF) (n : Int → Int) : Int := if n 0 + n 1 = 0 then (bG 1 1 52 1023).getD 0 else (bG (2 * kpN (KP A n) n) (n 0 + n 1) 52 1023).getD 0
theorem AT_at {c t : Int} (h0 : 0 ≤ c) (h1 : c ≤ 8) (h2 : 0 < t) (h3 : t ≤ 16) (h4 : 2 * c ≤ t) : (∃ v, dB (alF c t) = some v ∧ bG (2 * c) t 52 1023 = some v) ∧ alF c t &&& 0x7fffffffffffffff ≤ 0x7ff0000000000000 := by
  obtain ⟨a, rfl⟩ : ∃ m : Nat, c = m := ⟨c.toNat, by omega⟩
  obtain ⟨b, rfl⟩ : ∃ m : Nat, t = m := ⟨t.toNat, by omega⟩
  have h := List.all_eq_true.mp AT_ok _ (AT_mem (c := a) (t := b) (by omega) (by omega))
  simp only [Bool.or_eq_true, Bool.and_eq_true, decide_eq_true_eq] at h
  rcases h with (h | h) | ⟨⟨h, h5⟩, h6⟩
  · omega
  · omega
  · refine ⟨?_, h6⟩
    obtain ⟨v, hv⟩ := Option.isSome_iff_exists.mp h5
    exact ⟨v, hv, by rw [← h]; exact hv⟩
theorem AT1_at : ∃ v, dB FP.dconst1 = some v ∧ bG 1 1 52 1023 = some v := by
  obtain ⟨v, hv⟩ := Option.isSome_iff_exists.mp AT_1.2
  exact ⟨v, hv, by rw [← AT_1.1]; exact hv⟩
def rkS (RN : Int → Int) : Int := RN 0 + RN 1 + RN 2 + RN 3 + RN 4
def aCnt (z : Int) (A : LF) (n RN : Int → Int) (rd w : Int) : Int := if w < 0 ∨ 10 < w then -102 else if w ≤ 1 then n w else if w = 2 then (SCR A n).length else if w ≤ 7 then kN (w - 3) (SCR A n) else if w = 8 then rkS RN else if w = 9 then z else rd
section COSTS
variable {g : AG} {d : Nat} {M : AM} {pg : Int → Int} {z : Int} {A Ai RK : LF} {n ni RN : Int → Int} {T I rd : Int} {Q : Int → AM → Prop}
theorem c_kept {o : Nat} {P : LF} (hm : IsMatch o) (hA : LAm M o A n) (hP : ∀ i, 0 ≤ i → i < n 0 → M (o + 7) i.toNat = P 0 i) (h : Q (kpN P n) M) : MetI g mX2_kept (d + 1) [vR o] M Q := by
  have b0 := hA.2.2.1
  have e0 := hA.1
  have loop : ∀ (m : Nat) (l f : Int), l + m = n 0 → 0 ≤ l → 0 ≤ f → f ≤ l → f + kcN P m l = kpN P n → S_X2_kept_4 g (d + 1) o f l M Q := by
    intro m
    induction m with
    | zero =>
      intro l f hl l0 f0 f1 e
      rw [show kcN P 0 l = 0 from rfl, Int.add_zero] at e
      rw [← e] at h
      exact sg_X2_kept_4 hm ⟨⟨by omega, by omega⟩, fun _ => ⟨⟨by omega, by omega⟩, h⟩, fun w => by omega⟩
    | succ m ih =>
      intro l f hl l0 f0 f1 e
      rw [kcN_s] at e
      refine sg_X2_kept_4 hm ⟨⟨by omega, by omega⟩, fun w => by omega, fun _ => ⟨⟨by omega, by omega⟩, ?_⟩⟩
      rw [hP l l0 (by omega)]
      refine ⟨fun c => ?_, fun c => ?_⟩
      · rw [if_neg c] at e
        exact ih (l + 1) (f + 1) (by omega) (by omega) (by omega) (by omega) (by omega)
      · rw [if_pos c] at e
        exact ih (l + 1) (f + 0) (by omega) (by omega) (by omega) (by omega) (by omega)
  exact en_X2_kept (sg_X2_kept_0 hm (loop (n 0).toNat 0 0 (by omega) (by omega) (by omega) (by omega) (by unfold kpN; omega)))
theorem c_totalL {o : Nat} (hm : IsMatch o) (hA : LAm M o A n) (h : Q (n 0 + n 1) M) : MetI g mX7_total (d + 1) [vR (o + 1)] M Q := by
  have e0 := hA.1
  have e1 := hA.2.1
  have b0 := hA.2.2.1
  have b1 := hA.2.2.2.1
  refine c_total hm.2.1 ?_ ?_ ?_
  · rw [show o + 1 + 4 = o + 5 by omega, e0]; exact b0
  · rw [show o + 1 + 4 = o + 5 by omega, e1]; exact b1
  · rw [show o + 1 + 4 = o + 5 by omega, e0, e1]; exact h
theorem c_notKept {o : Nat} (hm : IsMatch o) (hA : LAm M o A n) (hP : ∀ i, 0 ≤ i → i < n 0 → M (o + 7) i.toNat = KP A n 0 i) (h : Q (COST A n) M) : MetI g mX2_notKept (d + 2) [vR o] M Q := by
  have b0 := hA.2.2.1
  have b1 := hA.2.2.2.1
  have kr := kpN_r (A := A) b0 b1
  exact en_X2_notKept (sg_X2_notKept_0 hm (c_totalL hm hA (fun _ => c_kept hm hA hP (fun _ => ⟨⟨by omega, by omega⟩, h⟩))))
theorem c_cost {w : Int} (hT : TxC M A n T) (ok : OkT A n T) (h1 : rg w) (h : ∀ M', KpC M M' → Q (rCost A n T w) M') : MetI g mX8_cost (d + 3) [vR 0, vI w] M Q := by
  obtain ⟨t1, t2, t3, t4, t5, t6⟩ := hT
  have b0 := t1.2.2.1
  have b1 := t1.2.2.2.1
  unfold rCost at h
  have hM := h M (KpC.rf M)
  refine en_X8_cost (sg_X8_cost_0 ⟨h1, fun c => ?_, fun c => ⟨fun c1 => ?_, fun c1 => ?_⟩⟩)
  · rwa [cI_f (by omega)] at hM
  · rw [cI_t ⟨by omega, by omega⟩] at h hM
    rw [t5]
    refine ⟨fun c2 => ?_, fun c2 => ?_⟩
    · have T1 : T = 1 := by have := ok.2.1; omega
      obtain ⟨a1, a2⟩ := t6 T1
      rw [cI_t T1] at h hM
      rw [a1, a2, t3.2.1]
      unfold aCost at h hM
      refine ⟨fun c3 => ?_, fun c3 => c_notKept isMatch_4 t1 (fun i i0 i1 => t2 0 i ⟨Or.inl rfl, i0, i1⟩) (fun _ => ?_), fun c3 => ?_, fun c3 => ?_, fun c3 => ?_⟩
      · rwa [if_neg (by omega), if_neg (by omega), if_neg (by omega), if_neg (by omega)] at hM
      · rwa [if_pos c3] at hM
      · have e0 : M 9 0 = n 0 := t1.1
        have e1 : M 9 1 = n 1 := t1.2.1
        have lr := lcT_r (A 0) (A 1) (n 0) (n 1) 0 0 b0.1 b1.1
        refine en_X2_shortest (sg_X2_shortest_0 isMatch_4 ?_)
        rw [show M (4 + 5) 0 = n 0 from e0, show M (4 + 5) 1 = n 1 from e1]
        refine c_most (n1 := 8) (n2 := 8) isCommon_13 rfl rfl ⟨by omega, by omega, by omega, by omega⟩ ⟨by omega, by omega, by omega, by omega⟩ (by omega) (by omega) (fun M' _ k2 _ => ?_)
        rw [lcT_congr (a := fun i => M (4 + 3) i.toNat) (b := fun j => M (4 + 4) j.toNat) (a' := A 0) (b' := A 1) (i1 := n 0) (j1 := n 1) (i := 0) (j := 0) (by omega) (by omega) (fun i q1 q2 => t1.2.2.2.2 0 i (Or.inl rfl) q1 q2) (fun i q1 q2 => t1.2.2.2.2 1 i (Or.inr rfl) q1 q2)]
        refine c_totalL (d := d) isMatch_4 (t1.same (M' := M') (fun k _ _ => k2 k (by omega))) (fun _ => ⟨⟨by omega, by omega⟩, fun _ => ?_⟩)
        have h := h M' (fun k hk => k2 k (by omega))
        rwa [if_neg (by omega), if_pos c3] at h
      · rwa [if_neg (by omega), if_neg (by omega), if_pos c3] at hM
      · rwa [if_neg (by omega), if_neg (by omega), if_neg (by omega), if_pos c3] at hM
    · rwa [cI_f (by omega)] at hM
  · rwa [cI_f (by omega)] at hM
theorem c_all (hT : TxC M A n T) (ok : OkT A n T) (h : Q (cI (T = 1) (aAll A n) (-103)) M) : MetL g mX8_all (d + 2) [vR 0] M Q := by
  obtain ⟨t1, t2, t3, t4, t5, t6⟩ := hT
  have b0 := t1.2.2.1
  have b1 := t1.2.2.2.1
  have kr := kpN_r (A := A) b0 b1
  refine en_X8_all (sg_X8_all_0 ?_)
  rw [t5]
  refine ⟨fun c => ?_, fun c => ?_⟩
  · have T1 : T = 1 := by have := ok.2.1; omega
    rw [cI_t T1] at h
    unfold aAll at h
    refine c_totalL (d := d) isMatch_4 t1 (fun _ => ⟨fun c1 => ?_, fun c1 => ?_⟩)
    · rw [if_neg c1] at h
      obtain ⟨⟨v, v1, v2⟩, v3⟩ := AT_at (c := kpN (KP A n) n) (t := n 0 + n 1) (by omega) (by omega) (by omega) (by omega) (by omega)
      rw [v2] at h
      refine c_kept (d := d) isMatch_4 t1 (fun i i0 i1 => t2 0 i ⟨Or.inl rfl, i0, i1⟩) (fun _ => ⟨v3, c_doubleBits (d := d) v1 h⟩)
    · rw [if_pos c1] at h
      obtain ⟨v, v1, v2⟩ := AT1_at
      rw [v2] at h
      exact c_doubleBits (d := d) v1 h
  · rwa [cI_f (by omega)] at h
theorem c_rtotal (hK : RkC M RK RN) (ok : OkK RK RN) (h : Q (rkS RN) M) : MetI g mX4_total (d + 1) [vR 80] M Q := by
  have e : ∀ k : Int, 0 ≤ k → k < 5 → M 87 k.toNat = RN k ∧ 0 ≤ RN k ∧ RN k ≤ 3 := fun k a b => ⟨(hK k a b).1, (ok k a b).1⟩
  obtain ⟨a0, b0⟩ := e 0 (by decide) (by decide)
  obtain ⟨a1, b1⟩ := e 1 (by decide) (by decide)
  obtain ⟨a2, b2⟩ := e 2 (by decide) (by decide)
  obtain ⟨a3, b3⟩ := e 3 (by decide) (by decide)
  obtain ⟨a4, b4⟩ := e 4 (by decide) (by decide)
  unfold rkS at h
  refine en_X4_total (sg_X4_total_0 (sg_X4_total_4 ⟨⟨by decide, by decide⟩, fun w => absurd w (by decide), fun _ => ⟨⟨by decide, by decide⟩, ?_⟩⟩))
  rw [a0]
  refine sg_X4_total_4 ⟨⟨by decide, by decide⟩, fun w => absurd w (by decide), fun _ => ⟨⟨by decide, by decide⟩, ?_⟩⟩
  rw [show (0 : Int) + 1 = 1 by decide, a1]
  refine sg_X4_total_4 ⟨⟨by decide, by decide⟩, fun w => absurd w (by decide), fun _ => ⟨⟨by decide, by decide⟩, ?_⟩⟩
  rw [show (1 : Int) + 1 = 2 by decide, a2]
  refine sg_X4_total_4 ⟨⟨by decide, by decide⟩, fun w => absurd w (by decide), fun _ => ⟨⟨by decide, by decide⟩, ?_⟩⟩
  rw [show (2 : Int) + 1 = 3 by decide, a3]
  refine sg_X4_total_4 ⟨⟨by decide, by decide⟩, fun w => absurd w (by decide), fun _ => ⟨⟨by decide, by decide⟩, ?_⟩⟩
  rw [show (3 : Int) + 1 = 4 by decide, a4]
  refine sg_X4_total_4 ⟨⟨by decide, by decide⟩, fun _ => ⟨⟨by omega, by omega⟩, ?_⟩, fun w => absurd (by decide) w⟩
  rwa [Int.zero_add]
theorem c_count {w : Int} (hP : PgC M pg z) (hT : TxC M A n T) (hI : ImC M I Ai ni rd) (hK : RkC M RK RN) (okK : OkK RK RN) (h1 : rg w) (h : Q (aCnt z A n RN rd w) M) : MetI g mX8_count (d + 2) [vR 0, vI w] M Q := by
  obtain ⟨t1, t2, t3, t4, t5, t6⟩ := hT
  have l16 := SCR_len (A := A) t1.2.2.1 t1.2.2.2.1
  unfold aCnt at h
  refine en_X8_count (sg_X8_count_0 ?_)
  rw [t3.1, hP.1, hI.2.2]
  have hm : 3 ≤ w → w ≤ 7 → rg (w - 3) ∧ MetI g mX6_howManyOf (d + 1) [vR 71, vI (w - 3)] M (fun z10 M9 => rg z10 → Q z10 M9) := by
    intro c1 c2
    refine ⟨⟨by omega, by omega⟩, c_howManyOf t3 l16 ⟨by omega, by omega⟩ (fun _ => ?_)⟩
    rwa [if_neg (by omega), if_neg (by omega), if_neg (by omega), if_pos (by omega)] at h
  refine ⟨h1, fun c => ?_, fun c => ⟨⟨by omega, by omega⟩, ?_⟩, fun c => ⟨⟨by omega, by omega⟩, ?_⟩, fun c => ?_, fun c => hm (by omega) (by omega), fun c => hm (by omega) (by omega), fun c => hm (by omega) (by omega), fun c => hm (by omega) (by omega), fun c => hm (by omega) (by omega), fun c => c_rtotal hK okK (fun _ => ?_), fun c => ?_, fun c => ?_⟩
  · rwa [if_pos c] at h
  · rw [if_neg (by omega), if_pos (by omega)] at h
    rwa [show M 9 w.toNat = n w from t1.sz (by omega)]
  · rw [if_neg (by omega), if_pos (by omega)] at h
    rwa [show M 9 w.toNat = n w from t1.sz (by omega)]
  · rwa [if_neg (by omega), if_neg (by omega), if_pos c] at h
  · rwa [if_neg (by omega), if_neg (by omega), if_neg (by omega), if_neg (by omega), if_pos c] at h
  · rwa [if_neg (by omega), if_neg (by omega), if_neg (by omega), if_neg (by omega), if_neg (by omega), if_pos c] at h
  · rwa [if_neg (by omega), if_neg (by omega), if_neg (by omega), if_neg (by omega), if_neg (by omega), if_neg (by omega)] at h
/-! the reference -/
theorem r_keptMany {P : LF} (hA : LAr M A n) (hP : ∀ i, 0 ≤ i → i < n 0 → M 94 i.toNat = P 0 i) (h : Q (kpN P n) M) : MetI g mX9_keptMany (d + 1) [vR 88] M Q := by
  have b0 := hA.2.2.1
  have e0 := hA.1
  have loop : ∀ (m : Nat) (l f : Int), l + m = n 0 → 0 ≤ l → 0 ≤ f → f ≤ l → f + kcN P m l = kpN P n → S_X9_keptMany_4 g (d + 1) f l M Q := by
    intro m
    induction m with
    | zero =>
      intro l f hl l0 f0 f1 e
      rw [show kcN P 0 l = 0 from rfl, Int.add_zero] at e
      rw [← e] at h
      exact sg_X9_keptMany_4 ⟨⟨by omega, by omega⟩, fun _ => ⟨⟨by omega, by omega⟩, h⟩, fun w => by omega⟩
    | succ m ih =>
      intro l f hl l0 f0 f1 e
      rw [kcN_s] at e
      refine sg_X9_keptMany_4 ⟨⟨by omega, by omega⟩, fun w => by omega, fun _ => ⟨⟨by omega, by omega⟩, ?_⟩⟩
      rw [hP l l0 (by omega)]
      refine ⟨fun c => ?_, fun c => ?_⟩
      · rw [if_neg c] at e
        exact ih (l + 1) (f + 1) (by omega) (by omega) (by omega) (by omega) (by omega)
      · rw [if_pos c] at e
        exact ih (l + 1) (f + 0) (by omega) (by omega) (by omega) (by omega) (by omega)
  exact en_X9_keptMany (sg_X9_keptMany_0 (loop (n 0).toNat 0 0 (by omega) (by omega) (by omega) (by omega) (by unfold kpN; omega)))
theorem r_costNow (hA : LAr M A n) (hP : ∀ i, 0 ≤ i → i < n 0 → M 94 i.toNat = KP A n 0 i) (h : Q (COST A n) M) : MetI g mX9_costNow (d + 2) [vR 88] M Q := by
  have b0 := hA.2.2.1
  have b1 := hA.2.2.2.1
  have kr := kpN_r (A := A) b0 b1
  refine en_X9_costNow (sg_X9_costNow_0 ?_)
  rw [hA.1, hA.2.1]
  exact r_keptMany hA hP (fun _ => ⟨⟨by omega, by omega⟩, h⟩)
theorem TxR.k0 (hT : TxR M A n T) : ∀ i, 0 ≤ i → i < n 0 → M 94 i.toNat = KP A n 0 i := fun i i0 i1 => by
  have := hT.2.1 0 i ⟨Or.inl rfl, i0, i1⟩
  rwa [show (16 : Int) * 0 + i = i by omega] at this
theorem r_costOf {w : Int} (hT : TxR M A n T) (T1 : T = 1) (h1 : rg w) (h : ∀ M', (∀ k, k ≠ 99 → M' k = M k) → Q (aCost A n w) M') : MetI g mX9_costOf (d + 3) [vR 88, vI w] M Q := by
  have k0 := hT.k0
  obtain ⟨t1, t2, t3, t4, t5, t6⟩ := hT
  have b0 := t1.2.2.1
  have b1 := t1.2.2.2.1
  have hM := h M (fun _ _ => rfl)
  obtain ⟨a1, a2⟩ := t6 T1
  refine en_X9_costOf (sg_X9_costOf_0 ?_)
  rw [a1, a2, t3.2.1, t1.1, t1.2.1]
  unfold aCost at h hM
  refine ⟨h1, fun c3 => ?_, fun c3 => r_costNow t1 k0 (fun _ => ?_), fun c3 => ?_, fun c3 => ?_, fun c3 => ?_⟩
  · by_cases w0 : w = 0
    · omega
    · rwa [if_neg (by omega), if_neg (by omega), if_neg (by omega), if_neg (by omega)] at hM
  · rwa [if_pos c3] at hM
  · have lr := lcT_r (A 0) (A 1) (n 0) (n 1) 0 0 b0.1 b1.1
    refine r_layCan t1 (by omega) b0.1 (by omega) (by omega) b1.1 (by omega) (fun M' k1 k2 => ?_)
    have e9 : M' 99 0 = lcT (A 0) (A 1) (n 0) (n 1) 0 0 := k1 0 0 (by omega) b0.1 (by omega) b1.1
    rw [e9, k2 93 (by decide), t1.1, t1.2.1]
    refine ⟨⟨by omega, by omega⟩, ?_⟩
    have h := h M' k2
    rwa [if_neg (by omega), if_pos c3] at h
  · rwa [if_neg (by omega), if_neg (by omega), if_pos c3] at hM
  · rwa [if_neg (by omega), if_neg (by omega), if_neg (by omega), if_pos c3] at hM
theorem r_cost {w : Int} (hT : TxR M A n T) (ok : OkT A n T) (h1 : rg w) (h : ∀ M', KpR M M' → Q (rCost A n T w) M') : MetI g mX9_cost (d + 4) [vR 88, vI w] M Q := by
  unfold rCost at h
  have hM := h M (KpR.rf M)
  refine en_X9_cost (sg_X9_cost_0 ⟨h1, r_in (d := d + 2) (rl_of h1) ⟨by decide, by decide⟩ ⟨by decide, by decide⟩ (fun _ => ⟨fun c => ?_, fun c => ?_⟩)⟩)
  · rw [cI_t (bI_of c)] at h hM
    rw [hT.2.2.2.2.1]
    refine ⟨fun c1 => ?_, fun c1 => ?_⟩
    · rwa [cI_f (by omega)] at hM
    · have T1 : T = 1 := by have := ok.2.1; omega
      rw [cI_t T1] at h
      exact r_costOf hT T1 h1 (fun M' k _ => h M' (KpR.of99 k))
  · rwa [cI_f (bI_not c)] at hM
theorem r_allOf (hT : TxR M A n T) (h : Q (aAll A n) M) : MetL g mX9_allOf (d + 2) [vR 88] M Q := by
  have k0 := hT.k0
  obtain ⟨t1, t2, t3, t4, t5, t6⟩ := hT
  have b0 := t1.2.2.1
  have b1 := t1.2.2.2.1
  have kr := kpN_r (A := A) b0 b1
  unfold aAll at h
  refine en_X9_allOf (sg_X9_allOf_0 ?_)
  rw [t1.1, t1.2.1]
  refine ⟨⟨by omega, by omega⟩, fun c1 => ?_, fun c1 => ?_⟩
  · rw [if_neg c1] at h
    obtain ⟨⟨v, v1, v2⟩, v3⟩ := AT_at (c := kpN (KP A n) n) (t := n 0 + n 1) (by omega) (by omega) (by omega) (by omega) (by omega)
    rw [v2] at h
    have hb : ¬ Int64.ofInt (n 0 + n 1) = 0 := fun q => by
      have := congrArg Int64.toInt q
      rw [rl_back ⟨by omega, by omega⟩] at this
      exact c1 this
    exact r_keptMany (d := d) t1 k0 (fun _ => r_bitsOf (d := d) (p := 52) (by omega) ⟨by omega, by omega⟩ hb v2 h)
  · rw [if_pos c1] at h
    obtain ⟨v, v1, v2⟩ := AT1_at
    rw [v2] at h
    exact r_bitsOf (d := d) (p := 52) (by omega) ⟨by omega, by omega⟩ (by decide) v2 h
theorem r_all (hT : TxR M A n T) (ok : OkT A n T) (h : Q (cI (T = 1) (aAll A n) (-103)) M) : MetL g mX9_all (d + 3) [vR 88] M Q := by
  refine en_X9_all (sg_X9_all_0 ?_)
  rw [hT.2.2.2.2.1]
  refine ⟨fun c => ?_, fun c => ?_⟩
  · rwa [cI_f (by omega)] at h
  · have T1 : T = 1 := by have := ok.2.1; omega
    rw [cI_t T1] at h
    exact r_allOf hT h
theorem r_rackedAll (hK : RkR M RK) (ok : OkK RK RN) (h : Q (rkS RN) M) : MetI g mX9_rackedAll (d + 2) [vR 88] M Q := by
  have b0 := (ok 0 (by decide) (by decide)).1
  have b1 := (ok 1 (by decide) (by decide)).1
  have b2 := (ok 2 (by decide) (by decide)).1
  have b3 := (ok 3 (by decide) (by decide)).1
  have b4 := (ok 4 (by decide) (by decide)).1
  unfold rkS at h
  refine en_X9_rackedAll (sg_X9_rackedAll_0 (sg_X9_rackedAll_4 ⟨⟨by decide, by decide⟩, fun w => absurd w (by decide), fun _ => r_rackedOf hK ok (by decide) (by decide) (fun _ => ?_)⟩))
  refine sg_X9_rackedAll_4 ⟨⟨by decide, by decide⟩, fun w => absurd w (by decide), fun _ => r_rackedOf hK ok (by decide) (by decide) (fun _ => ?_)⟩
  refine sg_X9_rackedAll_4 ⟨⟨by decide, by decide⟩, fun w => absurd w (by decide), fun _ => r_rackedOf hK ok (by decide) (by decide) (fun _ => ?_)⟩
  refine sg_X9_rackedAll_4 ⟨⟨by decide, by decide⟩, fun w => absurd w (by decide), fun _ => r_rackedOf hK ok (by decide) (by decide) (fun _ => ?_)⟩
  refine sg_X9_rackedAll_4 ⟨⟨by decide, by decide⟩, fun w => absurd w (by decide), fun _ => r_rackedOf hK ok (by decide) (by decide) (fun _ => ?_)⟩
  refine sg_X9_rackedAll_4 ⟨⟨by decide, by decide⟩, fun _ => ?_, fun w => absurd (by decide) w⟩
  simp only [Int.zero_add, show (1 : Int) + 1 = 2 by decide, show (2 : Int) + 1 = 3 by decide, show (3 : Int) + 1 = 4 by decide]
  exact ⟨⟨by omega, by omega⟩, h⟩
theorem r_countOf {w : Int} (hP : PgR M pg z) (hT : TxR M A n T) (hI : ImR M I Ai ni rd) (hK : RkR M RK) (okK : OkK RK RN) (h1 : rg w) (h : Q (aCnt z A n RN rd w) M) : MetI g mX9_countOf (d + 3) [vR 88, vI w] M Q := by
  obtain ⟨t1, t2, t3, t4, t5, t6⟩ := hT
  have l16 := SCR_len (A := A) t1.2.2.1 t1.2.2.2.1
  unfold aCnt at h
  refine en_X9_countOf (sg_X9_countOf_0 ?_)
  rw [t3.1, hP.1, hI.1]
  have hm : 3 ≤ w → w ≤ 7 → rg (w - 3) ∧ MetI g mX9_stepsOf (d + 2) [vR 88, vI (w - 3)] M (fun z10 M9 => rg z10 → Q z10 M9) := by
    intro c1 c2
    refine ⟨⟨by omega, by omega⟩, r_stepsOf (d := d + 1) t3 l16 ⟨by omega, by omega⟩ (fun _ => ?_)⟩
    rwa [if_neg (by omega), if_neg (by omega), if_neg (by omega), if_pos (by omega)] at h
  refine ⟨h1, fun c => ?_, fun c => ⟨⟨by omega, by omega⟩, ?_⟩, fun c => ⟨⟨by omega, by omega⟩, ?_⟩, fun c => ?_, fun c => hm (by omega) (by omega), fun c => hm (by omega) (by omega), fun c => hm (by omega) (by omega), fun c => hm (by omega) (by omega), fun c => hm (by omega) (by omega), fun c => r_rackedAll hK okK (fun _ => ?_), fun c => ?_, fun c => ?_⟩
  · rwa [if_pos c] at h
  · rw [if_neg (by omega), if_pos (by omega)] at h
    rwa [t1.sz (by omega)]
  · rw [if_neg (by omega), if_pos (by omega)] at h
    rwa [t1.sz (by omega)]
  · rwa [if_neg (by omega), if_neg (by omega), if_pos c] at h
  · rwa [if_neg (by omega), if_neg (by omega), if_neg (by omega), if_neg (by omega), if_pos c] at h
  · rwa [if_neg (by omega), if_neg (by omega), if_neg (by omega), if_neg (by omega), if_neg (by omega), if_pos c] at h
  · rwa [if_neg (by omega), if_neg (by omega), if_neg (by omega), if_neg (by omega), if_neg (by omega), if_neg (by omega)] at h
theorem r_count {w : Int} (hP : PgR M pg z) (hT : TxR M A n T) (hI : ImR M I Ai ni rd) (hK : RkR M RK) (okK : OkK RK RN) (h1 : rg w) (h : Q (aCnt z A n RN rd w) M) : MetI g mX9_count (d + 4) [vR 88, vI w] M Q :=
  en_X9_count (sg_X9_count_0 ⟨h1, r_countOf hP hT hI hK okK h1 (fun _ => h)⟩)
end COSTS
