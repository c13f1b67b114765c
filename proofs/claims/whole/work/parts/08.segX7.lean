def S_X7_has_0 (g : AG) (d : Nat) (b : Nat) (l1 : Int) (l2 : Int) (M : AM) (Q : Int → AM → Prop) : Prop := Wa g mX7_has d 0 [(0, vR b), (1, vI l1), (2, vI l2)] [] M (QI Q)
set_option maxRecDepth 100000 in
theorem sg_X7_has_0 {g : AG} {d : Nat} {b : Nat} {l1 : Int} {l2 : Int} {M : AM} {Q : Int → AM → Prop} (hs : IsSides b)
  (h : rg l1 ∧ (MetI g mX8_isSide d [vI l1] M (fun z3 M2 => rg z3 → ((z3 = 0 → (Q 0 M2)) ∧ (¬ z3 = 0 → (rg l2 ∧ ((l2 < 0 → (Q 0 M2)) ∧ (¬ l2 < 0 → ((0 ≤ l1 ∧ l1 < 2) ∧ (((M2 (b + 4) (l1).toNat) ≤ l2 → (Q 0 M2)) ∧ (¬ (M2 (b + 4) (l1).toNat) ≤ l2 → (Q 1 M2)))))))))))) : S_X7_has_0 g (d + 1) b l1 l2 M Q := by
  show Wa _ _ _ _ _ _ _ _
  refine Wa_iload_n 1 dX7_has_0 rfl rfl ?_
  obtain ⟨q1, h⟩ := h
  refine Wa_callS [vI l1] _ lc_X7_20 cs_X8_isSide rfl rfl (Nat.le_refl _) (Nat.le_of_ble_eq_true rfl) dX7_has_1 h ?_
  intro r M2 h
  obtain ⟨z3, rfl, r4, h⟩ := h
  have h := h r4
  refine Wa_if_eq (tgt := 25) dX7_has_4 (by decide) r4 (fun c5 => ?_) (fun c5 => ?_)
  · have h := h.1 c5
    refine Wa_iconst (z := 0) dX7_has_25 ?_
    exact Wa_zreturn dX7_has_26 rfl (by decide) ⟨_, rfl, rg_bool (by decide), h⟩
  · have h := h.2 c5
    refine Wa_iload_n 2 dX7_has_7 rfl rfl ?_
    obtain ⟨q6, h⟩ := h
    refine Wa_if_lt (tgt := 25) dX7_has_8 (by decide) q6 (fun c7 => ?_) (fun c7 => ?_)
    · have h := h.1 c7
      refine Wa_iconst (z := 0) dX7_has_25 ?_
      exact Wa_zreturn dX7_has_26 rfl (by decide) ⟨_, rfl, rg_bool (by decide), h⟩
    · have h := h.2 c7
      refine Wa_iload_n 2 dX7_has_11 rfl rfl ?_
      refine Wa_aload_n 0 dX7_has_12 rfl rfl ?_
      refine Wa_getR cf_X7 lk_X7_16 hs.1 (j := 1) rfl (by decide) dX7_has_13 ?_
      refine Wa_iload_n 1 dX7_has_16 rfl rfl ?_
      obtain ⟨b8, h⟩ := h
      refine Wa_iald2 (v := (M2 (b + 4) (l1).toNat)) hs.2.2.2 b8 rfl dX7_has_17 (fun r9 => ?_)
      refine Wa_icmp_ge (tgt := 25) dX7_has_18 (by decide) q6 r9 (fun c10 => ?_) (fun c10 => ?_)
      · have h := h.1 c10
        refine Wa_iconst (z := 0) dX7_has_25 ?_
        exact Wa_zreturn dX7_has_26 rfl (by decide) ⟨_, rfl, rg_bool (by decide), h⟩
      · have h := h.2 c10
        refine Wa_iconst (z := 1) dX7_has_21 ?_
        refine Wa_goto (tgt := 26) dX7_has_22 (by decide) ?_
        exact Wa_zreturn dX7_has_26 rfl (by decide) ⟨_, rfl, rg_bool (by decide), h⟩
theorem en_X7_has {g : AG} {d : Nat} {b : Nat} {l1 : Int} {l2 : Int} {M : AM} {Q : Int → AM → Prop} (h : S_X7_has_0 g d b l1 l2 M Q) : MetI g mX7_has d [vR b, vI l1, vI l2] M Q := MetA.of (by decide) (Nat.le_of_ble_eq_true rfl) h
def S_X7_total_0 (g : AG) (d : Nat) (b : Nat) (M : AM) (Q : Int → AM → Prop) : Prop := Wa g mX7_total d 0 [(0, vR b)] [] M (QI Q)
set_option maxRecDepth 100000 in
theorem sg_X7_total_0 {g : AG} {d : Nat} {b : Nat} {M : AM} {Q : Int → AM → Prop} (hs : IsSides b)
  (h : rg ((M (b + 4) 0) + (M (b + 4) 1)) ∧ (Q ((M (b + 4) 0) + (M (b + 4) 1)) M)) : S_X7_total_0 g (d + 1) b M Q := by
  show Wa _ _ _ _ _ _ _ _
  refine Wa_aload_n 0 dX7_total_0 rfl rfl ?_
  refine Wa_getR cf_X7 lk_X7_16 hs.1 (j := 1) rfl (by decide) dX7_total_1 ?_
  refine Wa_iconst (z := 0) dX7_total_4 ?_
  refine Wa_iald2 (v := (M (b + 4) 0)) hs.2.2.2 ⟨by decide, by decide⟩ rfl dX7_total_5 (fun r1 => ?_)
  refine Wa_aload_n 0 dX7_total_6 rfl rfl ?_
  refine Wa_getR cf_X7 lk_X7_16 hs.1 (j := 1) rfl (by decide) dX7_total_7 ?_
  refine Wa_iconst (z := 1) dX7_total_10 ?_
  refine Wa_iald2 (v := (M (b + 4) 1)) hs.2.2.2 ⟨by decide, by decide⟩ rfl dX7_total_11 (fun r2 => ?_)
  refine Wa_iadd dX7_total_12 ?_
  obtain ⟨q3, h⟩ := h
  exact Wa_ireturn dX7_total_13 rfl ⟨_, rfl, q3, h⟩
theorem en_X7_total {g : AG} {d : Nat} {b : Nat} {M : AM} {Q : Int → AM → Prop} (h : S_X7_total_0 g d b M Q) : MetI g mX7_total d [vR b] M Q := MetA.of (by decide) (Nat.le_of_ble_eq_true rfl) h
def S_X7_clear_0 (g : AG) (d : Nat) (b : Nat) (M : AM) (Q : AM → Prop) : Prop := Wa g mX7_clear d 0 [(0, vR b)] [] M (QV Q)
set_option maxRecDepth 100000 in
theorem sg_X7_clear_0 {g : AG} {d : Nat} {b : Nat} {M : AM} {Q : AM → Prop} (hs : IsSides b)
  (h : Q (mU (mU M (b + 4) 0 0) (b + 4) 1 0)) : S_X7_clear_0 g (d + 1) b M Q := by
  show Wa _ _ _ _ _ _ _ _
  refine Wa_aload_n 0 dX7_clear_0 rfl rfl ?_
  refine Wa_getR cf_X7 lk_X7_16 hs.1 (j := 1) rfl (by decide) dX7_clear_1 ?_
  refine Wa_iconst (z := 0) dX7_clear_4 ?_
  refine Wa_iconst (z := 0) dX7_clear_5 ?_
  refine Wa_iast hs.2.2.2 ⟨by decide, by decide⟩ ⟨by decide, by decide⟩ dX7_clear_6 ?_
  refine Wa_aload_n 0 dX7_clear_7 rfl rfl ?_
  refine Wa_getR cf_X7 lk_X7_16 hs.1 (j := 1) rfl (by decide) dX7_clear_8 ?_
  refine Wa_iconst (z := 1) dX7_clear_11 ?_
  refine Wa_iconst (z := 0) dX7_clear_12 ?_
  refine Wa_iast hs.2.2.2 ⟨by decide, by decide⟩ ⟨by decide, by decide⟩ dX7_clear_13 ?_
  exact Wa_return dX7_clear_14 rfl ⟨rfl, h⟩
theorem en_X7_clear {g : AG} {d : Nat} {b : Nat} {M : AM} {Q : AM → Prop} (h : S_X7_clear_0 g d b M Q) : MetV g mX7_clear d [vR b] M Q := MetA.of (by decide) (Nat.le_of_ble_eq_true rfl) h
def S_X7_copyFrom_0 (g : AG) (d : Nat) (b : Nat) (b2 : Nat) (M : AM) (Q : AM → Prop) : Prop := Wa g mX7_copyFrom d 0 [(0, vR b), (1, vR b2)] [] M (QV Q)
def S_X7_copyFrom_2 (g : AG) (d : Nat) (b : Nat) (b2 : Nat) (l2 : Int) (M : AM) (Q : AM → Prop) : Prop := Wa g mX7_copyFrom d 2 [(0, vR b), (1, vR b2), (2, vI l2)] [] M (QV Q)
set_option maxRecDepth 100000 in
theorem sg_X7_copyFrom_0 {g : AG} {d : Nat} {b : Nat} {b2 : Nat} {M : AM} {Q : AM → Prop} (hs : IsSides b) (hs2 : IsSides b2)
  (h : S_X7_copyFrom_2 g (d + 1) b b2 0 M Q) : S_X7_copyFrom_0 g (d + 1) b b2 M Q := by
  show Wa _ _ _ _ _ _ _ _
  refine Wa_iconst (z := 0) dX7_copyFrom_0 ?_
  refine Wa_istore_n (ls' := [(2, vI 0), (0, vR b), (1, vR b2)]) dX7_copyFrom_1 rfl (by decide) rfl ?_
  refine Wa_sub [1, 2, 0] rfl ?_
  exact h
set_option maxRecDepth 100000 in
theorem sg_X7_copyFrom_2 {g : AG} {d : Nat} {b : Nat} {b2 : Nat} {l2 : Int} {M : AM} {Q : AM → Prop} (hs : IsSides b) (hs2 : IsSides b2)
  (h : rg l2 ∧ ((2 ≤ l2 → (Q M)) ∧ (¬ 2 ≤ l2 → ((0 ≤ l2 ∧ l2 < 2) ∧ (S_X7_copyFrom_2 g (d + 1) b b2 (l2 + 1) (mC (mU M (b + 4) (l2).toNat (M (b2 + 4) (l2).toNat)) (b2 + 2 + (l2).toNat) (b + 2 + (l2).toNat) 0 0 8) Q))))) : S_X7_copyFrom_2 g (d + 1) b b2 l2 M Q := by
  show Wa _ _ _ _ _ _ _ _
  refine Wa_iload_n 2 dX7_copyFrom_2 rfl rfl ?_
  refine Wa_iconst (z := 2) dX7_copyFrom_3 ?_
  obtain ⟨q1, h⟩ := h
  refine Wa_icmp_ge (tgt := 44) dX7_copyFrom_4 (by decide) q1 ⟨by decide, by decide⟩ (fun c2 => ?_) (fun c2 => ?_)
  · have h := h.1 c2
    exact Wa_return dX7_copyFrom_44 rfl ⟨rfl, h⟩
  · have h := h.2 c2
    refine Wa_aload_n 0 dX7_copyFrom_7 rfl rfl ?_
    refine Wa_getR cf_X7 lk_X7_16 hs.1 (j := 1) rfl (by decide) dX7_copyFrom_8 ?_
    refine Wa_iload_n 2 dX7_copyFrom_11 rfl rfl ?_
    refine Wa_aload_n 1 dX7_copyFrom_12 rfl rfl ?_
    refine Wa_getR cf_X7 lk_X7_16 hs2.1 (j := 1) rfl (by decide) dX7_copyFrom_13 ?_
    refine Wa_iload_n 2 dX7_copyFrom_16 rfl rfl ?_
    obtain ⟨b3, h⟩ := h
    refine Wa_iald2 (v := (M (b2 + 4) (l2).toNat)) hs2.2.2.2 b3 rfl dX7_copyFrom_17 (fun r4 => ?_)
    refine Wa_iast hs.2.2.2 b3 r4 dX7_copyFrom_18 ?_
    refine Wa_aload_n 1 dX7_copyFrom_19 rfl rfl ?_
    refine Wa_getR cf_X7 lk_X7_11 hs2.1 (j := 0) rfl (by decide) dX7_copyFrom_20 ?_
    refine Wa_iload_n 2 dX7_copyFrom_23 rfl rfl ?_
    refine Wa_aald hs2.2.1 b3 dX7_copyFrom_24 ?_
    refine Wa_iconst (z := 0) dX7_copyFrom_25 ?_
    refine Wa_aload_n 0 dX7_copyFrom_26 rfl rfl ?_
    refine Wa_getR cf_X7 lk_X7_11 hs.1 (j := 0) rfl (by decide) dX7_copyFrom_27 ?_
    refine Wa_iload_n 2 dX7_copyFrom_30 rfl rfl ?_
    refine Wa_aald hs.2.1 b3 dX7_copyFrom_31 ?_
    refine Wa_iconst (z := 0) dX7_copyFrom_32 ?_
    refine Wa_bipush (z := 8) dX7_copyFrom_33 (by decide) ?_
    refine Wa_acopy (hs2.2.2.1 _ (inb_nat b3)) (hs.2.2.1 _ (inb_nat b3)) lc_X7_24 na_copy st_copy in_Sys (by decide) (by decide) (by decide) (by decide) (by decide) (by omega) (Nat.le_of_ble_eq_true rfl) dX7_copyFrom_35 ?_
    refine Wa_iinc (ls' := [(2, vI (l2 + 1)), (0, vR b), (1, vR b2)]) 2 dX7_copyFrom_38 rfl (by decide) rfl ?_
    refine Wa_goto (tgt := 2) dX7_copyFrom_41 (by decide) ?_
    refine Wa_sub [1, 2, 0] rfl ?_
    exact h
theorem en_X7_copyFrom {g : AG} {d : Nat} {b : Nat} {b2 : Nat} {M : AM} {Q : AM → Prop} (h : S_X7_copyFrom_0 g d b b2 M Q) : MetV g mX7_copyFrom d [vR b, vR b2] M Q := MetA.of (by decide) (Nat.le_of_ble_eq_true rfl) h
def S_X7_appendLine_0 (g : AG) (d : Nat) (b : Nat) (l1 : Int) (l2 : Int) (M : AM) (Q : AM → Prop) : Prop := Wa g mX7_appendLine d 0 [(0, vR b), (1, vI l1), (2, vI l2)] [] M (QV Q)
set_option maxRecDepth 100000 in
theorem sg_X7_appendLine_0 {g : AG} {d : Nat} {b : Nat} {l1 : Int} {l2 : Int} {M : AM} {Q : AM → Prop} (hs : IsSides b)
  (h : rg l2 ∧ ((l2 = 0 → (Q M)) ∧ (¬ l2 = 0 → ((0 ≤ l1 ∧ l1 < 2) ∧ (rg l1 ∧ (MetV g mX7_insert d [vR b, vI l1, vI (M (b + 4) (l1).toNat), vI l2] M (fun M6 => Q M6))))))) : S_X7_appendLine_0 g (d + 1) b l1 l2 M Q := by
  show Wa _ _ _ _ _ _ _ _
  refine Wa_iload_n 2 dX7_appendLine_0 rfl rfl ?_
  obtain ⟨q1, h⟩ := h
  refine Wa_if_eq (tgt := 16) dX7_appendLine_1 (by decide) q1 (fun c2 => ?_) (fun c2 => ?_)
  · have h := h.1 c2
    exact Wa_return dX7_appendLine_16 rfl ⟨rfl, h⟩
  · have h := h.2 c2
    refine Wa_aload_n 0 dX7_appendLine_4 rfl rfl ?_
    refine Wa_iload_n 1 dX7_appendLine_5 rfl rfl ?_
    refine Wa_aload_n 0 dX7_appendLine_6 rfl rfl ?_
    refine Wa_getR cf_X7 lk_X7_16 hs.1 (j := 1) rfl (by decide) dX7_appendLine_7 ?_
    refine Wa_iload_n 1 dX7_appendLine_10 rfl rfl ?_
    obtain ⟨b3, h⟩ := h
    refine Wa_iald2 (v := (M (b + 4) (l1).toNat)) hs.2.2.2 b3 rfl dX7_appendLine_11 (fun r4 => ?_)
    refine Wa_iload_n 2 dX7_appendLine_12 rfl rfl ?_
    obtain ⟨q5, h⟩ := h
    refine Wa_callV [vI l1, vI (M (b + 4) (l1).toNat), vI l2] _ cf_X7 rfl hs.1 lc_X7_30 cv_X7_insert rfl rfl (Nat.le_refl _) (Nat.le_of_ble_eq_true rfl) dX7_appendLine_13 h ?_
    intro r M6 h
    obtain ⟨rfl, h⟩ := h
    exact Wa_return dX7_appendLine_16 rfl ⟨rfl, h⟩
theorem en_X7_appendLine {g : AG} {d : Nat} {b : Nat} {l1 : Int} {l2 : Int} {M : AM} {Q : AM → Prop} (h : S_X7_appendLine_0 g d b l1 l2 M Q) : MetV g mX7_appendLine d [vR b, vI l1, vI l2] M Q := MetA.of (by decide) (Nat.le_of_ble_eq_true rfl) h
def S_X7_insert_0 (g : AG) (d : Nat) (b : Nat) (l1 : Int) (l2 : Int) (l3 : Int) (M : AM) (Q : AM → Prop) : Prop := Wa g mX7_insert d 0 [(0, vR b), (1, vI l1), (2, vI l2), (3, vI l3)] [] M (QV Q)
def S_X7_insert_49 (g : AG) (d : Nat) (b : Nat) (l1 : Int) (l2 : Int) (l3 : Int) (l4 : Nat) (l5 : Int) (M : AM) (Q : AM → Prop) : Prop := Wa g mX7_insert d 49 [(0, vR b), (1, vI l1), (2, vI l2), (3, vI l3), (4, vR l4), (5, vI l5)] [] M (QV Q)
set_option maxRecDepth 100000 in
theorem sg_X7_insert_0 {g : AG} {d : Nat} {b : Nat} {l1 : Int} {l2 : Int} {l3 : Int} {M : AM} {Q : AM → Prop} (hs : IsSides b)
  (h : rg l1 ∧ (MetI g mX8_isSide d [vI l1] M (fun z3 M2 => rg z3 → ((z3 = 0 → (Q M2)) ∧ (¬ z3 = 0 → (rg l2 ∧ ((l2 < 0 → (Q M2)) ∧ (¬ l2 < 0 → ((0 ≤ l1 ∧ l1 < 2) ∧ (((M2 (b + 4) (l1).toNat) < l2 → (Q M2)) ∧ (¬ (M2 (b + 4) (l1).toNat) < l2 → (((M2 (b + 4) (l1).toNat) < 8 → (S_X7_insert_49 g (d + 1) b l1 l2 l3 (b + 2 + (l1).toNat) (M2 (b + 4) (l1).toNat) M2 Q)) ∧ (¬ (M2 (b + 4) (l1).toNat) < 8 → (Q M2)))))))))))))) : S_X7_insert_0 g (d + 1) b l1 l2 l3 M Q := by
  show Wa _ _ _ _ _ _ _ _
  refine Wa_iload_n 1 dX7_insert_0 rfl rfl ?_
  obtain ⟨q1, h⟩ := h
  refine Wa_callS [vI l1] _ lc_X7_20 cs_X8_isSide rfl rfl (Nat.le_refl _) (Nat.le_of_ble_eq_true rfl) dX7_insert_1 h ?_
  intro r M2 h
  obtain ⟨z3, rfl, r4, h⟩ := h
  have h := h r4
  refine Wa_if_eq (tgt := 32) dX7_insert_4 (by decide) r4 (fun c5 => ?_) (fun c5 => ?_)
  · have h := h.1 c5
    exact Wa_return dX7_insert_32 rfl ⟨rfl, h⟩
  · have h := h.2 c5
    refine Wa_iload_n 2 dX7_insert_7 rfl rfl ?_
    obtain ⟨q6, h⟩ := h
    refine Wa_if_lt (tgt := 32) dX7_insert_8 (by decide) q6 (fun c7 => ?_) (fun c7 => ?_)
    · have h := h.1 c7
      exact Wa_return dX7_insert_32 rfl ⟨rfl, h⟩
    · have h := h.2 c7
      refine Wa_iload_n 2 dX7_insert_11 rfl rfl ?_
      refine Wa_aload_n 0 dX7_insert_12 rfl rfl ?_
      refine Wa_getR cf_X7 lk_X7_16 hs.1 (j := 1) rfl (by decide) dX7_insert_13 ?_
      refine Wa_iload_n 1 dX7_insert_16 rfl rfl ?_
      obtain ⟨b8, h⟩ := h
      refine Wa_iald2 (v := (M2 (b + 4) (l1).toNat)) hs.2.2.2 b8 rfl dX7_insert_17 (fun r9 => ?_)
      refine Wa_icmp_gt (tgt := 32) dX7_insert_18 (by decide) q6 r9 (fun c10 => ?_) (fun c10 => ?_)
      · have h := h.1 c10
        exact Wa_return dX7_insert_32 rfl ⟨rfl, h⟩
      · have h := h.2 c10
        refine Wa_aload_n 0 dX7_insert_21 rfl rfl ?_
        refine Wa_getR cf_X7 lk_X7_16 hs.1 (j := 1) rfl (by decide) dX7_insert_22 ?_
        refine Wa_iload_n 1 dX7_insert_25 rfl rfl ?_
        refine Wa_iald2 (v := (M2 (b + 4) (l1).toNat)) hs.2.2.2 b8 rfl dX7_insert_26 (fun r11 => ?_)
        refine Wa_bipush (z := 8) dX7_insert_27 (by decide) ?_
        refine Wa_icmp_lt (tgt := 33) dX7_insert_29 (by decide) r11 ⟨by decide, by decide⟩ (fun c12 => ?_) (fun c12 => ?_)
        · have h := h.1 c12
          refine Wa_aload_n 0 dX7_insert_33 rfl rfl ?_
          refine Wa_getR cf_X7 lk_X7_11 hs.1 (j := 0) rfl (by decide) dX7_insert_34 ?_
          refine Wa_iload_n 1 dX7_insert_37 rfl rfl ?_
          refine Wa_aald hs.2.1 b8 dX7_insert_38 ?_
          refine Wa_astore (ls' := [(4, vR (b + 2 + (l1).toNat)), (0, vR b), (1, vI l1), (2, vI l2), (3, vI l3)]) dX7_insert_39 (by decide) rfl ?_
          refine Wa_aload_n 1 dX7_insert_41 rfl rfl ?_
          refine Wa_getR cf_X7 lk_X7_16 hs.1 (j := 1) rfl (by decide) dX7_insert_42 ?_
          refine Wa_iload_n 2 dX7_insert_45 rfl rfl ?_
          refine Wa_iald2 (v := (M2 (b + 4) (l1).toNat)) hs.2.2.2 b8 rfl dX7_insert_46 (fun r13 => ?_)
          refine Wa_istore (ls' := [(5, vI (M2 (b + 4) (l1).toNat)), (4, vR (b + 2 + (l1).toNat)), (0, vR b), (1, vI l1), (2, vI l2), (3, vI l3)]) dX7_insert_47 (by decide) rfl ?_
          refine Wa_sub [2, 3, 4, 5, 1, 0] rfl ?_
          exact h
        · have h := h.2 c12
          exact Wa_return dX7_insert_32 rfl ⟨rfl, h⟩
set_option maxRecDepth 100000 in
theorem sg_X7_insert_49 {g : AG} {d : Nat} {b : Nat} {l1 : Int} {l2 : Int} {l3 : Int} {l4 : Nat} {l5 : Int} {M : AM} {Q : AM → Prop} (hs : IsSides b) (hr4 : KD[l4]? = some (.inr (.inl 8)))
  (h : rg l5 ∧ (rg l2 ∧ ((l5 ≤ l2 → ((0 ≤ l2 ∧ l2 < 8) ∧ (rg l3 ∧ ((0 ≤ l1 ∧ l1 < 2) ∧ (rg (((mU M l4 (l2).toNat l3) (b + 4) (l1).toNat) + 1) ∧ (Q (mU (mU M l4 (l2).toNat l3) (b + 4) (l1).toNat (((mU M l4 (l2).toNat l3) (b + 4) (l1).toNat) + 1)))))))) ∧ (¬ l5 ≤ l2 → ((0 ≤ (l5 - 1) ∧ (l5 - 1) < 8) ∧ ((0 ≤ l5 ∧ l5 < 8) ∧ (S_X7_insert_49 g (d + 1) b l1 l2 l3 l4 (l5 + (-1)) (mU M l4 (l5).toNat (M l4 ((l5 - 1)).toNat)) Q))))))) : S_X7_insert_49 g (d + 1) b l1 l2 l3 l4 l5 M Q := by
  show Wa _ _ _ _ _ _ _ _
  refine Wa_iload 5 dX7_insert_49 rfl ?_
  refine Wa_iload_n 2 dX7_insert_51 rfl rfl ?_
  obtain ⟨q1, h⟩ := h
  obtain ⟨q2, h⟩ := h
  refine Wa_icmp_le (tgt := 73) dX7_insert_52 (by decide) q1 q2 (fun c3 => ?_) (fun c3 => ?_)
  · have h := h.1 c3
    refine Wa_aload 4 dX7_insert_73 rfl ?_
    refine Wa_iload_n 2 dX7_insert_75 rfl rfl ?_
    refine Wa_iload_n 3 dX7_insert_76 rfl rfl ?_
    obtain ⟨b4, h⟩ := h
    obtain ⟨q5, h⟩ := h
    refine Wa_iast hr4 b4 q5 dX7_insert_77 ?_
    refine Wa_aload_n 0 dX7_insert_78 rfl rfl ?_
    refine Wa_getR cf_X7 lk_X7_16 hs.1 (j := 1) rfl (by decide) dX7_insert_79 ?_
    refine Wa_iload_n 1 dX7_insert_82 rfl rfl ?_
    refine Wa_dup2 dX7_insert_83 rfl rfl ?_
    obtain ⟨b6, h⟩ := h
    refine Wa_iald2 (v := ((mU M l4 (l2).toNat l3) (b + 4) (l1).toNat)) hs.2.2.2 b6 rfl dX7_insert_84 (fun r7 => ?_)
    refine Wa_iconst (z := 1) dX7_insert_85 ?_
    refine Wa_iadd dX7_insert_86 ?_
    obtain ⟨q8, h⟩ := h
    refine Wa_iast hs.2.2.2 b6 q8 dX7_insert_87 ?_
    exact Wa_return dX7_insert_88 rfl ⟨rfl, h⟩
  · have h := h.2 c3
    refine Wa_aload 4 dX7_insert_55 rfl ?_
    refine Wa_iload 5 dX7_insert_57 rfl ?_
    refine Wa_aload 4 dX7_insert_59 rfl ?_
    refine Wa_iload 5 dX7_insert_61 rfl ?_
    refine Wa_iconst (z := 1) dX7_insert_63 ?_
    refine Wa_isub dX7_insert_64 ?_
    obtain ⟨b9, h⟩ := h
    refine Wa_iald2 (v := (M l4 ((l5 - 1)).toNat)) hr4 b9 rfl dX7_insert_65 (fun r10 => ?_)
    obtain ⟨b11, h⟩ := h
    refine Wa_iast hr4 b11 r10 dX7_insert_66 ?_
    refine Wa_iinc (ls' := [(5, vI (l5 + (-1))), (0, vR b), (1, vI l1), (2, vI l2), (3, vI l3), (4, vR l4)]) 5 dX7_insert_67 rfl (by decide) rfl ?_
    refine Wa_goto (tgt := 49) dX7_insert_70 (by decide) ?_
    refine Wa_sub [1, 2, 3, 4, 5, 0] rfl ?_
    exact h
theorem en_X7_insert {g : AG} {d : Nat} {b : Nat} {l1 : Int} {l2 : Int} {l3 : Int} {M : AM} {Q : AM → Prop} (h : S_X7_insert_0 g d b l1 l2 l3 M Q) : MetV g mX7_insert d [vR b, vI l1, vI l2, vI l3] M Q := MetA.of (by decide) (Nat.le_of_ble_eq_true rfl) h
def S_X7_remove_0 (g : AG) (d : Nat) (b : Nat) (l1 : Int) (l2 : Int) (M : AM) (Q : AM → Prop) : Prop := Wa g mX7_remove d 0 [(0, vR b), (1, vI l1), (2, vI l2)] [] M (QV Q)
def S_X7_remove_30 (g : AG) (d : Nat) (b : Nat) (l1 : Int) (l3 : Nat) (l4 : Int) (M : AM) (Q : AM → Prop) : Prop := Wa g mX7_remove d 30 [(0, vR b), (1, vI l1), (3, vR l3), (4, vI l4)] [] M (QV Q)
set_option maxRecDepth 100000 in
theorem sg_X7_remove_0 {g : AG} {d : Nat} {b : Nat} {l1 : Int} {l2 : Int} {M : AM} {Q : AM → Prop} (hs : IsSides b)
  (h : rg l1 ∧ (rg l2 ∧ (MetI g mX7_has d [vR b, vI l1, vI l2] M (fun z4 M3 => rg z4 → ((¬ z4 = 0 → ((0 ≤ l1 ∧ l1 < 2) ∧ (rg ((M3 (b + 4) (l1).toNat) - 1) ∧ (S_X7_remove_30 g (d + 1) b l1 (b + 2 + (l1).toNat) l2 (mU M3 (b + 4) (l1).toNat ((M3 (b + 4) (l1).toNat) - 1)) Q)))) ∧ (z4 = 0 → (Q M3))))))) : S_X7_remove_0 g (d + 1) b l1 l2 M Q := by
  show Wa _ _ _ _ _ _ _ _
  refine Wa_aload_n 0 dX7_remove_0 rfl rfl ?_
  refine Wa_iload_n 1 dX7_remove_1 rfl rfl ?_
  refine Wa_iload_n 2 dX7_remove_2 rfl rfl ?_
  obtain ⟨q1, h⟩ := h
  obtain ⟨q2, h⟩ := h
  refine Wa_callV [vI l1, vI l2] _ cf_X7 rfl hs.1 lc_X7_34 cv_X7_has rfl rfl (Nat.le_refl _) (Nat.le_of_ble_eq_true rfl) dX7_remove_3 h ?_
  intro r M3 h
  obtain ⟨z4, rfl, r5, h⟩ := h
  have h := h r5
  refine Wa_if_ne (tgt := 10) dX7_remove_6 (by decide) r5 (fun c6 => ?_) (fun c6 => ?_)
  · have h := h.1 c6
    refine Wa_aload_n 0 dX7_remove_10 rfl rfl ?_
    refine Wa_getR cf_X7 lk_X7_11 hs.1 (j := 0) rfl (by decide) dX7_remove_11 ?_
    refine Wa_iload_n 1 dX7_remove_14 rfl rfl ?_
    obtain ⟨b7, h⟩ := h
    refine Wa_aald hs.2.1 b7 dX7_remove_15 ?_
    refine Wa_astore_n (ls' := [(3, vR (b + 2 + (l1).toNat)), (0, vR b), (1, vI l1), (2, vI l2)]) dX7_remove_16 rfl (by decide) rfl ?_
    refine Wa_aload_n 1 dX7_remove_17 rfl rfl ?_
    refine Wa_getR cf_X7 lk_X7_16 hs.1 (j := 1) rfl (by decide) dX7_remove_18 ?_
    refine Wa_iload_n 2 dX7_remove_21 rfl rfl ?_
    refine Wa_dup2 dX7_remove_22 rfl rfl ?_
    refine Wa_iald2 (v := (M3 (b + 4) (l1).toNat)) hs.2.2.2 b7 rfl dX7_remove_23 (fun r8 => ?_)
    refine Wa_iconst (z := 1) dX7_remove_24 ?_
    refine Wa_isub dX7_remove_25 ?_
    obtain ⟨q9, h⟩ := h
    refine Wa_iast hs.2.2.2 b7 q9 dX7_remove_26 ?_
    refine Wa_iload_n 3 dX7_remove_27 rfl rfl ?_
    refine Wa_istore (ls' := [(4, vI l2), (3, vR (b + 2 + (l1).toNat)), (0, vR b), (1, vI l1), (2, vI l2)]) dX7_remove_28 (by decide) rfl ?_
    refine Wa_sub [2, 3, 1, 0] rfl ?_
    exact h
  · have h := h.2 c6
    exact Wa_return dX7_remove_9 rfl ⟨rfl, h⟩
set_option maxRecDepth 100000 in
theorem sg_X7_remove_30 {g : AG} {d : Nat} {b : Nat} {l1 : Int} {l3 : Nat} {l4 : Int} {M : AM} {Q : AM → Prop} (hs : IsSides b) (hr3 : KD[l3]? = some (.inr (.inl 8)))
  (h : (0 ≤ l1 ∧ l1 < 2) ∧ (rg l4 ∧ (((M (b + 4) (l1).toNat) ≤ l4 → (Q M)) ∧ (¬ (M (b + 4) (l1).toNat) ≤ l4 → ((0 ≤ (l4 + 1) ∧ (l4 + 1) < 8) ∧ ((0 ≤ l4 ∧ l4 < 8) ∧ (S_X7_remove_30 g (d + 1) b l1 l3 (l4 + 1) (mU M l3 (l4).toNat (M l3 ((l4 + 1)).toNat)) Q))))))) : S_X7_remove_30 g (d + 1) b l1 l3 l4 M Q := by
  show Wa _ _ _ _ _ _ _ _
  refine Wa_iload 3 dX7_remove_30 rfl ?_
  refine Wa_aload_n 0 dX7_remove_32 rfl rfl ?_
  refine Wa_getR cf_X7 lk_X7_16 hs.1 (j := 1) rfl (by decide) dX7_remove_33 ?_
  refine Wa_iload_n 1 dX7_remove_36 rfl rfl ?_
  obtain ⟨b1, h⟩ := h
  refine Wa_iald2 (v := (M (b + 4) (l1).toNat)) hs.2.2.2 b1 rfl dX7_remove_37 (fun r2 => ?_)
  obtain ⟨q3, h⟩ := h
  refine Wa_icmp_ge (tgt := 57) dX7_remove_38 (by decide) q3 r2 (fun c4 => ?_) (fun c4 => ?_)
  · have h := h.1 c4
    exact Wa_return dX7_remove_57 rfl ⟨rfl, h⟩
  · have h := h.2 c4
    refine Wa_aload_n 2 dX7_remove_41 rfl rfl ?_
    refine Wa_iload 3 dX7_remove_42 rfl ?_
    refine Wa_aload_n 2 dX7_remove_44 rfl rfl ?_
    refine Wa_iload 3 dX7_remove_45 rfl ?_
    refine Wa_iconst (z := 1) dX7_remove_47 ?_
    refine Wa_iadd dX7_remove_48 ?_
    obtain ⟨b5, h⟩ := h
    refine Wa_iald2 (v := (M l3 ((l4 + 1)).toNat)) hr3 b5 rfl dX7_remove_49 (fun r6 => ?_)
    obtain ⟨b7, h⟩ := h
    refine Wa_iast hr3 b7 r6 dX7_remove_50 ?_
    refine Wa_iinc (ls' := [(4, vI (l4 + 1)), (0, vR b), (1, vI l1), (3, vR l3)]) 3 dX7_remove_51 rfl (by decide) rfl ?_
    refine Wa_goto (tgt := 30) dX7_remove_54 (by decide) ?_
    refine Wa_sub [1, 2, 3, 0] rfl ?_
    exact h
theorem en_X7_remove {g : AG} {d : Nat} {b : Nat} {l1 : Int} {l2 : Int} {M : AM} {Q : AM → Prop} (h : S_X7_remove_0 g d b l1 l2 M Q) : MetV g mX7_remove d [vR b, vI l1, vI l2] M Q := MetA.of (by decide) (Nat.le_of_ble_eq_true rfl) h
def S_X7_exchangeLines_0 (g : AG) (d : Nat) (b : Nat) (l1 : Int) (l2 : Int) (l3 : Int) (M : AM) (Q : AM → Prop) : Prop := Wa g mX7_exchangeLines d 0 [(0, vR b), (1, vI l1), (2, vI l2), (3, vI l3)] [] M (QV Q)
set_option maxRecDepth 100000 in
theorem sg_X7_exchangeLines_0 {g : AG} {d : Nat} {b : Nat} {l1 : Int} {l2 : Int} {l3 : Int} {M : AM} {Q : AM → Prop} (hs : IsSides b)
  (h : rg l1 ∧ (rg l2 ∧ (MetI g mX7_has d [vR b, vI l1, vI l2] M (fun z4 M3 => rg z4 → ((z4 = 0 → (Q M3)) ∧ (¬ z4 = 0 → (rg l3 ∧ (MetI g mX7_has d [vR b, vI l1, vI l3] M3 (fun z9 M8 => rg z9 → ((¬ z9 = 0 → ((0 ≤ l1 ∧ l1 < 2) ∧ ((0 ≤ l2 ∧ l2 < 8) ∧ ((0 ≤ l3 ∧ l3 < 8) ∧ (Q (mU (mU M8 (b + 2 + (l1).toNat) (l2).toNat (M8 (b + 2 + (l1).toNat) (l3).toNat)) (b + 2 + (l1).toNat) (l3).toNat (M8 (b + 2 + (l1).toNat) (l2).toNat))))))) ∧ (z9 = 0 → (Q M8)))))))))))) : S_X7_exchangeLines_0 g (d + 1) b l1 l2 l3 M Q := by
  show Wa _ _ _ _ _ _ _ _
  refine Wa_aload_n 0 dX7_exchangeLines_0 rfl rfl ?_
  refine Wa_iload_n 1 dX7_exchangeLines_1 rfl rfl ?_
  refine Wa_iload_n 2 dX7_exchangeLines_2 rfl rfl ?_
  obtain ⟨q1, h⟩ := h
  obtain ⟨q2, h⟩ := h
  refine Wa_callV [vI l1, vI l2] _ cf_X7 rfl hs.1 lc_X7_34 cv_X7_has rfl rfl (Nat.le_refl _) (Nat.le_of_ble_eq_true rfl) dX7_exchangeLines_3 h ?_
  intro r M3 h
  obtain ⟨z4, rfl, r5, h⟩ := h
  have h := h r5
  refine Wa_if_eq (tgt := 18) dX7_exchangeLines_6 (by decide) r5 (fun c6 => ?_) (fun c6 => ?_)
  · have h := h.1 c6
    exact Wa_return dX7_exchangeLines_18 rfl ⟨rfl, h⟩
  · have h := h.2 c6
    refine Wa_aload_n 0 dX7_exchangeLines_9 rfl rfl ?_
    refine Wa_iload_n 1 dX7_exchangeLines_10 rfl rfl ?_
    refine Wa_iload_n 3 dX7_exchangeLines_11 rfl rfl ?_
    obtain ⟨q7, h⟩ := h
    refine Wa_callV [vI l1, vI l3] _ cf_X7 rfl hs.1 lc_X7_34 cv_X7_has rfl rfl (Nat.le_refl _) (Nat.le_of_ble_eq_true rfl) dX7_exchangeLines_12 h ?_
    intro r M8 h
    obtain ⟨z9, rfl, r10, h⟩ := h
    have h := h r10
    refine Wa_if_ne (tgt := 19) dX7_exchangeLines_15 (by decide) r10 (fun c11 => ?_) (fun c11 => ?_)
    · have h := h.1 c11
      refine Wa_aload_n 0 dX7_exchangeLines_19 rfl rfl ?_
      refine Wa_getR cf_X7 lk_X7_11 hs.1 (j := 0) rfl (by decide) dX7_exchangeLines_20 ?_
      refine Wa_iload_n 1 dX7_exchangeLines_23 rfl rfl ?_
      obtain ⟨b12, h⟩ := h
      refine Wa_aald hs.2.1 b12 dX7_exchangeLines_24 ?_
      refine Wa_iload_n 2 dX7_exchangeLines_25 rfl rfl ?_
      obtain ⟨b13, h⟩ := h
      refine Wa_iald2 (v := (M8 (b + 2 + (l1).toNat) (l2).toNat)) (hs.2.2.1 _ (inb_nat b12)) b13 rfl dX7_exchangeLines_26 (fun r14 => ?_)
      refine Wa_istore (ls' := [(4, vI (M8 (b + 2 + (l1).toNat) (l2).toNat)), (0, vR b), (1, vI l1), (2, vI l2), (3, vI l3)]) dX7_exchangeLines_27 (by decide) rfl ?_
      refine Wa_aload_n 1 dX7_exchangeLines_29 rfl rfl ?_
      refine Wa_getR cf_X7 lk_X7_11 hs.1 (j := 0) rfl (by decide) dX7_exchangeLines_30 ?_
      refine Wa_iload_n 2 dX7_exchangeLines_33 rfl rfl ?_
      refine Wa_aald hs.2.1 b12 dX7_exchangeLines_34 ?_
      refine Wa_iload_n 3 dX7_exchangeLines_35 rfl rfl ?_
      refine Wa_aload_n 1 dX7_exchangeLines_36 rfl rfl ?_
      refine Wa_getR cf_X7 lk_X7_11 hs.1 (j := 0) rfl (by decide) dX7_exchangeLines_37 ?_
      refine Wa_iload_n 2 dX7_exchangeLines_40 rfl rfl ?_
      refine Wa_aald hs.2.1 b12 dX7_exchangeLines_41 ?_
      refine Wa_iload_n 4 dX7_exchangeLines_42 rfl rfl ?_
      obtain ⟨b15, h⟩ := h
      refine Wa_iald2 (v := (M8 (b + 2 + (l1).toNat) (l3).toNat)) (hs.2.2.1 _ (inb_nat b12)) b15 rfl dX7_exchangeLines_43 (fun r16 => ?_)
      refine Wa_iast (hs.2.2.1 _ (inb_nat b12)) b13 r16 dX7_exchangeLines_44 ?_
      refine Wa_aload_n 1 dX7_exchangeLines_45 rfl rfl ?_
      refine Wa_getR cf_X7 lk_X7_11 hs.1 (j := 0) rfl (by decide) dX7_exchangeLines_46 ?_
      refine Wa_iload_n 2 dX7_exchangeLines_49 rfl rfl ?_
      refine Wa_aald hs.2.1 b12 dX7_exchangeLines_50 ?_
      refine Wa_iload_n 4 dX7_exchangeLines_51 rfl rfl ?_
      refine Wa_iload 0 dX7_exchangeLines_52 rfl ?_
      refine Wa_iast (hs.2.2.1 _ (inb_nat b12)) b15 r14 dX7_exchangeLines_54 ?_
      exact Wa_return dX7_exchangeLines_55 rfl ⟨rfl, h⟩
    · have h := h.2 c11
      exact Wa_return dX7_exchangeLines_18 rfl ⟨rfl, h⟩
theorem en_X7_exchangeLines {g : AG} {d : Nat} {b : Nat} {l1 : Int} {l2 : Int} {l3 : Int} {M : AM} {Q : AM → Prop} (h : S_X7_exchangeLines_0 g d b l1 l2 l3 M Q) : MetV g mX7_exchangeLines d [vR b, vI l1, vI l2, vI l3] M Q := MetA.of (by decide) (Nat.le_of_ble_eq_true rfl) h
def S_X7_exchangeSides_0 (g : AG) (d : Nat) (b : Nat) (M : AM) (Q : AM → Prop) : Prop := Wa g mX7_exchangeSides d 0 [(0, vR b)] [] M (QV Q)
def S_X7_exchangeSides_2 (g : AG) (d : Nat) (b : Nat) (l1 : Int) (M : AM) (Q : AM → Prop) : Prop := Wa g mX7_exchangeSides d 2 [(0, vR b), (1, vI l1)] [] M (QV Q)
set_option maxRecDepth 100000 in
theorem sg_X7_exchangeSides_0 {g : AG} {d : Nat} {b : Nat} {M : AM} {Q : AM → Prop} (hs : IsSides b)
  (h : S_X7_exchangeSides_2 g (d + 1) b 0 M Q) : S_X7_exchangeSides_0 g (d + 1) b M Q := by
  show Wa _ _ _ _ _ _ _ _
  refine Wa_iconst (z := 0) dX7_exchangeSides_0 ?_
  refine Wa_istore_n (ls' := [(1, vI 0), (0, vR b)]) dX7_exchangeSides_1 rfl (by decide) rfl ?_
  refine Wa_sub [1, 0] rfl ?_
  exact h
set_option maxRecDepth 100000 in
theorem sg_X7_exchangeSides_2 {g : AG} {d : Nat} {b : Nat} {l1 : Int} {M : AM} {Q : AM → Prop} (hs : IsSides b)
  (h : rg l1 ∧ ((8 ≤ l1 → (Q (mU (mU M (b + 4) 0 (M (b + 4) 1)) (b + 4) 1 (M (b + 4) 0)))) ∧ (¬ 8 ≤ l1 → ((0 ≤ l1 ∧ l1 < 8) ∧ (S_X7_exchangeSides_2 g (d + 1) b (l1 + 1) (mU (mU M (b + 2) (l1).toNat (M (b + 3) (l1).toNat)) (b + 3) (l1).toNat (M (b + 2) (l1).toNat)) Q))))) : S_X7_exchangeSides_2 g (d + 1) b l1 M Q := by
  show Wa _ _ _ _ _ _ _ _
  refine Wa_iload_n 1 dX7_exchangeSides_2 rfl rfl ?_
  refine Wa_bipush (z := 8) dX7_exchangeSides_3 (by decide) ?_
  obtain ⟨q1, h⟩ := h
  refine Wa_icmp_ge (tgt := 48) dX7_exchangeSides_5 (by decide) q1 ⟨by decide, by decide⟩ (fun c2 => ?_) (fun c2 => ?_)
  · have h := h.1 c2
    refine Wa_aload_n 0 dX7_exchangeSides_48 rfl rfl ?_
    refine Wa_getR cf_X7 lk_X7_16 hs.1 (j := 1) rfl (by decide) dX7_exchangeSides_49 ?_
    refine Wa_iconst (z := 0) dX7_exchangeSides_52 ?_
    refine Wa_iald2 (v := (M (b + 4) 0)) hs.2.2.2 ⟨by decide, by decide⟩ rfl dX7_exchangeSides_53 (fun r3 => ?_)
    refine Wa_istore_n (ls' := [(1, vI (M (b + 4) 0)), (0, vR b)]) dX7_exchangeSides_54 rfl (by decide) rfl ?_
    refine Wa_aload_n 1 dX7_exchangeSides_55 rfl rfl ?_
    refine Wa_getR cf_X7 lk_X7_16 hs.1 (j := 1) rfl (by decide) dX7_exchangeSides_56 ?_
    refine Wa_iconst (z := 0) dX7_exchangeSides_59 ?_
    refine Wa_aload_n 1 dX7_exchangeSides_60 rfl rfl ?_
    refine Wa_getR cf_X7 lk_X7_16 hs.1 (j := 1) rfl (by decide) dX7_exchangeSides_61 ?_
    refine Wa_iconst (z := 1) dX7_exchangeSides_64 ?_
    refine Wa_iald2 (v := (M (b + 4) 1)) hs.2.2.2 ⟨by decide, by decide⟩ rfl dX7_exchangeSides_65 (fun r4 => ?_)
    refine Wa_iast hs.2.2.2 ⟨by decide, by decide⟩ r4 dX7_exchangeSides_66 ?_
    refine Wa_aload_n 1 dX7_exchangeSides_67 rfl rfl ?_
    refine Wa_getR cf_X7 lk_X7_16 hs.1 (j := 1) rfl (by decide) dX7_exchangeSides_68 ?_
    refine Wa_iconst (z := 1) dX7_exchangeSides_71 ?_
    refine Wa_iload_n 0 dX7_exchangeSides_72 rfl rfl ?_
    refine Wa_iast hs.2.2.2 ⟨by decide, by decide⟩ r3 dX7_exchangeSides_73 ?_
    exact Wa_return dX7_exchangeSides_74 rfl ⟨rfl, h⟩
  · have h := h.2 c2
    refine Wa_aload_n 0 dX7_exchangeSides_8 rfl rfl ?_
    refine Wa_getR cf_X7 lk_X7_11 hs.1 (j := 0) rfl (by decide) dX7_exchangeSides_9 ?_
    refine Wa_iconst (z := 0) dX7_exchangeSides_12 ?_
    refine Wa_aald hs.2.1 ⟨by decide, by decide⟩ dX7_exchangeSides_13 ?_
    refine Wa_iload_n 1 dX7_exchangeSides_14 rfl rfl ?_
    obtain ⟨b5, h⟩ := h
    refine Wa_iald2 (v := (M (b + 2) (l1).toNat)) (hs.2.2.1 0 (by decide)) b5 rfl dX7_exchangeSides_15 (fun r6 => ?_)
    refine Wa_istore_n (ls' := [(2, vI (M (b + 2) (l1).toNat)), (0, vR b), (1, vI l1)]) dX7_exchangeSides_16 rfl (by decide) rfl ?_
    refine Wa_aload_n 1 dX7_exchangeSides_17 rfl rfl ?_
    refine Wa_getR cf_X7 lk_X7_11 hs.1 (j := 0) rfl (by decide) dX7_exchangeSides_18 ?_
    refine Wa_iconst (z := 0) dX7_exchangeSides_21 ?_
    refine Wa_aald hs.2.1 ⟨by decide, by decide⟩ dX7_exchangeSides_22 ?_
    refine Wa_iload_n 2 dX7_exchangeSides_23 rfl rfl ?_
    refine Wa_aload_n 1 dX7_exchangeSides_24 rfl rfl ?_
    refine Wa_getR cf_X7 lk_X7_11 hs.1 (j := 0) rfl (by decide) dX7_exchangeSides_25 ?_
    refine Wa_iconst (z := 1) dX7_exchangeSides_28 ?_
    refine Wa_aald hs.2.1 ⟨by decide, by decide⟩ dX7_exchangeSides_29 ?_
    refine Wa_iload_n 2 dX7_exchangeSides_30 rfl rfl ?_
    refine Wa_iald2 (v := (M (b + 3) (l1).toNat)) (hs.2.2.1 1 (by decide)) b5 rfl dX7_exchangeSides_31 (fun r7 => ?_)
    refine Wa_iast (hs.2.2.1 0 (by decide)) b5 r7 dX7_exchangeSides_32 ?_
    refine Wa_aload_n 1 dX7_exchangeSides_33 rfl rfl ?_
    refine Wa_getR cf_X7 lk_X7_11 hs.1 (j := 0) rfl (by decide) dX7_exchangeSides_34 ?_
    refine Wa_iconst (z := 1) dX7_exchangeSides_37 ?_
    refine Wa_aald hs.2.1 ⟨by decide, by decide⟩ dX7_exchangeSides_38 ?_
    refine Wa_iload_n 2 dX7_exchangeSides_39 rfl rfl ?_
    refine Wa_iload_n 0 dX7_exchangeSides_40 rfl rfl ?_
    refine Wa_iast (hs.2.2.1 1 (by decide)) b5 r6 dX7_exchangeSides_41 ?_
    refine Wa_iinc (ls' := [(1, vI (l1 + 1)), (2, vI (M (b + 2) (l1).toNat)), (0, vR b)]) 2 dX7_exchangeSides_42 rfl (by decide) rfl ?_
    refine Wa_goto (tgt := 2) dX7_exchangeSides_45 (by decide) ?_
    refine Wa_sub [2, 0] rfl ?_
    exact h
theorem en_X7_exchangeSides {g : AG} {d : Nat} {b : Nat} {M : AM} {Q : AM → Prop} (h : S_X7_exchangeSides_0 g d b M Q) : MetV g mX7_exchangeSides d [vR b] M Q := MetA.of (by decide) (Nat.le_of_ble_eq_true rfl) h
