def S_X1_commonLetters_0 (g : AG) (d : Nat) (l1 : Int) (l2 : Int) (M : AM) (Q : Int → AM → Prop) : Prop := Wa g mX1_commonLetters d 0 [(0, vR 57), (1, vI l1), (2, vI l2)] [] M (QI Q)
def S_X1_commonLetters_2 (g : AG) (d : Nat) (l1 : Int) (l2 : Int) (l3 : Int) (M : AM) (Q : Int → AM → Prop) : Prop := Wa g mX1_commonLetters d 2 [(0, vR 57), (1, vI l1), (2, vI l2), (3, vI l3)] [] M (QI Q)
set_option maxRecDepth 100000 in
theorem sg_X1_commonLetters_0 {g : AG} {d : Nat} {l1 : Int} {l2 : Int} {M : AM} {Q : Int → AM → Prop} 
  (h : S_X1_commonLetters_2 g (d + 1) l1 l2 0 M Q) : S_X1_commonLetters_0 g (d + 1) l1 l2 M Q := by
  show Wa _ _ _ _ _ _ _ _
  refine Wa_iconst (z := 0) dX1_commonLetters_0 ?_
  refine Wa_istore_n (ls' := [(3, vI 0), (0, vR 57), (1, vI l1), (2, vI l2)]) dX1_commonLetters_1 rfl (by decide) rfl ?_
  refine Wa_sub [1, 2, 3, 0] rfl ?_
  exact h
set_option maxRecDepth 100000 in
theorem sg_X1_commonLetters_2 {g : AG} {d : Nat} {l1 : Int} {l2 : Int} {l3 : Int} {M : AM} {Q : Int → AM → Prop} 
  (h : rg l3 ∧ ((3 ≤ l3 → (rg l1 ∧ (MetI g mX8_lettersIn d [vI l1] M (fun z5 M4 => rg z5 → (rg l2 ∧ (MetI g mX8_lettersIn d [vI l2] M4 (fun z9 M8 => rg z9 → (MetI g mX0_most d [vR 58, vR 69, vI 0, vI z5, vR 70, vI 0, vI z9] M8 (fun z12 M11 => rg z12 → (Q z12 M11)))))))))) ∧ (¬ 3 ≤ l3 → (rg l1 ∧ (MetI g mX8_codeAt d [vI l1, vI l3] M (fun z16 M15 => rg z16 → ((0 ≤ l3 ∧ l3 < 3) ∧ (rg l2 ∧ (MetI g mX8_codeAt d [vI l2, vI l3] (mU M15 69 (l3).toNat z16) (fun z21 M20 => rg z21 → (S_X1_commonLetters_2 g (d + 1) l1 l2 (l3 + 1) (mU M20 70 (l3).toNat z21) Q))))))))))) : S_X1_commonLetters_2 g (d + 1) l1 l2 l3 M Q := by
  show Wa _ _ _ _ _ _ _ _
  refine Wa_iload_n 3 dX1_commonLetters_2 rfl rfl ?_
  refine Wa_iconst (z := 3) dX1_commonLetters_3 ?_
  obtain ⟨q1, h⟩ := h
  refine Wa_icmp_ge (tgt := 35) dX1_commonLetters_4 (by decide) q1 ⟨by decide, by decide⟩ (fun c2 => ?_) (fun c2 => ?_)
  · have h := h.1 c2
    refine Wa_aload_n 0 dX1_commonLetters_35 rfl rfl ?_
    refine Wa_getR cf_X1 lk_X1_12 k_57 (j := 0) rfl (by decide) dX1_commonLetters_36 ?_
    refine Wa_aload_n 0 dX1_commonLetters_39 rfl rfl ?_
    refine Wa_getR cf_X1 lk_X1_18 k_57 (j := 1) rfl (by decide) dX1_commonLetters_40 ?_
    refine Wa_iconst (z := 0) dX1_commonLetters_43 ?_
    refine Wa_iload_n 1 dX1_commonLetters_44 rfl rfl ?_
    obtain ⟨q3, h⟩ := h
    refine Wa_callS [vI l1] _ lc_X1_29 cs_X8_lettersIn rfl rfl (Nat.le_refl _) (Nat.le_of_ble_eq_true rfl) dX1_commonLetters_45 h ?_
    intro r M4 h
    obtain ⟨z5, rfl, r6, h⟩ := h
    have h := h r6
    refine Wa_aload_n 0 dX1_commonLetters_48 rfl rfl ?_
    refine Wa_getR cf_X1 lk_X1_22 k_57 (j := 2) rfl (by decide) dX1_commonLetters_49 ?_
    refine Wa_iconst (z := 0) dX1_commonLetters_52 ?_
    refine Wa_iload_n 2 dX1_commonLetters_53 rfl rfl ?_
    obtain ⟨q7, h⟩ := h
    refine Wa_callS [vI l2] _ lc_X1_29 cs_X8_lettersIn rfl rfl (Nat.le_refl _) (Nat.le_of_ble_eq_true rfl) dX1_commonLetters_54 h ?_
    intro r M8 h
    obtain ⟨z9, rfl, r10, h⟩ := h
    have h := h r10
    refine Wa_callV [vR 69, vI 0, vI z5, vR 70, vI 0, vI z9] _ cf_X0 rfl k_58 lc_X1_33 cv_X0_most rfl rfl (Nat.le_refl _) (Nat.le_of_ble_eq_true rfl) dX1_commonLetters_57 h ?_
    intro r M11 h
    obtain ⟨z12, rfl, r13, h⟩ := h
    have h := h r13
    exact Wa_ireturn dX1_commonLetters_60 rfl ⟨_, rfl, r13, h⟩
  · have h := h.2 c2
    refine Wa_aload_n 0 dX1_commonLetters_7 rfl rfl ?_
    refine Wa_getR cf_X1 lk_X1_18 k_57 (j := 1) rfl (by decide) dX1_commonLetters_8 ?_
    refine Wa_iload_n 3 dX1_commonLetters_11 rfl rfl ?_
    refine Wa_iload_n 1 dX1_commonLetters_12 rfl rfl ?_
    refine Wa_iload_n 3 dX1_commonLetters_13 rfl rfl ?_
    obtain ⟨q14, h⟩ := h
    refine Wa_callS [vI l1, vI l3] _ lc_X1_25 cs_X8_codeAt rfl rfl (Nat.le_refl _) (Nat.le_of_ble_eq_true rfl) dX1_commonLetters_14 h ?_
    intro r M15 h
    obtain ⟨z16, rfl, r17, h⟩ := h
    have h := h r17
    obtain ⟨b18, h⟩ := h
    refine Wa_iast k_69 b18 r17 dX1_commonLetters_17 ?_
    refine Wa_aload_n 0 dX1_commonLetters_18 rfl rfl ?_
    refine Wa_getR cf_X1 lk_X1_22 k_57 (j := 2) rfl (by decide) dX1_commonLetters_19 ?_
    refine Wa_iload_n 3 dX1_commonLetters_22 rfl rfl ?_
    refine Wa_iload_n 2 dX1_commonLetters_23 rfl rfl ?_
    refine Wa_iload_n 3 dX1_commonLetters_24 rfl rfl ?_
    obtain ⟨q19, h⟩ := h
    refine Wa_callS [vI l2, vI l3] _ lc_X1_25 cs_X8_codeAt rfl rfl (Nat.le_refl _) (Nat.le_of_ble_eq_true rfl) dX1_commonLetters_25 h ?_
    intro r M20 h
    obtain ⟨z21, rfl, r22, h⟩ := h
    have h := h r22
    refine Wa_iast k_70 b18 r22 dX1_commonLetters_28 ?_
    refine Wa_iinc (ls' := [(3, vI (l3 + 1)), (0, vR 57), (1, vI l1), (2, vI l2)]) 3 dX1_commonLetters_29 rfl (by decide) rfl ?_
    refine Wa_goto (tgt := 2) dX1_commonLetters_32 (by decide) ?_
    refine Wa_sub [1, 2, 3, 0] rfl ?_
    exact h
theorem en_X1_commonLetters {g : AG} {d : Nat} {l1 : Int} {l2 : Int} {M : AM} {Q : Int → AM → Prop} (h : S_X1_commonLetters_0 g d l1 l2 M Q) : MetI g mX1_commonLetters d [vR 57, vI l1, vI l2] M Q := MetA.of (by decide) (Nat.le_of_ble_eq_true rfl) h
def S_X1_fraction_0 (g : AG) (d : Nat) (l1 : Int) (l2 : Int) (M : AM) (Q : UInt32 → AM → Prop) : Prop := Wa g mX1_fraction d 0 [(0, vR 57), (1, vI l1), (2, vI l2)] [] M (QF Q)
set_option maxRecDepth 100000 in
theorem sg_X1_fraction_0 {g : AG} {d : Nat} {l1 : Int} {l2 : Int} {M : AM} {Q : UInt32 → AM → Prop} 
  (h : rg l1 ∧ (MetI g mX8_lettersIn d [vI l1] M (fun z3 M2 => rg z3 → (rg l2 ∧ (MetI g mX8_lettersIn d [vI l2] M2 (fun z7 M6 => rg z7 → (rg (z3 + z7) ∧ ((0 < (z3 + z7) → (MetI g mX1_commonLetters d [vR 57, vI l1, vI l2] M6 (fun z12 M11 => rg z12 → (vf_n32 (FP.fdiv (FP.i2f (Int32.ofInt (2 * z12))) (FP.i2f (Int32.ofInt (z3 + z7)))) ∧ (Q (FP.fdiv (FP.i2f (Int32.ofInt (2 * z12))) (FP.i2f (Int32.ofInt (z3 + z7)))) M11))))) ∧ (¬ 0 < (z3 + z7) → (Q FP.fconst0 M6)))))))))) : S_X1_fraction_0 g (d + 1) l1 l2 M Q := by
  show Wa _ _ _ _ _ _ _ _
  refine Wa_iload_n 1 dX1_fraction_0 rfl rfl ?_
  obtain ⟨q1, h⟩ := h
  refine Wa_callS [vI l1] _ lc_X1_29 cs_X8_lettersIn rfl rfl (Nat.le_refl _) (Nat.le_of_ble_eq_true rfl) dX1_fraction_1 h ?_
  intro r M2 h
  obtain ⟨z3, rfl, r4, h⟩ := h
  have h := h r4
  refine Wa_iload_n 2 dX1_fraction_4 rfl rfl ?_
  obtain ⟨q5, h⟩ := h
  refine Wa_callS [vI l2] _ lc_X1_29 cs_X8_lettersIn rfl rfl (Nat.le_refl _) (Nat.le_of_ble_eq_true rfl) dX1_fraction_5 h ?_
  intro r M6 h
  obtain ⟨z7, rfl, r8, h⟩ := h
  have h := h r8
  refine Wa_iadd dX1_fraction_8 ?_
  refine Wa_istore_n (ls' := [(3, vI (z3 + z7)), (0, vR 57), (1, vI l1), (2, vI l2)]) dX1_fraction_9 rfl (by decide) rfl ?_
  refine Wa_iload_n 0 dX1_fraction_10 rfl rfl ?_
  obtain ⟨q9, h⟩ := h
  refine Wa_if_gt (tgt := 16) dX1_fraction_11 (by decide) q9 (fun c10 => ?_) (fun c10 => ?_)
  · have h := h.1 c10
    refine Wa_iconst (z := 2) dX1_fraction_16 ?_
    refine Wa_aload_n 1 dX1_fraction_17 rfl rfl ?_
    refine Wa_iload_n 2 dX1_fraction_18 rfl rfl ?_
    refine Wa_iload_n 3 dX1_fraction_19 rfl rfl ?_
    refine Wa_callV [vI l1, vI l2] _ cf_X1 rfl k_57 lc_X1_37 cv_X1_commonLetters rfl rfl (Nat.le_refl _) (Nat.le_of_ble_eq_true rfl) dX1_fraction_20 h ?_
    intro r M11 h
    obtain ⟨z12, rfl, r13, h⟩ := h
    have h := h r13
    refine Wa_imul dX1_fraction_23 ?_
    refine Wa_i2f dX1_fraction_24 ?_
    refine Wa_iload_n 0 dX1_fraction_25 rfl rfl ?_
    refine Wa_i2f dX1_fraction_26 ?_
    obtain ⟨n14, h⟩ := h
    refine Wa_fdiv dX1_fraction_27 n14 ?_
    exact Wa_freturn dX1_fraction_28 rfl ⟨_, rfl, h⟩
  · have h := h.2 c10
    refine Wa_fconst0 dX1_fraction_14 ?_
    exact Wa_freturn dX1_fraction_15 rfl ⟨_, rfl, h⟩
theorem en_X1_fraction {g : AG} {d : Nat} {l1 : Int} {l2 : Int} {M : AM} {Q : UInt32 → AM → Prop} (h : S_X1_fraction_0 g d l1 l2 M Q) : MetF g mX1_fraction d [vR 57, vI l1, vI l2] M Q := MetA.of (by decide) (Nat.le_of_ble_eq_true rfl) h
