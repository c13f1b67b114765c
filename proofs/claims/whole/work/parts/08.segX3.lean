def S_X3_append_0 (g : AG) (d : Nat) (l1 : Int) (M : AM) (Q : Int → AM → Prop) : Prop := Wa g mX3_append d 0 [(0, vR 1), (1, vI l1)] [] M (QI Q)
set_option maxRecDepth 100000 in
theorem sg_X3_append_0 {g : AG} {d : Nat} {l1 : Int} {M : AM} {Q : Int → AM → Prop} 
  (h : ((M 1 2) < 64 → ((0 ≤ (M 1 2) ∧ (M 1 2) < 64) ∧ (rg l1 ∧ (rg ((M 1 2) + 1) ∧ (Q 1 (mU (mU M 2 ((M 1 2)).toNat l1) 1 2 ((M 1 2) + 1))))))) ∧ (¬ (M 1 2) < 64 → (Q 0 M))) : S_X3_append_0 g (d + 1) l1 M Q := by
  show Wa _ _ _ _ _ _ _ _
  refine Wa_aload_n 0 dX3_append_0 rfl rfl ?_
  refine Wa_getI2 (v := (M 1 2)) cf_X3 lk_X3_22 k_1 (j := 2) rfl (by decide) rfl dX3_append_1 (fun r1 => ?_)
  refine Wa_bipush (z := 64) dX3_append_4 (by decide) ?_
  refine Wa_icmp_lt (tgt := 11) dX3_append_6 (by decide) r1 ⟨by decide, by decide⟩ (fun c2 => ?_) (fun c2 => ?_)
  · have h := h.1 c2
    refine Wa_aload_n 0 dX3_append_11 rfl rfl ?_
    refine Wa_getR cf_X3 lk_X3_9 k_1 (j := 0) rfl (by decide) dX3_append_12 ?_
    refine Wa_aload_n 0 dX3_append_15 rfl rfl ?_
    refine Wa_getI2 (v := (M 1 2)) cf_X3 lk_X3_22 k_1 (j := 2) rfl (by decide) rfl dX3_append_16 (fun r3 => ?_)
    refine Wa_iload_n 1 dX3_append_19 rfl rfl ?_
    obtain ⟨b4, h⟩ := h
    obtain ⟨q5, h⟩ := h
    refine Wa_iast k_2 b4 q5 dX3_append_20 ?_
    refine Wa_aload_n 0 dX3_append_21 rfl rfl ?_
    refine Wa_dup dX3_append_22 rfl ?_
    refine Wa_getI2 (v := (M 1 2)) cf_X3 lk_X3_22 k_1 (j := 2) rfl (by decide) (mU_rd (by decide)) dX3_append_23 (fun r6 => ?_)
    refine Wa_iconst (z := 1) dX3_append_26 ?_
    refine Wa_iadd dX3_append_27 ?_
    obtain ⟨q7, h⟩ := h
    refine Wa_putI cf_X3 lk_X3_22 k_1 (j := 2) rfl (by decide) rfl rfl q7 dX3_append_28 ?_
    refine Wa_iconst (z := 1) dX3_append_31 ?_
    exact Wa_zreturn dX3_append_32 rfl (by decide) ⟨_, rfl, rg_bool (by decide), h⟩
  · have h := h.2 c2
    refine Wa_iconst (z := 0) dX3_append_9 ?_
    exact Wa_zreturn dX3_append_10 rfl (by decide) ⟨_, rfl, rg_bool (by decide), h⟩
theorem en_X3_append {g : AG} {d : Nat} {l1 : Int} {M : AM} {Q : Int → AM → Prop} (h : S_X3_append_0 g d l1 M Q) : MetI g mX3_append d [vR 1, vI l1] M Q := MetA.of (by decide) (Nat.le_of_ble_eq_true rfl) h
def S_X3_firstFault_0 (g : AG) (d : Nat) (M : AM) (Q : Int → AM → Prop) : Prop := Wa g mX3_firstFault d 0 [(0, vR 1)] [] M (QI Q)
def S_X3_firstFault_9 (g : AG) (d : Nat) (l1 : Int) (M : AM) (Q : Int → AM → Prop) : Prop := Wa g mX3_firstFault d 9 [(0, vR 1), (1, vI l1)] [] M (QI Q)
set_option maxRecDepth 100000 in
theorem sg_X3_firstFault_0 {g : AG} {d : Nat} {M : AM} {Q : Int → AM → Prop} 
  (h : MetV g mX5_begin d [vR 3] M (fun M1 => S_X3_firstFault_9 g (d + 1) 0 M1 Q)) : S_X3_firstFault_0 g (d + 1) M Q := by
  show Wa _ _ _ _ _ _ _ _
  refine Wa_aload_n 0 dX3_firstFault_0 rfl rfl ?_
  refine Wa_getR cf_X3 lk_X3_18 k_1 (j := 1) rfl (by decide) dX3_firstFault_1 ?_
  refine Wa_callV [] _ cf_X5 rfl k_3 lc_X3_26 cv_X5_begin rfl rfl (Nat.le_refl _) (Nat.le_of_ble_eq_true rfl) dX3_firstFault_4 h ?_
  intro r M1 h
  obtain ⟨rfl, h⟩ := h
  refine Wa_iconst (z := 0) dX3_firstFault_7 ?_
  refine Wa_istore_n (ls' := [(1, vI 0), (0, vR 1)]) dX3_firstFault_8 rfl (by decide) rfl ?_
  refine Wa_sub [1, 0] rfl ?_
  exact h
set_option maxRecDepth 100000 in
theorem sg_X3_firstFault_9 {g : AG} {d : Nat} {l1 : Int} {M : AM} {Q : Int → AM → Prop} 
  (h : rg l1 ∧ (((M 1 2) ≤ l1 → (Q (M 1 2) M)) ∧ (¬ (M 1 2) ≤ l1 → ((0 ≤ l1 ∧ l1 < 64) ∧ (MetI g mX5_takes d [vR 3, vI (M 2 (l1).toNat)] M (fun z8 M7 => rg z8 → ((¬ z8 = 0 → (S_X3_firstFault_9 g (d + 1) (l1 + 1) M7 Q)) ∧ (z8 = 0 → (Q l1 M7))))))))) : S_X3_firstFault_9 g (d + 1) l1 M Q := by
  show Wa _ _ _ _ _ _ _ _
  refine Wa_iload_n 1 dX3_firstFault_9 rfl rfl ?_
  refine Wa_aload_n 0 dX3_firstFault_10 rfl rfl ?_
  refine Wa_getI2 (v := (M 1 2)) cf_X3 lk_X3_22 k_1 (j := 2) rfl (by decide) rfl dX3_firstFault_11 (fun r1 => ?_)
  obtain ⟨q2, h⟩ := h
  refine Wa_icmp_ge (tgt := 41) dX3_firstFault_14 (by decide) q2 r1 (fun c3 => ?_) (fun c3 => ?_)
  · have h := h.1 c3
    refine Wa_aload_n 0 dX3_firstFault_41 rfl rfl ?_
    refine Wa_getI2 (v := (M 1 2)) cf_X3 lk_X3_22 k_1 (j := 2) rfl (by decide) rfl dX3_firstFault_42 (fun r4 => ?_)
    exact Wa_ireturn dX3_firstFault_45 rfl ⟨_, rfl, r4, h⟩
  · have h := h.2 c3
    refine Wa_aload_n 0 dX3_firstFault_17 rfl rfl ?_
    refine Wa_getR cf_X3 lk_X3_18 k_1 (j := 1) rfl (by decide) dX3_firstFault_18 ?_
    refine Wa_aload_n 0 dX3_firstFault_21 rfl rfl ?_
    refine Wa_getR cf_X3 lk_X3_9 k_1 (j := 0) rfl (by decide) dX3_firstFault_22 ?_
    refine Wa_iload_n 1 dX3_firstFault_25 rfl rfl ?_
    obtain ⟨b5, h⟩ := h
    refine Wa_iald2 (v := (M 2 (l1).toNat)) k_2 b5 rfl dX3_firstFault_26 (fun r6 => ?_)
    refine Wa_callV [vI (M 2 (l1).toNat)] _ cf_X5 rfl k_3 lc_X3_29 cv_X5_takes rfl rfl (Nat.le_refl _) (Nat.le_of_ble_eq_true rfl) dX3_firstFault_27 h ?_
    intro r M7 h
    obtain ⟨z8, rfl, r9, h⟩ := h
    have h := h r9
    refine Wa_if_ne (tgt := 35) dX3_firstFault_30 (by decide) r9 (fun c10 => ?_) (fun c10 => ?_)
    · have h := h.1 c10
      refine Wa_iinc (ls' := [(1, vI (l1 + 1)), (0, vR 1)]) 1 dX3_firstFault_35 rfl (by decide) rfl ?_
      refine Wa_goto (tgt := 9) dX3_firstFault_38 (by decide) ?_
      refine Wa_sub [1, 0] rfl ?_
      exact h
    · have h := h.2 c10
      refine Wa_iload_n 1 dX3_firstFault_33 rfl rfl ?_
      exact Wa_ireturn dX3_firstFault_34 rfl ⟨_, rfl, q2, h⟩
theorem en_X3_firstFault {g : AG} {d : Nat} {M : AM} {Q : Int → AM → Prop} (h : S_X3_firstFault_0 g d M Q) : MetI g mX3_firstFault d [vR 1] M Q := MetA.of (by decide) (Nat.le_of_ble_eq_true rfl) h
def S_X3_isText_0 (g : AG) (d : Nat) (M : AM) (Q : Int → AM → Prop) : Prop := Wa g mX3_isText d 0 [(0, vR 1)] [] M (QI Q)
set_option maxRecDepth 100000 in
theorem sg_X3_isText_0 {g : AG} {d : Nat} {M : AM} {Q : Int → AM → Prop} 
  (h : MetI g mX3_firstFault d [vR 1] M (fun z2 M1 => rg z2 → ((¬ z2 = (M1 1 2) → (Q 0 M1)) ∧ (z2 = (M1 1 2) → (MetI g mX5_mayEnd d [vR 3] M1 (fun z7 M6 => rg z7 → ((z7 = 0 → (Q 0 M6)) ∧ (¬ z7 = 0 → (Q 1 M6))))))))) : S_X3_isText_0 g (d + 1) M Q := by
  show Wa _ _ _ _ _ _ _ _
  refine Wa_aload_n 0 dX3_isText_0 rfl rfl ?_
  refine Wa_callV [] _ cf_X3 rfl k_1 lc_X3_33 cv_X3_firstFault rfl rfl (Nat.le_refl _) (Nat.le_of_ble_eq_true rfl) dX3_isText_1 h ?_
  intro r M1 h
  obtain ⟨z2, rfl, r3, h⟩ := h
  have h := h r3
  refine Wa_aload_n 0 dX3_isText_4 rfl rfl ?_
  refine Wa_getI2 (v := (M1 1 2)) cf_X3 lk_X3_22 k_1 (j := 2) rfl (by decide) rfl dX3_isText_5 (fun r4 => ?_)
  refine Wa_icmp_ne (tgt := 25) dX3_isText_8 (by decide) r3 r4 (fun c5 => ?_) (fun c5 => ?_)
  · have h := h.1 c5
    refine Wa_iconst (z := 0) dX3_isText_25 ?_
    exact Wa_zreturn dX3_isText_26 rfl (by decide) ⟨_, rfl, rg_bool (by decide), h⟩
  · have h := h.2 c5
    refine Wa_aload_n 0 dX3_isText_11 rfl rfl ?_
    refine Wa_getR cf_X3 lk_X3_18 k_1 (j := 1) rfl (by decide) dX3_isText_12 ?_
    refine Wa_callV [] _ cf_X5 rfl k_3 lc_X3_37 cv_X5_mayEnd rfl rfl (Nat.le_refl _) (Nat.le_of_ble_eq_true rfl) dX3_isText_15 h ?_
    intro r M6 h
    obtain ⟨z7, rfl, r8, h⟩ := h
    have h := h r8
    refine Wa_if_eq (tgt := 25) dX3_isText_18 (by decide) r8 (fun c9 => ?_) (fun c9 => ?_)
    · have h := h.1 c9
      refine Wa_iconst (z := 0) dX3_isText_25 ?_
      exact Wa_zreturn dX3_isText_26 rfl (by decide) ⟨_, rfl, rg_bool (by decide), h⟩
    · have h := h.2 c9
      refine Wa_iconst (z := 1) dX3_isText_21 ?_
      refine Wa_goto (tgt := 26) dX3_isText_22 (by decide) ?_
      exact Wa_zreturn dX3_isText_26 rfl (by decide) ⟨_, rfl, rg_bool (by decide), h⟩
theorem en_X3_isText {g : AG} {d : Nat} {M : AM} {Q : Int → AM → Prop} (h : S_X3_isText_0 g d M Q) : MetI g mX3_isText d [vR 1] M Q := MetA.of (by decide) (Nat.le_of_ble_eq_true rfl) h
def S_X3_readInto_0 (g : AG) (d : Nat) (M : AM) (Q : AM → Prop) : Prop := Wa g mX3_readInto d 0 [(0, vR 1), (1, vR 5)] [] M (QV Q)
def S_X3_readInto_11 (g : AG) (d : Nat) (l2 : Int) (l3 : Int) (l4 : Int) (M : AM) (Q : AM → Prop) : Prop := Wa g mX3_readInto d 11 [(0, vR 1), (1, vR 5), (2, vI l2), (3, vI l3), (4, vI l4)] [] M (QV Q)
set_option maxRecDepth 100000 in
theorem sg_X3_readInto_0 {g : AG} {d : Nat} {M : AM} {Q : AM → Prop} 
  (h : MetV g mX7_clear d [vR 5] M (fun M1 => S_X3_readInto_11 g (d + 1) 0 0 0 M1 Q)) : S_X3_readInto_0 g (d + 1) M Q := by
  show Wa _ _ _ _ _ _ _ _
  refine Wa_aload_n 1 dX3_readInto_0 rfl rfl ?_
  refine Wa_callV [] _ cf_X7 rfl k_5 lc_X3_41 cv_X7_clear rfl rfl (Nat.le_refl _) (Nat.le_of_ble_eq_true rfl) dX3_readInto_1 h ?_
  intro r M1 h
  obtain ⟨rfl, h⟩ := h
  refine Wa_iconst (z := 0) dX3_readInto_4 ?_
  refine Wa_istore_n (ls' := [(2, vI 0), (0, vR 1), (1, vR 5)]) dX3_readInto_5 rfl (by decide) rfl ?_
  refine Wa_iconst (z := 0) dX3_readInto_6 ?_
  refine Wa_istore_n (ls' := [(3, vI 0), (2, vI 0), (0, vR 1), (1, vR 5)]) dX3_readInto_7 rfl (by decide) rfl ?_
  refine Wa_iconst (z := 0) dX3_readInto_8 ?_
  refine Wa_istore (ls' := [(4, vI 0), (3, vI 0), (2, vI 0), (0, vR 1), (1, vR 5)]) dX3_readInto_9 (by decide) rfl ?_
  refine Wa_sub [3, 4, 2, 1, 0] rfl ?_
  exact h
set_option maxRecDepth 100000 in
theorem sg_X3_readInto_11 {g : AG} {d : Nat} {l2 : Int} {l3 : Int} {l4 : Int} {M : AM} {Q : AM → Prop} 
  (h : rg l4 ∧ (((M 1 2) ≤ l4 → (rg l2 ∧ (rg l3 ∧ (MetV g mX7_appendLine d [vR 5, vI l2, vI l3] M (fun M6 => Q M6))))) ∧ (¬ (M 1 2) ≤ l4 → ((0 ≤ l4 ∧ l4 < 64) ∧ (MetI g mX8_isLetter d [vI (M 2 (l4).toNat)] M (fun z12 M11 => rg z12 → ((z12 = 0 → (rg l2 ∧ (rg l3 ∧ (MetV g mX7_appendLine d [vR 5, vI l2, vI l3] M11 (fun M17 => (¬ (M17 2 (l4).toNat) = 59 → (S_X3_readInto_11 g (d + 1) l2 0 (l4 + 1) M17 Q)) ∧ ((M17 2 (l4).toNat) = 59 → (S_X3_readInto_11 g (d + 1) 1 0 (l4 + 1) M17 Q))))))) ∧ (¬ z12 = 0 → (S_X3_readInto_11 g (d + 1) l2 (iOr (iShl l3 7) (M11 2 (l4).toNat)) (l4 + 1) M11 Q))))))))) : S_X3_readInto_11 g (d + 1) l2 l3 l4 M Q := by
  show Wa _ _ _ _ _ _ _ _
  refine Wa_iload 4 dX3_readInto_11 rfl ?_
  refine Wa_aload_n 0 dX3_readInto_13 rfl rfl ?_
  refine Wa_getI2 (v := (M 1 2)) cf_X3 lk_X3_22 k_1 (j := 2) rfl (by decide) rfl dX3_readInto_14 (fun r1 => ?_)
  obtain ⟨q2, h⟩ := h
  refine Wa_icmp_ge (tgt := 81) dX3_readInto_17 (by decide) q2 r1 (fun c3 => ?_) (fun c3 => ?_)
  · have h := h.1 c3
    refine Wa_aload_n 1 dX3_readInto_81 rfl rfl ?_
    refine Wa_iload_n 2 dX3_readInto_82 rfl rfl ?_
    refine Wa_iload_n 3 dX3_readInto_83 rfl rfl ?_
    obtain ⟨q4, h⟩ := h
    obtain ⟨q5, h⟩ := h
    refine Wa_callV [vI l2, vI l3] _ cf_X7 rfl k_5 lc_X3_49 cv_X7_appendLine rfl rfl (Nat.le_refl _) (Nat.le_of_ble_eq_true rfl) dX3_readInto_84 h ?_
    intro r M6 h
    obtain ⟨rfl, h⟩ := h
    exact Wa_return dX3_readInto_87 rfl ⟨rfl, h⟩
  · have h := h.2 c3
    refine Wa_aload_n 0 dX3_readInto_20 rfl rfl ?_
    refine Wa_getR cf_X3 lk_X3_9 k_1 (j := 0) rfl (by decide) dX3_readInto_21 ?_
    refine Wa_iload 4 dX3_readInto_24 rfl ?_
    obtain ⟨b9, h⟩ := h
    refine Wa_iald2 (v := (M 2 (l4).toNat)) k_2 b9 rfl dX3_readInto_26 (fun r10 => ?_)
    refine Wa_callS [vI (M 2 (l4).toNat)] _ lc_X3_46 cs_X8_isLetter rfl rfl (Nat.le_refl _) (Nat.le_of_ble_eq_true rfl) dX3_readInto_27 h ?_
    intro r M11 h
    obtain ⟨z12, rfl, r13, h⟩ := h
    have h := h r13
    refine Wa_if_eq (tgt := 49) dX3_readInto_30 (by decide) r13 (fun c14 => ?_) (fun c14 => ?_)
    · have h := h.1 c14
      refine Wa_aload_n 1 dX3_readInto_49 rfl rfl ?_
      refine Wa_iload_n 2 dX3_readInto_50 rfl rfl ?_
      refine Wa_iload_n 3 dX3_readInto_51 rfl rfl ?_
      obtain ⟨q15, h⟩ := h
      obtain ⟨q16, h⟩ := h
      refine Wa_callV [vI l2, vI l3] _ cf_X7 rfl k_5 lc_X3_49 cv_X7_appendLine rfl rfl (Nat.le_refl _) (Nat.le_of_ble_eq_true rfl) dX3_readInto_52 h ?_
      intro r M17 h
      obtain ⟨rfl, h⟩ := h
      refine Wa_iconst (z := 0) dX3_readInto_55 ?_
      refine Wa_istore_n (ls' := [(3, vI 0), (0, vR 1), (1, vR 5), (2, vI l2), (4, vI l4)]) dX3_readInto_56 rfl (by decide) rfl ?_
      refine Wa_aload_n 1 dX3_readInto_57 rfl rfl ?_
      refine Wa_getR cf_X3 lk_X3_9 k_1 (j := 0) rfl (by decide) dX3_readInto_58 ?_
      refine Wa_iload 4 dX3_readInto_61 rfl ?_
      refine Wa_iald2 (v := (M17 2 (l4).toNat)) k_2 b9 rfl dX3_readInto_63 (fun r20 => ?_)
      refine Wa_bipush (z := 59) dX3_readInto_64 (by decide) ?_
      refine Wa_icmp_ne (tgt := 73) dX3_readInto_66 (by decide) r20 ⟨by decide, by decide⟩ (fun c21 => ?_) (fun c21 => ?_)
      · have h := h.1 c21
        refine Wa_iload_n 3 dX3_readInto_73 rfl rfl ?_
        refine Wa_istore_n (ls' := [(2, vI l2), (3, vI 0), (0, vR 1), (1, vR 5), (4, vI l4)]) dX3_readInto_74 rfl (by decide) rfl ?_
        refine Wa_iinc (ls' := [(4, vI (l4 + 1)), (2, vI l2), (3, vI 0), (0, vR 1), (1, vR 5)]) 4 dX3_readInto_75 rfl (by decide) rfl ?_
        refine Wa_goto (tgt := 11) dX3_readInto_78 (by decide) ?_
        refine Wa_sub [3, 4, 1, 2, 0] rfl ?_
        exact h
      · have h := h.2 c21
        refine Wa_iconst (z := 1) dX3_readInto_69 ?_
        refine Wa_goto (tgt := 74) dX3_readInto_70 (by decide) ?_
        refine Wa_istore_n (ls' := [(2, vI 1), (3, vI 0), (0, vR 1), (1, vR 5), (4, vI l4)]) dX3_readInto_74 rfl (by decide) rfl ?_
        refine Wa_iinc (ls' := [(4, vI (l4 + 1)), (2, vI 1), (3, vI 0), (0, vR 1), (1, vR 5)]) 4 dX3_readInto_75 rfl (by decide) rfl ?_
        refine Wa_goto (tgt := 11) dX3_readInto_78 (by decide) ?_
        refine Wa_sub [3, 4, 1, 2, 0] rfl ?_
        exact h
    · have h := h.2 c14
      refine Wa_iload_n 3 dX3_readInto_33 rfl rfl ?_
      refine Wa_bipush (z := 7) dX3_readInto_34 (by decide) ?_
      refine Wa_ishl dX3_readInto_36 ?_
      refine Wa_aload_n 0 dX3_readInto_37 rfl rfl ?_
      refine Wa_getR cf_X3 lk_X3_9 k_1 (j := 0) rfl (by decide) dX3_readInto_38 ?_
      refine Wa_iload 4 dX3_readInto_41 rfl ?_
      refine Wa_iald2 (v := (M11 2 (l4).toNat)) k_2 b9 rfl dX3_readInto_43 (fun r22 => ?_)
      refine Wa_ior dX3_readInto_44 ?_
      refine Wa_istore_n (ls' := [(3, vI (iOr (iShl l3 7) (M11 2 (l4).toNat))), (0, vR 1), (1, vR 5), (2, vI l2), (4, vI l4)]) dX3_readInto_45 rfl (by decide) rfl ?_
      refine Wa_goto (tgt := 75) dX3_readInto_46 (by decide) ?_
      refine Wa_iinc (ls' := [(4, vI (l4 + 1)), (3, vI (iOr (iShl l3 7) (M11 2 (l4).toNat))), (0, vR 1), (1, vR 5), (2, vI l2)]) 4 dX3_readInto_75 rfl (by decide) rfl ?_
      refine Wa_goto (tgt := 11) dX3_readInto_78 (by decide) ?_
      refine Wa_sub [2, 3, 4, 1, 0] rfl ?_
      exact h
theorem en_X3_readInto {g : AG} {d : Nat} {M : AM} {Q : AM → Prop} (h : S_X3_readInto_0 g d M Q) : MetV g mX3_readInto d [vR 1, vR 5] M Q := MetA.of (by decide) (Nat.le_of_ble_eq_true rfl) h
