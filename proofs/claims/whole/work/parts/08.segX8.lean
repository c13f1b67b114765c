def S_X8_letter_0 (g : AG) (d : Nat) (l1 : Int) (M : AM) (Q : Int → AM → Prop) : Prop := Wa g mX8_letter d 0 [(0, vR 0), (1, vI l1)] [] M (QI Q)
set_option maxRecDepth 100000 in
theorem sg_X8_letter_0 {g : AG} {d : Nat} {l1 : Int} {M : AM} {Q : Int → AM → Prop} 
  (h : rg l1 ∧ ((l1 < 1 → (Q (-102) M)) ∧ (¬ l1 < 1 → ((l1 ≤ 126 → (MetI g mX3_append d [vR 1, vI l1] M (fun z5 M4 => rg z5 → ((z5 = 0 → (Q (-104) M4)) ∧ (¬ z5 = 0 → (Q (M4 1 2) M4)))))) ∧ (¬ l1 ≤ 126 → (Q (-102) M)))))) : S_X8_letter_0 g (d + 1) l1 M Q := by
  show Wa _ _ _ _ _ _ _ _
  refine Wa_iload_n 1 dX8_letter_0 rfl rfl ?_
  refine Wa_iconst (z := 1) dX8_letter_1 ?_
  obtain ⟨q1, h⟩ := h
  refine Wa_icmp_lt (tgt := 11) dX8_letter_2 (by decide) q1 ⟨by decide, by decide⟩ (fun c2 => ?_) (fun c2 => ?_)
  · have h := h.1 c2
    refine Wa_bipush (z := (-102)) dX8_letter_11 (by decide) ?_
    exact Wa_ireturn dX8_letter_13 rfl ⟨_, rfl, ⟨by decide, by decide⟩, h⟩
  · have h := h.2 c2
    refine Wa_iload_n 1 dX8_letter_5 rfl rfl ?_
    refine Wa_bipush (z := 126) dX8_letter_6 (by decide) ?_
    refine Wa_icmp_le (tgt := 14) dX8_letter_8 (by decide) q1 ⟨by decide, by decide⟩ (fun c3 => ?_) (fun c3 => ?_)
    · have h := h.1 c3
      refine Wa_aload_n 0 dX8_letter_14 rfl rfl ?_
      refine Wa_getR cf_X8 lk_X8_10 k_0 (j := 0) rfl (by decide) dX8_letter_15 ?_
      refine Wa_iload_n 1 dX8_letter_18 rfl rfl ?_
      refine Wa_callV [vI l1] _ cf_X3 rfl k_1 lc_X8_69 cv_X3_append rfl rfl (Nat.le_refl _) (Nat.le_of_ble_eq_true rfl) dX8_letter_19 h ?_
      intro r M4 h
      obtain ⟨z5, rfl, r6, h⟩ := h
      have h := h r6
      refine Wa_if_eq (tgt := 35) dX8_letter_22 (by decide) r6 (fun c7 => ?_) (fun c7 => ?_)
      · have h := h.1 c7
        refine Wa_bipush (z := (-104)) dX8_letter_35 (by decide) ?_
        exact Wa_ireturn dX8_letter_37 rfl ⟨_, rfl, ⟨by decide, by decide⟩, h⟩
      · have h := h.2 c7
        refine Wa_aload_n 0 dX8_letter_25 rfl rfl ?_
        refine Wa_getR cf_X8 lk_X8_10 k_0 (j := 0) rfl (by decide) dX8_letter_26 ?_
        refine Wa_getI2 (v := (M4 1 2)) cf_X3 lk_X8_73 k_1 (j := 2) rfl (by decide) rfl dX8_letter_29 (fun r8 => ?_)
        refine Wa_goto (tgt := 37) dX8_letter_32 (by decide) ?_
        exact Wa_ireturn dX8_letter_37 rfl ⟨_, rfl, r8, h⟩
    · have h := h.2 c3
      refine Wa_bipush (z := (-102)) dX8_letter_11 (by decide) ?_
      exact Wa_ireturn dX8_letter_13 rfl ⟨_, rfl, ⟨by decide, by decide⟩, h⟩
theorem en_X8_letter {g : AG} {d : Nat} {l1 : Int} {M : AM} {Q : Int → AM → Prop} (h : S_X8_letter_0 g d l1 M Q) : MetI g mX8_letter d [vR 0, vI l1] M Q := MetA.of (by decide) (Nat.le_of_ble_eq_true rfl) h
def S_X8_blank_0 (g : AG) (d : Nat) (M : AM) (Q : Int → AM → Prop) : Prop := Wa g mX8_blank d 0 [(0, vR 0)] [] M (QI Q)
set_option maxRecDepth 100000 in
theorem sg_X8_blank_0 {g : AG} {d : Nat} {M : AM} {Q : Int → AM → Prop} 
  (h : Q (M 1 2) (mU M 1 2 0)) : S_X8_blank_0 g (d + 1) M Q := by
  show Wa _ _ _ _ _ _ _ _
  refine Wa_aload_n 0 dX8_blank_0 rfl rfl ?_
  refine Wa_getR cf_X8 lk_X8_10 k_0 (j := 0) rfl (by decide) dX8_blank_1 ?_
  refine Wa_getI2 (v := (M 1 2)) cf_X3 lk_X8_73 k_1 (j := 2) rfl (by decide) rfl dX8_blank_4 (fun r1 => ?_)
  refine Wa_istore_n (ls' := [(1, vI (M 1 2)), (0, vR 0)]) dX8_blank_7 rfl (by decide) rfl ?_
  refine Wa_aload_n 1 dX8_blank_8 rfl rfl ?_
  refine Wa_getR cf_X8 lk_X8_10 k_0 (j := 0) rfl (by decide) dX8_blank_9 ?_
  refine Wa_iconst (z := 0) dX8_blank_12 ?_
  refine Wa_putI cf_X3 lk_X8_73 k_1 (j := 2) rfl (by decide) rfl rfl ⟨by decide, by decide⟩ dX8_blank_13 ?_
  refine Wa_iload_n 0 dX8_blank_16 rfl rfl ?_
  exact Wa_ireturn dX8_blank_17 rfl ⟨_, rfl, r1, h⟩
theorem en_X8_blank {g : AG} {d : Nat} {M : AM} {Q : Int → AM → Prop} (h : S_X8_blank_0 g d M Q) : MetI g mX8_blank d [vR 0] M Q := MetA.of (by decide) (Nat.le_of_ble_eq_true rfl) h
def S_X8_fault_0 (g : AG) (d : Nat) (M : AM) (Q : Int → AM → Prop) : Prop := Wa g mX8_fault d 0 [(0, vR 0)] [] M (QI Q)
set_option maxRecDepth 100000 in
theorem sg_X8_fault_0 {g : AG} {d : Nat} {M : AM} {Q : Int → AM → Prop} 
  (h : MetI g mX3_firstFault d [vR 1] M (fun z2 M1 => rg z2 → (Q z2 M1))) : S_X8_fault_0 g (d + 1) M Q := by
  show Wa _ _ _ _ _ _ _ _
  refine Wa_aload_n 0 dX8_fault_0 rfl rfl ?_
  refine Wa_getR cf_X8 lk_X8_10 k_0 (j := 0) rfl (by decide) dX8_fault_1 ?_
  refine Wa_callV [] _ cf_X3 rfl k_1 lc_X8_76 cv_X3_firstFault rfl rfl (Nat.le_refl _) (Nat.le_of_ble_eq_true rfl) dX8_fault_4 h ?_
  intro r M1 h
  obtain ⟨z2, rfl, r3, h⟩ := h
  have h := h r3
  exact Wa_ireturn dX8_fault_7 rfl ⟨_, rfl, r3, h⟩
theorem en_X8_fault {g : AG} {d : Nat} {M : AM} {Q : Int → AM → Prop} (h : S_X8_fault_0 g d M Q) : MetI g mX8_fault d [vR 0] M Q := MetA.of (by decide) (Nat.le_of_ble_eq_true rfl) h
def S_X8_text_0 (g : AG) (d : Nat) (M : AM) (Q : Int → AM → Prop) : Prop := Wa g mX8_text d 0 [(0, vR 0)] [] M (QI Q)
set_option maxRecDepth 100000 in
theorem sg_X8_text_0 {g : AG} {d : Nat} {M : AM} {Q : Int → AM → Prop} 
  (h : MetI g mX3_isText d [vR 1] M (fun z2 M1 => rg z2 → ((¬ z2 = 0 → (MetV g mX3_readInto d [vR 1, vR 5] M1 (fun M5 => rg ((M5 0 10) + 1) ∧ (MetI g mX8_compareAnew d [vR 0] (mU (mU (mU (mU M5 1 2 0) 0 8 1) 0 9 0) 0 10 ((M5 0 10) + 1)) (fun z11 M10 => rg z11 → (MetI g mX7_total d [vR 5] M10 (fun z14 M13 => rg z14 → (Q z14 M13)))))))) ∧ (z2 = 0 → (Q (-103) M1))))) : S_X8_text_0 g (d + 1) M Q := by
  show Wa _ _ _ _ _ _ _ _
  refine Wa_aload_n 0 dX8_text_0 rfl rfl ?_
  refine Wa_getR cf_X8 lk_X8_10 k_0 (j := 0) rfl (by decide) dX8_text_1 ?_
  refine Wa_callV [] _ cf_X3 rfl k_1 lc_X8_80 cv_X3_isText rfl rfl (Nat.le_refl _) (Nat.le_of_ble_eq_true rfl) dX8_text_4 h ?_
  intro r M1 h
  obtain ⟨z2, rfl, r3, h⟩ := h
  have h := h r3
  refine Wa_if_ne (tgt := 13) dX8_text_7 (by decide) r3 (fun c4 => ?_) (fun c4 => ?_)
  · have h := h.1 c4
    refine Wa_aload_n 0 dX8_text_13 rfl rfl ?_
    refine Wa_getR cf_X8 lk_X8_10 k_0 (j := 0) rfl (by decide) dX8_text_14 ?_
    refine Wa_aload_n 0 dX8_text_17 rfl rfl ?_
    refine Wa_getR cf_X8 lk_X8_27 k_0 (j := 2) rfl (by decide) dX8_text_18 ?_
    refine Wa_callV [vR 5] _ cf_X3 rfl k_1 lc_X8_84 cv_X3_readInto rfl rfl (Nat.le_refl _) (Nat.le_of_ble_eq_true rfl) dX8_text_21 h ?_
    intro r M5 h
    obtain ⟨rfl, h⟩ := h
    refine Wa_aload_n 0 dX8_text_24 rfl rfl ?_
    refine Wa_getR cf_X8 lk_X8_10 k_0 (j := 0) rfl (by decide) dX8_text_25 ?_
    refine Wa_iconst (z := 0) dX8_text_28 ?_
    refine Wa_putI cf_X3 lk_X8_73 k_1 (j := 2) rfl (by decide) rfl rfl ⟨by decide, by decide⟩ dX8_text_29 ?_
    refine Wa_aload_n 0 dX8_text_32 rfl rfl ?_
    refine Wa_iconst (z := 1) dX8_text_33 ?_
    refine Wa_putZ cf_X8 lk_X8_58 k_0 (j := 8) rfl (by decide) rfl rfl (by decide) dX8_text_34 ?_
    refine Wa_aload_n 0 dX8_text_37 rfl rfl ?_
    refine Wa_iconst (z := 0) dX8_text_38 ?_
    refine Wa_putZ cf_X8 lk_X8_62 k_0 (j := 9) rfl (by decide) rfl rfl (by decide) dX8_text_39 ?_
    refine Wa_aload_n 0 dX8_text_42 rfl rfl ?_
    refine Wa_dup dX8_text_43 rfl ?_
    refine Wa_getI2 (v := (M5 0 10)) cf_X8 lk_X8_65 k_0 (j := 10) rfl (by decide) ((mU_nej (by decide)).trans ((mU_nej (by decide)).trans (mU_rd (by decide)))) dX8_text_44 (fun r8 => ?_)
    refine Wa_iconst (z := 1) dX8_text_47 ?_
    refine Wa_iadd dX8_text_48 ?_
    obtain ⟨q9, h⟩ := h
    refine Wa_putI cf_X8 lk_X8_65 k_0 (j := 10) rfl (by decide) rfl rfl q9 dX8_text_49 ?_
    refine Wa_aload_n 0 dX8_text_52 rfl rfl ?_
    refine Wa_callV [] _ cf_X8 rfl k_0 lc_X8_88 cv_X8_compareAnew rfl rfl (Nat.le_refl _) (Nat.le_of_ble_eq_true rfl) dX8_text_53 h ?_
    intro r M10 h
    obtain ⟨z11, rfl, r12, h⟩ := h
    have h := h r12
    refine Wa_pop dX8_text_56 rfl ?_
    refine Wa_aload_n 0 dX8_text_57 rfl rfl ?_
    refine Wa_getR cf_X8 lk_X8_27 k_0 (j := 2) rfl (by decide) dX8_text_58 ?_
    refine Wa_callV [] _ cf_X7 rfl k_5 lc_X8_91 cv_X7_total rfl rfl (Nat.le_refl _) (Nat.le_of_ble_eq_true rfl) dX8_text_61 h ?_
    intro r M13 h
    obtain ⟨z14, rfl, r15, h⟩ := h
    have h := h r15
    exact Wa_ireturn dX8_text_64 rfl ⟨_, rfl, r15, h⟩
  · have h := h.2 c4
    refine Wa_bipush (z := (-103)) dX8_text_10 (by decide) ?_
    exact Wa_ireturn dX8_text_12 rfl ⟨_, rfl, ⟨by decide, by decide⟩, h⟩
theorem en_X8_text {g : AG} {d : Nat} {M : AM} {Q : Int → AM → Prop} (h : S_X8_text_0 g d M Q) : MetI g mX8_text d [vR 0] M Q := MetA.of (by decide) (Nat.le_of_ble_eq_true rfl) h
def S_X8_line_0 (g : AG) (d : Nat) (l1 : Int) (l2 : Int) (l3 : Int) (M : AM) (Q : Int → AM → Prop) : Prop := Wa g mX8_line d 0 [(0, vR 0), (1, vI l1), (2, vI l2), (3, vI l3)] [] M (QI Q)
set_option maxRecDepth 100000 in
theorem sg_X8_line_0 {g : AG} {d : Nat} {l1 : Int} {l2 : Int} {l3 : Int} {M : AM} {Q : Int → AM → Prop} 
  (h : rg l1 ∧ (rg l2 ∧ (MetI g mX7_has d [vR 5, vI l1, vI l2] M (fun z4 M3 => rg z4 → ((¬ z4 = 0 → (rg l3 ∧ ((l3 < 0 → (Q (-102) M3)) ∧ (¬ l3 < 0 → ((l3 < 6 → ((0 ≤ l1 ∧ l1 < 2) ∧ ((0 ≤ l2 ∧ l2 < 8) ∧ ((¬ l3 = 0 → ((3 < l3 → ((¬ l3 = 5 → ((¬ (M3 (11 + (l1).toNat) (l2).toNat) = (-1) → (Q (M3 (11 + (l1).toNat) (l2).toNat) M3)) ∧ ((M3 (11 + (l1).toNat) (l2).toNat) = (-1) → (Q (M3 (78 + (l1).toNat) (l2).toNat) M3)))) ∧ (l3 = 5 → ((¬ (M3 (11 + (l1).toNat) (l2).toNat) = (-1) → (Q 1 M3)) ∧ ((M3 (11 + (l1).toNat) (l2).toNat) = (-1) → (Q 0 M3)))))) ∧ (¬ 3 < l3 → (rg (l3 - 1) ∧ (MetI g mX8_codeAt d [vI (M3 (7 + (l1).toNat) (l2).toNat), vI (l3 - 1)] M3 (fun z22 M21 => rg z22 → (Q z22 M21))))))) ∧ (l3 = 0 → (MetI g mX8_lettersIn d [vI (M3 (7 + (l1).toNat) (l2).toNat)] M3 (fun z25 M24 => rg z25 → (Q z25 M24)))))))) ∧ (¬ l3 < 6 → (Q (-102) M3))))))) ∧ (z4 = 0 → (Q (-101) M3))))))) : S_X8_line_0 g (d + 1) l1 l2 l3 M Q := by
  show Wa _ _ _ _ _ _ _ _
  refine Wa_aload_n 0 dX8_line_0 rfl rfl ?_
  refine Wa_getR cf_X8 lk_X8_27 k_0 (j := 2) rfl (by decide) dX8_line_1 ?_
  refine Wa_iload_n 1 dX8_line_4 rfl rfl ?_
  refine Wa_iload_n 2 dX8_line_5 rfl rfl ?_
  obtain ⟨q1, h⟩ := h
  obtain ⟨q2, h⟩ := h
  refine Wa_callV [vI l1, vI l2] _ cf_X7 rfl k_5 lc_X8_94 cv_X7_has rfl rfl (Nat.le_refl _) (Nat.le_of_ble_eq_true rfl) dX8_line_6 h ?_
  intro r M3 h
  obtain ⟨z4, rfl, r5, h⟩ := h
  have h := h r5
  refine Wa_if_ne (tgt := 15) dX8_line_9 (by decide) r5 (fun c6 => ?_) (fun c6 => ?_)
  · have h := h.1 c6
    refine Wa_iload_n 3 dX8_line_15 rfl rfl ?_
    obtain ⟨q7, h⟩ := h
    refine Wa_if_lt (tgt := 25) dX8_line_16 (by decide) q7 (fun c8 => ?_) (fun c8 => ?_)
    · have h := h.1 c8
      refine Wa_bipush (z := (-102)) dX8_line_25 (by decide) ?_
      exact Wa_ireturn dX8_line_27 rfl ⟨_, rfl, ⟨by decide, by decide⟩, h⟩
    · have h := h.2 c8
      refine Wa_iload_n 3 dX8_line_19 rfl rfl ?_
      refine Wa_bipush (z := 6) dX8_line_20 (by decide) ?_
      refine Wa_icmp_lt (tgt := 28) dX8_line_22 (by decide) q7 ⟨by decide, by decide⟩ (fun c9 => ?_) (fun c9 => ?_)
      · have h := h.1 c9
        refine Wa_aload_n 0 dX8_line_28 rfl rfl ?_
        refine Wa_getR cf_X8 lk_X8_27 k_0 (j := 2) rfl (by decide) dX8_line_29 ?_
        refine Wa_getR cf_X7 lk_X8_98 k_5 (j := 0) rfl (by decide) dX8_line_32 ?_
        refine Wa_iload_n 1 dX8_line_35 rfl rfl ?_
        obtain ⟨b10, h⟩ := h
        refine Wa_aald k_6 b10 dX8_line_36 ?_
        refine Wa_iload_n 2 dX8_line_37 rfl rfl ?_
        obtain ⟨b11, h⟩ := h
        refine Wa_iald2 (v := (M3 (7 + (l1).toNat) (l2).toNat)) (rw_6 _ (inb_nat b10)) b11 rfl dX8_line_38 (fun r12 => ?_)
        refine Wa_istore (ls' := [(4, vI (M3 (7 + (l1).toNat) (l2).toNat)), (0, vR 0), (1, vI l1), (2, vI l2), (3, vI l3)]) dX8_line_39 (by decide) rfl ?_
        refine Wa_iload_n 4 dX8_line_41 rfl rfl ?_
        refine Wa_if_ne (tgt := 51) dX8_line_42 (by decide) q7 (fun c13 => ?_) (fun c13 => ?_)
        · have h := h.1 c13
          refine Wa_iload_n 4 dX8_line_51 rfl rfl ?_
          refine Wa_iconst (z := 3) dX8_line_52 ?_
          refine Wa_icmp_gt (tgt := 65) dX8_line_53 (by decide) q7 ⟨by decide, by decide⟩ (fun c14 => ?_) (fun c14 => ?_)
          · have h := h.1 c14
            refine Wa_aload_n 1 dX8_line_65 rfl rfl ?_
            refine Wa_getR cf_X8 lk_X8_19 k_0 (j := 1) rfl (by decide) dX8_line_66 ?_
            refine Wa_getR cf_X2 lk_X8_110 k_4 (j := 1) rfl (by decide) dX8_line_69 ?_
            refine Wa_iload_n 2 dX8_line_72 rfl rfl ?_
            refine Wa_aald k_10 b10 dX8_line_73 ?_
            refine Wa_iload_n 3 dX8_line_74 rfl rfl ?_
            refine Wa_iald2 (v := (M3 (11 + (l1).toNat) (l2).toNat)) (rw_10 _ (inb_nat b10)) b11 rfl dX8_line_75 (fun r15 => ?_)
            refine Wa_istore (ls' := [(5, vI (M3 (11 + (l1).toNat) (l2).toNat)), (4, vI (M3 (7 + (l1).toNat) (l2).toNat)), (0, vR 0), (1, vI l1), (2, vI l2), (3, vI l3)]) dX8_line_76 (by decide) rfl ?_
            refine Wa_iload_n 5 dX8_line_78 rfl rfl ?_
            refine Wa_iconst (z := 5) dX8_line_79 ?_
            refine Wa_icmp_ne (tgt := 95) dX8_line_80 (by decide) q7 ⟨by decide, by decide⟩ (fun c16 => ?_) (fun c16 => ?_)
            · have h := h.1 c16
              refine Wa_iload 0 dX8_line_95 rfl ?_
              refine Wa_iconst (z := (-1)) dX8_line_97 ?_
              refine Wa_icmp_ne (tgt := 115) dX8_line_98 (by decide) r15 ⟨by decide, by decide⟩ (fun c17 => ?_) (fun c17 => ?_)
              · have h := h.1 c17
                refine Wa_iload 0 dX8_line_115 rfl ?_
                exact Wa_ireturn dX8_line_117 rfl ⟨_, rfl, r15, h⟩
              · have h := h.2 c17
                refine Wa_aload_n 2 dX8_line_101 rfl rfl ?_
                refine Wa_getR cf_X8 lk_X8_47 k_0 (j := 6) rfl (by decide) dX8_line_102 ?_
                refine Wa_getR cf_X6 lk_X8_113 k_71 (j := 5) rfl (by decide) dX8_line_105 ?_
                refine Wa_iload_n 3 dX8_line_108 rfl rfl ?_
                refine Wa_aald k_77 b10 dX8_line_109 ?_
                refine Wa_iload_n 4 dX8_line_110 rfl rfl ?_
                refine Wa_iald2 (v := (M3 (78 + (l1).toNat) (l2).toNat)) (rw_77 _ (inb_nat b10)) b11 rfl dX8_line_111 (fun r18 => ?_)
                refine Wa_goto (tgt := 117) dX8_line_112 (by decide) ?_
                exact Wa_ireturn dX8_line_117 rfl ⟨_, rfl, r18, h⟩
            · have h := h.2 c16
              refine Wa_iload 0 dX8_line_83 rfl ?_
              refine Wa_iconst (z := (-1)) dX8_line_85 ?_
              refine Wa_icmp_ne (tgt := 93) dX8_line_86 (by decide) r15 ⟨by decide, by decide⟩ (fun c19 => ?_) (fun c19 => ?_)
              · have h := h.1 c19
                refine Wa_iconst (z := 1) dX8_line_93 ?_
                exact Wa_ireturn dX8_line_94 rfl ⟨_, rfl, ⟨by decide, by decide⟩, h⟩
              · have h := h.2 c19
                refine Wa_iconst (z := 0) dX8_line_89 ?_
                refine Wa_goto (tgt := 94) dX8_line_90 (by decide) ?_
                exact Wa_ireturn dX8_line_94 rfl ⟨_, rfl, ⟨by decide, by decide⟩, h⟩
          · have h := h.2 c14
            refine Wa_iload 0 dX8_line_56 rfl ?_
            refine Wa_iload_n 4 dX8_line_58 rfl rfl ?_
            refine Wa_iconst (z := 1) dX8_line_59 ?_
            refine Wa_isub dX8_line_60 ?_
            obtain ⟨q20, h⟩ := h
            refine Wa_callS [vI (M3 (7 + (l1).toNat) (l2).toNat), vI (l3 - 1)] _ lc_X8_106 cs_X8_codeAt rfl rfl (Nat.le_refl _) (Nat.le_of_ble_eq_true rfl) dX8_line_61 h ?_
            intro r M21 h
            obtain ⟨z22, rfl, r23, h⟩ := h
            have h := h r23
            exact Wa_ireturn dX8_line_64 rfl ⟨_, rfl, r23, h⟩
        · have h := h.2 c13
          refine Wa_iload 0 dX8_line_45 rfl ?_
          refine Wa_callS [vI (M3 (7 + (l1).toNat) (l2).toNat)] _ lc_X8_102 cs_X8_lettersIn rfl rfl (Nat.le_refl _) (Nat.le_of_ble_eq_true rfl) dX8_line_47 h ?_
          intro r M24 h
          obtain ⟨z25, rfl, r26, h⟩ := h
          have h := h r26
          exact Wa_ireturn dX8_line_50 rfl ⟨_, rfl, r26, h⟩
      · have h := h.2 c9
        refine Wa_bipush (z := (-102)) dX8_line_25 (by decide) ?_
        exact Wa_ireturn dX8_line_27 rfl ⟨_, rfl, ⟨by decide, by decide⟩, h⟩
  · have h := h.2 c6
    refine Wa_bipush (z := (-101)) dX8_line_12 (by decide) ?_
    exact Wa_ireturn dX8_line_14 rfl ⟨_, rfl, ⟨by decide, by decide⟩, h⟩
theorem en_X8_line {g : AG} {d : Nat} {l1 : Int} {l2 : Int} {l3 : Int} {M : AM} {Q : Int → AM → Prop} (h : S_X8_line_0 g d l1 l2 l3 M Q) : MetI g mX8_line d [vR 0, vI l1, vI l2, vI l3] M Q := MetA.of (by decide) (Nat.le_of_ble_eq_true rfl) h
def S_X8_step_0 (g : AG) (d : Nat) (l1 : Int) (l2 : Int) (M : AM) (Q : Int → AM → Prop) : Prop := Wa g mX8_step d 0 [(0, vR 0), (1, vI l1), (2, vI l2)] [] M (QI Q)
set_option maxRecDepth 100000 in
theorem sg_X8_step_0 {g : AG} {d : Nat} {l1 : Int} {l2 : Int} {M : AM} {Q : Int → AM → Prop} 
  (h : rg l1 ∧ (MetI g mX6_has d [vR 71, vI l1] M (fun z3 M2 => rg z3 → ((¬ z3 = 0 → (rg l2 ∧ ((l2 < 0 ∨ 4 < l2 → (Q (-102) M2)) ∧ (l2 = 0 → ((0 ≤ l1 ∧ l1 < 16) ∧ (Q (M2 72 (l1).toNat) M2))) ∧ (l2 = 1 → ((0 ≤ l1 ∧ l1 < 16) ∧ (Q (M2 73 (l1).toNat) M2))) ∧ (l2 = 2 → ((0 ≤ l1 ∧ l1 < 16) ∧ (Q (M2 74 (l1).toNat) M2))) ∧ (l2 = 3 → ((0 ≤ l1 ∧ l1 < 16) ∧ (Q (M2 75 (l1).toNat) M2))) ∧ (l2 = 4 → ((0 ≤ l1 ∧ l1 < 16) ∧ (Q (M2 76 (l1).toNat) M2)))))) ∧ (z3 = 0 → (Q (-101) M2)))))) : S_X8_step_0 g (d + 1) l1 l2 M Q := by
  show Wa _ _ _ _ _ _ _ _
  refine Wa_aload_n 0 dX8_step_0 rfl rfl ?_
  refine Wa_getR cf_X8 lk_X8_47 k_0 (j := 6) rfl (by decide) dX8_step_1 ?_
  refine Wa_iload_n 1 dX8_step_4 rfl rfl ?_
  obtain ⟨q1, h⟩ := h
  refine Wa_callV [vI l1] _ cf_X6 rfl k_71 lc_X8_116 cv_X6_has rfl rfl (Nat.le_refl _) (Nat.le_of_ble_eq_true rfl) dX8_step_5 h ?_
  intro r M2 h
  obtain ⟨z3, rfl, r4, h⟩ := h
  have h := h r4
  refine Wa_if_ne (tgt := 14) dX8_step_8 (by decide) r4 (fun c5 => ?_) (fun c5 => ?_)
  · have h := h.1 c5
    refine Wa_iload_n 2 dX8_step_14 rfl rfl ?_
    obtain ⟨q6, h⟩ := h
    by_cases c7 : l2 < 0 ∨ 4 < l2
    · have h := h.1 c7
      refine Wa_tabOut (tgt := 98) dX8_step_15 q6 c7 (by decide) ?_
      refine Wa_bipush (z := (-102)) dX8_step_98 (by decide) ?_
      exact Wa_ireturn dX8_step_100 rfl ⟨_, rfl, ⟨by decide, by decide⟩, h⟩
    · have h := h.2
      rcases (show l2 = 0 ∨ l2 = 1 ∨ l2 = 2 ∨ l2 = 3 ∨ l2 = 4 by omega) with c7 | c7 | c7 | c7 | c7
      · have h := h.1 c7
        refine Wa_tabIn (tgt := 48) dX8_step_15 q6 (by omega) (by omega) (by rw [c7]; rfl) (by decide) ?_
        refine Wa_aload_n 0 dX8_step_48 rfl rfl ?_
        refine Wa_getR cf_X8 lk_X8_47 k_0 (j := 6) rfl (by decide) dX8_step_49 ?_
        refine Wa_getR cf_X6 lk_X8_118 k_71 (j := 0) rfl (by decide) dX8_step_52 ?_
        refine Wa_iload_n 1 dX8_step_55 rfl rfl ?_
        obtain ⟨b8, h⟩ := h
        refine Wa_iald2 (v := (M2 72 (l1).toNat)) k_72 b8 rfl dX8_step_56 (fun r9 => ?_)
        exact Wa_ireturn dX8_step_57 rfl ⟨_, rfl, r9, h⟩
      · have h := h.2.1 c7
        refine Wa_tabIn (tgt := 58) dX8_step_15 q6 (by omega) (by omega) (by rw [c7]; rfl) (by decide) ?_
        refine Wa_aload_n 0 dX8_step_58 rfl rfl ?_
        refine Wa_getR cf_X8 lk_X8_47 k_0 (j := 6) rfl (by decide) dX8_step_59 ?_
        refine Wa_getR cf_X6 lk_X8_122 k_71 (j := 1) rfl (by decide) dX8_step_62 ?_
        refine Wa_iload_n 1 dX8_step_65 rfl rfl ?_
        obtain ⟨b10, h⟩ := h
        refine Wa_iald2 (v := (M2 73 (l1).toNat)) k_73 b10 rfl dX8_step_66 (fun r11 => ?_)
        exact Wa_ireturn dX8_step_67 rfl ⟨_, rfl, r11, h⟩
      · have h := h.2.2.1 c7
        refine Wa_tabIn (tgt := 68) dX8_step_15 q6 (by omega) (by omega) (by rw [c7]; rfl) (by decide) ?_
        refine Wa_aload_n 0 dX8_step_68 rfl rfl ?_
        refine Wa_getR cf_X8 lk_X8_47 k_0 (j := 6) rfl (by decide) dX8_step_69 ?_
        refine Wa_getR cf_X6 lk_X8_125 k_71 (j := 2) rfl (by decide) dX8_step_72 ?_
        refine Wa_iload_n 1 dX8_step_75 rfl rfl ?_
        obtain ⟨b12, h⟩ := h
        refine Wa_iald2 (v := (M2 74 (l1).toNat)) k_74 b12 rfl dX8_step_76 (fun r13 => ?_)
        exact Wa_ireturn dX8_step_77 rfl ⟨_, rfl, r13, h⟩
      · have h := h.2.2.2.1 c7
        refine Wa_tabIn (tgt := 78) dX8_step_15 q6 (by omega) (by omega) (by rw [c7]; rfl) (by decide) ?_
        refine Wa_aload_n 0 dX8_step_78 rfl rfl ?_
        refine Wa_getR cf_X8 lk_X8_47 k_0 (j := 6) rfl (by decide) dX8_step_79 ?_
        refine Wa_getR cf_X6 lk_X8_128 k_71 (j := 3) rfl (by decide) dX8_step_82 ?_
        refine Wa_iload_n 1 dX8_step_85 rfl rfl ?_
        obtain ⟨b14, h⟩ := h
        refine Wa_iald2 (v := (M2 75 (l1).toNat)) k_75 b14 rfl dX8_step_86 (fun r15 => ?_)
        exact Wa_ireturn dX8_step_87 rfl ⟨_, rfl, r15, h⟩
      · have h := h.2.2.2.2 c7
        refine Wa_tabIn (tgt := 88) dX8_step_15 q6 (by omega) (by omega) (by rw [c7]; rfl) (by decide) ?_
        refine Wa_aload_n 0 dX8_step_88 rfl rfl ?_
        refine Wa_getR cf_X8 lk_X8_47 k_0 (j := 6) rfl (by decide) dX8_step_89 ?_
        refine Wa_getR cf_X6 lk_X8_131 k_71 (j := 4) rfl (by decide) dX8_step_92 ?_
        refine Wa_iload_n 1 dX8_step_95 rfl rfl ?_
        obtain ⟨b16, h⟩ := h
        refine Wa_iald2 (v := (M2 76 (l1).toNat)) k_76 b16 rfl dX8_step_96 (fun r17 => ?_)
        exact Wa_ireturn dX8_step_97 rfl ⟨_, rfl, r17, h⟩
  · have h := h.2 c5
    refine Wa_bipush (z := (-101)) dX8_step_11 (by decide) ?_
    exact Wa_ireturn dX8_step_13 rfl ⟨_, rfl, ⟨by decide, by decide⟩, h⟩
theorem en_X8_step {g : AG} {d : Nat} {l1 : Int} {l2 : Int} {M : AM} {Q : Int → AM → Prop} (h : S_X8_step_0 g d l1 l2 M Q) : MetI g mX8_step d [vR 0, vI l1, vI l2] M Q := MetA.of (by decide) (Nat.le_of_ble_eq_true rfl) h
def S_X8_letters_0 (g : AG) (d : Nat) (l1 : Int) (l2 : Int) (M : AM) (Q : Int → AM → Prop) : Prop := Wa g mX8_letters d 0 [(0, vR 0), (1, vI l1), (2, vI l2)] [] M (QI Q)
set_option maxRecDepth 100000 in
theorem sg_X8_letters_0 {g : AG} {d : Nat} {l1 : Int} {l2 : Int} {M : AM} {Q : Int → AM → Prop} 
  (h : rg l1 ∧ (MetI g mX6_has d [vR 71, vI l1] M (fun z3 M2 => rg z3 → ((¬ z3 = 0 → ((0 ≤ l1 ∧ l1 < 16) ∧ (MetI g mX8_isOfKind d [vI (M2 72 (l1).toNat), vI 3] M2 (fun z9 M8 => rg z9 → ((¬ z9 = 0 → ((0 ≤ (M8 73 (l1).toNat) ∧ (M8 73 (l1).toNat) < 8) ∧ ((0 ≤ (M8 74 (l1).toNat) ∧ (M8 74 (l1).toNat) < 8) ∧ (MetI g mX1_commonLetters d [vR 57, vI (M8 7 ((M8 73 (l1).toNat)).toNat), vI (M8 8 ((M8 74 (l1).toNat)).toNat)] M8 (fun z19 M18 => rg z19 → (rg l2 ∧ ((l2 < 0 ∨ 2 < l2 → (Q (-102) M18)) ∧ (l2 = 0 → (Q z19 M18)) ∧ (l2 = 1 → (MetI g mX8_lettersIn d [vI (M8 7 ((M8 73 (l1).toNat)).toNat)] M18 (fun z24 M23 => rg z24 → (rg (z24 - z19) ∧ (Q (z24 - z19) M23))))) ∧ (l2 = 2 → (MetI g mX8_lettersIn d [vI (M8 8 ((M8 74 (l1).toNat)).toNat)] M18 (fun z28 M27 => rg z28 → (rg (z28 - z19) ∧ (Q (z28 - z19) M27)))))))))))) ∧ (z9 = 0 → (Q (-103) M8))))))) ∧ (z3 = 0 → (Q (-101) M2)))))) : S_X8_letters_0 g (d + 1) l1 l2 M Q := by
  show Wa _ _ _ _ _ _ _ _
  refine Wa_aload_n 0 dX8_letters_0 rfl rfl ?_
  refine Wa_getR cf_X8 lk_X8_47 k_0 (j := 6) rfl (by decide) dX8_letters_1 ?_
  refine Wa_iload_n 1 dX8_letters_4 rfl rfl ?_
  obtain ⟨q1, h⟩ := h
  refine Wa_callV [vI l1] _ cf_X6 rfl k_71 lc_X8_116 cv_X6_has rfl rfl (Nat.le_refl _) (Nat.le_of_ble_eq_true rfl) dX8_letters_5 h ?_
  intro r M2 h
  obtain ⟨z3, rfl, r4, h⟩ := h
  have h := h r4
  refine Wa_if_ne (tgt := 14) dX8_letters_8 (by decide) r4 (fun c5 => ?_) (fun c5 => ?_)
  · have h := h.1 c5
    refine Wa_aload_n 0 dX8_letters_14 rfl rfl ?_
    refine Wa_getR cf_X8 lk_X8_47 k_0 (j := 6) rfl (by decide) dX8_letters_15 ?_
    refine Wa_getR cf_X6 lk_X8_118 k_71 (j := 0) rfl (by decide) dX8_letters_18 ?_
    refine Wa_iload_n 1 dX8_letters_21 rfl rfl ?_
    obtain ⟨b6, h⟩ := h
    refine Wa_iald2 (v := (M2 72 (l1).toNat)) k_72 b6 rfl dX8_letters_22 (fun r7 => ?_)
    refine Wa_iconst (z := 3) dX8_letters_23 ?_
    refine Wa_callS [vI (M2 72 (l1).toNat), vI 3] _ lc_X8_134 cs_X8_isOfKind rfl rfl (Nat.le_refl _) (Nat.le_of_ble_eq_true rfl) dX8_letters_24 h ?_
    intro r M8 h
    obtain ⟨z9, rfl, r10, h⟩ := h
    have h := h r10
    refine Wa_if_ne (tgt := 33) dX8_letters_27 (by decide) r10 (fun c11 => ?_) (fun c11 => ?_)
    · have h := h.1 c11
      refine Wa_aload_n 0 dX8_letters_33 rfl rfl ?_
      refine Wa_getR cf_X8 lk_X8_27 k_0 (j := 2) rfl (by decide) dX8_letters_34 ?_
      refine Wa_getR cf_X7 lk_X8_98 k_5 (j := 0) rfl (by decide) dX8_letters_37 ?_
      refine Wa_iconst (z := 0) dX8_letters_40 ?_
      refine Wa_aald k_6 ⟨by decide, by decide⟩ dX8_letters_41 ?_
      refine Wa_aload_n 0 dX8_letters_42 rfl rfl ?_
      refine Wa_getR cf_X8 lk_X8_47 k_0 (j := 6) rfl (by decide) dX8_letters_43 ?_
      refine Wa_getR cf_X6 lk_X8_122 k_71 (j := 1) rfl (by decide) dX8_letters_46 ?_
      refine Wa_iload_n 1 dX8_letters_49 rfl rfl ?_
      refine Wa_iald2 (v := (M8 73 (l1).toNat)) k_73 b6 rfl dX8_letters_50 (fun r12 => ?_)
      obtain ⟨b13, h⟩ := h
      refine Wa_iald2 (v := (M8 7 ((M8 73 (l1).toNat)).toNat)) k_7 b13 rfl dX8_letters_51 (fun r14 => ?_)
      refine Wa_istore_n (ls' := [(3, vI (M8 7 ((M8 73 (l1).toNat)).toNat)), (0, vR 0), (1, vI l1), (2, vI l2)]) dX8_letters_52 rfl (by decide) rfl ?_
      refine Wa_aload_n 1 dX8_letters_53 rfl rfl ?_
      refine Wa_getR cf_X8 lk_X8_27 k_0 (j := 2) rfl (by decide) dX8_letters_54 ?_
      refine Wa_getR cf_X7 lk_X8_98 k_5 (j := 0) rfl (by decide) dX8_letters_57 ?_
      refine Wa_iconst (z := 1) dX8_letters_60 ?_
      refine Wa_aald k_6 ⟨by decide, by decide⟩ dX8_letters_61 ?_
      refine Wa_aload_n 1 dX8_letters_62 rfl rfl ?_
      refine Wa_getR cf_X8 lk_X8_47 k_0 (j := 6) rfl (by decide) dX8_letters_63 ?_
      refine Wa_getR cf_X6 lk_X8_125 k_71 (j := 2) rfl (by decide) dX8_letters_66 ?_
      refine Wa_iload_n 2 dX8_letters_69 rfl rfl ?_
      refine Wa_iald2 (v := (M8 74 (l1).toNat)) k_74 b6 rfl dX8_letters_70 (fun r15 => ?_)
      obtain ⟨b16, h⟩ := h
      refine Wa_iald2 (v := (M8 8 ((M8 74 (l1).toNat)).toNat)) k_8 b16 rfl dX8_letters_71 (fun r17 => ?_)
      refine Wa_istore (ls' := [(4, vI (M8 8 ((M8 74 (l1).toNat)).toNat)), (3, vI (M8 7 ((M8 73 (l1).toNat)).toNat)), (0, vR 0), (1, vI l1), (2, vI l2)]) dX8_letters_72 (by decide) rfl ?_
      refine Wa_aload_n 2 dX8_letters_74 rfl rfl ?_
      refine Wa_getR cf_X8 lk_X8_40 k_0 (j := 5) rfl (by decide) dX8_letters_75 ?_
      refine Wa_iload_n 1 dX8_letters_78 rfl rfl ?_
      refine Wa_iload 0 dX8_letters_79 rfl ?_
      refine Wa_callV [vI (M8 7 ((M8 73 (l1).toNat)).toNat), vI (M8 8 ((M8 74 (l1).toNat)).toNat)] _ cf_X1 rfl k_57 lc_X8_137 cv_X1_commonLetters rfl rfl (Nat.le_refl _) (Nat.le_of_ble_eq_true rfl) dX8_letters_81 h ?_
      intro r M18 h
      obtain ⟨z19, rfl, r20, h⟩ := h
      have h := h r20
      refine Wa_istore (ls' := [(5, vI z19), (4, vI (M8 8 ((M8 74 (l1).toNat)).toNat)), (3, vI (M8 7 ((M8 73 (l1).toNat)).toNat)), (0, vR 0), (1, vI l1), (2, vI l2)]) dX8_letters_84 (by decide) rfl ?_
      refine Wa_iload_n 5 dX8_letters_86 rfl rfl ?_
      obtain ⟨q21, h⟩ := h
      by_cases c22 : l2 < 0 ∨ 2 < l2
      · have h := h.1 c22
        refine Wa_tabOut (tgt := 132) dX8_letters_87 q21 c22 (by decide) ?_
        refine Wa_bipush (z := (-102)) dX8_letters_132 (by decide) ?_
        exact Wa_ireturn dX8_letters_134 rfl ⟨_, rfl, ⟨by decide, by decide⟩, h⟩
      · have h := h.2
        rcases (show l2 = 0 ∨ l2 = 1 ∨ l2 = 2 by omega) with c22 | c22 | c22
        · have h := h.1 c22
          refine Wa_tabIn (tgt := 112) dX8_letters_87 q21 (by omega) (by omega) (by rw [c22]; rfl) (by decide) ?_
          refine Wa_iload 0 dX8_letters_112 rfl ?_
          exact Wa_ireturn dX8_letters_114 rfl ⟨_, rfl, r20, h⟩
        · have h := h.2.1 c22
          refine Wa_tabIn (tgt := 115) dX8_letters_87 q21 (by omega) (by omega) (by rw [c22]; rfl) (by decide) ?_
          refine Wa_iload_n 2 dX8_letters_115 rfl rfl ?_
          refine Wa_callS [vI (M8 7 ((M8 73 (l1).toNat)).toNat)] _ lc_X8_102 cs_X8_lettersIn rfl rfl (Nat.le_refl _) (Nat.le_of_ble_eq_true rfl) dX8_letters_116 h ?_
          intro r M23 h
          obtain ⟨z24, rfl, r25, h⟩ := h
          have h := h r25
          refine Wa_iload 0 dX8_letters_119 rfl ?_
          refine Wa_isub dX8_letters_121 ?_
          obtain ⟨q26, h⟩ := h
          exact Wa_ireturn dX8_letters_122 rfl ⟨_, rfl, q26, h⟩
        · have h := h.2.2 c22
          refine Wa_tabIn (tgt := 123) dX8_letters_87 q21 (by omega) (by omega) (by rw [c22]; rfl) (by decide) ?_
          refine Wa_iload 1 dX8_letters_123 rfl ?_
          refine Wa_callS [vI (M8 8 ((M8 74 (l1).toNat)).toNat)] _ lc_X8_102 cs_X8_lettersIn rfl rfl (Nat.le_refl _) (Nat.le_of_ble_eq_true rfl) dX8_letters_125 h ?_
          intro r M27 h
          obtain ⟨z28, rfl, r29, h⟩ := h
          have h := h r29
          refine Wa_iload 0 dX8_letters_128 rfl ?_
          refine Wa_isub dX8_letters_130 ?_
          obtain ⟨q30, h⟩ := h
          exact Wa_ireturn dX8_letters_131 rfl ⟨_, rfl, q30, h⟩
    · have h := h.2 c11
      refine Wa_bipush (z := (-103)) dX8_letters_30 (by decide) ?_
      exact Wa_ireturn dX8_letters_32 rfl ⟨_, rfl, ⟨by decide, by decide⟩, h⟩
  · have h := h.2 c5
    refine Wa_bipush (z := (-101)) dX8_letters_11 (by decide) ?_
    exact Wa_ireturn dX8_letters_13 rfl ⟨_, rfl, ⟨by decide, by decide⟩, h⟩
theorem en_X8_letters {g : AG} {d : Nat} {l1 : Int} {l2 : Int} {M : AM} {Q : Int → AM → Prop} (h : S_X8_letters_0 g d l1 l2 M Q) : MetI g mX8_letters d [vR 0, vI l1, vI l2] M Q := MetA.of (by decide) (Nat.le_of_ble_eq_true rfl) h
def S_X8_like_0 (g : AG) (d : Nat) (l1 : Int) (l2 : Int) (M : AM) (Q : Int → AM → Prop) : Prop := Wa g mX8_like d 0 [(0, vR 0), (1, vI l1), (2, vI l2)] [] M (QI Q)
set_option maxRecDepth 100000 in
theorem sg_X8_like_0 {g : AG} {d : Nat} {l1 : Int} {l2 : Int} {M : AM} {Q : Int → AM → Prop} 
  (h : rg l1 ∧ (MetI g mX7_has d [vR 5, vI 0, vI l1] M (fun z3 M2 => rg z3 → ((z3 = 0 → (Q (-101) M2)) ∧ (¬ z3 = 0 → (rg l2 ∧ (MetI g mX7_has d [vR 5, vI 1, vI l2] M2 (fun z8 M7 => rg z8 → ((¬ z8 = 0 → ((0 ≤ l1 ∧ l1 < 8) ∧ ((0 ≤ l2 ∧ l2 < 8) ∧ (MetF g mX1_fraction d [vR 57, vI (M7 7 (l1).toNat), vI (M7 8 (l2).toNat)] M7 (fun z16 M15 => MetI g mX8_singleBits d [vF z16] M15 (fun z19 M18 => rg z19 → (Q z19 M18))))))) ∧ (z8 = 0 → (Q (-101) M7))))))))))) : S_X8_like_0 g (d + 1) l1 l2 M Q := by
  show Wa _ _ _ _ _ _ _ _
  refine Wa_aload_n 0 dX8_like_0 rfl rfl ?_
  refine Wa_getR cf_X8 lk_X8_27 k_0 (j := 2) rfl (by decide) dX8_like_1 ?_
  refine Wa_iconst (z := 0) dX8_like_4 ?_
  refine Wa_iload_n 1 dX8_like_5 rfl rfl ?_
  obtain ⟨q1, h⟩ := h
  refine Wa_callV [vI 0, vI l1] _ cf_X7 rfl k_5 lc_X8_94 cv_X7_has rfl rfl (Nat.le_refl _) (Nat.le_of_ble_eq_true rfl) dX8_like_6 h ?_
  intro r M2 h
  obtain ⟨z3, rfl, r4, h⟩ := h
  have h := h r4
  refine Wa_if_eq (tgt := 24) dX8_like_9 (by decide) r4 (fun c5 => ?_) (fun c5 => ?_)
  · have h := h.1 c5
    refine Wa_bipush (z := (-101)) dX8_like_24 (by decide) ?_
    exact Wa_ireturn dX8_like_26 rfl ⟨_, rfl, ⟨by decide, by decide⟩, h⟩
  · have h := h.2 c5
    refine Wa_aload_n 0 dX8_like_12 rfl rfl ?_
    refine Wa_getR cf_X8 lk_X8_27 k_0 (j := 2) rfl (by decide) dX8_like_13 ?_
    refine Wa_iconst (z := 1) dX8_like_16 ?_
    refine Wa_iload_n 2 dX8_like_17 rfl rfl ?_
    obtain ⟨q6, h⟩ := h
    refine Wa_callV [vI 1, vI l2] _ cf_X7 rfl k_5 lc_X8_94 cv_X7_has rfl rfl (Nat.le_refl _) (Nat.le_of_ble_eq_true rfl) dX8_like_18 h ?_
    intro r M7 h
    obtain ⟨z8, rfl, r9, h⟩ := h
    have h := h r9
    refine Wa_if_ne (tgt := 27) dX8_like_21 (by decide) r9 (fun c10 => ?_) (fun c10 => ?_)
    · have h := h.1 c10
      refine Wa_aload_n 0 dX8_like_27 rfl rfl ?_
      refine Wa_getR cf_X8 lk_X8_40 k_0 (j := 5) rfl (by decide) dX8_like_28 ?_
      refine Wa_aload_n 0 dX8_like_31 rfl rfl ?_
      refine Wa_getR cf_X8 lk_X8_27 k_0 (j := 2) rfl (by decide) dX8_like_32 ?_
      refine Wa_getR cf_X7 lk_X8_98 k_5 (j := 0) rfl (by decide) dX8_like_35 ?_
      refine Wa_iconst (z := 0) dX8_like_38 ?_
      refine Wa_aald k_6 ⟨by decide, by decide⟩ dX8_like_39 ?_
      refine Wa_iload_n 1 dX8_like_40 rfl rfl ?_
      obtain ⟨b11, h⟩ := h
      refine Wa_iald2 (v := (M7 7 (l1).toNat)) k_7 b11 rfl dX8_like_41 (fun r12 => ?_)
      refine Wa_aload_n 0 dX8_like_42 rfl rfl ?_
      refine Wa_getR cf_X8 lk_X8_27 k_0 (j := 2) rfl (by decide) dX8_like_43 ?_
      refine Wa_getR cf_X7 lk_X8_98 k_5 (j := 0) rfl (by decide) dX8_like_46 ?_
      refine Wa_iconst (z := 1) dX8_like_49 ?_
      refine Wa_aald k_6 ⟨by decide, by decide⟩ dX8_like_50 ?_
      refine Wa_iload_n 2 dX8_like_51 rfl rfl ?_
      obtain ⟨b13, h⟩ := h
      refine Wa_iald2 (v := (M7 8 (l2).toNat)) k_8 b13 rfl dX8_like_52 (fun r14 => ?_)
      refine Wa_callV [vI (M7 7 (l1).toNat), vI (M7 8 (l2).toNat)] _ cf_X1 rfl k_57 lc_X8_140 cv_X1_fraction rfl rfl (Nat.le_refl _) (Nat.le_of_ble_eq_true rfl) dX8_like_53 h ?_
      intro r M15 h
      obtain ⟨z16, rfl, h⟩ := h
      refine Wa_callS [vF z16] _ lc_X8_144 cs_X8_singleBits rfl rfl (Nat.le_refl _) (Nat.le_of_ble_eq_true rfl) dX8_like_56 h ?_
      intro r M18 h
      obtain ⟨z19, rfl, r20, h⟩ := h
      have h := h r20
      exact Wa_ireturn dX8_like_59 rfl ⟨_, rfl, r20, h⟩
    · have h := h.2 c10
      refine Wa_bipush (z := (-101)) dX8_like_24 (by decide) ?_
      exact Wa_ireturn dX8_like_26 rfl ⟨_, rfl, ⟨by decide, by decide⟩, h⟩
theorem en_X8_like {g : AG} {d : Nat} {l1 : Int} {l2 : Int} {M : AM} {Q : Int → AM → Prop} (h : S_X8_like_0 g d l1 l2 M Q) : MetI g mX8_like d [vR 0, vI l1, vI l2] M Q := MetA.of (by decide) (Nat.le_of_ble_eq_true rfl) h
def S_X8_rack_0 (g : AG) (d : Nat) (l1 : Int) (l2 : Int) (M : AM) (Q : Int → AM → Prop) : Prop := Wa g mX8_rack d 0 [(0, vR 0), (1, vI l1), (2, vI l2)] [] M (QI Q)
set_option maxRecDepth 100000 in
theorem sg_X8_rack_0 {g : AG} {d : Nat} {l1 : Int} {l2 : Int} {M : AM} {Q : Int → AM → Prop} 
  (h : rg l1 ∧ (MetI g mX6_has d [vR 71, vI l1] M (fun z3 M2 => rg z3 → ((¬ z3 = 0 → (rg l2 ∧ ((l2 < 0 → (Q (-102) M2)) ∧ (¬ l2 < 0 → ((l2 < 5 → ((0 ≤ l2 ∧ l2 < 5) ∧ (((M2 87 (l2).toNat) < 3 → ((0 ≤ l1 ∧ l1 < 16) ∧ (MetI g mX8_isOfKind d [vI (M2 72 (l1).toNat), vI l2] M2 (fun z15 M14 => rg z15 → ((¬ z15 = 0 → (MetI g mX4_append d [vR 80, vI l2, vI l1] M14 (fun z19 M18 => rg z19 → (Q z19 M18)))) ∧ (z15 = 0 → (Q (-1) M14))))))) ∧ (¬ (M2 87 (l2).toNat) < 3 → (Q (-104) M2))))) ∧ (¬ l2 < 5 → (Q (-102) M2))))))) ∧ (z3 = 0 → (Q (-101) M2)))))) : S_X8_rack_0 g (d + 1) l1 l2 M Q := by
  show Wa _ _ _ _ _ _ _ _
  refine Wa_aload_n 0 dX8_rack_0 rfl rfl ?_
  refine Wa_getR cf_X8 lk_X8_47 k_0 (j := 6) rfl (by decide) dX8_rack_1 ?_
  refine Wa_iload_n 1 dX8_rack_4 rfl rfl ?_
  obtain ⟨q1, h⟩ := h
  refine Wa_callV [vI l1] _ cf_X6 rfl k_71 lc_X8_116 cv_X6_has rfl rfl (Nat.le_refl _) (Nat.le_of_ble_eq_true rfl) dX8_rack_5 h ?_
  intro r M2 h
  obtain ⟨z3, rfl, r4, h⟩ := h
  have h := h r4
  refine Wa_if_ne (tgt := 14) dX8_rack_8 (by decide) r4 (fun c5 => ?_) (fun c5 => ?_)
  · have h := h.1 c5
    refine Wa_iload_n 2 dX8_rack_14 rfl rfl ?_
    obtain ⟨q6, h⟩ := h
    refine Wa_if_lt (tgt := 23) dX8_rack_15 (by decide) q6 (fun c7 => ?_) (fun c7 => ?_)
    · have h := h.1 c7
      refine Wa_bipush (z := (-102)) dX8_rack_23 (by decide) ?_
      exact Wa_ireturn dX8_rack_25 rfl ⟨_, rfl, ⟨by decide, by decide⟩, h⟩
    · have h := h.2 c7
      refine Wa_iload_n 2 dX8_rack_18 rfl rfl ?_
      refine Wa_iconst (z := 5) dX8_rack_19 ?_
      refine Wa_icmp_lt (tgt := 26) dX8_rack_20 (by decide) q6 ⟨by decide, by decide⟩ (fun c8 => ?_) (fun c8 => ?_)
      · have h := h.1 c8
        refine Wa_aload_n 0 dX8_rack_26 rfl rfl ?_
        refine Wa_getR cf_X8 lk_X8_54 k_0 (j := 7) rfl (by decide) dX8_rack_27 ?_
        refine Wa_getR cf_X4 lk_X8_148 k_80 (j := 1) rfl (by decide) dX8_rack_30 ?_
        refine Wa_iload_n 2 dX8_rack_33 rfl rfl ?_
        obtain ⟨b9, h⟩ := h
        refine Wa_iald2 (v := (M2 87 (l2).toNat)) k_87 b9 rfl dX8_rack_34 (fun r10 => ?_)
        refine Wa_iconst (z := 3) dX8_rack_35 ?_
        refine Wa_icmp_lt (tgt := 42) dX8_rack_36 (by decide) r10 ⟨by decide, by decide⟩ (fun c11 => ?_) (fun c11 => ?_)
        · have h := h.1 c11
          refine Wa_aload_n 0 dX8_rack_42 rfl rfl ?_
          refine Wa_getR cf_X8 lk_X8_47 k_0 (j := 6) rfl (by decide) dX8_rack_43 ?_
          refine Wa_getR cf_X6 lk_X8_118 k_71 (j := 0) rfl (by decide) dX8_rack_46 ?_
          refine Wa_iload_n 1 dX8_rack_49 rfl rfl ?_
          obtain ⟨b12, h⟩ := h
          refine Wa_iald2 (v := (M2 72 (l1).toNat)) k_72 b12 rfl dX8_rack_50 (fun r13 => ?_)
          refine Wa_iload_n 2 dX8_rack_51 rfl rfl ?_
          refine Wa_callS [vI (M2 72 (l1).toNat), vI l2] _ lc_X8_134 cs_X8_isOfKind rfl rfl (Nat.le_refl _) (Nat.le_of_ble_eq_true rfl) dX8_rack_52 h ?_
          intro r M14 h
          obtain ⟨z15, rfl, r16, h⟩ := h
          have h := h r16
          refine Wa_if_ne (tgt := 60) dX8_rack_55 (by decide) r16 (fun c17 => ?_) (fun c17 => ?_)
          · have h := h.1 c17
            refine Wa_aload_n 0 dX8_rack_60 rfl rfl ?_
            refine Wa_getR cf_X8 lk_X8_54 k_0 (j := 7) rfl (by decide) dX8_rack_61 ?_
            refine Wa_iload_n 2 dX8_rack_64 rfl rfl ?_
            refine Wa_iload_n 1 dX8_rack_65 rfl rfl ?_
            refine Wa_callV [vI l2, vI l1] _ cf_X4 rfl k_80 lc_X8_150 cv_X4_append rfl rfl (Nat.le_refl _) (Nat.le_of_ble_eq_true rfl) dX8_rack_66 h ?_
            intro r M18 h
            obtain ⟨z19, rfl, r20, h⟩ := h
            have h := h r20
            exact Wa_ireturn dX8_rack_69 rfl ⟨_, rfl, r20, h⟩
          · have h := h.2 c17
            refine Wa_iconst (z := (-1)) dX8_rack_58 ?_
            exact Wa_ireturn dX8_rack_59 rfl ⟨_, rfl, ⟨by decide, by decide⟩, h⟩
        · have h := h.2 c11
          refine Wa_bipush (z := (-104)) dX8_rack_39 (by decide) ?_
          exact Wa_ireturn dX8_rack_41 rfl ⟨_, rfl, ⟨by decide, by decide⟩, h⟩
      · have h := h.2 c8
        refine Wa_bipush (z := (-102)) dX8_rack_23 (by decide) ?_
        exact Wa_ireturn dX8_rack_25 rfl ⟨_, rfl, ⟨by decide, by decide⟩, h⟩
  · have h := h.2 c5
    refine Wa_bipush (z := (-101)) dX8_rack_11 (by decide) ?_
    exact Wa_ireturn dX8_rack_13 rfl ⟨_, rfl, ⟨by decide, by decide⟩, h⟩
theorem en_X8_rack {g : AG} {d : Nat} {l1 : Int} {l2 : Int} {M : AM} {Q : Int → AM → Prop} (h : S_X8_rack_0 g d l1 l2 M Q) : MetI g mX8_rack d [vR 0, vI l1, vI l2] M Q := MetA.of (by decide) (Nat.le_of_ble_eq_true rfl) h
def S_X8_racked_0 (g : AG) (d : Nat) (l1 : Int) (l2 : Int) (M : AM) (Q : Int → AM → Prop) : Prop := Wa g mX8_racked d 0 [(0, vR 0), (1, vI l1), (2, vI l2)] [] M (QI Q)
set_option maxRecDepth 100000 in
theorem sg_X8_racked_0 {g : AG} {d : Nat} {l1 : Int} {l2 : Int} {M : AM} {Q : Int → AM → Prop} 
  (h : rg l1 ∧ ((l1 < 0 → (Q (-102) M)) ∧ (¬ l1 < 0 → ((5 ≤ l1 → (Q (-102) M)) ∧ (¬ 5 ≤ l1 → (rg l2 ∧ ((l2 < 0 → (Q (-102) M)) ∧ (¬ l2 < 0 → ((l2 < 3 → ((0 ≤ l1 ∧ l1 < 5) ∧ (((M 87 (l1).toNat) ≤ l2 → (Q (-1) M)) ∧ (¬ (M 87 (l1).toNat) ≤ l2 → ((0 ≤ l2 ∧ l2 < 3) ∧ (Q (M (82 + (l1).toNat) (l2).toNat) M)))))) ∧ (¬ l2 < 3 → (Q (-102) M))))))))))) : S_X8_racked_0 g (d + 1) l1 l2 M Q := by
  show Wa _ _ _ _ _ _ _ _
  refine Wa_iload_n 1 dX8_racked_0 rfl rfl ?_
  obtain ⟨q1, h⟩ := h
  refine Wa_if_lt (tgt := 18) dX8_racked_1 (by decide) q1 (fun c2 => ?_) (fun c2 => ?_)
  · have h := h.1 c2
    refine Wa_bipush (z := (-102)) dX8_racked_18 (by decide) ?_
    exact Wa_ireturn dX8_racked_20 rfl ⟨_, rfl, ⟨by decide, by decide⟩, h⟩
  · have h := h.2 c2
    refine Wa_iload_n 1 dX8_racked_4 rfl rfl ?_
    refine Wa_iconst (z := 5) dX8_racked_5 ?_
    refine Wa_icmp_ge (tgt := 18) dX8_racked_6 (by decide) q1 ⟨by decide, by decide⟩ (fun c3 => ?_) (fun c3 => ?_)
    · have h := h.1 c3
      refine Wa_bipush (z := (-102)) dX8_racked_18 (by decide) ?_
      exact Wa_ireturn dX8_racked_20 rfl ⟨_, rfl, ⟨by decide, by decide⟩, h⟩
    · have h := h.2 c3
      refine Wa_iload_n 2 dX8_racked_9 rfl rfl ?_
      obtain ⟨q4, h⟩ := h
      refine Wa_if_lt (tgt := 18) dX8_racked_10 (by decide) q4 (fun c5 => ?_) (fun c5 => ?_)
      · have h := h.1 c5
        refine Wa_bipush (z := (-102)) dX8_racked_18 (by decide) ?_
        exact Wa_ireturn dX8_racked_20 rfl ⟨_, rfl, ⟨by decide, by decide⟩, h⟩
      · have h := h.2 c5
        refine Wa_iload_n 2 dX8_racked_13 rfl rfl ?_
        refine Wa_iconst (z := 3) dX8_racked_14 ?_
        refine Wa_icmp_lt (tgt := 21) dX8_racked_15 (by decide) q4 ⟨by decide, by decide⟩ (fun c6 => ?_) (fun c6 => ?_)
        · have h := h.1 c6
          refine Wa_iload_n 2 dX8_racked_21 rfl rfl ?_
          refine Wa_aload_n 0 dX8_racked_22 rfl rfl ?_
          refine Wa_getR cf_X8 lk_X8_54 k_0 (j := 7) rfl (by decide) dX8_racked_23 ?_
          refine Wa_getR cf_X4 lk_X8_148 k_80 (j := 1) rfl (by decide) dX8_racked_26 ?_
          refine Wa_iload_n 1 dX8_racked_29 rfl rfl ?_
          obtain ⟨b7, h⟩ := h
          refine Wa_iald2 (v := (M 87 (l1).toNat)) k_87 b7 rfl dX8_racked_30 (fun r8 => ?_)
          refine Wa_icmp_ge (tgt := 48) dX8_racked_31 (by decide) q4 r8 (fun c9 => ?_) (fun c9 => ?_)
          · have h := h.1 c9
            refine Wa_iconst (z := (-1)) dX8_racked_48 ?_
            exact Wa_ireturn dX8_racked_49 rfl ⟨_, rfl, ⟨by decide, by decide⟩, h⟩
          · have h := h.2 c9
            refine Wa_aload_n 0 dX8_racked_34 rfl rfl ?_
            refine Wa_getR cf_X8 lk_X8_54 k_0 (j := 7) rfl (by decide) dX8_racked_35 ?_
            refine Wa_getR cf_X4 lk_X8_152 k_80 (j := 0) rfl (by decide) dX8_racked_38 ?_
            refine Wa_iload_n 1 dX8_racked_41 rfl rfl ?_
            refine Wa_aald k_81 b7 dX8_racked_42 ?_
            refine Wa_iload_n 2 dX8_racked_43 rfl rfl ?_
            obtain ⟨b10, h⟩ := h
            refine Wa_iald2 (v := (M (82 + (l1).toNat) (l2).toNat)) (rw_81 _ (inb_nat b7)) b10 rfl dX8_racked_44 (fun r11 => ?_)
            refine Wa_goto (tgt := 49) dX8_racked_45 (by decide) ?_
            exact Wa_ireturn dX8_racked_49 rfl ⟨_, rfl, r11, h⟩
        · have h := h.2 c6
          refine Wa_bipush (z := (-102)) dX8_racked_18 (by decide) ?_
          exact Wa_ireturn dX8_racked_20 rfl ⟨_, rfl, ⟨by decide, by decide⟩, h⟩
theorem en_X8_racked {g : AG} {d : Nat} {l1 : Int} {l2 : Int} {M : AM} {Q : Int → AM → Prop} (h : S_X8_racked_0 g d l1 l2 M Q) : MetI g mX8_racked d [vR 0, vI l1, vI l2] M Q := MetA.of (by decide) (Nat.le_of_ble_eq_true rfl) h
def S_X8_put_0 (g : AG) (d : Nat) (l1 : Int) (l2 : Int) (l3 : Int) (M : AM) (Q : Int → AM → Prop) : Prop := Wa g mX8_put d 0 [(0, vR 0), (1, vI l1), (2, vI l2), (3, vI l3)] [] M (QI Q)
set_option maxRecDepth 100000 in
theorem sg_X8_put_0 {g : AG} {d : Nat} {l1 : Int} {l2 : Int} {l3 : Int} {M : AM} {Q : Int → AM → Prop} 
  (h : rg l1 ∧ (MetI g mX8_isSide d [vI l1] M (fun z3 M2 => rg z3 → ((z3 = 0 → (Q (-101) M2)) ∧ (¬ z3 = 0 → (rg l2 ∧ ((l2 < 0 → (Q (-101) M2)) ∧ (¬ l2 < 0 → ((0 ≤ l1 ∧ l1 < 2) ∧ ((l2 ≤ (M2 9 (l1).toNat) → (rg l3 ∧ (MetI g mX8_isLine d [vI l3] M2 (fun z13 M12 => rg z13 → ((¬ z13 = 0 → ((¬ (M12 0 8) = 0 → (((M12 9 (l1).toNat) < 8 → (MetV g mX7_insert d [vR 5, vI l1, vI l2, vI l3] M12 (fun M20 => MetI g mX8_compareAnew d [vR 0] M20 (fun z24 M23 => rg z24 → (Q z24 M23))))) ∧ (¬ (M12 9 (l1).toNat) < 8 → (Q (-104) M12)))) ∧ ((M12 0 8) = 0 → (Q (-103) M12)))) ∧ (z13 = 0 → (Q (-102) M12))))))) ∧ (¬ l2 ≤ (M2 9 (l1).toNat) → (Q (-101) M2)))))))))))) : S_X8_put_0 g (d + 1) l1 l2 l3 M Q := by
  show Wa _ _ _ _ _ _ _ _
  refine Wa_iload_n 1 dX8_put_0 rfl rfl ?_
  obtain ⟨q1, h⟩ := h
  refine Wa_callS [vI l1] _ lc_X8_155 cs_X8_isSide rfl rfl (Nat.le_refl _) (Nat.le_of_ble_eq_true rfl) dX8_put_1 h ?_
  intro r M2 h
  obtain ⟨z3, rfl, r4, h⟩ := h
  have h := h r4
  refine Wa_if_eq (tgt := 24) dX8_put_4 (by decide) r4 (fun c5 => ?_) (fun c5 => ?_)
  · have h := h.1 c5
    refine Wa_bipush (z := (-101)) dX8_put_24 (by decide) ?_
    exact Wa_ireturn dX8_put_26 rfl ⟨_, rfl, ⟨by decide, by decide⟩, h⟩
  · have h := h.2 c5
    refine Wa_iload_n 2 dX8_put_7 rfl rfl ?_
    obtain ⟨q6, h⟩ := h
    refine Wa_if_lt (tgt := 24) dX8_put_8 (by decide) q6 (fun c7 => ?_) (fun c7 => ?_)
    · have h := h.1 c7
      refine Wa_bipush (z := (-101)) dX8_put_24 (by decide) ?_
      exact Wa_ireturn dX8_put_26 rfl ⟨_, rfl, ⟨by decide, by decide⟩, h⟩
    · have h := h.2 c7
      refine Wa_iload_n 2 dX8_put_11 rfl rfl ?_
      refine Wa_aload_n 0 dX8_put_12 rfl rfl ?_
      refine Wa_getR cf_X8 lk_X8_27 k_0 (j := 2) rfl (by decide) dX8_put_13 ?_
      refine Wa_getR cf_X7 lk_X8_158 k_5 (j := 1) rfl (by decide) dX8_put_16 ?_
      refine Wa_iload_n 1 dX8_put_19 rfl rfl ?_
      obtain ⟨b8, h⟩ := h
      refine Wa_iald2 (v := (M2 9 (l1).toNat)) k_9 b8 rfl dX8_put_20 (fun r9 => ?_)
      refine Wa_icmp_le (tgt := 27) dX8_put_21 (by decide) q6 r9 (fun c10 => ?_) (fun c10 => ?_)
      · have h := h.1 c10
        refine Wa_iload_n 3 dX8_put_27 rfl rfl ?_
        obtain ⟨q11, h⟩ := h
        refine Wa_callS [vI l3] _ lc_X8_159 cs_X8_isLine rfl rfl (Nat.le_refl _) (Nat.le_of_ble_eq_true rfl) dX8_put_28 h ?_
        intro r M12 h
        obtain ⟨z13, rfl, r14, h⟩ := h
        have h := h r14
        refine Wa_if_ne (tgt := 37) dX8_put_31 (by decide) r14 (fun c15 => ?_) (fun c15 => ?_)
        · have h := h.1 c15
          refine Wa_aload_n 0 dX8_put_37 rfl rfl ?_
          refine Wa_getI2 (v := (M12 0 8)) cf_X8 lk_X8_58 k_0 (j := 8) rfl (by decide) rfl dX8_put_38 (fun r16 => ?_)
          refine Wa_if_ne (tgt := 47) dX8_put_41 (by decide) r16 (fun c17 => ?_) (fun c17 => ?_)
          · have h := h.1 c17
            refine Wa_aload_n 0 dX8_put_47 rfl rfl ?_
            refine Wa_getR cf_X8 lk_X8_27 k_0 (j := 2) rfl (by decide) dX8_put_48 ?_
            refine Wa_getR cf_X7 lk_X8_158 k_5 (j := 1) rfl (by decide) dX8_put_51 ?_
            refine Wa_iload_n 1 dX8_put_54 rfl rfl ?_
            refine Wa_iald2 (v := (M12 9 (l1).toNat)) k_9 b8 rfl dX8_put_55 (fun r18 => ?_)
            refine Wa_bipush (z := 8) dX8_put_56 (by decide) ?_
            refine Wa_icmp_lt (tgt := 64) dX8_put_58 (by decide) r18 ⟨by decide, by decide⟩ (fun c19 => ?_) (fun c19 => ?_)
            · have h := h.1 c19
              refine Wa_aload_n 0 dX8_put_64 rfl rfl ?_
              refine Wa_getR cf_X8 lk_X8_27 k_0 (j := 2) rfl (by decide) dX8_put_65 ?_
              refine Wa_iload_n 1 dX8_put_68 rfl rfl ?_
              refine Wa_iload_n 2 dX8_put_69 rfl rfl ?_
              refine Wa_iload_n 3 dX8_put_70 rfl rfl ?_
              refine Wa_callV [vI l1, vI l2, vI l3] _ cf_X7 rfl k_5 lc_X8_162 cv_X7_insert rfl rfl (Nat.le_refl _) (Nat.le_of_ble_eq_true rfl) dX8_put_71 h ?_
              intro r M20 h
              obtain ⟨rfl, h⟩ := h
              refine Wa_aload_n 0 dX8_put_74 rfl rfl ?_
              refine Wa_callV [] _ cf_X8 rfl k_0 lc_X8_88 cv_X8_compareAnew rfl rfl (Nat.le_refl _) (Nat.le_of_ble_eq_true rfl) dX8_put_75 h ?_
              intro r M23 h
              obtain ⟨z24, rfl, r25, h⟩ := h
              have h := h r25
              exact Wa_ireturn dX8_put_78 rfl ⟨_, rfl, r25, h⟩
            · have h := h.2 c19
              refine Wa_bipush (z := (-104)) dX8_put_61 (by decide) ?_
              exact Wa_ireturn dX8_put_63 rfl ⟨_, rfl, ⟨by decide, by decide⟩, h⟩
          · have h := h.2 c17
            refine Wa_bipush (z := (-103)) dX8_put_44 (by decide) ?_
            exact Wa_ireturn dX8_put_46 rfl ⟨_, rfl, ⟨by decide, by decide⟩, h⟩
        · have h := h.2 c15
          refine Wa_bipush (z := (-102)) dX8_put_34 (by decide) ?_
          exact Wa_ireturn dX8_put_36 rfl ⟨_, rfl, ⟨by decide, by decide⟩, h⟩
      · have h := h.2 c10
        refine Wa_bipush (z := (-101)) dX8_put_24 (by decide) ?_
        exact Wa_ireturn dX8_put_26 rfl ⟨_, rfl, ⟨by decide, by decide⟩, h⟩
theorem en_X8_put {g : AG} {d : Nat} {l1 : Int} {l2 : Int} {l3 : Int} {M : AM} {Q : Int → AM → Prop} (h : S_X8_put_0 g d l1 l2 l3 M Q) : MetI g mX8_put d [vR 0, vI l1, vI l2, vI l3] M Q := MetA.of (by decide) (Nat.le_of_ble_eq_true rfl) h
def S_X8_take_0 (g : AG) (d : Nat) (l1 : Int) (l2 : Int) (M : AM) (Q : Int → AM → Prop) : Prop := Wa g mX8_take d 0 [(0, vR 0), (1, vI l1), (2, vI l2)] [] M (QI Q)
set_option maxRecDepth 100000 in
theorem sg_X8_take_0 {g : AG} {d : Nat} {l1 : Int} {l2 : Int} {M : AM} {Q : Int → AM → Prop} 
  (h : rg l1 ∧ (rg l2 ∧ (MetI g mX7_has d [vR 5, vI l1, vI l2] M (fun z4 M3 => rg z4 → ((¬ z4 = 0 → (MetV g mX7_remove d [vR 5, vI l1, vI l2] M3 (fun M7 => MetI g mX8_compareAnew d [vR 0] M7 (fun z11 M10 => rg z11 → (Q z11 M10))))) ∧ (z4 = 0 → (Q (-101) M3))))))) : S_X8_take_0 g (d + 1) l1 l2 M Q := by
  show Wa _ _ _ _ _ _ _ _
  refine Wa_aload_n 0 dX8_take_0 rfl rfl ?_
  refine Wa_getR cf_X8 lk_X8_27 k_0 (j := 2) rfl (by decide) dX8_take_1 ?_
  refine Wa_iload_n 1 dX8_take_4 rfl rfl ?_
  refine Wa_iload_n 2 dX8_take_5 rfl rfl ?_
  obtain ⟨q1, h⟩ := h
  obtain ⟨q2, h⟩ := h
  refine Wa_callV [vI l1, vI l2] _ cf_X7 rfl k_5 lc_X8_94 cv_X7_has rfl rfl (Nat.le_refl _) (Nat.le_of_ble_eq_true rfl) dX8_take_6 h ?_
  intro r M3 h
  obtain ⟨z4, rfl, r5, h⟩ := h
  have h := h r5
  refine Wa_if_ne (tgt := 15) dX8_take_9 (by decide) r5 (fun c6 => ?_) (fun c6 => ?_)
  · have h := h.1 c6
    refine Wa_aload_n 0 dX8_take_15 rfl rfl ?_
    refine Wa_getR cf_X8 lk_X8_27 k_0 (j := 2) rfl (by decide) dX8_take_16 ?_
    refine Wa_iload_n 1 dX8_take_19 rfl rfl ?_
    refine Wa_iload_n 2 dX8_take_20 rfl rfl ?_
    refine Wa_callV [vI l1, vI l2] _ cf_X7 rfl k_5 lc_X8_166 cv_X7_remove rfl rfl (Nat.le_refl _) (Nat.le_of_ble_eq_true rfl) dX8_take_21 h ?_
    intro r M7 h
    obtain ⟨rfl, h⟩ := h
    refine Wa_aload_n 0 dX8_take_24 rfl rfl ?_
    refine Wa_callV [] _ cf_X8 rfl k_0 lc_X8_88 cv_X8_compareAnew rfl rfl (Nat.le_refl _) (Nat.le_of_ble_eq_true rfl) dX8_take_25 h ?_
    intro r M10 h
    obtain ⟨z11, rfl, r12, h⟩ := h
    have h := h r12
    exact Wa_ireturn dX8_take_28 rfl ⟨_, rfl, r12, h⟩
  · have h := h.2 c6
    refine Wa_bipush (z := (-101)) dX8_take_12 (by decide) ?_
    exact Wa_ireturn dX8_take_14 rfl ⟨_, rfl, ⟨by decide, by decide⟩, h⟩
theorem en_X8_take {g : AG} {d : Nat} {l1 : Int} {l2 : Int} {M : AM} {Q : Int → AM → Prop} (h : S_X8_take_0 g d l1 l2 M Q) : MetI g mX8_take d [vR 0, vI l1, vI l2] M Q := MetA.of (by decide) (Nat.le_of_ble_eq_true rfl) h
def S_X8_swap_0 (g : AG) (d : Nat) (l1 : Int) (l2 : Int) (l3 : Int) (M : AM) (Q : Int → AM → Prop) : Prop := Wa g mX8_swap d 0 [(0, vR 0), (1, vI l1), (2, vI l2), (3, vI l3)] [] M (QI Q)
set_option maxRecDepth 100000 in
theorem sg_X8_swap_0 {g : AG} {d : Nat} {l1 : Int} {l2 : Int} {l3 : Int} {M : AM} {Q : Int → AM → Prop} 
  (h : rg l1 ∧ (rg l2 ∧ (MetI g mX7_has d [vR 5, vI l1, vI l2] M (fun z4 M3 => rg z4 → ((z4 = 0 → (Q (-101) M3)) ∧ (¬ z4 = 0 → (rg l3 ∧ (MetI g mX7_has d [vR 5, vI l1, vI l3] M3 (fun z9 M8 => rg z9 → ((z9 = 0 → (Q (-101) M8)) ∧ (¬ z9 = 0 → ((¬ l2 = l3 → (MetV g mX7_exchangeLines d [vR 5, vI l1, vI l2, vI l3] M8 (fun M13 => MetI g mX8_compareAnew d [vR 0] M13 (fun z17 M16 => rg z17 → (Q z17 M16))))) ∧ (l2 = l3 → (Q (-101) M8)))))))))))))) : S_X8_swap_0 g (d + 1) l1 l2 l3 M Q := by
  show Wa _ _ _ _ _ _ _ _
  refine Wa_aload_n 0 dX8_swap_0 rfl rfl ?_
  refine Wa_getR cf_X8 lk_X8_27 k_0 (j := 2) rfl (by decide) dX8_swap_1 ?_
  refine Wa_iload_n 1 dX8_swap_4 rfl rfl ?_
  refine Wa_iload_n 2 dX8_swap_5 rfl rfl ?_
  obtain ⟨q1, h⟩ := h
  obtain ⟨q2, h⟩ := h
  refine Wa_callV [vI l1, vI l2] _ cf_X7 rfl k_5 lc_X8_94 cv_X7_has rfl rfl (Nat.le_refl _) (Nat.le_of_ble_eq_true rfl) dX8_swap_6 h ?_
  intro r M3 h
  obtain ⟨z4, rfl, r5, h⟩ := h
  have h := h r5
  refine Wa_if_eq (tgt := 29) dX8_swap_9 (by decide) r5 (fun c6 => ?_) (fun c6 => ?_)
  · have h := h.1 c6
    refine Wa_bipush (z := (-101)) dX8_swap_29 (by decide) ?_
    exact Wa_ireturn dX8_swap_31 rfl ⟨_, rfl, ⟨by decide, by decide⟩, h⟩
  · have h := h.2 c6
    refine Wa_aload_n 0 dX8_swap_12 rfl rfl ?_
    refine Wa_getR cf_X8 lk_X8_27 k_0 (j := 2) rfl (by decide) dX8_swap_13 ?_
    refine Wa_iload_n 1 dX8_swap_16 rfl rfl ?_
    refine Wa_iload_n 3 dX8_swap_17 rfl rfl ?_
    obtain ⟨q7, h⟩ := h
    refine Wa_callV [vI l1, vI l3] _ cf_X7 rfl k_5 lc_X8_94 cv_X7_has rfl rfl (Nat.le_refl _) (Nat.le_of_ble_eq_true rfl) dX8_swap_18 h ?_
    intro r M8 h
    obtain ⟨z9, rfl, r10, h⟩ := h
    have h := h r10
    refine Wa_if_eq (tgt := 29) dX8_swap_21 (by decide) r10 (fun c11 => ?_) (fun c11 => ?_)
    · have h := h.1 c11
      refine Wa_bipush (z := (-101)) dX8_swap_29 (by decide) ?_
      exact Wa_ireturn dX8_swap_31 rfl ⟨_, rfl, ⟨by decide, by decide⟩, h⟩
    · have h := h.2 c11
      refine Wa_iload_n 2 dX8_swap_24 rfl rfl ?_
      refine Wa_iload_n 3 dX8_swap_25 rfl rfl ?_
      refine Wa_icmp_ne (tgt := 32) dX8_swap_26 (by decide) q2 q7 (fun c12 => ?_) (fun c12 => ?_)
      · have h := h.1 c12
        refine Wa_aload_n 0 dX8_swap_32 rfl rfl ?_
        refine Wa_getR cf_X8 lk_X8_27 k_0 (j := 2) rfl (by decide) dX8_swap_33 ?_
        refine Wa_iload_n 1 dX8_swap_36 rfl rfl ?_
        refine Wa_iload_n 2 dX8_swap_37 rfl rfl ?_
        refine Wa_iload_n 3 dX8_swap_38 rfl rfl ?_
        refine Wa_callV [vI l1, vI l2, vI l3] _ cf_X7 rfl k_5 lc_X8_170 cv_X7_exchangeLines rfl rfl (Nat.le_refl _) (Nat.le_of_ble_eq_true rfl) dX8_swap_39 h ?_
        intro r M13 h
        obtain ⟨rfl, h⟩ := h
        refine Wa_aload_n 0 dX8_swap_42 rfl rfl ?_
        refine Wa_callV [] _ cf_X8 rfl k_0 lc_X8_88 cv_X8_compareAnew rfl rfl (Nat.le_refl _) (Nat.le_of_ble_eq_true rfl) dX8_swap_43 h ?_
        intro r M16 h
        obtain ⟨z17, rfl, r18, h⟩ := h
        have h := h r18
        exact Wa_ireturn dX8_swap_46 rfl ⟨_, rfl, r18, h⟩
      · have h := h.2 c12
        refine Wa_bipush (z := (-101)) dX8_swap_29 (by decide) ?_
        exact Wa_ireturn dX8_swap_31 rfl ⟨_, rfl, ⟨by decide, by decide⟩, h⟩
theorem en_X8_swap {g : AG} {d : Nat} {l1 : Int} {l2 : Int} {l3 : Int} {M : AM} {Q : Int → AM → Prop} (h : S_X8_swap_0 g d l1 l2 l3 M Q) : MetI g mX8_swap d [vR 0, vI l1, vI l2, vI l3] M Q := MetA.of (by decide) (Nat.le_of_ble_eq_true rfl) h
def S_X8_turn_0 (g : AG) (d : Nat) (M : AM) (Q : Int → AM → Prop) : Prop := Wa g mX8_turn d 0 [(0, vR 0)] [] M (QI Q)
set_option maxRecDepth 100000 in
theorem sg_X8_turn_0 {g : AG} {d : Nat} {M : AM} {Q : Int → AM → Prop} 
  (h : (¬ (M 0 8) = 0 → (MetV g mX7_exchangeSides d [vR 5] M (fun M3 => MetI g mX8_compareAnew d [vR 0] M3 (fun z7 M6 => rg z7 → (Q z7 M6))))) ∧ ((M 0 8) = 0 → (Q (-103) M))) : S_X8_turn_0 g (d + 1) M Q := by
  show Wa _ _ _ _ _ _ _ _
  refine Wa_aload_n 0 dX8_turn_0 rfl rfl ?_
  refine Wa_getI2 (v := (M 0 8)) cf_X8 lk_X8_58 k_0 (j := 8) rfl (by decide) rfl dX8_turn_1 (fun r1 => ?_)
  refine Wa_if_ne (tgt := 10) dX8_turn_4 (by decide) r1 (fun c2 => ?_) (fun c2 => ?_)
  · have h := h.1 c2
    refine Wa_aload_n 0 dX8_turn_10 rfl rfl ?_
    refine Wa_getR cf_X8 lk_X8_27 k_0 (j := 2) rfl (by decide) dX8_turn_11 ?_
    refine Wa_callV [] _ cf_X7 rfl k_5 lc_X8_173 cv_X7_exchangeSides rfl rfl (Nat.le_refl _) (Nat.le_of_ble_eq_true rfl) dX8_turn_14 h ?_
    intro r M3 h
    obtain ⟨rfl, h⟩ := h
    refine Wa_aload_n 0 dX8_turn_17 rfl rfl ?_
    refine Wa_callV [] _ cf_X8 rfl k_0 lc_X8_88 cv_X8_compareAnew rfl rfl (Nat.le_refl _) (Nat.le_of_ble_eq_true rfl) dX8_turn_18 h ?_
    intro r M6 h
    obtain ⟨z7, rfl, r8, h⟩ := h
    have h := h r8
    exact Wa_ireturn dX8_turn_21 rfl ⟨_, rfl, r8, h⟩
  · have h := h.2 c2
    refine Wa_bipush (z := (-103)) dX8_turn_7 (by decide) ?_
    exact Wa_ireturn dX8_turn_9 rfl ⟨_, rfl, ⟨by decide, by decide⟩, h⟩
theorem en_X8_turn {g : AG} {d : Nat} {M : AM} {Q : Int → AM → Prop} (h : S_X8_turn_0 g d M Q) : MetI g mX8_turn d [vR 0] M Q := MetA.of (by decide) (Nat.le_of_ble_eq_true rfl) h
def S_X8_cost_0 (g : AG) (d : Nat) (l1 : Int) (M : AM) (Q : Int → AM → Prop) : Prop := Wa g mX8_cost d 0 [(0, vR 0), (1, vI l1)] [] M (QI Q)
set_option maxRecDepth 100000 in
theorem sg_X8_cost_0 {g : AG} {d : Nat} {l1 : Int} {M : AM} {Q : Int → AM → Prop} 
  (h : rg l1 ∧ ((l1 < 0 → (Q (-102) M)) ∧ (¬ l1 < 0 → ((l1 < 5 → ((¬ (M 0 8) = 0 → ((l1 < 0 ∨ 3 < l1 → (Q (M 71 7) M)) ∧ (l1 = 0 → (MetI g mX2_notKept d [vR 4] M (fun z9 M8 => rg z9 → (Q z9 M8)))) ∧ (l1 = 1 → (MetI g mX2_shortest d [vR 4] M (fun z12 M11 => rg z12 → (Q z12 M11)))) ∧ (l1 = 2 → (Q (M 4 8) M)) ∧ (l1 = 3 → (Q (M 4 7) M)))) ∧ ((M 0 8) = 0 → (Q (-103) M)))) ∧ (¬ l1 < 5 → (Q (-102) M)))))) : S_X8_cost_0 g (d + 1) l1 M Q := by
  show Wa _ _ _ _ _ _ _ _
  refine Wa_iload_n 1 dX8_cost_0 rfl rfl ?_
  obtain ⟨q1, h⟩ := h
  refine Wa_if_lt (tgt := 9) dX8_cost_1 (by decide) q1 (fun c2 => ?_) (fun c2 => ?_)
  · have h := h.1 c2
    refine Wa_bipush (z := (-102)) dX8_cost_9 (by decide) ?_
    exact Wa_ireturn dX8_cost_11 rfl ⟨_, rfl, ⟨by decide, by decide⟩, h⟩
  · have h := h.2 c2
    refine Wa_iload_n 1 dX8_cost_4 rfl rfl ?_
    refine Wa_iconst (z := 5) dX8_cost_5 ?_
    refine Wa_icmp_lt (tgt := 12) dX8_cost_6 (by decide) q1 ⟨by decide, by decide⟩ (fun c3 => ?_) (fun c3 => ?_)
    · have h := h.1 c3
      refine Wa_aload_n 0 dX8_cost_12 rfl rfl ?_
      refine Wa_getI2 (v := (M 0 8)) cf_X8 lk_X8_58 k_0 (j := 8) rfl (by decide) rfl dX8_cost_13 (fun r4 => ?_)
      refine Wa_if_ne (tgt := 22) dX8_cost_16 (by decide) r4 (fun c5 => ?_) (fun c5 => ?_)
      · have h := h.1 c5
        refine Wa_iload_n 1 dX8_cost_22 rfl rfl ?_
        by_cases c6 : l1 < 0 ∨ 3 < l1
        · have h := h.1 c6
          refine Wa_tabOut (tgt := 84) dX8_cost_23 q1 c6 (by decide) ?_
          refine Wa_aload_n 0 dX8_cost_84 rfl rfl ?_
          refine Wa_getR cf_X8 lk_X8_47 k_0 (j := 6) rfl (by decide) dX8_cost_85 ?_
          refine Wa_getI2 (v := (M 71 7)) cf_X6 lk_X8_188 k_71 (j := 7) rfl (by decide) rfl dX8_cost_88 (fun r7 => ?_)
          exact Wa_ireturn dX8_cost_91 rfl ⟨_, rfl, r7, h⟩
        · have h := h.2
          rcases (show l1 = 0 ∨ l1 = 1 ∨ l1 = 2 ∨ l1 = 3 by omega) with c6 | c6 | c6 | c6
          · have h := h.1 c6
            refine Wa_tabIn (tgt := 52) dX8_cost_23 q1 (by omega) (by omega) (by rw [c6]; rfl) (by decide) ?_
            refine Wa_aload_n 0 dX8_cost_52 rfl rfl ?_
            refine Wa_getR cf_X8 lk_X8_19 k_0 (j := 1) rfl (by decide) dX8_cost_53 ?_
            refine Wa_callV [] _ cf_X2 rfl k_4 lc_X8_176 cv_X2_notKept rfl rfl (Nat.le_refl _) (Nat.le_of_ble_eq_true rfl) dX8_cost_56 h ?_
            intro r M8 h
            obtain ⟨z9, rfl, r10, h⟩ := h
            have h := h r10
            exact Wa_ireturn dX8_cost_59 rfl ⟨_, rfl, r10, h⟩
          · have h := h.2.1 c6
            refine Wa_tabIn (tgt := 60) dX8_cost_23 q1 (by omega) (by omega) (by rw [c6]; rfl) (by decide) ?_
            refine Wa_aload_n 0 dX8_cost_60 rfl rfl ?_
            refine Wa_getR cf_X8 lk_X8_19 k_0 (j := 1) rfl (by decide) dX8_cost_61 ?_
            refine Wa_callV [] _ cf_X2 rfl k_4 lc_X8_179 cv_X2_shortest rfl rfl (Nat.le_refl _) (Nat.le_of_ble_eq_true rfl) dX8_cost_64 h ?_
            intro r M11 h
            obtain ⟨z12, rfl, r13, h⟩ := h
            have h := h r13
            exact Wa_ireturn dX8_cost_67 rfl ⟨_, rfl, r13, h⟩
          · have h := h.2.2.1 c6
            refine Wa_tabIn (tgt := 68) dX8_cost_23 q1 (by omega) (by omega) (by rw [c6]; rfl) (by decide) ?_
            refine Wa_aload_n 0 dX8_cost_68 rfl rfl ?_
            refine Wa_getR cf_X8 lk_X8_19 k_0 (j := 1) rfl (by decide) dX8_cost_69 ?_
            refine Wa_getI2 (v := (M 4 8)) cf_X2 lk_X8_182 k_4 (j := 8) rfl (by decide) rfl dX8_cost_72 (fun r14 => ?_)
            exact Wa_ireturn dX8_cost_75 rfl ⟨_, rfl, r14, h⟩
          · have h := h.2.2.2 c6
            refine Wa_tabIn (tgt := 76) dX8_cost_23 q1 (by omega) (by omega) (by rw [c6]; rfl) (by decide) ?_
            refine Wa_aload_n 0 dX8_cost_76 rfl rfl ?_
            refine Wa_getR cf_X8 lk_X8_19 k_0 (j := 1) rfl (by decide) dX8_cost_77 ?_
            refine Wa_getI2 (v := (M 4 7)) cf_X2 lk_X8_185 k_4 (j := 7) rfl (by decide) rfl dX8_cost_80 (fun r15 => ?_)
            exact Wa_ireturn dX8_cost_83 rfl ⟨_, rfl, r15, h⟩
      · have h := h.2 c5
        refine Wa_bipush (z := (-103)) dX8_cost_19 (by decide) ?_
        exact Wa_ireturn dX8_cost_21 rfl ⟨_, rfl, ⟨by decide, by decide⟩, h⟩
    · have h := h.2 c3
      refine Wa_bipush (z := (-102)) dX8_cost_9 (by decide) ?_
      exact Wa_ireturn dX8_cost_11 rfl ⟨_, rfl, ⟨by decide, by decide⟩, h⟩
theorem en_X8_cost {g : AG} {d : Nat} {l1 : Int} {M : AM} {Q : Int → AM → Prop} (h : S_X8_cost_0 g d l1 M Q) : MetI g mX8_cost d [vR 0, vI l1] M Q := MetA.of (by decide) (Nat.le_of_ble_eq_true rfl) h
def S_X8_best_0 (g : AG) (d : Nat) (l1 : Int) (M : AM) (Q : Int → AM → Prop) : Prop := Wa g mX8_best d 0 [(0, vR 0), (1, vI l1)] [] M (QI Q)
def S_X8_best_49 (g : AG) (d : Nat) (l1 : Int) (l2 : Int) (l3 : Int) (l4 : Int) (M : AM) (Q : Int → AM → Prop) : Prop := Wa g mX8_best d 49 [(0, vR 0), (1, vI l1), (2, vI l2), (3, vI l3), (4, vI l4)] [] M (QI Q)
set_option maxRecDepth 100000 in
theorem sg_X8_best_0 {g : AG} {d : Nat} {l1 : Int} {M : AM} {Q : Int → AM → Prop} 
  (h : rg l1 ∧ (MetI g mX8_isLine d [vI l1] M (fun z3 M2 => rg z3 → ((¬ z3 = 0 → ((¬ (M2 0 8) = 0 → (((M2 9 1) < 8 → (MetI g mX8_costOfPutting d [vR 0, vI 0, vI l1] M2 (fun z11 M10 => rg z11 → (S_X8_best_49 g (d + 1) l1 0 z11 1 M10 Q)))) ∧ (¬ (M2 9 1) < 8 → (Q (-104) M2)))) ∧ ((M2 0 8) = 0 → (Q (-103) M2)))) ∧ (z3 = 0 → (Q (-102) M2)))))) : S_X8_best_0 g (d + 1) l1 M Q := by
  show Wa _ _ _ _ _ _ _ _
  refine Wa_iload_n 1 dX8_best_0 rfl rfl ?_
  obtain ⟨q1, h⟩ := h
  refine Wa_callS [vI l1] _ lc_X8_159 cs_X8_isLine rfl rfl (Nat.le_refl _) (Nat.le_of_ble_eq_true rfl) dX8_best_1 h ?_
  intro r M2 h
  obtain ⟨z3, rfl, r4, h⟩ := h
  have h := h r4
  refine Wa_if_ne (tgt := 10) dX8_best_4 (by decide) r4 (fun c5 => ?_) (fun c5 => ?_)
  · have h := h.1 c5
    refine Wa_aload_n 0 dX8_best_10 rfl rfl ?_
    refine Wa_getI2 (v := (M2 0 8)) cf_X8 lk_X8_58 k_0 (j := 8) rfl (by decide) rfl dX8_best_11 (fun r6 => ?_)
    refine Wa_if_ne (tgt := 20) dX8_best_14 (by decide) r6 (fun c7 => ?_) (fun c7 => ?_)
    · have h := h.1 c7
      refine Wa_aload_n 0 dX8_best_20 rfl rfl ?_
      refine Wa_getR cf_X8 lk_X8_27 k_0 (j := 2) rfl (by decide) dX8_best_21 ?_
      refine Wa_getR cf_X7 lk_X8_158 k_5 (j := 1) rfl (by decide) dX8_best_24 ?_
      refine Wa_iconst (z := 1) dX8_best_27 ?_
      refine Wa_iald2 (v := (M2 9 1)) k_9 ⟨by decide, by decide⟩ rfl dX8_best_28 (fun r8 => ?_)
      refine Wa_bipush (z := 8) dX8_best_29 (by decide) ?_
      refine Wa_icmp_lt (tgt := 37) dX8_best_31 (by decide) r8 ⟨by decide, by decide⟩ (fun c9 => ?_) (fun c9 => ?_)
      · have h := h.1 c9
        refine Wa_iconst (z := 0) dX8_best_37 ?_
        refine Wa_istore_n (ls' := [(2, vI 0), (0, vR 0), (1, vI l1)]) dX8_best_38 rfl (by decide) rfl ?_
        refine Wa_aload_n 1 dX8_best_39 rfl rfl ?_
        refine Wa_iconst (z := 0) dX8_best_40 ?_
        refine Wa_iload_n 2 dX8_best_41 rfl rfl ?_
        refine Wa_callV [vI 0, vI l1] _ cf_X8 rfl k_0 lc_X8_191 cv_X8_costOfPutting rfl rfl (Nat.le_refl _) (Nat.le_of_ble_eq_true rfl) dX8_best_42 h ?_
        intro r M10 h
        obtain ⟨z11, rfl, r12, h⟩ := h
        have h := h r12
        refine Wa_istore_n (ls' := [(3, vI z11), (2, vI 0), (0, vR 0), (1, vI l1)]) dX8_best_45 rfl (by decide) rfl ?_
        refine Wa_iconst (z := 1) dX8_best_46 ?_
        refine Wa_istore (ls' := [(4, vI 1), (3, vI z11), (2, vI 0), (0, vR 0), (1, vI l1)]) dX8_best_47 (by decide) rfl ?_
        refine Wa_sub [3, 4, 2, 1, 0] rfl ?_
        exact h
      · have h := h.2 c9
        refine Wa_bipush (z := (-104)) dX8_best_34 (by decide) ?_
        exact Wa_ireturn dX8_best_36 rfl ⟨_, rfl, ⟨by decide, by decide⟩, h⟩
    · have h := h.2 c7
      refine Wa_bipush (z := (-103)) dX8_best_17 (by decide) ?_
      exact Wa_ireturn dX8_best_19 rfl ⟨_, rfl, ⟨by decide, by decide⟩, h⟩
  · have h := h.2 c5
    refine Wa_bipush (z := (-102)) dX8_best_7 (by decide) ?_
    exact Wa_ireturn dX8_best_9 rfl ⟨_, rfl, ⟨by decide, by decide⟩, h⟩
set_option maxRecDepth 100000 in
theorem sg_X8_best_49 {g : AG} {d : Nat} {l1 : Int} {l2 : Int} {l3 : Int} {l4 : Int} {M : AM} {Q : Int → AM → Prop} 
  (h : rg l4 ∧ (((M 9 1) < l4 → (rg l2 ∧ (Q l2 M))) ∧ (¬ (M 9 1) < l4 → (rg l1 ∧ (MetI g mX8_costOfPutting d [vR 0, vI l4, vI l1] M (fun z7 M6 => rg z7 → (rg l3 ∧ ((l3 ≤ z7 → (S_X8_best_49 g (d + 1) l1 l2 l3 (l4 + 1) M6 Q)) ∧ (¬ l3 ≤ z7 → (S_X8_best_49 g (d + 1) l1 l4 z7 (l4 + 1) M6 Q)))))))))) : S_X8_best_49 g (d + 1) l1 l2 l3 l4 M Q := by
  show Wa _ _ _ _ _ _ _ _
  refine Wa_iload 4 dX8_best_49 rfl ?_
  refine Wa_aload_n 0 dX8_best_51 rfl rfl ?_
  refine Wa_getR cf_X8 lk_X8_27 k_0 (j := 2) rfl (by decide) dX8_best_52 ?_
  refine Wa_getR cf_X7 lk_X8_158 k_5 (j := 1) rfl (by decide) dX8_best_55 ?_
  refine Wa_iconst (z := 1) dX8_best_58 ?_
  refine Wa_iald2 (v := (M 9 1)) k_9 ⟨by decide, by decide⟩ rfl dX8_best_59 (fun r1 => ?_)
  obtain ⟨q2, h⟩ := h
  refine Wa_icmp_gt (tgt := 90) dX8_best_60 (by decide) q2 r1 (fun c3 => ?_) (fun c3 => ?_)
  · have h := h.1 c3
    refine Wa_iload_n 2 dX8_best_90 rfl rfl ?_
    obtain ⟨q4, h⟩ := h
    exact Wa_ireturn dX8_best_91 rfl ⟨_, rfl, q4, h⟩
  · have h := h.2 c3
    refine Wa_aload_n 0 dX8_best_63 rfl rfl ?_
    refine Wa_iload 4 dX8_best_64 rfl ?_
    refine Wa_iload_n 1 dX8_best_66 rfl rfl ?_
    obtain ⟨q5, h⟩ := h
    refine Wa_callV [vI l4, vI l1] _ cf_X8 rfl k_0 lc_X8_191 cv_X8_costOfPutting rfl rfl (Nat.le_refl _) (Nat.le_of_ble_eq_true rfl) dX8_best_67 h ?_
    intro r M6 h
    obtain ⟨z7, rfl, r8, h⟩ := h
    have h := h r8
    refine Wa_istore (ls' := [(5, vI z7), (0, vR 0), (1, vI l1), (2, vI l2), (3, vI l3), (4, vI l4)]) dX8_best_70 (by decide) rfl ?_
    refine Wa_iload 0 dX8_best_72 rfl ?_
    refine Wa_iload_n 4 dX8_best_74 rfl rfl ?_
    obtain ⟨q9, h⟩ := h
    refine Wa_icmp_ge (tgt := 84) dX8_best_75 (by decide) r8 q9 (fun c10 => ?_) (fun c10 => ?_)
    · have h := h.1 c10
      refine Wa_iinc (ls' := [(4, vI (l4 + 1)), (5, vI z7), (0, vR 0), (1, vI l1), (2, vI l2), (3, vI l3)]) 5 dX8_best_84 rfl (by decide) rfl ?_
      refine Wa_goto (tgt := 49) dX8_best_87 (by decide) ?_
      refine Wa_sub [2, 3, 4, 5, 0] rfl ?_
      exact h
    · have h := h.2 c10
      refine Wa_iload 0 dX8_best_78 rfl ?_
      refine Wa_istore_n (ls' := [(3, vI z7), (5, vI z7), (0, vR 0), (1, vI l1), (2, vI l2), (4, vI l4)]) dX8_best_80 rfl (by decide) rfl ?_
      refine Wa_iload 5 dX8_best_81 rfl ?_
      refine Wa_istore_n (ls' := [(2, vI l4), (3, vI z7), (5, vI z7), (0, vR 0), (1, vI l1), (4, vI l4)]) dX8_best_83 rfl (by decide) rfl ?_
      refine Wa_iinc (ls' := [(4, vI (l4 + 1)), (2, vI l4), (3, vI z7), (5, vI z7), (0, vR 0), (1, vI l1)]) 5 dX8_best_84 rfl (by decide) rfl ?_
      refine Wa_goto (tgt := 49) dX8_best_87 (by decide) ?_
      refine Wa_sub [4, 5, 1, 2, 0] rfl ?_
      exact h
theorem en_X8_best {g : AG} {d : Nat} {l1 : Int} {M : AM} {Q : Int → AM → Prop} (h : S_X8_best_0 g d l1 M Q) : MetI g mX8_best d [vR 0, vI l1] M Q := MetA.of (by decide) (Nat.le_of_ble_eq_true rfl) h
def S_X8_all_0 (g : AG) (d : Nat) (M : AM) (Q : Int → AM → Prop) : Prop := Wa g mX8_all d 0 [(0, vR 0)] [] M (QL Q)
set_option maxRecDepth 100000 in
theorem sg_X8_all_0 {g : AG} {d : Nat} {M : AM} {Q : Int → AM → Prop} 
  (h : (¬ (M 0 8) = 0 → (MetI g mX7_total d [vR 5] M (fun z4 M3 => rg z4 → ((¬ z4 = 0 → (MetI g mX2_kept d [vR 4] M3 (fun z8 M7 => rg z8 → (vf_n64 (FP.ddiv (FP.i2d (Int32.ofInt (2 * z8))) (FP.i2d (Int32.ofInt z4))) ∧ (MetL g mX8_doubleBits d [vD (FP.ddiv (FP.i2d (Int32.ofInt (2 * z8))) (FP.i2d (Int32.ofInt z4)))] M7 (fun z12 M11 => Q z12 M11)))))) ∧ (z4 = 0 → (MetL g mX8_doubleBits d [vD FP.dconst1] M3 (fun z15 M14 => Q z15 M14))))))) ∧ ((M 0 8) = 0 → (Q (-103) M))) : S_X8_all_0 g (d + 1) M Q := by
  show Wa _ _ _ _ _ _ _ _
  refine Wa_aload_n 0 dX8_all_0 rfl rfl ?_
  refine Wa_getI2 (v := (M 0 8)) cf_X8 lk_X8_58 k_0 (j := 8) rfl (by decide) rfl dX8_all_1 (fun r1 => ?_)
  refine Wa_if_ne (tgt := 11) dX8_all_4 (by decide) r1 (fun c2 => ?_) (fun c2 => ?_)
  · have h := h.1 c2
    refine Wa_aload_n 0 dX8_all_11 rfl rfl ?_
    refine Wa_getR cf_X8 lk_X8_27 k_0 (j := 2) rfl (by decide) dX8_all_12 ?_
    refine Wa_callV [] _ cf_X7 rfl k_5 lc_X8_91 cv_X7_total rfl rfl (Nat.le_refl _) (Nat.le_of_ble_eq_true rfl) dX8_all_15 h ?_
    intro r M3 h
    obtain ⟨z4, rfl, r5, h⟩ := h
    have h := h r5
    refine Wa_istore_n (ls' := [(1, vI z4), (0, vR 0)]) dX8_all_18 rfl (by decide) rfl ?_
    refine Wa_iload_n 0 dX8_all_19 rfl rfl ?_
    refine Wa_if_ne (tgt := 27) dX8_all_20 (by decide) r5 (fun c6 => ?_) (fun c6 => ?_)
    · have h := h.1 c6
      refine Wa_iconst (z := 2) dX8_all_27 ?_
      refine Wa_aload_n 1 dX8_all_28 rfl rfl ?_
      refine Wa_getR cf_X8 lk_X8_19 k_0 (j := 1) rfl (by decide) dX8_all_29 ?_
      refine Wa_callV [] _ cf_X2 rfl k_4 lc_X8_196 cv_X2_kept rfl rfl (Nat.le_refl _) (Nat.le_of_ble_eq_true rfl) dX8_all_32 h ?_
      intro r M7 h
      obtain ⟨z8, rfl, r9, h⟩ := h
      have h := h r9
      refine Wa_imul dX8_all_35 ?_
      refine Wa_i2d dX8_all_36 ?_
      refine Wa_iload_n 0 dX8_all_37 rfl rfl ?_
      refine Wa_i2d dX8_all_38 ?_
      obtain ⟨n10, h⟩ := h
      refine Wa_ddiv dX8_all_39 n10 ?_
      refine Wa_callS [vD (FP.ddiv (FP.i2d (Int32.ofInt (2 * z8))) (FP.i2d (Int32.ofInt z4)))] _ lc_X8_199 cs_X8_doubleBits rfl rfl (Nat.le_refl _) (Nat.le_of_ble_eq_true rfl) dX8_all_40 h ?_
      intro r M11 h
      obtain ⟨z12, rfl, h⟩ := h
      exact Wa_lreturn dX8_all_43 rfl ⟨_, rfl, h⟩
    · have h := h.2 c6
      refine Wa_dconst1 dX8_all_23 ?_
      refine Wa_goto (tgt := 40) dX8_all_24 (by decide) ?_
      refine Wa_callS [vD FP.dconst1] _ lc_X8_199 cs_X8_doubleBits rfl rfl (Nat.le_refl _) (Nat.le_of_ble_eq_true rfl) dX8_all_40 h ?_
      intro r M14 h
      obtain ⟨z15, rfl, h⟩ := h
      exact Wa_lreturn dX8_all_43 rfl ⟨_, rfl, h⟩
  · have h := h.2 c2
    refine Wa_ldc2 (z := (-103)) dX8_all_7 kc_X8_194 ?_
    exact Wa_lreturn dX8_all_10 rfl ⟨_, rfl, h⟩
theorem en_X8_all {g : AG} {d : Nat} {M : AM} {Q : Int → AM → Prop} (h : S_X8_all_0 g d M Q) : MetL g mX8_all d [vR 0] M Q := MetA.of (by decide) (Nat.le_of_ble_eq_true rfl) h
def S_X8_drawn_0 (g : AG) (d : Nat) (l1 : Int) (l2 : Int) (l3 : Int) (M : AM) (Q : Int → AM → Prop) : Prop := Wa g mX8_drawn d 0 [(0, vR 0), (1, vI l1), (2, vI l2), (3, vI l3)] [] M (QI Q)
def S_X8_drawn_39 (g : AG) (d : Nat) (l1 : Int) (l3 : Int) (l4 : Int) (l5 : Int) (l6 : Int) (l7 : Int) (M : AM) (Q : Int → AM → Prop) : Prop := Wa g mX8_drawn d 39 [(0, vR 0), (1, vI l1), (3, vI l3), (4, vI l4), (5, vI l5), (6, vI l6), (7, vI l7)] [] M (QI Q)
set_option maxRecDepth 100000 in
theorem sg_X8_drawn_0 {g : AG} {d : Nat} {l1 : Int} {l2 : Int} {l3 : Int} {M : AM} {Q : Int → AM → Prop} 
  (h : rg l1 ∧ ((l1 < 1 → (Q (-102) M)) ∧ (¬ l1 < 1 → ((30 < l1 → (Q (-102) M)) ∧ (¬ 30 < l1 → (rg l2 ∧ ((l2 < 0 → (Q (-102) M)) ∧ (¬ l2 < 0 → (rg l3 ∧ ((l3 < 0 → (Q (-102) M)) ∧ (¬ l3 < 0 → ((l3 < 3 → (S_X8_drawn_39 g (d + 1) l1 l3 l2 0 0 0 M Q)) ∧ (¬ l3 < 3 → (Q (-102) M)))))))))))))) : S_X8_drawn_0 g (d + 1) l1 l2 l3 M Q := by
  show Wa _ _ _ _ _ _ _ _
  refine Wa_iload_n 1 dX8_drawn_0 rfl rfl ?_
  refine Wa_iconst (z := 1) dX8_drawn_1 ?_
  obtain ⟨q1, h⟩ := h
  refine Wa_icmp_lt (tgt := 24) dX8_drawn_2 (by decide) q1 ⟨by decide, by decide⟩ (fun c2 => ?_) (fun c2 => ?_)
  · have h := h.1 c2
    refine Wa_bipush (z := (-102)) dX8_drawn_24 (by decide) ?_
    exact Wa_ireturn dX8_drawn_26 rfl ⟨_, rfl, ⟨by decide, by decide⟩, h⟩
  · have h := h.2 c2
    refine Wa_iload_n 1 dX8_drawn_5 rfl rfl ?_
    refine Wa_bipush (z := 30) dX8_drawn_6 (by decide) ?_
    refine Wa_icmp_gt (tgt := 24) dX8_drawn_8 (by decide) q1 ⟨by decide, by decide⟩ (fun c3 => ?_) (fun c3 => ?_)
    · have h := h.1 c3
      refine Wa_bipush (z := (-102)) dX8_drawn_24 (by decide) ?_
      exact Wa_ireturn dX8_drawn_26 rfl ⟨_, rfl, ⟨by decide, by decide⟩, h⟩
    · have h := h.2 c3
      refine Wa_iload_n 2 dX8_drawn_11 rfl rfl ?_
      obtain ⟨q4, h⟩ := h
      refine Wa_if_lt (tgt := 24) dX8_drawn_12 (by decide) q4 (fun c5 => ?_) (fun c5 => ?_)
      · have h := h.1 c5
        refine Wa_bipush (z := (-102)) dX8_drawn_24 (by decide) ?_
        exact Wa_ireturn dX8_drawn_26 rfl ⟨_, rfl, ⟨by decide, by decide⟩, h⟩
      · have h := h.2 c5
        refine Wa_iload_n 3 dX8_drawn_15 rfl rfl ?_
        obtain ⟨q6, h⟩ := h
        refine Wa_if_lt (tgt := 24) dX8_drawn_16 (by decide) q6 (fun c7 => ?_) (fun c7 => ?_)
        · have h := h.1 c7
          refine Wa_bipush (z := (-102)) dX8_drawn_24 (by decide) ?_
          exact Wa_ireturn dX8_drawn_26 rfl ⟨_, rfl, ⟨by decide, by decide⟩, h⟩
        · have h := h.2 c7
          refine Wa_iload_n 3 dX8_drawn_19 rfl rfl ?_
          refine Wa_iconst (z := 3) dX8_drawn_20 ?_
          refine Wa_icmp_lt (tgt := 27) dX8_drawn_21 (by decide) q6 ⟨by decide, by decide⟩ (fun c8 => ?_) (fun c8 => ?_)
          · have h := h.1 c8
            refine Wa_iload_n 2 dX8_drawn_27 rfl rfl ?_
            refine Wa_istore (ls' := [(4, vI l2), (0, vR 0), (1, vI l1), (2, vI l2), (3, vI l3)]) dX8_drawn_28 (by decide) rfl ?_
            refine Wa_iconst (z := 0) dX8_drawn_30 ?_
            refine Wa_istore (ls' := [(5, vI 0), (4, vI l2), (0, vR 0), (1, vI l1), (2, vI l2), (3, vI l3)]) dX8_drawn_31 (by decide) rfl ?_
            refine Wa_iconst (z := 0) dX8_drawn_33 ?_
            refine Wa_istore (ls' := [(6, vI 0), (5, vI 0), (4, vI l2), (0, vR 0), (1, vI l1), (2, vI l2), (3, vI l3)]) dX8_drawn_34 (by decide) rfl ?_
            refine Wa_iconst (z := 0) dX8_drawn_36 ?_
            refine Wa_istore (ls' := [(7, vI 0), (6, vI 0), (5, vI 0), (4, vI l2), (0, vR 0), (1, vI l1), (2, vI l2), (3, vI l3)]) dX8_drawn_37 (by decide) rfl ?_
            refine Wa_sub [4, 5, 7, 3, 2, 1, 0] rfl ?_
            exact h
          · have h := h.2 c8
            refine Wa_bipush (z := (-102)) dX8_drawn_24 (by decide) ?_
            exact Wa_ireturn dX8_drawn_26 rfl ⟨_, rfl, ⟨by decide, by decide⟩, h⟩
set_option maxRecDepth 100000 in
theorem sg_X8_drawn_39 {g : AG} {d : Nat} {l1 : Int} {l3 : Int} {l4 : Int} {l5 : Int} {l6 : Int} {l7 : Int} {M : AM} {Q : Int → AM → Prop} 
  (h : rg l7 ∧ (rg l1 ∧ ((l1 ≤ l7 → (rg l3 ∧ ((¬ l3 = 0 → ((¬ l3 = 1 → (rg l4 ∧ (Q l4 M))) ∧ (l3 = 1 → (rg l6 ∧ (Q l6 M))))) ∧ (l3 = 0 → (rg l5 ∧ (Q l5 M)))))) ∧ (¬ l1 ≤ l7 → (rg l4 ∧ (MetI g mX8_drawTrial d [vR 0, vI l4] M (fun z12 M11 => rg z12 → (MetI g mX2_notKept d [vR 28] M11 (fun z15 M14 => rg z15 → (S_X8_drawn_39 g (d + 1) l1 l3 z12 (l5 + z15) (l6 + (M14 28 8)) (l7 + 1) M14 Q)))))))))) : S_X8_drawn_39 g (d + 1) l1 l3 l4 l5 l6 l7 M Q := by
  show Wa _ _ _ _ _ _ _ _
  refine Wa_iload 6 dX8_drawn_39 rfl ?_
  refine Wa_iload_n 1 dX8_drawn_41 rfl rfl ?_
  obtain ⟨q1, h⟩ := h
  obtain ⟨q2, h⟩ := h
  refine Wa_icmp_ge (tgt := 83) dX8_drawn_42 (by decide) q1 q2 (fun c3 => ?_) (fun c3 => ?_)
  · have h := h.1 c3
    refine Wa_iload_n 2 dX8_drawn_83 rfl rfl ?_
    obtain ⟨q4, h⟩ := h
    refine Wa_if_ne (tgt := 92) dX8_drawn_84 (by decide) q4 (fun c5 => ?_) (fun c5 => ?_)
    · have h := h.1 c5
      refine Wa_iload_n 2 dX8_drawn_92 rfl rfl ?_
      refine Wa_iconst (z := 1) dX8_drawn_93 ?_
      refine Wa_icmp_ne (tgt := 102) dX8_drawn_94 (by decide) q4 ⟨by decide, by decide⟩ (fun c6 => ?_) (fun c6 => ?_)
      · have h := h.1 c6
        refine Wa_iload 3 dX8_drawn_102 rfl ?_
        obtain ⟨q7, h⟩ := h
        exact Wa_ireturn dX8_drawn_104 rfl ⟨_, rfl, q7, h⟩
      · have h := h.2 c6
        refine Wa_iload 5 dX8_drawn_97 rfl ?_
        refine Wa_goto (tgt := 104) dX8_drawn_99 (by decide) ?_
        obtain ⟨q8, h⟩ := h
        exact Wa_ireturn dX8_drawn_104 rfl ⟨_, rfl, q8, h⟩
    · have h := h.2 c5
      refine Wa_iload 4 dX8_drawn_87 rfl ?_
      refine Wa_goto (tgt := 104) dX8_drawn_89 (by decide) ?_
      obtain ⟨q9, h⟩ := h
      exact Wa_ireturn dX8_drawn_104 rfl ⟨_, rfl, q9, h⟩
  · have h := h.2 c3
    refine Wa_aload_n 0 dX8_drawn_45 rfl rfl ?_
    refine Wa_iload 3 dX8_drawn_46 rfl ?_
    obtain ⟨q10, h⟩ := h
    refine Wa_callV [vI l4] _ cf_X8 rfl k_0 lc_X8_203 cv_X8_drawTrial rfl rfl (Nat.le_refl _) (Nat.le_of_ble_eq_true rfl) dX8_drawn_48 h ?_
    intro r M11 h
    obtain ⟨z12, rfl, r13, h⟩ := h
    have h := h r13
    refine Wa_istore (ls' := [(4, vI z12), (0, vR 0), (1, vI l1), (3, vI l3), (5, vI l5), (6, vI l6), (7, vI l7)]) dX8_drawn_51 (by decide) rfl ?_
    refine Wa_iload 4 dX8_drawn_53 rfl ?_
    refine Wa_aload_n 1 dX8_drawn_55 rfl rfl ?_
    refine Wa_getR cf_X8 lk_X8_28 k_0 (j := 3) rfl (by decide) dX8_drawn_56 ?_
    refine Wa_callV [] _ cf_X2 rfl k_28 lc_X8_176 cv_X2_notKept rfl rfl (Nat.le_refl _) (Nat.le_of_ble_eq_true rfl) dX8_drawn_59 h ?_
    intro r M14 h
    obtain ⟨z15, rfl, r16, h⟩ := h
    have h := h r16
    refine Wa_iadd dX8_drawn_62 ?_
    refine Wa_istore (ls' := [(5, vI (l5 + z15)), (4, vI z12), (0, vR 0), (1, vI l1), (3, vI l3), (6, vI l6), (7, vI l7)]) dX8_drawn_63 (by decide) rfl ?_
    refine Wa_iload 5 dX8_drawn_65 rfl ?_
    refine Wa_aload_n 2 dX8_drawn_67 rfl rfl ?_
    refine Wa_getR cf_X8 lk_X8_28 k_0 (j := 3) rfl (by decide) dX8_drawn_68 ?_
    refine Wa_getI2 (v := (M14 28 8)) cf_X2 lk_X8_182 k_28 (j := 8) rfl (by decide) rfl dX8_drawn_71 (fun r17 => ?_)
    refine Wa_iadd dX8_drawn_74 ?_
    refine Wa_istore (ls' := [(6, vI (l6 + (M14 28 8))), (5, vI (l5 + z15)), (4, vI z12), (0, vR 0), (1, vI l1), (3, vI l3), (7, vI l7)]) dX8_drawn_75 (by decide) rfl ?_
    refine Wa_iinc (ls' := [(7, vI (l7 + 1)), (6, vI (l6 + (M14 28 8))), (5, vI (l5 + z15)), (4, vI z12), (0, vR 0), (1, vI l1), (3, vI l3)]) 6 dX8_drawn_77 rfl (by decide) rfl ?_
    refine Wa_goto (tgt := 39) dX8_drawn_80 (by decide) ?_
    refine Wa_sub [4, 5, 6, 3, 2, 1, 0] rfl ?_
    exact h
theorem en_X8_drawn {g : AG} {d : Nat} {l1 : Int} {l2 : Int} {l3 : Int} {M : AM} {Q : Int → AM → Prop} (h : S_X8_drawn_0 g d l1 l2 l3 M Q) : MetI g mX8_drawn d [vR 0, vI l1, vI l2, vI l3] M Q := MetA.of (by decide) (Nat.le_of_ble_eq_true rfl) h
def S_X8_image_0 (g : AG) (d : Nat) (M : AM) (Q : Int → AM → Prop) : Prop := Wa g mX8_image d 0 [(0, vR 0)] [] M (QI Q)
set_option maxRecDepth 100000 in
theorem sg_X8_image_0 {g : AG} {d : Nat} {M : AM} {Q : Int → AM → Prop} 
  (h : (¬ (M 0 8) = 0 → (MetV g mX7_copyFrom d [vR 52, vR 5] M (fun M3 => MetI g mX7_total d [vR 5] (mU M3 0 9 1) (fun z7 M6 => rg z7 → (Q z7 M6))))) ∧ ((M 0 8) = 0 → (Q (-103) M))) : S_X8_image_0 g (d + 1) M Q := by
  show Wa _ _ _ _ _ _ _ _
  refine Wa_aload_n 0 dX8_image_0 rfl rfl ?_
  refine Wa_getI2 (v := (M 0 8)) cf_X8 lk_X8_58 k_0 (j := 8) rfl (by decide) rfl dX8_image_1 (fun r1 => ?_)
  refine Wa_if_ne (tgt := 10) dX8_image_4 (by decide) r1 (fun c2 => ?_) (fun c2 => ?_)
  · have h := h.1 c2
    refine Wa_aload_n 0 dX8_image_10 rfl rfl ?_
    refine Wa_getR cf_X8 lk_X8_34 k_0 (j := 4) rfl (by decide) dX8_image_11 ?_
    refine Wa_aload_n 0 dX8_image_14 rfl rfl ?_
    refine Wa_getR cf_X8 lk_X8_27 k_0 (j := 2) rfl (by decide) dX8_image_15 ?_
    refine Wa_callV [vR 5] _ cf_X7 rfl k_52 lc_X8_206 cv_X7_copyFrom rfl rfl (Nat.le_refl _) (Nat.le_of_ble_eq_true rfl) dX8_image_18 h ?_
    intro r M3 h
    obtain ⟨rfl, h⟩ := h
    refine Wa_aload_n 0 dX8_image_21 rfl rfl ?_
    refine Wa_iconst (z := 1) dX8_image_22 ?_
    refine Wa_putZ cf_X8 lk_X8_62 k_0 (j := 9) rfl (by decide) rfl rfl (by decide) dX8_image_23 ?_
    refine Wa_aload_n 0 dX8_image_26 rfl rfl ?_
    refine Wa_getR cf_X8 lk_X8_27 k_0 (j := 2) rfl (by decide) dX8_image_27 ?_
    refine Wa_callV [] _ cf_X7 rfl k_5 lc_X8_91 cv_X7_total rfl rfl (Nat.le_refl _) (Nat.le_of_ble_eq_true rfl) dX8_image_30 h ?_
    intro r M6 h
    obtain ⟨z7, rfl, r8, h⟩ := h
    have h := h r8
    exact Wa_ireturn dX8_image_33 rfl ⟨_, rfl, r8, h⟩
  · have h := h.2 c2
    refine Wa_bipush (z := (-103)) dX8_image_7 (by decide) ?_
    exact Wa_ireturn dX8_image_9 rfl ⟨_, rfl, ⟨by decide, by decide⟩, h⟩
theorem en_X8_image {g : AG} {d : Nat} {M : AM} {Q : Int → AM → Prop} (h : S_X8_image_0 g d M Q) : MetI g mX8_image d [vR 0] M Q := MetA.of (by decide) (Nat.le_of_ble_eq_true rfl) h
def S_X8_restore_0 (g : AG) (d : Nat) (M : AM) (Q : Int → AM → Prop) : Prop := Wa g mX8_restore d 0 [(0, vR 0)] [] M (QI Q)
set_option maxRecDepth 100000 in
theorem sg_X8_restore_0 {g : AG} {d : Nat} {M : AM} {Q : Int → AM → Prop} 
  (h : (¬ (M 0 9) = 0 → (MetV g mX7_copyFrom d [vR 5, vR 52] M (fun M3 => MetI g mX8_compareAnew d [vR 0] M3 (fun z7 M6 => rg z7 → (MetI g mX7_total d [vR 5] M6 (fun z10 M9 => rg z10 → (Q z10 M9))))))) ∧ ((M 0 9) = 0 → (Q (-103) M))) : S_X8_restore_0 g (d + 1) M Q := by
  show Wa _ _ _ _ _ _ _ _
  refine Wa_aload_n 0 dX8_restore_0 rfl rfl ?_
  refine Wa_getI2 (v := (M 0 9)) cf_X8 lk_X8_62 k_0 (j := 9) rfl (by decide) rfl dX8_restore_1 (fun r1 => ?_)
  refine Wa_if_ne (tgt := 10) dX8_restore_4 (by decide) r1 (fun c2 => ?_) (fun c2 => ?_)
  · have h := h.1 c2
    refine Wa_aload_n 0 dX8_restore_10 rfl rfl ?_
    refine Wa_getR cf_X8 lk_X8_27 k_0 (j := 2) rfl (by decide) dX8_restore_11 ?_
    refine Wa_aload_n 0 dX8_restore_14 rfl rfl ?_
    refine Wa_getR cf_X8 lk_X8_34 k_0 (j := 4) rfl (by decide) dX8_restore_15 ?_
    refine Wa_callV [vR 52] _ cf_X7 rfl k_5 lc_X8_206 cv_X7_copyFrom rfl rfl (Nat.le_refl _) (Nat.le_of_ble_eq_true rfl) dX8_restore_18 h ?_
    intro r M3 h
    obtain ⟨rfl, h⟩ := h
    refine Wa_aload_n 0 dX8_restore_21 rfl rfl ?_
    refine Wa_callV [] _ cf_X8 rfl k_0 lc_X8_88 cv_X8_compareAnew rfl rfl (Nat.le_refl _) (Nat.le_of_ble_eq_true rfl) dX8_restore_22 h ?_
    intro r M6 h
    obtain ⟨z7, rfl, r8, h⟩ := h
    have h := h r8
    refine Wa_pop dX8_restore_25 rfl ?_
    refine Wa_aload_n 0 dX8_restore_26 rfl rfl ?_
    refine Wa_getR cf_X8 lk_X8_27 k_0 (j := 2) rfl (by decide) dX8_restore_27 ?_
    refine Wa_callV [] _ cf_X7 rfl k_5 lc_X8_91 cv_X7_total rfl rfl (Nat.le_refl _) (Nat.le_of_ble_eq_true rfl) dX8_restore_30 h ?_
    intro r M9 h
    obtain ⟨z10, rfl, r11, h⟩ := h
    have h := h r11
    exact Wa_ireturn dX8_restore_33 rfl ⟨_, rfl, r11, h⟩
  · have h := h.2 c2
    refine Wa_bipush (z := (-103)) dX8_restore_7 (by decide) ?_
    exact Wa_ireturn dX8_restore_9 rfl ⟨_, rfl, ⟨by decide, by decide⟩, h⟩
theorem en_X8_restore {g : AG} {d : Nat} {M : AM} {Q : Int → AM → Prop} (h : S_X8_restore_0 g d M Q) : MetI g mX8_restore d [vR 0] M Q := MetA.of (by decide) (Nat.le_of_ble_eq_true rfl) h
def S_X8_count_0 (g : AG) (d : Nat) (l1 : Int) (M : AM) (Q : Int → AM → Prop) : Prop := Wa g mX8_count d 0 [(0, vR 0), (1, vI l1)] [] M (QI Q)
set_option maxRecDepth 100000 in
theorem sg_X8_count_0 {g : AG} {d : Nat} {l1 : Int} {M : AM} {Q : Int → AM → Prop} 
  (h : rg l1 ∧ ((l1 < 0 ∨ 10 < l1 → (Q (-102) M)) ∧ (l1 = 0 → ((0 ≤ l1 ∧ l1 < 2) ∧ (Q (M 9 (l1).toNat) M))) ∧ (l1 = 1 → ((0 ≤ l1 ∧ l1 < 2) ∧ (Q (M 9 (l1).toNat) M))) ∧ (l1 = 2 → (Q (M 71 6) M)) ∧ (l1 = 3 → (rg (l1 - 3) ∧ (MetI g mX6_howManyOf d [vR 71, vI (l1 - 3)] M (fun z10 M9 => rg z10 → (Q z10 M9))))) ∧ (l1 = 4 → (rg (l1 - 3) ∧ (MetI g mX6_howManyOf d [vR 71, vI (l1 - 3)] M (fun z14 M13 => rg z14 → (Q z14 M13))))) ∧ (l1 = 5 → (rg (l1 - 3) ∧ (MetI g mX6_howManyOf d [vR 71, vI (l1 - 3)] M (fun z18 M17 => rg z18 → (Q z18 M17))))) ∧ (l1 = 6 → (rg (l1 - 3) ∧ (MetI g mX6_howManyOf d [vR 71, vI (l1 - 3)] M (fun z22 M21 => rg z22 → (Q z22 M21))))) ∧ (l1 = 7 → (rg (l1 - 3) ∧ (MetI g mX6_howManyOf d [vR 71, vI (l1 - 3)] M (fun z26 M25 => rg z26 → (Q z26 M25))))) ∧ (l1 = 8 → (MetI g mX4_total d [vR 80] M (fun z29 M28 => rg z29 → (Q z29 M28)))) ∧ (l1 = 9 → (Q (M 1 2) M)) ∧ (l1 = 10 → (Q (M 0 10) M)))) : S_X8_count_0 g (d + 1) l1 M Q := by
  show Wa _ _ _ _ _ _ _ _
  refine Wa_iload_n 1 dX8_count_0 rfl rfl ?_
  obtain ⟨q1, h⟩ := h
  by_cases c2 : l1 < 0 ∨ 10 < l1
  · have h := h.1 c2
    refine Wa_tabOut (tgt := 110) dX8_count_1 q1 c2 (by decide) ?_
    refine Wa_bipush (z := (-102)) dX8_count_110 (by decide) ?_
    exact Wa_ireturn dX8_count_112 rfl ⟨_, rfl, ⟨by decide, by decide⟩, h⟩
  · have h := h.2
    rcases (show l1 = 0 ∨ l1 = 1 ∨ l1 = 2 ∨ l1 = 3 ∨ l1 = 4 ∨ l1 = 5 ∨ l1 = 6 ∨ l1 = 7 ∨ l1 = 8 ∨ l1 = 9 ∨ l1 = 10 by omega) with c2 | c2 | c2 | c2 | c2 | c2 | c2 | c2 | c2 | c2 | c2
    · have h := h.1 c2
      refine Wa_tabIn (tgt := 60) dX8_count_1 q1 (by omega) (by omega) (by rw [c2]; rfl) (by decide) ?_
      refine Wa_aload_n 0 dX8_count_60 rfl rfl ?_
      refine Wa_getR cf_X8 lk_X8_27 k_0 (j := 2) rfl (by decide) dX8_count_61 ?_
      refine Wa_getR cf_X7 lk_X8_158 k_5 (j := 1) rfl (by decide) dX8_count_64 ?_
      refine Wa_iload_n 1 dX8_count_67 rfl rfl ?_
      obtain ⟨b3, h⟩ := h
      refine Wa_iald2 (v := (M 9 (l1).toNat)) k_9 b3 rfl dX8_count_68 (fun r4 => ?_)
      exact Wa_ireturn dX8_count_69 rfl ⟨_, rfl, r4, h⟩
    · have h := h.2.1 c2
      refine Wa_tabIn (tgt := 60) dX8_count_1 q1 (by omega) (by omega) (by rw [c2]; rfl) (by decide) ?_
      refine Wa_aload_n 0 dX8_count_60 rfl rfl ?_
      refine Wa_getR cf_X8 lk_X8_27 k_0 (j := 2) rfl (by decide) dX8_count_61 ?_
      refine Wa_getR cf_X7 lk_X8_158 k_5 (j := 1) rfl (by decide) dX8_count_64 ?_
      refine Wa_iload_n 1 dX8_count_67 rfl rfl ?_
      obtain ⟨b5, h⟩ := h
      refine Wa_iald2 (v := (M 9 (l1).toNat)) k_9 b5 rfl dX8_count_68 (fun r6 => ?_)
      exact Wa_ireturn dX8_count_69 rfl ⟨_, rfl, r6, h⟩
    · have h := h.2.2.1 c2
      refine Wa_tabIn (tgt := 70) dX8_count_1 q1 (by omega) (by omega) (by rw [c2]; rfl) (by decide) ?_
      refine Wa_aload_n 0 dX8_count_70 rfl rfl ?_
      refine Wa_getR cf_X8 lk_X8_47 k_0 (j := 6) rfl (by decide) dX8_count_71 ?_
      refine Wa_getI2 (v := (M 71 6)) cf_X6 lk_X8_209 k_71 (j := 6) rfl (by decide) rfl dX8_count_74 (fun r7 => ?_)
      exact Wa_ireturn dX8_count_77 rfl ⟨_, rfl, r7, h⟩
    · have h := h.2.2.2.1 c2
      refine Wa_tabIn (tgt := 78) dX8_count_1 q1 (by omega) (by omega) (by rw [c2]; rfl) (by decide) ?_
      refine Wa_aload_n 0 dX8_count_78 rfl rfl ?_
      refine Wa_getR cf_X8 lk_X8_47 k_0 (j := 6) rfl (by decide) dX8_count_79 ?_
      refine Wa_iload_n 1 dX8_count_82 rfl rfl ?_
      refine Wa_iconst (z := 3) dX8_count_83 ?_
      refine Wa_isub dX8_count_84 ?_
      obtain ⟨q8, h⟩ := h
      refine Wa_callV [vI (l1 - 3)] _ cf_X6 rfl k_71 lc_X8_210 cv_X6_howManyOf rfl rfl (Nat.le_refl _) (Nat.le_of_ble_eq_true rfl) dX8_count_85 h ?_
      intro r M9 h
      obtain ⟨z10, rfl, r11, h⟩ := h
      have h := h r11
      exact Wa_ireturn dX8_count_88 rfl ⟨_, rfl, r11, h⟩
    · have h := h.2.2.2.2.1 c2
      refine Wa_tabIn (tgt := 78) dX8_count_1 q1 (by omega) (by omega) (by rw [c2]; rfl) (by decide) ?_
      refine Wa_aload_n 0 dX8_count_78 rfl rfl ?_
      refine Wa_getR cf_X8 lk_X8_47 k_0 (j := 6) rfl (by decide) dX8_count_79 ?_
      refine Wa_iload_n 1 dX8_count_82 rfl rfl ?_
      refine Wa_iconst (z := 3) dX8_count_83 ?_
      refine Wa_isub dX8_count_84 ?_
      obtain ⟨q12, h⟩ := h
      refine Wa_callV [vI (l1 - 3)] _ cf_X6 rfl k_71 lc_X8_210 cv_X6_howManyOf rfl rfl (Nat.le_refl _) (Nat.le_of_ble_eq_true rfl) dX8_count_85 h ?_
      intro r M13 h
      obtain ⟨z14, rfl, r15, h⟩ := h
      have h := h r15
      exact Wa_ireturn dX8_count_88 rfl ⟨_, rfl, r15, h⟩
    · have h := h.2.2.2.2.2.1 c2
      refine Wa_tabIn (tgt := 78) dX8_count_1 q1 (by omega) (by omega) (by rw [c2]; rfl) (by decide) ?_
      refine Wa_aload_n 0 dX8_count_78 rfl rfl ?_
      refine Wa_getR cf_X8 lk_X8_47 k_0 (j := 6) rfl (by decide) dX8_count_79 ?_
      refine Wa_iload_n 1 dX8_count_82 rfl rfl ?_
      refine Wa_iconst (z := 3) dX8_count_83 ?_
      refine Wa_isub dX8_count_84 ?_
      obtain ⟨q16, h⟩ := h
      refine Wa_callV [vI (l1 - 3)] _ cf_X6 rfl k_71 lc_X8_210 cv_X6_howManyOf rfl rfl (Nat.le_refl _) (Nat.le_of_ble_eq_true rfl) dX8_count_85 h ?_
      intro r M17 h
      obtain ⟨z18, rfl, r19, h⟩ := h
      have h := h r19
      exact Wa_ireturn dX8_count_88 rfl ⟨_, rfl, r19, h⟩
    · have h := h.2.2.2.2.2.2.1 c2
      refine Wa_tabIn (tgt := 78) dX8_count_1 q1 (by omega) (by omega) (by rw [c2]; rfl) (by decide) ?_
      refine Wa_aload_n 0 dX8_count_78 rfl rfl ?_
      refine Wa_getR cf_X8 lk_X8_47 k_0 (j := 6) rfl (by decide) dX8_count_79 ?_
      refine Wa_iload_n 1 dX8_count_82 rfl rfl ?_
      refine Wa_iconst (z := 3) dX8_count_83 ?_
      refine Wa_isub dX8_count_84 ?_
      obtain ⟨q20, h⟩ := h
      refine Wa_callV [vI (l1 - 3)] _ cf_X6 rfl k_71 lc_X8_210 cv_X6_howManyOf rfl rfl (Nat.le_refl _) (Nat.le_of_ble_eq_true rfl) dX8_count_85 h ?_
      intro r M21 h
      obtain ⟨z22, rfl, r23, h⟩ := h
      have h := h r23
      exact Wa_ireturn dX8_count_88 rfl ⟨_, rfl, r23, h⟩
    · have h := h.2.2.2.2.2.2.2.1 c2
      refine Wa_tabIn (tgt := 78) dX8_count_1 q1 (by omega) (by omega) (by rw [c2]; rfl) (by decide) ?_
      refine Wa_aload_n 0 dX8_count_78 rfl rfl ?_
      refine Wa_getR cf_X8 lk_X8_47 k_0 (j := 6) rfl (by decide) dX8_count_79 ?_
      refine Wa_iload_n 1 dX8_count_82 rfl rfl ?_
      refine Wa_iconst (z := 3) dX8_count_83 ?_
      refine Wa_isub dX8_count_84 ?_
      obtain ⟨q24, h⟩ := h
      refine Wa_callV [vI (l1 - 3)] _ cf_X6 rfl k_71 lc_X8_210 cv_X6_howManyOf rfl rfl (Nat.le_refl _) (Nat.le_of_ble_eq_true rfl) dX8_count_85 h ?_
      intro r M25 h
      obtain ⟨z26, rfl, r27, h⟩ := h
      have h := h r27
      exact Wa_ireturn dX8_count_88 rfl ⟨_, rfl, r27, h⟩
    · have h := h.2.2.2.2.2.2.2.2.1 c2
      refine Wa_tabIn (tgt := 89) dX8_count_1 q1 (by omega) (by omega) (by rw [c2]; rfl) (by decide) ?_
      refine Wa_aload_n 0 dX8_count_89 rfl rfl ?_
      refine Wa_getR cf_X8 lk_X8_54 k_0 (j := 7) rfl (by decide) dX8_count_90 ?_
      refine Wa_callV [] _ cf_X4 rfl k_80 lc_X8_213 cv_X4_total rfl rfl (Nat.le_refl _) (Nat.le_of_ble_eq_true rfl) dX8_count_93 h ?_
      intro r M28 h
      obtain ⟨z29, rfl, r30, h⟩ := h
      have h := h r30
      exact Wa_ireturn dX8_count_96 rfl ⟨_, rfl, r30, h⟩
    · have h := h.2.2.2.2.2.2.2.2.2.1 c2
      refine Wa_tabIn (tgt := 97) dX8_count_1 q1 (by omega) (by omega) (by rw [c2]; rfl) (by decide) ?_
      refine Wa_aload_n 0 dX8_count_97 rfl rfl ?_
      refine Wa_getR cf_X8 lk_X8_10 k_0 (j := 0) rfl (by decide) dX8_count_98 ?_
      refine Wa_getI2 (v := (M 1 2)) cf_X3 lk_X8_73 k_1 (j := 2) rfl (by decide) rfl dX8_count_101 (fun r31 => ?_)
      exact Wa_ireturn dX8_count_104 rfl ⟨_, rfl, r31, h⟩
    · have h := h.2.2.2.2.2.2.2.2.2.2 c2
      refine Wa_tabIn (tgt := 105) dX8_count_1 q1 (by omega) (by omega) (by rw [c2]; rfl) (by decide) ?_
      refine Wa_aload_n 0 dX8_count_105 rfl rfl ?_
      refine Wa_getI2 (v := (M 0 10)) cf_X8 lk_X8_65 k_0 (j := 10) rfl (by decide) rfl dX8_count_106 (fun r32 => ?_)
      exact Wa_ireturn dX8_count_109 rfl ⟨_, rfl, r32, h⟩
theorem en_X8_count {g : AG} {d : Nat} {l1 : Int} {M : AM} {Q : Int → AM → Prop} (h : S_X8_count_0 g d l1 M Q) : MetI g mX8_count d [vR 0, vI l1] M Q := MetA.of (by decide) (Nat.le_of_ble_eq_true rfl) h
def S_X8_digest_0 (g : AG) (d : Nat) (M : AM) (Q : Int → AM → Prop) : Prop := Wa g mX8_digest d 0 [(0, vR 0)] [] M (QL Q)
def S_X8_digest_58 (g : AG) (d : Nat) (l1 : Int) (l3 : Int) (M : AM) (Q : Int → AM → Prop) : Prop := Wa g mX8_digest d 58 [(0, vR 0), (1, vL l1), (3, vI l3)] [] M (QL Q)
def S_X8_digest_21 (g : AG) (d : Nat) (l1 : Int) (l3 : Int) (M : AM) (Q : Int → AM → Prop) : Prop := Wa g mX8_digest d 21 [(0, vR 0), (1, vL l1), (3, vI l3)] [] M (QL Q)
def S_X8_digest_101 (g : AG) (d : Nat) (l1 : Int) (l3 : Int) (M : AM) (Q : Int → AM → Prop) : Prop := Wa g mX8_digest d 101 [(0, vR 0), (1, vL l1), (3, vI l3)] [] M (QL Q)
def S_X8_digest_66 (g : AG) (d : Nat) (l1 : Int) (l3 : Int) (l4 : Int) (M : AM) (Q : Int → AM → Prop) : Prop := Wa g mX8_digest d 66 [(0, vR 0), (1, vL l1), (3, vI l3), (4, vI l4)] [] M (QL Q)
def S_X8_digest_137 (g : AG) (d : Nat) (l1 : Int) (l3 : Int) (M : AM) (Q : Int → AM → Prop) : Prop := Wa g mX8_digest d 137 [(0, vR 0), (1, vL l1), (3, vI l3)] [] M (QL Q)
set_option maxRecDepth 100000 in
theorem sg_X8_digest_0 {g : AG} {d : Nat} {M : AM} {Q : Int → AM → Prop} 
  (h : MetL g mX8_digestOfLines d [vR 0, vL 1409] M (fun z2 M1 => MetL g mX8_digestOfScript d [vR 0, vL z2] M1 (fun z5 M4 => ((M4 0 8) = 0 → (S_X8_digest_58 g (d + 1) z5 0 M4 Q)) ∧ (¬ (M4 0 8) = 0 → (S_X8_digest_21 g (d + 1) z5 0 M4 Q))))) : S_X8_digest_0 g (d + 1) M Q := by
  show Wa _ _ _ _ _ _ _ _
  refine Wa_aload_n 0 dX8_digest_0 rfl rfl ?_
  refine Wa_aload_n 0 dX8_digest_1 rfl rfl ?_
  refine Wa_ldc2 (z := 1409) dX8_digest_2 kc_X8_214 ?_
  refine Wa_callV [vL 1409] _ cf_X8 rfl k_0 lc_X8_216 cv_X8_digestOfLines rfl rfl (Nat.le_refl _) (Nat.le_of_ble_eq_true rfl) dX8_digest_5 h ?_
  intro r M1 h
  obtain ⟨z2, rfl, h⟩ := h
  refine Wa_callV [vL z2] _ cf_X8 rfl k_0 lc_X8_220 cv_X8_digestOfScript rfl rfl (Nat.le_refl _) (Nat.le_of_ble_eq_true rfl) dX8_digest_8 h ?_
  intro r M4 h
  obtain ⟨z5, rfl, h⟩ := h
  refine Wa_lstore_n (ls' := [(1, vL z5), (0, vR 0)]) dX8_digest_11 rfl (by decide) rfl ?_
  refine Wa_aload_n 1 dX8_digest_12 rfl rfl ?_
  refine Wa_getI2 (v := (M4 0 8)) cf_X8 lk_X8_58 k_0 (j := 8) rfl (by decide) rfl dX8_digest_13 (fun r7 => ?_)
  refine Wa_if_eq (tgt := 56) dX8_digest_16 (by decide) r7 (fun c8 => ?_) (fun c8 => ?_)
  · have h := h.1 c8
    refine Wa_iconst (z := 0) dX8_digest_56 ?_
    refine Wa_istore_n (ls' := [(3, vI 0), (1, vL z5), (0, vR 0)]) dX8_digest_57 rfl (by decide) rfl ?_
    refine Wa_sub [2, 1, 0] rfl ?_
    exact h
  · have h := h.2 c8
    refine Wa_iconst (z := 0) dX8_digest_19 ?_
    refine Wa_istore_n (ls' := [(3, vI 0), (1, vL z5), (0, vR 0)]) dX8_digest_20 rfl (by decide) rfl ?_
    refine Wa_sub [2, 1, 0] rfl ?_
    exact h
set_option maxRecDepth 100000 in
theorem sg_X8_digest_58 {g : AG} {d : Nat} {l1 : Int} {l3 : Int} {M : AM} {Q : Int → AM → Prop} 
  (h : rg l3 ∧ ((5 ≤ l3 → (S_X8_digest_101 g (d + 1) l1 0 M Q)) ∧ (¬ 5 ≤ l3 → (S_X8_digest_66 g (d + 1) l1 l3 0 M Q)))) : S_X8_digest_58 g (d + 1) l1 l3 M Q := by
  show Wa _ _ _ _ _ _ _ _
  refine Wa_iload_n 2 dX8_digest_58 rfl rfl ?_
  refine Wa_iconst (z := 5) dX8_digest_59 ?_
  obtain ⟨q1, h⟩ := h
  refine Wa_icmp_ge (tgt := 99) dX8_digest_60 (by decide) q1 ⟨by decide, by decide⟩ (fun c2 => ?_) (fun c2 => ?_)
  · have h := h.1 c2
    refine Wa_iconst (z := 0) dX8_digest_99 ?_
    refine Wa_istore_n (ls' := [(3, vI 0), (0, vR 0), (1, vL l1)]) dX8_digest_100 rfl (by decide) rfl ?_
    refine Wa_sub [1, 2, 0] rfl ?_
    exact h
  · have h := h.2 c2
    refine Wa_iconst (z := 0) dX8_digest_63 ?_
    refine Wa_istore (ls' := [(4, vI 0), (0, vR 0), (1, vL l1), (3, vI l3)]) dX8_digest_64 (by decide) rfl ?_
    refine Wa_sub [1, 2, 3, 0] rfl ?_
    exact h
set_option maxRecDepth 100000 in
theorem sg_X8_digest_21 {g : AG} {d : Nat} {l1 : Int} {l3 : Int} {M : AM} {Q : Int → AM → Prop} 
  (h : rg l3 ∧ ((5 ≤ l3 → (MetL g mX8_all d [vR 0] M (fun z4 M3 => S_X8_digest_58 g (d + 1) ((31 * l1) + z4) 0 M3 Q))) ∧ (¬ 5 ≤ l3 → (MetI g mX8_cost d [vR 0, vI l3] M (fun z7 M6 => rg z7 → (S_X8_digest_21 g (d + 1) ((31 * l1) + z7) (l3 + 1) M6 Q)))))) : S_X8_digest_21 g (d + 1) l1 l3 M Q := by
  show Wa _ _ _ _ _ _ _ _
  refine Wa_iload_n 2 dX8_digest_21 rfl rfl ?_
  refine Wa_iconst (z := 5) dX8_digest_22 ?_
  obtain ⟨q1, h⟩ := h
  refine Wa_icmp_ge (tgt := 45) dX8_digest_23 (by decide) q1 ⟨by decide, by decide⟩ (fun c2 => ?_) (fun c2 => ?_)
  · have h := h.1 c2
    refine Wa_ldc2 (z := 31) dX8_digest_45 kc_X8_223 ?_
    refine Wa_lload_n 1 dX8_digest_48 rfl rfl ?_
    refine Wa_lmul dX8_digest_49 ?_
    refine Wa_aload_n 0 dX8_digest_50 rfl rfl ?_
    refine Wa_callV [] _ cf_X8 rfl k_0 lc_X8_228 cv_X8_all rfl rfl (Nat.le_refl _) (Nat.le_of_ble_eq_true rfl) dX8_digest_51 h ?_
    intro r M3 h
    obtain ⟨z4, rfl, h⟩ := h
    refine Wa_ladd dX8_digest_54 ?_
    refine Wa_lstore_n (ls' := [(1, vL ((31 * l1) + z4)), (0, vR 0), (3, vI l3)]) dX8_digest_55 rfl (by decide) rfl ?_
    refine Wa_iconst (z := 0) dX8_digest_56 ?_
    refine Wa_istore_n (ls' := [(3, vI 0), (1, vL ((31 * l1) + z4)), (0, vR 0)]) dX8_digest_57 rfl (by decide) rfl ?_
    refine Wa_sub [2, 1, 0] rfl ?_
    exact h
  · have h := h.2 c2
    refine Wa_ldc2 (z := 31) dX8_digest_26 kc_X8_223 ?_
    refine Wa_lload_n 1 dX8_digest_29 rfl rfl ?_
    refine Wa_lmul dX8_digest_30 ?_
    refine Wa_aload_n 0 dX8_digest_31 rfl rfl ?_
    refine Wa_iload_n 2 dX8_digest_32 rfl rfl ?_
    refine Wa_callV [vI l3] _ cf_X8 rfl k_0 lc_X8_225 cv_X8_cost rfl rfl (Nat.le_refl _) (Nat.le_of_ble_eq_true rfl) dX8_digest_33 h ?_
    intro r M6 h
    obtain ⟨z7, rfl, r8, h⟩ := h
    have h := h r8
    refine Wa_i2l dX8_digest_36 r8 ?_
    refine Wa_ladd dX8_digest_37 ?_
    refine Wa_lstore_n (ls' := [(1, vL ((31 * l1) + z7)), (0, vR 0), (3, vI l3)]) dX8_digest_38 rfl (by decide) rfl ?_
    refine Wa_iinc (ls' := [(3, vI (l3 + 1)), (1, vL ((31 * l1) + z7)), (0, vR 0)]) 2 dX8_digest_39 rfl (by decide) rfl ?_
    refine Wa_goto (tgt := 21) dX8_digest_42 (by decide) ?_
    refine Wa_sub [2, 1, 0] rfl ?_
    exact h
set_option maxRecDepth 100000 in
theorem sg_X8_digest_101 {g : AG} {d : Nat} {l1 : Int} {l3 : Int} {M : AM} {Q : Int → AM → Prop} 
  (h : rg l3 ∧ (((M 1 2) ≤ l3 → (S_X8_digest_137 g (d + 1) l1 0 M Q)) ∧ (¬ (M 1 2) ≤ l3 → ((0 ≤ l3 ∧ l3 < 64) ∧ (S_X8_digest_101 g (d + 1) ((31 * l1) + (M 2 (l3).toNat)) (l3 + 1) M Q))))) : S_X8_digest_101 g (d + 1) l1 l3 M Q := by
  show Wa _ _ _ _ _ _ _ _
  refine Wa_iload_n 2 dX8_digest_101 rfl rfl ?_
  refine Wa_aload_n 0 dX8_digest_102 rfl rfl ?_
  refine Wa_getR cf_X8 lk_X8_10 k_0 (j := 0) rfl (by decide) dX8_digest_103 ?_
  refine Wa_getI2 (v := (M 1 2)) cf_X3 lk_X8_73 k_1 (j := 2) rfl (by decide) rfl dX8_digest_106 (fun r1 => ?_)
  obtain ⟨q2, h⟩ := h
  refine Wa_icmp_ge (tgt := 135) dX8_digest_109 (by decide) q2 r1 (fun c3 => ?_) (fun c3 => ?_)
  · have h := h.1 c3
    refine Wa_iconst (z := 0) dX8_digest_135 ?_
    refine Wa_istore_n (ls' := [(3, vI 0), (0, vR 0), (1, vL l1)]) dX8_digest_136 rfl (by decide) rfl ?_
    refine Wa_sub [1, 2, 0] rfl ?_
    exact h
  · have h := h.2 c3
    refine Wa_ldc2 (z := 31) dX8_digest_112 kc_X8_223 ?_
    refine Wa_lload_n 1 dX8_digest_115 rfl rfl ?_
    refine Wa_lmul dX8_digest_116 ?_
    refine Wa_aload_n 0 dX8_digest_117 rfl rfl ?_
    refine Wa_getR cf_X8 lk_X8_10 k_0 (j := 0) rfl (by decide) dX8_digest_118 ?_
    refine Wa_getR cf_X3 lk_X8_235 k_1 (j := 0) rfl (by decide) dX8_digest_121 ?_
    refine Wa_iload_n 2 dX8_digest_124 rfl rfl ?_
    obtain ⟨b4, h⟩ := h
    refine Wa_iald2 (v := (M 2 (l3).toNat)) k_2 b4 rfl dX8_digest_125 (fun r5 => ?_)
    refine Wa_i2l dX8_digest_126 r5 ?_
    refine Wa_ladd dX8_digest_127 ?_
    refine Wa_lstore_n (ls' := [(1, vL ((31 * l1) + (M 2 (l3).toNat))), (0, vR 0), (3, vI l3)]) dX8_digest_128 rfl (by decide) rfl ?_
    refine Wa_iinc (ls' := [(3, vI (l3 + 1)), (1, vL ((31 * l1) + (M 2 (l3).toNat))), (0, vR 0)]) 2 dX8_digest_129 rfl (by decide) rfl ?_
    refine Wa_goto (tgt := 101) dX8_digest_132 (by decide) ?_
    refine Wa_sub [2, 1, 0] rfl ?_
    exact h
set_option maxRecDepth 100000 in
theorem sg_X8_digest_66 {g : AG} {d : Nat} {l1 : Int} {l3 : Int} {l4 : Int} {M : AM} {Q : Int → AM → Prop} 
  (h : rg l4 ∧ ((3 ≤ l4 → (S_X8_digest_58 g (d + 1) l1 (l3 + 1) M Q)) ∧ (¬ 3 ≤ l4 → (rg l3 ∧ (MetI g mX8_racked d [vR 0, vI l3, vI l4] M (fun z5 M4 => rg z5 → (S_X8_digest_66 g (d + 1) ((31 * l1) + z5) l3 (l4 + 1) M4 Q))))))) : S_X8_digest_66 g (d + 1) l1 l3 l4 M Q := by
  show Wa _ _ _ _ _ _ _ _
  refine Wa_iload 3 dX8_digest_66 rfl ?_
  refine Wa_iconst (z := 3) dX8_digest_68 ?_
  obtain ⟨q1, h⟩ := h
  refine Wa_icmp_ge (tgt := 93) dX8_digest_69 (by decide) q1 ⟨by decide, by decide⟩ (fun c2 => ?_) (fun c2 => ?_)
  · have h := h.1 c2
    refine Wa_iinc (ls' := [(3, vI (l3 + 1)), (0, vR 0), (1, vL l1), (4, vI l4)]) 2 dX8_digest_93 rfl (by decide) rfl ?_
    refine Wa_goto (tgt := 58) dX8_digest_96 (by decide) ?_
    refine Wa_sub [1, 2, 0] rfl ?_
    exact h
  · have h := h.2 c2
    refine Wa_ldc2 (z := 31) dX8_digest_72 kc_X8_223 ?_
    refine Wa_lload_n 1 dX8_digest_75 rfl rfl ?_
    refine Wa_lmul dX8_digest_76 ?_
    refine Wa_aload_n 0 dX8_digest_77 rfl rfl ?_
    refine Wa_iload_n 2 dX8_digest_78 rfl rfl ?_
    refine Wa_iload 3 dX8_digest_79 rfl ?_
    obtain ⟨q3, h⟩ := h
    refine Wa_callV [vI l3, vI l4] _ cf_X8 rfl k_0 lc_X8_232 cv_X8_racked rfl rfl (Nat.le_refl _) (Nat.le_of_ble_eq_true rfl) dX8_digest_81 h ?_
    intro r M4 h
    obtain ⟨z5, rfl, r6, h⟩ := h
    have h := h r6
    refine Wa_i2l dX8_digest_84 r6 ?_
    refine Wa_ladd dX8_digest_85 ?_
    refine Wa_lstore_n (ls' := [(1, vL ((31 * l1) + z5)), (0, vR 0), (3, vI l3), (4, vI l4)]) dX8_digest_86 rfl (by decide) rfl ?_
    refine Wa_iinc (ls' := [(4, vI (l4 + 1)), (1, vL ((31 * l1) + z5)), (0, vR 0), (3, vI l3)]) 3 dX8_digest_87 rfl (by decide) rfl ?_
    refine Wa_goto (tgt := 66) dX8_digest_90 (by decide) ?_
    refine Wa_sub [2, 1, 3, 0] rfl ?_
    exact h
set_option maxRecDepth 100000 in
theorem sg_X8_digest_137 {g : AG} {d : Nat} {l1 : Int} {l3 : Int} {M : AM} {Q : Int → AM → Prop} 
  (h : rg l3 ∧ ((11 ≤ l3 → (Q l1 M)) ∧ (¬ 11 ≤ l3 → (MetI g mX8_count d [vR 0, vI l3] M (fun z4 M3 => rg z4 → (S_X8_digest_137 g (d + 1) ((31 * l1) + z4) (l3 + 1) M3 Q)))))) : S_X8_digest_137 g (d + 1) l1 l3 M Q := by
  show Wa _ _ _ _ _ _ _ _
  refine Wa_iload_n 2 dX8_digest_137 rfl rfl ?_
  refine Wa_bipush (z := 11) dX8_digest_138 (by decide) ?_
  obtain ⟨q1, h⟩ := h
  refine Wa_icmp_ge (tgt := 162) dX8_digest_140 (by decide) q1 ⟨by decide, by decide⟩ (fun c2 => ?_) (fun c2 => ?_)
  · have h := h.1 c2
    refine Wa_lload_n 1 dX8_digest_162 rfl rfl ?_
    exact Wa_lreturn dX8_digest_163 rfl ⟨_, rfl, h⟩
  · have h := h.2 c2
    refine Wa_ldc2 (z := 31) dX8_digest_143 kc_X8_223 ?_
    refine Wa_lload_n 1 dX8_digest_146 rfl rfl ?_
    refine Wa_lmul dX8_digest_147 ?_
    refine Wa_aload_n 0 dX8_digest_148 rfl rfl ?_
    refine Wa_iload_n 2 dX8_digest_149 rfl rfl ?_
    refine Wa_callV [vI l3] _ cf_X8 rfl k_0 lc_X8_238 cv_X8_count rfl rfl (Nat.le_refl _) (Nat.le_of_ble_eq_true rfl) dX8_digest_150 h ?_
    intro r M3 h
    obtain ⟨z4, rfl, r5, h⟩ := h
    have h := h r5
    refine Wa_i2l dX8_digest_153 r5 ?_
    refine Wa_ladd dX8_digest_154 ?_
    refine Wa_lstore_n (ls' := [(1, vL ((31 * l1) + z4)), (0, vR 0), (3, vI l3)]) dX8_digest_155 rfl (by decide) rfl ?_
    refine Wa_iinc (ls' := [(3, vI (l3 + 1)), (1, vL ((31 * l1) + z4)), (0, vR 0)]) 2 dX8_digest_156 rfl (by decide) rfl ?_
    refine Wa_goto (tgt := 137) dX8_digest_159 (by decide) ?_
    refine Wa_sub [2, 1, 0] rfl ?_
    exact h
theorem en_X8_digest {g : AG} {d : Nat} {M : AM} {Q : Int → AM → Prop} (h : S_X8_digest_0 g d M Q) : MetL g mX8_digest d [vR 0] M Q := MetA.of (by decide) (Nat.le_of_ble_eq_true rfl) h
def S_X8_digestOfLines_0 (g : AG) (d : Nat) (l1 : Int) (M : AM) (Q : Int → AM → Prop) : Prop := Wa g mX8_digestOfLines d 0 [(0, vR 0), (1, vL l1)] [] M (QL Q)
def S_X8_digestOfLines_5 (g : AG) (d : Nat) (l3 : Int) (l5 : Int) (M : AM) (Q : Int → AM → Prop) : Prop := Wa g mX8_digestOfLines d 5 [(0, vR 0), (3, vL l3), (5, vI l5)] [] M (QL Q)
def S_X8_digestOfLines_14 (g : AG) (d : Nat) (l3 : Int) (l5 : Int) (l6 : Int) (M : AM) (Q : Int → AM → Prop) : Prop := Wa g mX8_digestOfLines d 14 [(0, vR 0), (3, vL l3), (5, vI l5), (6, vI l6)] [] M (QL Q)
def S_X8_digestOfLines_32 (g : AG) (d : Nat) (l3 : Int) (l5 : Int) (l6 : Int) (l7 : Int) (M : AM) (Q : Int → AM → Prop) : Prop := Wa g mX8_digestOfLines d 32 [(0, vR 0), (3, vL l3), (5, vI l5), (6, vI l6), (7, vI l7)] [] M (QL Q)
set_option maxRecDepth 100000 in
theorem sg_X8_digestOfLines_0 {g : AG} {d : Nat} {l1 : Int} {M : AM} {Q : Int → AM → Prop} 
  (h : S_X8_digestOfLines_5 g (d + 1) l1 0 M Q) : S_X8_digestOfLines_0 g (d + 1) l1 M Q := by
  show Wa _ _ _ _ _ _ _ _
  refine Wa_lload_n 1 dX8_digestOfLines_0 rfl rfl ?_
  refine Wa_lstore_n (ls' := [(3, vL l1), (0, vR 0), (1, vL l1)]) dX8_digestOfLines_1 rfl (by decide) rfl ?_
  refine Wa_iconst (z := 0) dX8_digestOfLines_2 ?_
  refine Wa_istore (ls' := [(5, vI 0), (3, vL l1), (0, vR 0), (1, vL l1)]) dX8_digestOfLines_3 (by decide) rfl ?_
  refine Wa_sub [2, 1, 0] rfl ?_
  exact h
set_option maxRecDepth 100000 in
theorem sg_X8_digestOfLines_5 {g : AG} {d : Nat} {l3 : Int} {l5 : Int} {M : AM} {Q : Int → AM → Prop} 
  (h : rg l5 ∧ ((2 ≤ l5 → (Q l3 M)) ∧ (¬ 2 ≤ l5 → (S_X8_digestOfLines_14 g (d + 1) l3 l5 0 M Q)))) : S_X8_digestOfLines_5 g (d + 1) l3 l5 M Q := by
  show Wa _ _ _ _ _ _ _ _
  refine Wa_iload 2 dX8_digestOfLines_5 rfl ?_
  refine Wa_iconst (z := 2) dX8_digestOfLines_7 ?_
  obtain ⟨q1, h⟩ := h
  refine Wa_icmp_ge (tgt := 75) dX8_digestOfLines_8 (by decide) q1 ⟨by decide, by decide⟩ (fun c2 => ?_) (fun c2 => ?_)
  · have h := h.1 c2
    refine Wa_lload_n 1 dX8_digestOfLines_75 rfl rfl ?_
    exact Wa_lreturn dX8_digestOfLines_76 rfl ⟨_, rfl, h⟩
  · have h := h.2 c2
    refine Wa_iconst (z := 0) dX8_digestOfLines_11 ?_
    refine Wa_istore (ls' := [(6, vI 0), (0, vR 0), (3, vL l3), (5, vI l5)]) dX8_digestOfLines_12 (by decide) rfl ?_
    refine Wa_sub [1, 2, 3, 0] rfl ?_
    exact h
set_option maxRecDepth 100000 in
theorem sg_X8_digestOfLines_14 {g : AG} {d : Nat} {l3 : Int} {l5 : Int} {l6 : Int} {M : AM} {Q : Int → AM → Prop} 
  (h : (0 ≤ l5 ∧ l5 < 2) ∧ (rg l6 ∧ (((M 9 (l5).toNat) ≤ l6 → (S_X8_digestOfLines_5 g (d + 1) l3 (l5 + 1) M Q)) ∧ (¬ (M 9 (l5).toNat) ≤ l6 → (S_X8_digestOfLines_32 g (d + 1) l3 l5 l6 0 M Q))))) : S_X8_digestOfLines_14 g (d + 1) l3 l5 l6 M Q := by
  show Wa _ _ _ _ _ _ _ _
  refine Wa_iload 3 dX8_digestOfLines_14 rfl ?_
  refine Wa_aload_n 0 dX8_digestOfLines_16 rfl rfl ?_
  refine Wa_getR cf_X8 lk_X8_27 k_0 (j := 2) rfl (by decide) dX8_digestOfLines_17 ?_
  refine Wa_getR cf_X7 lk_X8_158 k_5 (j := 1) rfl (by decide) dX8_digestOfLines_20 ?_
  refine Wa_iload 2 dX8_digestOfLines_23 rfl ?_
  obtain ⟨b1, h⟩ := h
  refine Wa_iald2 (v := (M 9 (l5).toNat)) k_9 b1 rfl dX8_digestOfLines_25 (fun r2 => ?_)
  obtain ⟨q3, h⟩ := h
  refine Wa_icmp_ge (tgt := 69) dX8_digestOfLines_26 (by decide) q3 r2 (fun c4 => ?_) (fun c4 => ?_)
  · have h := h.1 c4
    refine Wa_iinc (ls' := [(5, vI (l5 + 1)), (0, vR 0), (3, vL l3), (6, vI l6)]) 2 dX8_digestOfLines_69 rfl (by decide) rfl ?_
    refine Wa_goto (tgt := 5) dX8_digestOfLines_72 (by decide) ?_
    refine Wa_sub [1, 2, 0] rfl ?_
    exact h
  · have h := h.2 c4
    refine Wa_iconst (z := 0) dX8_digestOfLines_29 ?_
    refine Wa_istore (ls' := [(7, vI 0), (0, vR 0), (3, vL l3), (5, vI l5), (6, vI l6)]) dX8_digestOfLines_30 (by decide) rfl ?_
    refine Wa_sub [1, 2, 3, 4, 0] rfl ?_
    exact h
set_option maxRecDepth 100000 in
theorem sg_X8_digestOfLines_32 {g : AG} {d : Nat} {l3 : Int} {l5 : Int} {l6 : Int} {l7 : Int} {M : AM} {Q : Int → AM → Prop} 
  (h : rg l7 ∧ ((6 ≤ l7 → (S_X8_digestOfLines_14 g (d + 1) l3 l5 (l6 + 1) M Q)) ∧ (¬ 6 ≤ l7 → (rg l5 ∧ (rg l6 ∧ (MetI g mX8_line d [vR 0, vI l5, vI l6, vI l7] M (fun z6 M5 => rg z6 → (S_X8_digestOfLines_32 g (d + 1) ((31 * l3) + z6) l5 l6 (l7 + 1) M5 Q)))))))) : S_X8_digestOfLines_32 g (d + 1) l3 l5 l6 l7 M Q := by
  show Wa _ _ _ _ _ _ _ _
  refine Wa_iload 4 dX8_digestOfLines_32 rfl ?_
  refine Wa_bipush (z := 6) dX8_digestOfLines_34 (by decide) ?_
  obtain ⟨q1, h⟩ := h
  refine Wa_icmp_ge (tgt := 63) dX8_digestOfLines_36 (by decide) q1 ⟨by decide, by decide⟩ (fun c2 => ?_) (fun c2 => ?_)
  · have h := h.1 c2
    refine Wa_iinc (ls' := [(6, vI (l6 + 1)), (0, vR 0), (3, vL l3), (5, vI l5), (7, vI l7)]) 3 dX8_digestOfLines_63 rfl (by decide) rfl ?_
    refine Wa_goto (tgt := 14) dX8_digestOfLines_66 (by decide) ?_
    refine Wa_sub [1, 2, 3, 0] rfl ?_
    exact h
  · have h := h.2 c2
    refine Wa_ldc2 (z := 31) dX8_digestOfLines_39 kc_X8_223 ?_
    refine Wa_lload_n 1 dX8_digestOfLines_42 rfl rfl ?_
    refine Wa_lmul dX8_digestOfLines_43 ?_
    refine Wa_aload_n 0 dX8_digestOfLines_44 rfl rfl ?_
    refine Wa_iload 2 dX8_digestOfLines_45 rfl ?_
    refine Wa_iload 3 dX8_digestOfLines_47 rfl ?_
    refine Wa_iload 4 dX8_digestOfLines_49 rfl ?_
    obtain ⟨q3, h⟩ := h
    obtain ⟨q4, h⟩ := h
    refine Wa_callV [vI l5, vI l6, vI l7] _ cf_X8 rfl k_0 lc_X8_241 cv_X8_line rfl rfl (Nat.le_refl _) (Nat.le_of_ble_eq_true rfl) dX8_digestOfLines_51 h ?_
    intro r M5 h
    obtain ⟨z6, rfl, r7, h⟩ := h
    have h := h r7
    refine Wa_i2l dX8_digestOfLines_54 r7 ?_
    refine Wa_ladd dX8_digestOfLines_55 ?_
    refine Wa_lstore_n (ls' := [(3, vL ((31 * l3) + z6)), (0, vR 0), (5, vI l5), (6, vI l6), (7, vI l7)]) dX8_digestOfLines_56 rfl (by decide) rfl ?_
    refine Wa_iinc (ls' := [(7, vI (l7 + 1)), (3, vL ((31 * l3) + z6)), (0, vR 0), (5, vI l5), (6, vI l6)]) 4 dX8_digestOfLines_57 rfl (by decide) rfl ?_
    refine Wa_goto (tgt := 32) dX8_digestOfLines_60 (by decide) ?_
    refine Wa_sub [2, 1, 3, 4, 0] rfl ?_
    exact h
theorem en_X8_digestOfLines {g : AG} {d : Nat} {l1 : Int} {M : AM} {Q : Int → AM → Prop} (h : S_X8_digestOfLines_0 g d l1 M Q) : MetL g mX8_digestOfLines d [vR 0, vL l1] M Q := MetA.of (by decide) (Nat.le_of_ble_eq_true rfl) h
def S_X8_digestOfScript_0 (g : AG) (d : Nat) (l1 : Int) (M : AM) (Q : Int → AM → Prop) : Prop := Wa g mX8_digestOfScript d 0 [(0, vR 0), (1, vL l1)] [] M (QL Q)
def S_X8_digestOfScript_5 (g : AG) (d : Nat) (l3 : Int) (l5 : Int) (M : AM) (Q : Int → AM → Prop) : Prop := Wa g mX8_digestOfScript d 5 [(0, vR 0), (3, vL l3), (5, vI l5)] [] M (QL Q)
def S_X8_digestOfScript_20 (g : AG) (d : Nat) (l3 : Int) (l5 : Int) (l6 : Int) (M : AM) (Q : Int → AM → Prop) : Prop := Wa g mX8_digestOfScript d 20 [(0, vR 0), (3, vL l3), (5, vI l5), (6, vI l6)] [] M (QL Q)
set_option maxRecDepth 100000 in
theorem sg_X8_digestOfScript_0 {g : AG} {d : Nat} {l1 : Int} {M : AM} {Q : Int → AM → Prop} 
  (h : S_X8_digestOfScript_5 g (d + 1) l1 0 M Q) : S_X8_digestOfScript_0 g (d + 1) l1 M Q := by
  show Wa _ _ _ _ _ _ _ _
  refine Wa_lload_n 1 dX8_digestOfScript_0 rfl rfl ?_
  refine Wa_lstore_n (ls' := [(3, vL l1), (0, vR 0), (1, vL l1)]) dX8_digestOfScript_1 rfl (by decide) rfl ?_
  refine Wa_iconst (z := 0) dX8_digestOfScript_2 ?_
  refine Wa_istore (ls' := [(5, vI 0), (3, vL l1), (0, vR 0), (1, vL l1)]) dX8_digestOfScript_3 (by decide) rfl ?_
  refine Wa_sub [2, 1, 0] rfl ?_
  exact h
set_option maxRecDepth 100000 in
theorem sg_X8_digestOfScript_5 {g : AG} {d : Nat} {l3 : Int} {l5 : Int} {M : AM} {Q : Int → AM → Prop} 
  (h : rg l5 ∧ (((M 71 6) ≤ l5 → (Q l3 M)) ∧ (¬ (M 71 6) ≤ l5 → (S_X8_digestOfScript_20 g (d + 1) l3 l5 0 M Q)))) : S_X8_digestOfScript_5 g (d + 1) l3 l5 M Q := by
  show Wa _ _ _ _ _ _ _ _
  refine Wa_iload 2 dX8_digestOfScript_5 rfl ?_
  refine Wa_aload_n 0 dX8_digestOfScript_7 rfl rfl ?_
  refine Wa_getR cf_X8 lk_X8_47 k_0 (j := 6) rfl (by decide) dX8_digestOfScript_8 ?_
  refine Wa_getI2 (v := (M 71 6)) cf_X6 lk_X8_209 k_71 (j := 6) rfl (by decide) rfl dX8_digestOfScript_11 (fun r1 => ?_)
  obtain ⟨q2, h⟩ := h
  refine Wa_icmp_ge (tgt := 54) dX8_digestOfScript_14 (by decide) q2 r1 (fun c3 => ?_) (fun c3 => ?_)
  · have h := h.1 c3
    refine Wa_lload_n 1 dX8_digestOfScript_54 rfl rfl ?_
    exact Wa_lreturn dX8_digestOfScript_55 rfl ⟨_, rfl, h⟩
  · have h := h.2 c3
    refine Wa_iconst (z := 0) dX8_digestOfScript_17 ?_
    refine Wa_istore (ls' := [(6, vI 0), (0, vR 0), (3, vL l3), (5, vI l5)]) dX8_digestOfScript_18 (by decide) rfl ?_
    refine Wa_sub [1, 2, 3, 0] rfl ?_
    exact h
set_option maxRecDepth 100000 in
theorem sg_X8_digestOfScript_20 {g : AG} {d : Nat} {l3 : Int} {l5 : Int} {l6 : Int} {M : AM} {Q : Int → AM → Prop} 
  (h : rg l6 ∧ ((5 ≤ l6 → (S_X8_digestOfScript_5 g (d + 1) l3 (l5 + 1) M Q)) ∧ (¬ 5 ≤ l6 → (rg l5 ∧ (MetI g mX8_step d [vR 0, vI l5, vI l6] M (fun z5 M4 => rg z5 → (S_X8_digestOfScript_20 g (d + 1) ((31 * l3) + z5) l5 (l6 + 1) M4 Q))))))) : S_X8_digestOfScript_20 g (d + 1) l3 l5 l6 M Q := by
  show Wa _ _ _ _ _ _ _ _
  refine Wa_iload 3 dX8_digestOfScript_20 rfl ?_
  refine Wa_iconst (z := 5) dX8_digestOfScript_22 ?_
  obtain ⟨q1, h⟩ := h
  refine Wa_icmp_ge (tgt := 48) dX8_digestOfScript_23 (by decide) q1 ⟨by decide, by decide⟩ (fun c2 => ?_) (fun c2 => ?_)
  · have h := h.1 c2
    refine Wa_iinc (ls' := [(5, vI (l5 + 1)), (0, vR 0), (3, vL l3), (6, vI l6)]) 2 dX8_digestOfScript_48 rfl (by decide) rfl ?_
    refine Wa_goto (tgt := 5) dX8_digestOfScript_51 (by decide) ?_
    refine Wa_sub [1, 2, 0] rfl ?_
    exact h
  · have h := h.2 c2
    refine Wa_ldc2 (z := 31) dX8_digestOfScript_26 kc_X8_223 ?_
    refine Wa_lload_n 1 dX8_digestOfScript_29 rfl rfl ?_
    refine Wa_lmul dX8_digestOfScript_30 ?_
    refine Wa_aload_n 0 dX8_digestOfScript_31 rfl rfl ?_
    refine Wa_iload 2 dX8_digestOfScript_32 rfl ?_
    refine Wa_iload 3 dX8_digestOfScript_34 rfl ?_
    obtain ⟨q3, h⟩ := h
    refine Wa_callV [vI l5, vI l6] _ cf_X8 rfl k_0 lc_X8_245 cv_X8_step rfl rfl (Nat.le_refl _) (Nat.le_of_ble_eq_true rfl) dX8_digestOfScript_36 h ?_
    intro r M4 h
    obtain ⟨z5, rfl, r6, h⟩ := h
    have h := h r6
    refine Wa_i2l dX8_digestOfScript_39 r6 ?_
    refine Wa_ladd dX8_digestOfScript_40 ?_
    refine Wa_lstore_n (ls' := [(3, vL ((31 * l3) + z5)), (0, vR 0), (5, vI l5), (6, vI l6)]) dX8_digestOfScript_41 rfl (by decide) rfl ?_
    refine Wa_iinc (ls' := [(6, vI (l6 + 1)), (3, vL ((31 * l3) + z5)), (0, vR 0), (5, vI l5)]) 3 dX8_digestOfScript_42 rfl (by decide) rfl ?_
    refine Wa_goto (tgt := 20) dX8_digestOfScript_45 (by decide) ?_
    refine Wa_sub [2, 1, 3, 0] rfl ?_
    exact h
theorem en_X8_digestOfScript {g : AG} {d : Nat} {l1 : Int} {M : AM} {Q : Int → AM → Prop} (h : S_X8_digestOfScript_0 g d l1 M Q) : MetL g mX8_digestOfScript d [vR 0, vL l1] M Q := MetA.of (by decide) (Nat.le_of_ble_eq_true rfl) h
def S_X8_compareAnew_0 (g : AG) (d : Nat) (M : AM) (Q : Int → AM → Prop) : Prop := Wa g mX8_compareAnew d 0 [(0, vR 0)] [] M (QI Q)
set_option maxRecDepth 100000 in
theorem sg_X8_compareAnew_0 {g : AG} {d : Nat} {M : AM} {Q : Int → AM → Prop} 
  (h : MetV g mX2_compare d [vR 4] M (fun M1 => MetV g mX6_build d [vR 71, vR 4, vR 57] M1 (fun M4 => MetV g mX4_clear d [vR 80] M4 (fun M7 => Q (M7 71 6) M7)))) : S_X8_compareAnew_0 g (d + 1) M Q := by
  show Wa _ _ _ _ _ _ _ _
  refine Wa_aload_n 0 dX8_compareAnew_0 rfl rfl ?_
  refine Wa_getR cf_X8 lk_X8_19 k_0 (j := 1) rfl (by decide) dX8_compareAnew_1 ?_
  refine Wa_callV [] _ cf_X2 rfl k_4 lc_X8_248 cv_X2_compare rfl rfl (Nat.le_refl _) (Nat.le_of_ble_eq_true rfl) dX8_compareAnew_4 h ?_
  intro r M1 h
  obtain ⟨rfl, h⟩ := h
  refine Wa_aload_n 0 dX8_compareAnew_7 rfl rfl ?_
  refine Wa_getR cf_X8 lk_X8_47 k_0 (j := 6) rfl (by decide) dX8_compareAnew_8 ?_
  refine Wa_aload_n 0 dX8_compareAnew_11 rfl rfl ?_
  refine Wa_getR cf_X8 lk_X8_19 k_0 (j := 1) rfl (by decide) dX8_compareAnew_12 ?_
  refine Wa_aload_n 0 dX8_compareAnew_15 rfl rfl ?_
  refine Wa_getR cf_X8 lk_X8_40 k_0 (j := 5) rfl (by decide) dX8_compareAnew_16 ?_
  refine Wa_callV [vR 4, vR 57] _ cf_X6 rfl k_71 lc_X8_251 cv_X6_build rfl rfl (Nat.le_refl _) (Nat.le_of_ble_eq_true rfl) dX8_compareAnew_19 h ?_
  intro r M4 h
  obtain ⟨rfl, h⟩ := h
  refine Wa_aload_n 0 dX8_compareAnew_22 rfl rfl ?_
  refine Wa_getR cf_X8 lk_X8_54 k_0 (j := 7) rfl (by decide) dX8_compareAnew_23 ?_
  refine Wa_callV [] _ cf_X4 rfl k_80 lc_X8_255 cv_X4_clear rfl rfl (Nat.le_refl _) (Nat.le_of_ble_eq_true rfl) dX8_compareAnew_26 h ?_
  intro r M7 h
  obtain ⟨rfl, h⟩ := h
  refine Wa_aload_n 0 dX8_compareAnew_29 rfl rfl ?_
  refine Wa_getR cf_X8 lk_X8_47 k_0 (j := 6) rfl (by decide) dX8_compareAnew_30 ?_
  refine Wa_getI2 (v := (M7 71 6)) cf_X6 lk_X8_209 k_71 (j := 6) rfl (by decide) rfl dX8_compareAnew_33 (fun r10 => ?_)
  exact Wa_ireturn dX8_compareAnew_36 rfl ⟨_, rfl, r10, h⟩
theorem en_X8_compareAnew {g : AG} {d : Nat} {M : AM} {Q : Int → AM → Prop} (h : S_X8_compareAnew_0 g d M Q) : MetI g mX8_compareAnew d [vR 0] M Q := MetA.of (by decide) (Nat.le_of_ble_eq_true rfl) h
def S_X8_costOfPutting_0 (g : AG) (d : Nat) (l1 : Int) (l2 : Int) (M : AM) (Q : Int → AM → Prop) : Prop := Wa g mX8_costOfPutting d 0 [(0, vR 0), (1, vI l1), (2, vI l2)] [] M (QI Q)
set_option maxRecDepth 100000 in
theorem sg_X8_costOfPutting_0 {g : AG} {d : Nat} {l1 : Int} {l2 : Int} {M : AM} {Q : Int → AM → Prop} 
  (h : MetV g mX7_copyFrom d [vR 29, vR 5] M (fun M1 => rg l1 ∧ (rg l2 ∧ (MetV g mX7_insert d [vR 29, vI 1, vI l1, vI l2] M1 (fun M6 => MetV g mX2_compare d [vR 28] M6 (fun M9 => MetI g mX2_notKept d [vR 28] M9 (fun z13 M12 => rg z13 → (Q z13 M12)))))))) : S_X8_costOfPutting_0 g (d + 1) l1 l2 M Q := by
  show Wa _ _ _ _ _ _ _ _
  refine Wa_aload_n 0 dX8_costOfPutting_0 rfl rfl ?_
  refine Wa_getR cf_X8 lk_X8_28 k_0 (j := 3) rfl (by decide) dX8_costOfPutting_1 ?_
  refine Wa_getR cf_X2 lk_X8_23 k_28 (j := 0) rfl (by decide) dX8_costOfPutting_4 ?_
  refine Wa_aload_n 0 dX8_costOfPutting_7 rfl rfl ?_
  refine Wa_getR cf_X8 lk_X8_27 k_0 (j := 2) rfl (by decide) dX8_costOfPutting_8 ?_
  refine Wa_callV [vR 5] _ cf_X7 rfl k_29 lc_X8_206 cv_X7_copyFrom rfl rfl (Nat.le_refl _) (Nat.le_of_ble_eq_true rfl) dX8_costOfPutting_11 h ?_
  intro r M1 h
  obtain ⟨rfl, h⟩ := h
  refine Wa_aload_n 0 dX8_costOfPutting_14 rfl rfl ?_
  refine Wa_getR cf_X8 lk_X8_28 k_0 (j := 3) rfl (by decide) dX8_costOfPutting_15 ?_
  refine Wa_getR cf_X2 lk_X8_23 k_28 (j := 0) rfl (by decide) dX8_costOfPutting_18 ?_
  refine Wa_iconst (z := 1) dX8_costOfPutting_21 ?_
  refine Wa_iload_n 1 dX8_costOfPutting_22 rfl rfl ?_
  refine Wa_iload_n 2 dX8_costOfPutting_23 rfl rfl ?_
  obtain ⟨q4, h⟩ := h
  obtain ⟨q5, h⟩ := h
  refine Wa_callV [vI 1, vI l1, vI l2] _ cf_X7 rfl k_29 lc_X8_162 cv_X7_insert rfl rfl (Nat.le_refl _) (Nat.le_of_ble_eq_true rfl) dX8_costOfPutting_24 h ?_
  intro r M6 h
  obtain ⟨rfl, h⟩ := h
  refine Wa_aload_n 0 dX8_costOfPutting_27 rfl rfl ?_
  refine Wa_getR cf_X8 lk_X8_28 k_0 (j := 3) rfl (by decide) dX8_costOfPutting_28 ?_
  refine Wa_callV [] _ cf_X2 rfl k_28 lc_X8_248 cv_X2_compare rfl rfl (Nat.le_refl _) (Nat.le_of_ble_eq_true rfl) dX8_costOfPutting_31 h ?_
  intro r M9 h
  obtain ⟨rfl, h⟩ := h
  refine Wa_aload_n 0 dX8_costOfPutting_34 rfl rfl ?_
  refine Wa_getR cf_X8 lk_X8_28 k_0 (j := 3) rfl (by decide) dX8_costOfPutting_35 ?_
  refine Wa_callV [] _ cf_X2 rfl k_28 lc_X8_176 cv_X2_notKept rfl rfl (Nat.le_refl _) (Nat.le_of_ble_eq_true rfl) dX8_costOfPutting_38 h ?_
  intro r M12 h
  obtain ⟨z13, rfl, r14, h⟩ := h
  have h := h r14
  exact Wa_ireturn dX8_costOfPutting_41 rfl ⟨_, rfl, r14, h⟩
theorem en_X8_costOfPutting {g : AG} {d : Nat} {l1 : Int} {l2 : Int} {M : AM} {Q : Int → AM → Prop} (h : S_X8_costOfPutting_0 g d l1 l2 M Q) : MetI g mX8_costOfPutting d [vR 0, vI l1, vI l2] M Q := MetA.of (by decide) (Nat.le_of_ble_eq_true rfl) h
def S_X8_drawTrial_0 (g : AG) (d : Nat) (l1 : Int) (M : AM) (Q : Int → AM → Prop) : Prop := Wa g mX8_drawTrial d 0 [(0, vR 0), (1, vI l1)] [] M (QI Q)
def S_X8_drawTrial_14 (g : AG) (d : Nat) (l2 : Int) (l3 : Int) (M : AM) (Q : Int → AM → Prop) : Prop := Wa g mX8_drawTrial d 14 [(0, vR 0), (2, vI l2), (3, vI l3)] [] M (QI Q)
def S_X8_drawTrial_22 (g : AG) (d : Nat) (l2 : Int) (l3 : Int) (l4 : Int) (M : AM) (Q : Int → AM → Prop) : Prop := Wa g mX8_drawTrial d 22 [(0, vR 0), (2, vI l2), (3, vI l3), (4, vI l4)] [] M (QI Q)
set_option maxRecDepth 100000 in
theorem sg_X8_drawTrial_0 {g : AG} {d : Nat} {l1 : Int} {M : AM} {Q : Int → AM → Prop} 
  (h : MetV g mX7_clear d [vR 29] M (fun M1 => S_X8_drawTrial_14 g (d + 1) l1 0 M1 Q)) : S_X8_drawTrial_0 g (d + 1) l1 M Q := by
  show Wa _ _ _ _ _ _ _ _
  refine Wa_iload_n 1 dX8_drawTrial_0 rfl rfl ?_
  refine Wa_istore_n (ls' := [(2, vI l1), (0, vR 0), (1, vI l1)]) dX8_drawTrial_1 rfl (by decide) rfl ?_
  refine Wa_aload_n 1 dX8_drawTrial_2 rfl rfl ?_
  refine Wa_getR cf_X8 lk_X8_28 k_0 (j := 3) rfl (by decide) dX8_drawTrial_3 ?_
  refine Wa_getR cf_X2 lk_X8_23 k_28 (j := 0) rfl (by decide) dX8_drawTrial_6 ?_
  refine Wa_callV [] _ cf_X7 rfl k_29 lc_X8_258 cv_X7_clear rfl rfl (Nat.le_refl _) (Nat.le_of_ble_eq_true rfl) dX8_drawTrial_9 h ?_
  intro r M1 h
  obtain ⟨rfl, h⟩ := h
  refine Wa_iconst (z := 0) dX8_drawTrial_12 ?_
  refine Wa_istore_n (ls' := [(3, vI 0), (2, vI l1), (0, vR 0), (1, vI l1)]) dX8_drawTrial_13 rfl (by decide) rfl ?_
  refine Wa_sub [2, 1, 0] rfl ?_
  exact h
set_option maxRecDepth 100000 in
theorem sg_X8_drawTrial_14 {g : AG} {d : Nat} {l2 : Int} {l3 : Int} {M : AM} {Q : Int → AM → Prop} 
  (h : rg l3 ∧ ((2 ≤ l3 → (MetV g mX2_compare d [vR 28] M (fun M3 => rg l2 ∧ (Q l2 M3)))) ∧ (¬ 2 ≤ l3 → (S_X8_drawTrial_22 g (d + 1) l2 l3 0 M Q)))) : S_X8_drawTrial_14 g (d + 1) l2 l3 M Q := by
  show Wa _ _ _ _ _ _ _ _
  refine Wa_iload_n 2 dX8_drawTrial_14 rfl rfl ?_
  refine Wa_iconst (z := 2) dX8_drawTrial_15 ?_
  obtain ⟨q1, h⟩ := h
  refine Wa_icmp_ge (tgt := 79) dX8_drawTrial_16 (by decide) q1 ⟨by decide, by decide⟩ (fun c2 => ?_) (fun c2 => ?_)
  · have h := h.1 c2
    refine Wa_aload_n 0 dX8_drawTrial_79 rfl rfl ?_
    refine Wa_getR cf_X8 lk_X8_28 k_0 (j := 3) rfl (by decide) dX8_drawTrial_80 ?_
    refine Wa_callV [] _ cf_X2 rfl k_28 lc_X8_248 cv_X2_compare rfl rfl (Nat.le_refl _) (Nat.le_of_ble_eq_true rfl) dX8_drawTrial_83 h ?_
    intro r M3 h
    obtain ⟨rfl, h⟩ := h
    refine Wa_iload_n 1 dX8_drawTrial_86 rfl rfl ?_
    obtain ⟨q6, h⟩ := h
    exact Wa_ireturn dX8_drawTrial_87 rfl ⟨_, rfl, q6, h⟩
  · have h := h.2 c2
    refine Wa_iconst (z := 0) dX8_drawTrial_19 ?_
    refine Wa_istore (ls' := [(4, vI 0), (0, vR 0), (2, vI l2), (3, vI l3)]) dX8_drawTrial_20 (by decide) rfl ?_
    refine Wa_sub [1, 2, 3, 0] rfl ?_
    exact h
set_option maxRecDepth 100000 in
theorem sg_X8_drawTrial_22 {g : AG} {d : Nat} {l2 : Int} {l3 : Int} {l4 : Int} {M : AM} {Q : Int → AM → Prop} 
  (h : rg l4 ∧ ((4 ≤ l4 → (S_X8_drawTrial_14 g (d + 1) l2 (l3 + 1) M Q)) ∧ (¬ 4 ≤ l4 → (rg l2 ∧ (rg l3 ∧ (rg (97 + (iRem (iDiv (l2I (lRem ((1103515245 * l2) + 12345) 2147483648)) 65536) 5)) ∧ (MetV g mX7_insert d [vR 29, vI l3, vI l4, vI (97 + (iRem (iDiv (l2I (lRem ((1103515245 * l2) + 12345) 2147483648)) 65536) 5))] M (fun M6 => S_X8_drawTrial_22 g (d + 1) (l2I (lRem ((1103515245 * l2) + 12345) 2147483648)) l3 (l4 + 1) M6 Q)))))))) : S_X8_drawTrial_22 g (d + 1) l2 l3 l4 M Q := by
  show Wa _ _ _ _ _ _ _ _
  refine Wa_iload 3 dX8_drawTrial_22 rfl ?_
  refine Wa_iconst (z := 4) dX8_drawTrial_24 ?_
  obtain ⟨q1, h⟩ := h
  refine Wa_icmp_ge (tgt := 73) dX8_drawTrial_25 (by decide) q1 ⟨by decide, by decide⟩ (fun c2 => ?_) (fun c2 => ?_)
  · have h := h.1 c2
    refine Wa_iinc (ls' := [(3, vI (l3 + 1)), (0, vR 0), (2, vI l2), (4, vI l4)]) 2 dX8_drawTrial_73 rfl (by decide) rfl ?_
    refine Wa_goto (tgt := 14) dX8_drawTrial_76 (by decide) ?_
    refine Wa_sub [1, 2, 0] rfl ?_
    exact h
  · have h := h.2 c2
    refine Wa_ldc2 (z := 1103515245) dX8_drawTrial_28 kc_X8_259 ?_
    refine Wa_iload_n 1 dX8_drawTrial_31 rfl rfl ?_
    obtain ⟨q3, h⟩ := h
    refine Wa_i2l dX8_drawTrial_32 q3 ?_
    refine Wa_lmul dX8_drawTrial_33 ?_
    refine Wa_ldc2 (z := 12345) dX8_drawTrial_34 kc_X8_261 ?_
    refine Wa_ladd dX8_drawTrial_37 ?_
    refine Wa_ldc2 (z := 2147483648) dX8_drawTrial_38 kc_X8_263 ?_
    refine Wa_lrem dX8_drawTrial_41 (by decide) ?_
    refine Wa_l2i dX8_drawTrial_42 ?_
    refine Wa_istore_n (ls' := [(2, vI (l2I (lRem ((1103515245 * l2) + 12345) 2147483648))), (0, vR 0), (3, vI l3), (4, vI l4)]) dX8_drawTrial_43 rfl (by decide) rfl ?_
    refine Wa_aload_n 1 dX8_drawTrial_44 rfl rfl ?_
    refine Wa_getR cf_X8 lk_X8_28 k_0 (j := 3) rfl (by decide) dX8_drawTrial_45 ?_
    refine Wa_getR cf_X2 lk_X8_23 k_28 (j := 0) rfl (by decide) dX8_drawTrial_48 ?_
    refine Wa_iload_n 2 dX8_drawTrial_51 rfl rfl ?_
    refine Wa_iload 3 dX8_drawTrial_52 rfl ?_
    refine Wa_bipush (z := 97) dX8_drawTrial_54 (by decide) ?_
    refine Wa_iload_n 0 dX8_drawTrial_56 rfl rfl ?_
    refine Wa_ldcw (z := 65536) dX8_drawTrial_57 kc_X8_265 ?_
    refine Wa_idiv dX8_drawTrial_60 (by decide) ?_
    refine Wa_iconst (z := 5) dX8_drawTrial_61 ?_
    refine Wa_irem dX8_drawTrial_62 (by decide) ?_
    refine Wa_iadd dX8_drawTrial_63 ?_
    obtain ⟨q4, h⟩ := h
    obtain ⟨q5, h⟩ := h
    refine Wa_callV [vI l3, vI l4, vI (97 + (iRem (iDiv (l2I (lRem ((1103515245 * l2) + 12345) 2147483648)) 65536) 5))] _ cf_X7 rfl k_29 lc_X8_162 cv_X7_insert rfl rfl (Nat.le_refl _) (Nat.le_of_ble_eq_true rfl) dX8_drawTrial_64 h ?_
    intro r M6 h
    obtain ⟨rfl, h⟩ := h
    refine Wa_iinc (ls' := [(4, vI (l4 + 1)), (2, vI (l2I (lRem ((1103515245 * l2) + 12345) 2147483648))), (0, vR 0), (3, vI l3)]) 3 dX8_drawTrial_67 rfl (by decide) rfl ?_
    refine Wa_goto (tgt := 22) dX8_drawTrial_70 (by decide) ?_
    refine Wa_sub [2, 1, 3, 0] rfl ?_
    exact h
theorem en_X8_drawTrial {g : AG} {d : Nat} {l1 : Int} {M : AM} {Q : Int → AM → Prop} (h : S_X8_drawTrial_0 g d l1 M Q) : MetI g mX8_drawTrial d [vR 0, vI l1] M Q := MetA.of (by decide) (Nat.le_of_ble_eq_true rfl) h
def S_X8_isSide_0 (g : AG) (d : Nat) (l0 : Int) (M : AM) (Q : Int → AM → Prop) : Prop := Wa g mX8_isSide d 0 [(0, vI l0)] [] M (QI Q)
set_option maxRecDepth 100000 in
theorem sg_X8_isSide_0 {g : AG} {d : Nat} {l0 : Int} {M : AM} {Q : Int → AM → Prop} 
  (h : rg l0 ∧ ((l0 = 0 → (Q 1 M)) ∧ (¬ l0 = 0 → ((¬ l0 = 1 → (Q 0 M)) ∧ (l0 = 1 → (Q 1 M)))))) : S_X8_isSide_0 g (d + 1) l0 M Q := by
  show Wa _ _ _ _ _ _ _ _
  refine Wa_iload_n 0 dX8_isSide_0 rfl rfl ?_
  obtain ⟨q1, h⟩ := h
  refine Wa_if_eq (tgt := 9) dX8_isSide_1 (by decide) q1 (fun c2 => ?_) (fun c2 => ?_)
  · have h := h.1 c2
    refine Wa_iconst (z := 1) dX8_isSide_9 ?_
    refine Wa_goto (tgt := 14) dX8_isSide_10 (by decide) ?_
    exact Wa_zreturn dX8_isSide_14 rfl (by decide) ⟨_, rfl, rg_bool (by decide), h⟩
  · have h := h.2 c2
    refine Wa_iload_n 0 dX8_isSide_4 rfl rfl ?_
    refine Wa_iconst (z := 1) dX8_isSide_5 ?_
    refine Wa_icmp_ne (tgt := 13) dX8_isSide_6 (by decide) q1 ⟨by decide, by decide⟩ (fun c3 => ?_) (fun c3 => ?_)
    · have h := h.1 c3
      refine Wa_iconst (z := 0) dX8_isSide_13 ?_
      exact Wa_zreturn dX8_isSide_14 rfl (by decide) ⟨_, rfl, rg_bool (by decide), h⟩
    · have h := h.2 c3
      refine Wa_iconst (z := 1) dX8_isSide_9 ?_
      refine Wa_goto (tgt := 14) dX8_isSide_10 (by decide) ?_
      exact Wa_zreturn dX8_isSide_14 rfl (by decide) ⟨_, rfl, rg_bool (by decide), h⟩
theorem en_X8_isSide {g : AG} {d : Nat} {l0 : Int} {M : AM} {Q : Int → AM → Prop} (h : S_X8_isSide_0 g d l0 M Q) : MetI g mX8_isSide d [vI l0] M Q := MetA.of (by decide) (Nat.le_of_ble_eq_true rfl) h
def S_X8_isLetter_0 (g : AG) (d : Nat) (l0 : Int) (M : AM) (Q : Int → AM → Prop) : Prop := Wa g mX8_isLetter d 0 [(0, vI l0)] [] M (QI Q)
set_option maxRecDepth 100000 in
theorem sg_X8_isLetter_0 {g : AG} {d : Nat} {l0 : Int} {M : AM} {Q : Int → AM → Prop} 
  (h : rg l0 ∧ ((l0 < 97 → (Q 0 M)) ∧ (¬ l0 < 97 → ((101 < l0 → (Q 0 M)) ∧ (¬ 101 < l0 → (Q 1 M)))))) : S_X8_isLetter_0 g (d + 1) l0 M Q := by
  show Wa _ _ _ _ _ _ _ _
  refine Wa_iload_n 0 dX8_isLetter_0 rfl rfl ?_
  refine Wa_bipush (z := 97) dX8_isLetter_1 (by decide) ?_
  obtain ⟨q1, h⟩ := h
  refine Wa_icmp_lt (tgt := 16) dX8_isLetter_3 (by decide) q1 ⟨by decide, by decide⟩ (fun c2 => ?_) (fun c2 => ?_)
  · have h := h.1 c2
    refine Wa_iconst (z := 0) dX8_isLetter_16 ?_
    exact Wa_zreturn dX8_isLetter_17 rfl (by decide) ⟨_, rfl, rg_bool (by decide), h⟩
  · have h := h.2 c2
    refine Wa_iload_n 0 dX8_isLetter_6 rfl rfl ?_
    refine Wa_bipush (z := 101) dX8_isLetter_7 (by decide) ?_
    refine Wa_icmp_gt (tgt := 16) dX8_isLetter_9 (by decide) q1 ⟨by decide, by decide⟩ (fun c3 => ?_) (fun c3 => ?_)
    · have h := h.1 c3
      refine Wa_iconst (z := 0) dX8_isLetter_16 ?_
      exact Wa_zreturn dX8_isLetter_17 rfl (by decide) ⟨_, rfl, rg_bool (by decide), h⟩
    · have h := h.2 c3
      refine Wa_iconst (z := 1) dX8_isLetter_12 ?_
      refine Wa_goto (tgt := 17) dX8_isLetter_13 (by decide) ?_
      exact Wa_zreturn dX8_isLetter_17 rfl (by decide) ⟨_, rfl, rg_bool (by decide), h⟩
theorem en_X8_isLetter {g : AG} {d : Nat} {l0 : Int} {M : AM} {Q : Int → AM → Prop} (h : S_X8_isLetter_0 g d l0 M Q) : MetI g mX8_isLetter d [vI l0] M Q := MetA.of (by decide) (Nat.le_of_ble_eq_true rfl) h
def S_X8_isLine_0 (g : AG) (d : Nat) (l0 : Int) (M : AM) (Q : Int → AM → Prop) : Prop := Wa g mX8_isLine d 0 [(0, vI l0)] [] M (QI Q)
def S_X8_isLine_4 (g : AG) (d : Nat) (l1 : Int) (l2 : Int) (M : AM) (Q : Int → AM → Prop) : Prop := Wa g mX8_isLine d 4 [(1, vI l1), (2, vI l2)] [] M (QI Q)
set_option maxRecDepth 100000 in
theorem sg_X8_isLine_0 {g : AG} {d : Nat} {l0 : Int} {M : AM} {Q : Int → AM → Prop} 
  (h : S_X8_isLine_4 g (d + 1) l0 0 M Q) : S_X8_isLine_0 g (d + 1) l0 M Q := by
  show Wa _ _ _ _ _ _ _ _
  refine Wa_iload_n 0 dX8_isLine_0 rfl rfl ?_
  refine Wa_istore_n (ls' := [(1, vI l0), (0, vI l0)]) dX8_isLine_1 rfl (by decide) rfl ?_
  refine Wa_iconst (z := 0) dX8_isLine_2 ?_
  refine Wa_istore_n (ls' := [(2, vI 0), (1, vI l0), (0, vI l0)]) dX8_isLine_3 rfl (by decide) rfl ?_
  refine Wa_sub [1, 0] rfl ?_
  exact h
set_option maxRecDepth 100000 in
theorem sg_X8_isLine_4 {g : AG} {d : Nat} {l1 : Int} {l2 : Int} {M : AM} {Q : Int → AM → Prop} 
  (h : rg l2 ∧ ((3 ≤ l2 → (Q 0 M)) ∧ (¬ 3 ≤ l2 → (MetI g mX8_isLetter d [vI (iAnd l1 127)] M (fun z4 M3 => rg z4 → ((z4 = 0 → (Q 0 M3)) ∧ (¬ z4 = 0 → ((¬ (iShr l1 7) = 0 → (S_X8_isLine_4 g (d + 1) (iShr l1 7) (l2 + 1) M3 Q)) ∧ ((iShr l1 7) = 0 → (Q 1 M3)))))))))) : S_X8_isLine_4 g (d + 1) l1 l2 M Q := by
  show Wa _ _ _ _ _ _ _ _
  refine Wa_iload_n 1 dX8_isLine_4 rfl rfl ?_
  refine Wa_iconst (z := 3) dX8_isLine_5 ?_
  obtain ⟨q1, h⟩ := h
  refine Wa_icmp_ge (tgt := 36) dX8_isLine_6 (by decide) q1 ⟨by decide, by decide⟩ (fun c2 => ?_) (fun c2 => ?_)
  · have h := h.1 c2
    refine Wa_iconst (z := 0) dX8_isLine_36 ?_
    exact Wa_zreturn dX8_isLine_37 rfl (by decide) ⟨_, rfl, rg_bool (by decide), h⟩
  · have h := h.2 c2
    refine Wa_iload_n 0 dX8_isLine_9 rfl rfl ?_
    refine Wa_bipush (z := 127) dX8_isLine_10 (by decide) ?_
    refine Wa_iand dX8_isLine_12 ?_
    refine Wa_callS [vI (iAnd l1 127)] _ lc_X8_266 cs_X8_isLetter rfl rfl (Nat.le_refl _) (Nat.le_of_ble_eq_true rfl) dX8_isLine_13 h ?_
    intro r M3 h
    obtain ⟨z4, rfl, r5, h⟩ := h
    have h := h r5
    refine Wa_if_eq (tgt := 36) dX8_isLine_16 (by decide) r5 (fun c6 => ?_) (fun c6 => ?_)
    · have h := h.1 c6
      refine Wa_iconst (z := 0) dX8_isLine_36 ?_
      exact Wa_zreturn dX8_isLine_37 rfl (by decide) ⟨_, rfl, rg_bool (by decide), h⟩
    · have h := h.2 c6
      refine Wa_iload_n 0 dX8_isLine_19 rfl rfl ?_
      refine Wa_bipush (z := 7) dX8_isLine_20 (by decide) ?_
      refine Wa_ishr dX8_isLine_22 ?_
      refine Wa_istore_n (ls' := [(1, vI (iShr l1 7)), (2, vI l2)]) dX8_isLine_23 rfl (by decide) rfl ?_
      refine Wa_iload_n 0 dX8_isLine_24 rfl rfl ?_
      refine Wa_if_ne (tgt := 30) dX8_isLine_25 (by decide) (rg_toInt _) (fun c7 => ?_) (fun c7 => ?_)
      · have h := h.1 c7
        refine Wa_iinc (ls' := [(2, vI (l2 + 1)), (1, vI (iShr l1 7))]) 1 dX8_isLine_30 rfl (by decide) rfl ?_
        refine Wa_goto (tgt := 4) dX8_isLine_33 (by decide) ?_
        refine Wa_sub [1, 0] rfl ?_
        exact h
      · have h := h.2 c7
        refine Wa_iconst (z := 1) dX8_isLine_28 ?_
        exact Wa_zreturn dX8_isLine_29 rfl (by decide) ⟨_, rfl, rg_bool (by decide), h⟩
theorem en_X8_isLine {g : AG} {d : Nat} {l0 : Int} {M : AM} {Q : Int → AM → Prop} (h : S_X8_isLine_0 g d l0 M Q) : MetI g mX8_isLine d [vI l0] M Q := MetA.of (by decide) (Nat.le_of_ble_eq_true rfl) h
def S_X8_lettersIn_0 (g : AG) (d : Nat) (l0 : Int) (M : AM) (Q : Int → AM → Prop) : Prop := Wa g mX8_lettersIn d 0 [(0, vI l0)] [] M (QI Q)
set_option maxRecDepth 100000 in
theorem sg_X8_lettersIn_0 {g : AG} {d : Nat} {l0 : Int} {M : AM} {Q : Int → AM → Prop} 
  (h : rg l0 ∧ ((128 ≤ l0 → ((16384 ≤ l0 → (Q 3 M)) ∧ (¬ 16384 ≤ l0 → (Q 2 M)))) ∧ (¬ 128 ≤ l0 → (Q 1 M)))) : S_X8_lettersIn_0 g (d + 1) l0 M Q := by
  show Wa _ _ _ _ _ _ _ _
  refine Wa_iload_n 0 dX8_lettersIn_0 rfl rfl ?_
  refine Wa_sipush (z := 128) dX8_lettersIn_1 (by decide) ?_
  obtain ⟨q1, h⟩ := h
  refine Wa_icmp_ge (tgt := 11) dX8_lettersIn_4 (by decide) q1 ⟨by decide, by decide⟩ (fun c2 => ?_) (fun c2 => ?_)
  · have h := h.1 c2
    refine Wa_iload_n 0 dX8_lettersIn_11 rfl rfl ?_
    refine Wa_sipush (z := 16384) dX8_lettersIn_12 (by decide) ?_
    refine Wa_icmp_ge (tgt := 22) dX8_lettersIn_15 (by decide) q1 ⟨by decide, by decide⟩ (fun c3 => ?_) (fun c3 => ?_)
    · have h := h.1 c3
      refine Wa_iconst (z := 3) dX8_lettersIn_22 ?_
      exact Wa_ireturn dX8_lettersIn_23 rfl ⟨_, rfl, ⟨by decide, by decide⟩, h⟩
    · have h := h.2 c3
      refine Wa_iconst (z := 2) dX8_lettersIn_18 ?_
      refine Wa_goto (tgt := 23) dX8_lettersIn_19 (by decide) ?_
      exact Wa_ireturn dX8_lettersIn_23 rfl ⟨_, rfl, ⟨by decide, by decide⟩, h⟩
  · have h := h.2 c2
    refine Wa_iconst (z := 1) dX8_lettersIn_7 ?_
    refine Wa_goto (tgt := 23) dX8_lettersIn_8 (by decide) ?_
    exact Wa_ireturn dX8_lettersIn_23 rfl ⟨_, rfl, ⟨by decide, by decide⟩, h⟩
theorem en_X8_lettersIn {g : AG} {d : Nat} {l0 : Int} {M : AM} {Q : Int → AM → Prop} (h : S_X8_lettersIn_0 g d l0 M Q) : MetI g mX8_lettersIn d [vI l0] M Q := MetA.of (by decide) (Nat.le_of_ble_eq_true rfl) h
def S_X8_codeAt_0 (g : AG) (d : Nat) (l0 : Int) (l1 : Int) (M : AM) (Q : Int → AM → Prop) : Prop := Wa g mX8_codeAt d 0 [(0, vI l0), (1, vI l1)] [] M (QI Q)
set_option maxRecDepth 100000 in
theorem sg_X8_codeAt_0 {g : AG} {d : Nat} {l0 : Int} {l1 : Int} {M : AM} {Q : Int → AM → Prop} 
  (h : rg l0 ∧ (MetI g mX8_lettersIn d [vI l0] M (fun z3 M2 => rg z3 → (rg ((z3 - 1) - l1) ∧ ((0 ≤ ((z3 - 1) - l1) → (Q (iAnd (iShr l0 (7 * ((z3 - 1) - l1))) 127) M2)) ∧ (¬ 0 ≤ ((z3 - 1) - l1) → (Q (-1) M2))))))) : S_X8_codeAt_0 g (d + 1) l0 l1 M Q := by
  show Wa _ _ _ _ _ _ _ _
  refine Wa_iload_n 0 dX8_codeAt_0 rfl rfl ?_
  obtain ⟨q1, h⟩ := h
  refine Wa_callS [vI l0] _ lc_X8_102 cs_X8_lettersIn rfl rfl (Nat.le_refl _) (Nat.le_of_ble_eq_true rfl) dX8_codeAt_1 h ?_
  intro r M2 h
  obtain ⟨z3, rfl, r4, h⟩ := h
  have h := h r4
  refine Wa_iconst (z := 1) dX8_codeAt_4 ?_
  refine Wa_isub dX8_codeAt_5 ?_
  refine Wa_iload_n 1 dX8_codeAt_6 rfl rfl ?_
  refine Wa_isub dX8_codeAt_7 ?_
  refine Wa_istore_n (ls' := [(2, vI ((z3 - 1) - l1)), (0, vI l0), (1, vI l1)]) dX8_codeAt_8 rfl (by decide) rfl ?_
  refine Wa_iload_n 0 dX8_codeAt_9 rfl rfl ?_
  obtain ⟨q5, h⟩ := h
  refine Wa_if_ge (tgt := 17) dX8_codeAt_10 (by decide) q5 (fun c6 => ?_) (fun c6 => ?_)
  · have h := h.1 c6
    refine Wa_iload_n 1 dX8_codeAt_17 rfl rfl ?_
    refine Wa_bipush (z := 7) dX8_codeAt_18 (by decide) ?_
    refine Wa_iload_n 0 dX8_codeAt_20 rfl rfl ?_
    refine Wa_imul dX8_codeAt_21 ?_
    refine Wa_ishr dX8_codeAt_22 ?_
    refine Wa_bipush (z := 127) dX8_codeAt_23 (by decide) ?_
    refine Wa_iand dX8_codeAt_25 ?_
    exact Wa_ireturn dX8_codeAt_26 rfl ⟨_, rfl, (rg_toInt _), h⟩
  · have h := h.2 c6
    refine Wa_iconst (z := (-1)) dX8_codeAt_13 ?_
    refine Wa_goto (tgt := 26) dX8_codeAt_14 (by decide) ?_
    exact Wa_ireturn dX8_codeAt_26 rfl ⟨_, rfl, ⟨by decide, by decide⟩, h⟩
theorem en_X8_codeAt {g : AG} {d : Nat} {l0 : Int} {l1 : Int} {M : AM} {Q : Int → AM → Prop} (h : S_X8_codeAt_0 g d l0 l1 M Q) : MetI g mX8_codeAt d [vI l0, vI l1] M Q := MetA.of (by decide) (Nat.le_of_ble_eq_true rfl) h
def S_X8_isOfKind_0 (g : AG) (d : Nat) (l0 : Int) (l1 : Int) (M : AM) (Q : Int → AM → Prop) : Prop := Wa g mX8_isOfKind d 0 [(0, vI l0), (1, vI l1)] [] M (QI Q)
def S_X8_isOfKind_4 (g : AG) (d : Nat) (l1 : Int) (l2 : Int) (l3 : Int) (M : AM) (Q : Int → AM → Prop) : Prop := Wa g mX8_isOfKind d 4 [(1, vI l1), (2, vI l2), (3, vI l3)] [] M (QI Q)
set_option maxRecDepth 100000 in
theorem sg_X8_isOfKind_0 {g : AG} {d : Nat} {l0 : Int} {l1 : Int} {M : AM} {Q : Int → AM → Prop} 
  (h : S_X8_isOfKind_4 g (d + 1) l1 l0 0 M Q) : S_X8_isOfKind_0 g (d + 1) l0 l1 M Q := by
  show Wa _ _ _ _ _ _ _ _
  refine Wa_iload_n 0 dX8_isOfKind_0 rfl rfl ?_
  refine Wa_istore_n (ls' := [(2, vI l0), (0, vI l0), (1, vI l1)]) dX8_isOfKind_1 rfl (by decide) rfl ?_
  refine Wa_iconst (z := 0) dX8_isOfKind_2 ?_
  refine Wa_istore_n (ls' := [(3, vI 0), (2, vI l0), (0, vI l0), (1, vI l1)]) dX8_isOfKind_3 rfl (by decide) rfl ?_
  refine Wa_sub [3, 1, 0] rfl ?_
  exact h
set_option maxRecDepth 100000 in
theorem sg_X8_isOfKind_4 {g : AG} {d : Nat} {l1 : Int} {l2 : Int} {l3 : Int} {M : AM} {Q : Int → AM → Prop} 
  (h : rg l3 ∧ ((5 ≤ l3 → (Q 0 M)) ∧ (¬ 5 ≤ l3 → (rg l2 ∧ ((l2 < 0 → (Q 0 M)) ∧ (¬ l2 < 0 → ((5 ≤ l2 → (Q 0 M)) ∧ (¬ 5 ≤ l2 → (rg l1 ∧ ((¬ l2 = l1 → ((0 ≤ l2 ∧ l2 < 5) ∧ (S_X8_isOfKind_4 g (d + 1) l1 ([-1, 0, 0, 2, 3].getD (l2).toNat 0) (l3 + 1) M Q))) ∧ (l2 = l1 → (Q 1 M)))))))))))) : S_X8_isOfKind_4 g (d + 1) l1 l2 l3 M Q := by
  show Wa _ _ _ _ _ _ _ _
  refine Wa_iload_n 2 dX8_isOfKind_4 rfl rfl ?_
  refine Wa_iconst (z := 5) dX8_isOfKind_5 ?_
  obtain ⟨q1, h⟩ := h
  refine Wa_icmp_ge (tgt := 37) dX8_isOfKind_6 (by decide) q1 ⟨by decide, by decide⟩ (fun c2 => ?_) (fun c2 => ?_)
  · have h := h.1 c2
    refine Wa_iconst (z := 0) dX8_isOfKind_37 ?_
    exact Wa_zreturn dX8_isOfKind_38 rfl (by decide) ⟨_, rfl, rg_bool (by decide), h⟩
  · have h := h.2 c2
    refine Wa_iload_n 1 dX8_isOfKind_9 rfl rfl ?_
    obtain ⟨q3, h⟩ := h
    refine Wa_if_lt (tgt := 37) dX8_isOfKind_10 (by decide) q3 (fun c4 => ?_) (fun c4 => ?_)
    · have h := h.1 c4
      refine Wa_iconst (z := 0) dX8_isOfKind_37 ?_
      exact Wa_zreturn dX8_isOfKind_38 rfl (by decide) ⟨_, rfl, rg_bool (by decide), h⟩
    · have h := h.2 c4
      refine Wa_iload_n 1 dX8_isOfKind_13 rfl rfl ?_
      refine Wa_iconst (z := 5) dX8_isOfKind_14 ?_
      refine Wa_icmp_ge (tgt := 37) dX8_isOfKind_15 (by decide) q3 ⟨by decide, by decide⟩ (fun c5 => ?_) (fun c5 => ?_)
      · have h := h.1 c5
        refine Wa_iconst (z := 0) dX8_isOfKind_37 ?_
        exact Wa_zreturn dX8_isOfKind_38 rfl (by decide) ⟨_, rfl, rg_bool (by decide), h⟩
      · have h := h.2 c5
        refine Wa_iload_n 1 dX8_isOfKind_18 rfl rfl ?_
        refine Wa_iload_n 0 dX8_isOfKind_19 rfl rfl ?_
        obtain ⟨q6, h⟩ := h
        refine Wa_icmp_ne (tgt := 25) dX8_isOfKind_20 (by decide) q3 q6 (fun c7 => ?_) (fun c7 => ?_)
        · have h := h.1 c7
          refine Wa_gkab lk_kab dX8_isOfKind_25 ?_
          refine Wa_iload_n 1 dX8_isOfKind_28 rfl rfl ?_
          obtain ⟨b8, h⟩ := h
          refine Wa_kab b8 dX8_isOfKind_29 ?_
          refine Wa_istore_n (ls' := [(2, vI ([-1, 0, 0, 2, 3].getD (l2).toNat 0)), (1, vI l1), (3, vI l3)]) dX8_isOfKind_30 rfl (by decide) rfl ?_
          refine Wa_iinc (ls' := [(3, vI (l3 + 1)), (2, vI ([-1, 0, 0, 2, 3].getD (l2).toNat 0)), (1, vI l1)]) 2 dX8_isOfKind_31 rfl (by decide) rfl ?_
          refine Wa_goto (tgt := 4) dX8_isOfKind_34 (by decide) ?_
          refine Wa_sub [2, 1, 0] rfl ?_
          exact h
        · have h := h.2 c7
          refine Wa_iconst (z := 1) dX8_isOfKind_23 ?_
          exact Wa_zreturn dX8_isOfKind_24 rfl (by decide) ⟨_, rfl, rg_bool (by decide), h⟩
theorem en_X8_isOfKind {g : AG} {d : Nat} {l0 : Int} {l1 : Int} {M : AM} {Q : Int → AM → Prop} (h : S_X8_isOfKind_0 g d l0 l1 M Q) : MetI g mX8_isOfKind d [vI l0, vI l1] M Q := MetA.of (by decide) (Nat.le_of_ble_eq_true rfl) h
def S_X8_singleBits_0 (g : AG) (d : Nat) (l0 : UInt32) (M : AM) (Q : Int → AM → Prop) : Prop := Wa g mX8_singleBits d 0 [(0, vF l0)] [] M (QI Q)
def S_X8_singleBits_16 (g : AG) (d : Nat) (l1 : UInt32) (l2 : Int) (l3 : Int) (M : AM) (Q : Int → AM → Prop) : Prop := Wa g mX8_singleBits d 16 [(1, vF l1), (2, vI l2), (3, vI l3)] [] M (QI Q)
set_option maxRecDepth 100000 in
theorem sg_X8_singleBits_0 {g : AG} {d : Nat} {l0 : UInt32} {M : AM} {Q : Int → AM → Prop} 
  (h : (0 < (fCmp l0 FP.fconst0 .l) → (S_X8_singleBits_16 g (d + 1) l0 150 0 M Q)) ∧ (¬ 0 < (fCmp l0 FP.fconst0 .l) → (Q 0 M))) : S_X8_singleBits_0 g (d + 1) l0 M Q := by
  show Wa _ _ _ _ _ _ _ _
  refine Wa_fload_n 0 dX8_singleBits_0 rfl rfl ?_
  refine Wa_fconst0 dX8_singleBits_1 ?_
  refine Wa_fcmp dX8_singleBits_2 ?_
  refine Wa_if_gt (tgt := 8) dX8_singleBits_3 (by decide) (rg_toInt _) (fun c1 => ?_) (fun c1 => ?_)
  · have h := h.1 c1
    refine Wa_fload_n 0 dX8_singleBits_8 rfl rfl ?_
    refine Wa_fstore_n (ls' := [(1, vF l0), (0, vF l0)]) dX8_singleBits_9 rfl (by decide) rfl ?_
    refine Wa_sipush (z := 150) dX8_singleBits_10 (by decide) ?_
    refine Wa_istore_n (ls' := [(2, vI 150), (1, vF l0), (0, vF l0)]) dX8_singleBits_13 rfl (by decide) rfl ?_
    refine Wa_iconst (z := 0) dX8_singleBits_14 ?_
    refine Wa_istore_n (ls' := [(3, vI 0), (2, vI 150), (1, vF l0), (0, vF l0)]) dX8_singleBits_15 rfl (by decide) rfl ?_
    refine Wa_sub [2, 1, 0] rfl ?_
    exact h
  · have h := h.2 c1
    refine Wa_iconst (z := 0) dX8_singleBits_6 ?_
    exact Wa_ireturn dX8_singleBits_7 rfl ⟨_, rfl, ⟨by decide, by decide⟩, h⟩
set_option maxRecDepth 100000 in
theorem sg_X8_singleBits_16 {g : AG} {d : Nat} {l1 : UInt32} {l2 : Int} {l3 : Int} {M : AM} {Q : Int → AM → Prop} 
  (h : rg l3 ∧ ((127 ≤ l3 → (Q (iOr (iShl l2 23) (iAnd (f2I l1) 8388607)) M)) ∧ (¬ 127 ≤ l3 → ((0 ≤ (fCmp l1 1258291200 .g) → (Q (iOr (iShl l2 23) (iAnd (f2I l1) 8388607)) M)) ∧ (¬ 0 ≤ (fCmp l1 1258291200 .g) → (vf_n32 (FP.fmul l1 FP.fconst2) ∧ (S_X8_singleBits_16 g (d + 1) (FP.fmul l1 FP.fconst2) (l2 + (-1)) (l3 + 1) M Q))))))) : S_X8_singleBits_16 g (d + 1) l1 l2 l3 M Q := by
  show Wa _ _ _ _ _ _ _ _
  refine Wa_iload_n 2 dX8_singleBits_16 rfl rfl ?_
  refine Wa_bipush (z := 127) dX8_singleBits_17 (by decide) ?_
  obtain ⟨q1, h⟩ := h
  refine Wa_icmp_ge (tgt := 43) dX8_singleBits_19 (by decide) q1 ⟨by decide, by decide⟩ (fun c2 => ?_) (fun c2 => ?_)
  · have h := h.1 c2
    refine Wa_iload_n 1 dX8_singleBits_43 rfl rfl ?_
    refine Wa_bipush (z := 23) dX8_singleBits_44 (by decide) ?_
    refine Wa_ishl dX8_singleBits_46 ?_
    refine Wa_fload_n 0 dX8_singleBits_47 rfl rfl ?_
    refine Wa_f2i dX8_singleBits_48 ?_
    refine Wa_ldcw (z := 8388607) dX8_singleBits_49 kc_X8_273 ?_
    refine Wa_iand dX8_singleBits_52 ?_
    refine Wa_ior dX8_singleBits_53 ?_
    exact Wa_ireturn dX8_singleBits_54 rfl ⟨_, rfl, (rg_toInt _), h⟩
  · have h := h.2 c2
    refine Wa_fload_n 0 dX8_singleBits_22 rfl rfl ?_
    refine Wa_ldcfw (z := 1258291200) dX8_singleBits_23 kc_X8_272 ?_
    refine Wa_fcmp dX8_singleBits_26 ?_
    refine Wa_if_ge (tgt := 43) dX8_singleBits_27 (by decide) (rg_toInt _) (fun c3 => ?_) (fun c3 => ?_)
    · have h := h.1 c3
      refine Wa_iload_n 1 dX8_singleBits_43 rfl rfl ?_
      refine Wa_bipush (z := 23) dX8_singleBits_44 (by decide) ?_
      refine Wa_ishl dX8_singleBits_46 ?_
      refine Wa_fload_n 0 dX8_singleBits_47 rfl rfl ?_
      refine Wa_f2i dX8_singleBits_48 ?_
      refine Wa_ldcw (z := 8388607) dX8_singleBits_49 kc_X8_273 ?_
      refine Wa_iand dX8_singleBits_52 ?_
      refine Wa_ior dX8_singleBits_53 ?_
      exact Wa_ireturn dX8_singleBits_54 rfl ⟨_, rfl, (rg_toInt _), h⟩
    · have h := h.2 c3
      refine Wa_fload_n 0 dX8_singleBits_30 rfl rfl ?_
      refine Wa_fconst2 dX8_singleBits_31 ?_
      obtain ⟨n4, h⟩ := h
      refine Wa_fmul dX8_singleBits_32 n4 ?_
      refine Wa_fstore_n (ls' := [(1, vF (FP.fmul l1 FP.fconst2)), (2, vI l2), (3, vI l3)]) dX8_singleBits_33 rfl (by decide) rfl ?_
      refine Wa_iinc (ls' := [(2, vI (l2 + (-1))), (1, vF (FP.fmul l1 FP.fconst2)), (3, vI l3)]) 1 dX8_singleBits_34 rfl (by decide) rfl ?_
      refine Wa_iinc (ls' := [(3, vI (l3 + 1)), (2, vI (l2 + (-1))), (1, vF (FP.fmul l1 FP.fconst2))]) 2 dX8_singleBits_37 rfl (by decide) rfl ?_
      refine Wa_goto (tgt := 16) dX8_singleBits_40 (by decide) ?_
      refine Wa_sub [2, 1, 0] rfl ?_
      exact h
theorem en_X8_singleBits {g : AG} {d : Nat} {l0 : UInt32} {M : AM} {Q : Int → AM → Prop} (h : S_X8_singleBits_0 g d l0 M Q) : MetI g mX8_singleBits d [vF l0] M Q := MetA.of (by decide) (Nat.le_of_ble_eq_true rfl) h
def S_X8_doubleBits_0 (g : AG) (d : Nat) (l0 : UInt64) (M : AM) (Q : Int → AM → Prop) : Prop := Wa g mX8_doubleBits d 0 [(0, vD l0)] [] M (QL Q)
def S_X8_doubleBits_18 (g : AG) (d : Nat) (l2 : UInt64) (l4 : Int) (l6 : Int) (M : AM) (Q : Int → AM → Prop) : Prop := Wa g mX8_doubleBits d 18 [(2, vD l2), (4, vL l4), (6, vI l6)] [] M (QL Q)
set_option maxRecDepth 100000 in
theorem sg_X8_doubleBits_0 {g : AG} {d : Nat} {l0 : UInt64} {M : AM} {Q : Int → AM → Prop} 
  (h : (0 < (dCmp l0 FP.dconst0 .l) → (S_X8_doubleBits_18 g (d + 1) l0 1075 0 M Q)) ∧ (¬ 0 < (dCmp l0 FP.dconst0 .l) → (Q 0 M))) : S_X8_doubleBits_0 g (d + 1) l0 M Q := by
  show Wa _ _ _ _ _ _ _ _
  refine Wa_dload_n 0 dX8_doubleBits_0 rfl rfl ?_
  refine Wa_dconst0 dX8_doubleBits_1 ?_
  refine Wa_dcmp dX8_doubleBits_2 ?_
  refine Wa_if_gt (tgt := 8) dX8_doubleBits_3 (by decide) (rg_toInt _) (fun c1 => ?_) (fun c1 => ?_)
  · have h := h.1 c1
    refine Wa_dload_n 0 dX8_doubleBits_8 rfl rfl ?_
    refine Wa_dstore_n (ls' := [(2, vD l0), (0, vD l0)]) dX8_doubleBits_9 rfl (by decide) rfl ?_
    refine Wa_ldc2 (z := 1075) dX8_doubleBits_10 kc_X8_274 ?_
    refine Wa_lstore (ls' := [(4, vL 1075), (2, vD l0), (0, vD l0)]) dX8_doubleBits_13 (by decide) rfl ?_
    refine Wa_iconst (z := 0) dX8_doubleBits_15 ?_
    refine Wa_istore (ls' := [(6, vI 0), (4, vL 1075), (2, vD l0), (0, vD l0)]) dX8_doubleBits_16 (by decide) rfl ?_
    refine Wa_sub [2, 1, 0] rfl ?_
    exact h
  · have h := h.2 c1
    refine Wa_lconst (v := 0) dX8_doubleBits_6 rfl ?_
    exact Wa_lreturn dX8_doubleBits_7 rfl ⟨_, rfl, h⟩
set_option maxRecDepth 100000 in
theorem sg_X8_doubleBits_18 {g : AG} {d : Nat} {l2 : UInt64} {l4 : Int} {l6 : Int} {M : AM} {Q : Int → AM → Prop} 
  (h : rg l6 ∧ ((1023 ≤ l6 → (Q (lOr (lShl l4 52) (lAnd (d2L l2) 4503599627370495)) M)) ∧ (¬ 1023 ≤ l6 → ((0 ≤ (dCmp l2 4841369599423283200 .g) → (Q (lOr (lShl l4 52) (lAnd (d2L l2) 4503599627370495)) M)) ∧ (¬ 0 ≤ (dCmp l2 4841369599423283200 .g) → (vf_n64 (FP.dmul l2 4611686018427387904) ∧ (S_X8_doubleBits_18 g (d + 1) (FP.dmul l2 4611686018427387904) (l4 - 1) (l6 + 1) M Q))))))) : S_X8_doubleBits_18 g (d + 1) l2 l4 l6 M Q := by
  show Wa _ _ _ _ _ _ _ _
  refine Wa_iload 2 dX8_doubleBits_18 rfl ?_
  refine Wa_sipush (z := 1023) dX8_doubleBits_20 (by decide) ?_
  obtain ⟨q1, h⟩ := h
  refine Wa_icmp_ge (tgt := 52) dX8_doubleBits_23 (by decide) q1 ⟨by decide, by decide⟩ (fun c2 => ?_) (fun c2 => ?_)
  · have h := h.1 c2
    refine Wa_lload 1 dX8_doubleBits_52 rfl ?_
    refine Wa_bipush (z := 52) dX8_doubleBits_54 (by decide) ?_
    refine Wa_lshl dX8_doubleBits_56 ?_
    refine Wa_dload_n 0 dX8_doubleBits_57 rfl rfl ?_
    refine Wa_d2l dX8_doubleBits_58 ?_
    refine Wa_ldc2 (z := 4503599627370495) dX8_doubleBits_59 kc_X8_280 ?_
    refine Wa_land dX8_doubleBits_62 ?_
    refine Wa_lor dX8_doubleBits_63 ?_
    exact Wa_lreturn dX8_doubleBits_64 rfl ⟨_, rfl, h⟩
  · have h := h.2 c2
    refine Wa_dload_n 0 dX8_doubleBits_26 rfl rfl ?_
    refine Wa_ldc2d (z := 4841369599423283200) dX8_doubleBits_27 kc_X8_276 ?_
    refine Wa_dcmp dX8_doubleBits_30 ?_
    refine Wa_if_ge (tgt := 52) dX8_doubleBits_31 (by decide) (rg_toInt _) (fun c3 => ?_) (fun c3 => ?_)
    · have h := h.1 c3
      refine Wa_lload 1 dX8_doubleBits_52 rfl ?_
      refine Wa_bipush (z := 52) dX8_doubleBits_54 (by decide) ?_
      refine Wa_lshl dX8_doubleBits_56 ?_
      refine Wa_dload_n 0 dX8_doubleBits_57 rfl rfl ?_
      refine Wa_d2l dX8_doubleBits_58 ?_
      refine Wa_ldc2 (z := 4503599627370495) dX8_doubleBits_59 kc_X8_280 ?_
      refine Wa_land dX8_doubleBits_62 ?_
      refine Wa_lor dX8_doubleBits_63 ?_
      exact Wa_lreturn dX8_doubleBits_64 rfl ⟨_, rfl, h⟩
    · have h := h.2 c3
      refine Wa_dload_n 0 dX8_doubleBits_34 rfl rfl ?_
      refine Wa_ldc2d (z := 4611686018427387904) dX8_doubleBits_35 kc_X8_278 ?_
      obtain ⟨n4, h⟩ := h
      refine Wa_dmul dX8_doubleBits_38 n4 ?_
      refine Wa_dstore_n (ls' := [(2, vD (FP.dmul l2 4611686018427387904)), (4, vL l4), (6, vI l6)]) dX8_doubleBits_39 rfl (by decide) rfl ?_
      refine Wa_lload 1 dX8_doubleBits_40 rfl ?_
      refine Wa_lconst (v := 1) dX8_doubleBits_42 rfl ?_
      refine Wa_lsub dX8_doubleBits_43 ?_
      refine Wa_lstore (ls' := [(4, vL (l4 - 1)), (2, vD (FP.dmul l2 4611686018427387904)), (6, vI l6)]) dX8_doubleBits_44 (by decide) rfl ?_
      refine Wa_iinc (ls' := [(6, vI (l6 + 1)), (4, vL (l4 - 1)), (2, vD (FP.dmul l2 4611686018427387904))]) 2 dX8_doubleBits_46 rfl (by decide) rfl ?_
      refine Wa_goto (tgt := 18) dX8_doubleBits_49 (by decide) ?_
      refine Wa_sub [2, 1, 0] rfl ?_
      exact h
theorem en_X8_doubleBits {g : AG} {d : Nat} {l0 : UInt64} {M : AM} {Q : Int → AM → Prop} (h : S_X8_doubleBits_0 g d l0 M Q) : MetL g mX8_doubleBits d [vD l0] M Q := MetA.of (by decide) (Nat.le_of_ble_eq_true rfl) h
