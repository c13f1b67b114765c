def S_X5_begin_0 (g : AG) (d : Nat) (M : AM) (Q : AM → Prop) : Prop := Wa g mX5_begin d 0 [(0, vR 3)] [] M (QV Q)
set_option maxRecDepth 100000 in
theorem sg_X5_begin_0 {g : AG} {d : Nat} {M : AM} {Q : AM → Prop} 
  (h : Q (mU (mU (mU M 3 0 0) 3 1 0) 3 2 0)) : S_X5_begin_0 g (d + 1) M Q := by
  show Wa _ _ _ _ _ _ _ _
  refine Wa_aload_n 0 dX5_begin_0 rfl rfl ?_
  refine Wa_iconst (z := 0) dX5_begin_1 ?_
  refine Wa_putI cf_X5 lk_X5_9 k_3 (j := 0) rfl (by decide) rfl rfl ⟨by decide, by decide⟩ dX5_begin_2 ?_
  refine Wa_aload_n 0 dX5_begin_5 rfl rfl ?_
  refine Wa_iconst (z := 0) dX5_begin_6 ?_
  refine Wa_putI cf_X5 lk_X5_15 k_3 (j := 1) rfl (by decide) rfl rfl ⟨by decide, by decide⟩ dX5_begin_7 ?_
  refine Wa_aload_n 0 dX5_begin_10 rfl rfl ?_
  refine Wa_iconst (z := 0) dX5_begin_11 ?_
  refine Wa_putI cf_X5 lk_X5_18 k_3 (j := 2) rfl (by decide) rfl rfl ⟨by decide, by decide⟩ dX5_begin_12 ?_
  exact Wa_return dX5_begin_15 rfl ⟨rfl, h⟩
theorem en_X5_begin {g : AG} {d : Nat} {M : AM} {Q : AM → Prop} (h : S_X5_begin_0 g d M Q) : MetV g mX5_begin d [vR 3] M Q := MetA.of (by decide) (Nat.le_of_ble_eq_true rfl) h
def S_X5_takes_0 (g : AG) (d : Nat) (l1 : Int) (M : AM) (Q : Int → AM → Prop) : Prop := Wa g mX5_takes d 0 [(0, vR 3), (1, vI l1)] [] M (QI Q)
set_option maxRecDepth 100000 in
theorem sg_X5_takes_0 {g : AG} {d : Nat} {l1 : Int} {M : AM} {Q : Int → AM → Prop} 
  (h : rg l1 ∧ (MetI g mX8_isLetter d [vI l1] M (fun z3 M2 => rg z3 → ((z3 = 0 → ((¬ l1 = 44 → ((¬ l1 = 59 → (Q 0 M2)) ∧ (l1 = 59 → (MetI g mX5_takesSemicolon d [vR 3] M2 (fun z9 M8 => rg z9 → ((z9 = 0 → (Q 0 M8)) ∧ (¬ z9 = 0 → (Q 1 M8)))))))) ∧ (l1 = 44 → (MetI g mX5_takesComma d [vR 3] M2 (fun z13 M12 => rg z13 → ((z13 = 0 ∨ z13 = 1) ∧ (Q z13 M12))))))) ∧ (¬ z3 = 0 → (MetI g mX5_takesLetter d [vR 3] M2 (fun z17 M16 => rg z17 → ((z17 = 0 ∨ z17 = 1) ∧ (Q z17 M16))))))))) : S_X5_takes_0 g (d + 1) l1 M Q := by
  show Wa _ _ _ _ _ _ _ _
  refine Wa_iload_n 1 dX5_takes_0 rfl rfl ?_
  obtain ⟨q1, h⟩ := h
  refine Wa_callS [vI l1] _ lc_X5_21 cs_X8_isLetter rfl rfl (Nat.le_refl _) (Nat.le_of_ble_eq_true rfl) dX5_takes_1 h ?_
  intro r M2 h
  obtain ⟨z3, rfl, r4, h⟩ := h
  have h := h r4
  refine Wa_if_eq (tgt := 12) dX5_takes_4 (by decide) r4 (fun c5 => ?_) (fun c5 => ?_)
  · have h := h.1 c5
    refine Wa_iload_n 1 dX5_takes_12 rfl rfl ?_
    refine Wa_bipush (z := 44) dX5_takes_13 (by decide) ?_
    refine Wa_icmp_ne (tgt := 23) dX5_takes_15 (by decide) q1 ⟨by decide, by decide⟩ (fun c6 => ?_) (fun c6 => ?_)
    · have h := h.1 c6
      refine Wa_iload_n 1 dX5_takes_23 rfl rfl ?_
      refine Wa_bipush (z := 59) dX5_takes_24 (by decide) ?_
      refine Wa_icmp_ne (tgt := 40) dX5_takes_26 (by decide) q1 ⟨by decide, by decide⟩ (fun c7 => ?_) (fun c7 => ?_)
      · have h := h.1 c7
        refine Wa_iconst (z := 0) dX5_takes_40 ?_
        exact Wa_zreturn dX5_takes_41 rfl (by decide) ⟨_, rfl, rg_bool (by decide), h⟩
      · have h := h.2 c7
        refine Wa_aload_n 0 dX5_takes_29 rfl rfl ?_
        refine Wa_callV [] _ cf_X5 rfl k_3 lc_X5_32 cv_X5_takesSemicolon rfl rfl (Nat.le_refl _) (Nat.le_of_ble_eq_true rfl) dX5_takes_30 h ?_
        intro r M8 h
        obtain ⟨z9, rfl, r10, h⟩ := h
        have h := h r10
        refine Wa_if_eq (tgt := 40) dX5_takes_33 (by decide) r10 (fun c11 => ?_) (fun c11 => ?_)
        · have h := h.1 c11
          refine Wa_iconst (z := 0) dX5_takes_40 ?_
          exact Wa_zreturn dX5_takes_41 rfl (by decide) ⟨_, rfl, rg_bool (by decide), h⟩
        · have h := h.2 c11
          refine Wa_iconst (z := 1) dX5_takes_36 ?_
          refine Wa_goto (tgt := 41) dX5_takes_37 (by decide) ?_
          exact Wa_zreturn dX5_takes_41 rfl (by decide) ⟨_, rfl, rg_bool (by decide), h⟩
    · have h := h.2 c6
      refine Wa_aload_n 0 dX5_takes_18 rfl rfl ?_
      refine Wa_callV [] _ cf_X5 rfl k_3 lc_X5_29 cv_X5_takesComma rfl rfl (Nat.le_refl _) (Nat.le_of_ble_eq_true rfl) dX5_takes_19 h ?_
      intro r M12 h
      obtain ⟨z13, rfl, r14, h⟩ := h
      have h := h r14
      obtain ⟨z15, h⟩ := h
      exact Wa_zreturn dX5_takes_22 rfl z15 ⟨_, rfl, rg_bool z15, h⟩
  · have h := h.2 c5
    refine Wa_aload_n 0 dX5_takes_7 rfl rfl ?_
    refine Wa_callV [] _ cf_X5 rfl k_3 lc_X5_25 cv_X5_takesLetter rfl rfl (Nat.le_refl _) (Nat.le_of_ble_eq_true rfl) dX5_takes_8 h ?_
    intro r M16 h
    obtain ⟨z17, rfl, r18, h⟩ := h
    have h := h r18
    obtain ⟨z19, h⟩ := h
    exact Wa_zreturn dX5_takes_11 rfl z19 ⟨_, rfl, rg_bool z19, h⟩
theorem en_X5_takes {g : AG} {d : Nat} {l1 : Int} {M : AM} {Q : Int → AM → Prop} (h : S_X5_takes_0 g d l1 M Q) : MetI g mX5_takes d [vR 3, vI l1] M Q := MetA.of (by decide) (Nat.le_of_ble_eq_true rfl) h
def S_X5_takesLetter_0 (g : AG) (d : Nat) (M : AM) (Q : Int → AM → Prop) : Prop := Wa g mX5_takesLetter d 0 [(0, vR 3)] [] M (QI Q)
set_option maxRecDepth 100000 in
theorem sg_X5_takesLetter_0 {g : AG} {d : Nat} {M : AM} {Q : Int → AM → Prop} 
  (h : (¬ (M 3 2) = 3 → ((¬ (M 3 2) = 0 → (rg ((M 3 2) + 1) ∧ (Q 1 (mU M 3 2 ((M 3 2) + 1))))) ∧ ((M 3 2) = 0 → (rg ((M 3 1) + 1) ∧ (rg ((M 3 2) + 1) ∧ (Q 1 (mU (mU M 3 1 ((M 3 1) + 1)) 3 2 ((M 3 2) + 1)))))))) ∧ ((M 3 2) = 3 → (Q 0 M))) : S_X5_takesLetter_0 g (d + 1) M Q := by
  show Wa _ _ _ _ _ _ _ _
  refine Wa_aload_n 0 dX5_takesLetter_0 rfl rfl ?_
  refine Wa_getI2 (v := (M 3 2)) cf_X5 lk_X5_18 k_3 (j := 2) rfl (by decide) rfl dX5_takesLetter_1 (fun r1 => ?_)
  refine Wa_iconst (z := 3) dX5_takesLetter_4 ?_
  refine Wa_icmp_ne (tgt := 10) dX5_takesLetter_5 (by decide) r1 ⟨by decide, by decide⟩ (fun c2 => ?_) (fun c2 => ?_)
  · have h := h.1 c2
    refine Wa_aload_n 0 dX5_takesLetter_10 rfl rfl ?_
    refine Wa_getI2 (v := (M 3 2)) cf_X5 lk_X5_18 k_3 (j := 2) rfl (by decide) rfl dX5_takesLetter_11 (fun r3 => ?_)
    refine Wa_if_ne (tgt := 27) dX5_takesLetter_14 (by decide) r3 (fun c4 => ?_) (fun c4 => ?_)
    · have h := h.1 c4
      refine Wa_aload_n 0 dX5_takesLetter_27 rfl rfl ?_
      refine Wa_dup dX5_takesLetter_28 rfl ?_
      refine Wa_getI2 (v := (M 3 2)) cf_X5 lk_X5_18 k_3 (j := 2) rfl (by decide) rfl dX5_takesLetter_29 (fun r5 => ?_)
      refine Wa_iconst (z := 1) dX5_takesLetter_32 ?_
      refine Wa_iadd dX5_takesLetter_33 ?_
      obtain ⟨q6, h⟩ := h
      refine Wa_putI cf_X5 lk_X5_18 k_3 (j := 2) rfl (by decide) rfl rfl q6 dX5_takesLetter_34 ?_
      refine Wa_iconst (z := 1) dX5_takesLetter_37 ?_
      exact Wa_zreturn dX5_takesLetter_38 rfl (by decide) ⟨_, rfl, rg_bool (by decide), h⟩
    · have h := h.2 c4
      refine Wa_aload_n 0 dX5_takesLetter_17 rfl rfl ?_
      refine Wa_dup dX5_takesLetter_18 rfl ?_
      refine Wa_getI2 (v := (M 3 1)) cf_X5 lk_X5_15 k_3 (j := 1) rfl (by decide) rfl dX5_takesLetter_19 (fun r7 => ?_)
      refine Wa_iconst (z := 1) dX5_takesLetter_22 ?_
      refine Wa_iadd dX5_takesLetter_23 ?_
      obtain ⟨q8, h⟩ := h
      refine Wa_putI cf_X5 lk_X5_15 k_3 (j := 1) rfl (by decide) rfl rfl q8 dX5_takesLetter_24 ?_
      refine Wa_aload_n 0 dX5_takesLetter_27 rfl rfl ?_
      refine Wa_dup dX5_takesLetter_28 rfl ?_
      refine Wa_getI2 (v := (M 3 2)) cf_X5 lk_X5_18 k_3 (j := 2) rfl (by decide) (mU_nej (by decide)) dX5_takesLetter_29 (fun r9 => ?_)
      refine Wa_iconst (z := 1) dX5_takesLetter_32 ?_
      refine Wa_iadd dX5_takesLetter_33 ?_
      obtain ⟨q10, h⟩ := h
      refine Wa_putI cf_X5 lk_X5_18 k_3 (j := 2) rfl (by decide) rfl rfl q10 dX5_takesLetter_34 ?_
      refine Wa_iconst (z := 1) dX5_takesLetter_37 ?_
      exact Wa_zreturn dX5_takesLetter_38 rfl (by decide) ⟨_, rfl, rg_bool (by decide), h⟩
  · have h := h.2 c2
    refine Wa_iconst (z := 0) dX5_takesLetter_8 ?_
    exact Wa_zreturn dX5_takesLetter_9 rfl (by decide) ⟨_, rfl, rg_bool (by decide), h⟩
theorem en_X5_takesLetter {g : AG} {d : Nat} {M : AM} {Q : Int → AM → Prop} (h : S_X5_takesLetter_0 g d M Q) : MetI g mX5_takesLetter d [vR 3] M Q := MetA.of (by decide) (Nat.le_of_ble_eq_true rfl) h
def S_X5_takesComma_0 (g : AG) (d : Nat) (M : AM) (Q : Int → AM → Prop) : Prop := Wa g mX5_takesComma d 0 [(0, vR 3)] [] M (QI Q)
set_option maxRecDepth 100000 in
theorem sg_X5_takesComma_0 {g : AG} {d : Nat} {M : AM} {Q : Int → AM → Prop} 
  (h : ((M 3 2) = 0 → (Q 0 M)) ∧ (¬ (M 3 2) = 0 → ((¬ (M 3 1) = 8 → (Q 1 (mU M 3 2 0))) ∧ ((M 3 1) = 8 → (Q 0 M))))) : S_X5_takesComma_0 g (d + 1) M Q := by
  show Wa _ _ _ _ _ _ _ _
  refine Wa_aload_n 0 dX5_takesComma_0 rfl rfl ?_
  refine Wa_getI2 (v := (M 3 2)) cf_X5 lk_X5_18 k_3 (j := 2) rfl (by decide) rfl dX5_takesComma_1 (fun r1 => ?_)
  refine Wa_if_eq (tgt := 16) dX5_takesComma_4 (by decide) r1 (fun c2 => ?_) (fun c2 => ?_)
  · have h := h.1 c2
    refine Wa_iconst (z := 0) dX5_takesComma_16 ?_
    exact Wa_zreturn dX5_takesComma_17 rfl (by decide) ⟨_, rfl, rg_bool (by decide), h⟩
  · have h := h.2 c2
    refine Wa_aload_n 0 dX5_takesComma_7 rfl rfl ?_
    refine Wa_getI2 (v := (M 3 1)) cf_X5 lk_X5_15 k_3 (j := 1) rfl (by decide) rfl dX5_takesComma_8 (fun r3 => ?_)
    refine Wa_bipush (z := 8) dX5_takesComma_11 (by decide) ?_
    refine Wa_icmp_ne (tgt := 18) dX5_takesComma_13 (by decide) r3 ⟨by decide, by decide⟩ (fun c4 => ?_) (fun c4 => ?_)
    · have h := h.1 c4
      refine Wa_aload_n 0 dX5_takesComma_18 rfl rfl ?_
      refine Wa_iconst (z := 0) dX5_takesComma_19 ?_
      refine Wa_putI cf_X5 lk_X5_18 k_3 (j := 2) rfl (by decide) rfl rfl ⟨by decide, by decide⟩ dX5_takesComma_20 ?_
      refine Wa_iconst (z := 1) dX5_takesComma_23 ?_
      exact Wa_zreturn dX5_takesComma_24 rfl (by decide) ⟨_, rfl, rg_bool (by decide), h⟩
    · have h := h.2 c4
      refine Wa_iconst (z := 0) dX5_takesComma_16 ?_
      exact Wa_zreturn dX5_takesComma_17 rfl (by decide) ⟨_, rfl, rg_bool (by decide), h⟩
theorem en_X5_takesComma {g : AG} {d : Nat} {M : AM} {Q : Int → AM → Prop} (h : S_X5_takesComma_0 g d M Q) : MetI g mX5_takesComma d [vR 3] M Q := MetA.of (by decide) (Nat.le_of_ble_eq_true rfl) h
def S_X5_takesSemicolon_0 (g : AG) (d : Nat) (M : AM) (Q : Int → AM → Prop) : Prop := Wa g mX5_takesSemicolon d 0 [(0, vR 3)] [] M (QI Q)
set_option maxRecDepth 100000 in
theorem sg_X5_takesSemicolon_0 {g : AG} {d : Nat} {M : AM} {Q : Int → AM → Prop} 
  (h : ((M 3 0) = 1 → (Q 0 M)) ∧ (¬ (M 3 0) = 1 → (MetI g mX5_sideMayEnd d [vR 3] M (fun z4 M3 => rg z4 → ((¬ z4 = 0 → (Q 1 (mU (mU (mU M3 3 0 1) 3 1 0) 3 2 0))) ∧ (z4 = 0 → (Q 0 M3))))))) : S_X5_takesSemicolon_0 g (d + 1) M Q := by
  show Wa _ _ _ _ _ _ _ _
  refine Wa_aload_n 0 dX5_takesSemicolon_0 rfl rfl ?_
  refine Wa_getI2 (v := (M 3 0)) cf_X5 lk_X5_9 k_3 (j := 0) rfl (by decide) rfl dX5_takesSemicolon_1 (fun r1 => ?_)
  refine Wa_iconst (z := 1) dX5_takesSemicolon_4 ?_
  refine Wa_icmp_eq (tgt := 15) dX5_takesSemicolon_5 (by decide) r1 ⟨by decide, by decide⟩ (fun c2 => ?_) (fun c2 => ?_)
  · have h := h.1 c2
    refine Wa_iconst (z := 0) dX5_takesSemicolon_15 ?_
    exact Wa_zreturn dX5_takesSemicolon_16 rfl (by decide) ⟨_, rfl, rg_bool (by decide), h⟩
  · have h := h.2 c2
    refine Wa_aload_n 0 dX5_takesSemicolon_8 rfl rfl ?_
    refine Wa_callV [] _ cf_X5 rfl k_3 lc_X5_35 cv_X5_sideMayEnd rfl rfl (Nat.le_refl _) (Nat.le_of_ble_eq_true rfl) dX5_takesSemicolon_9 h ?_
    intro r M3 h
    obtain ⟨z4, rfl, r5, h⟩ := h
    have h := h r5
    refine Wa_if_ne (tgt := 17) dX5_takesSemicolon_12 (by decide) r5 (fun c6 => ?_) (fun c6 => ?_)
    · have h := h.1 c6
      refine Wa_aload_n 0 dX5_takesSemicolon_17 rfl rfl ?_
      refine Wa_iconst (z := 1) dX5_takesSemicolon_18 ?_
      refine Wa_putI cf_X5 lk_X5_9 k_3 (j := 0) rfl (by decide) rfl rfl ⟨by decide, by decide⟩ dX5_takesSemicolon_19 ?_
      refine Wa_aload_n 0 dX5_takesSemicolon_22 rfl rfl ?_
      refine Wa_iconst (z := 0) dX5_takesSemicolon_23 ?_
      refine Wa_putI cf_X5 lk_X5_15 k_3 (j := 1) rfl (by decide) rfl rfl ⟨by decide, by decide⟩ dX5_takesSemicolon_24 ?_
      refine Wa_aload_n 0 dX5_takesSemicolon_27 rfl rfl ?_
      refine Wa_iconst (z := 0) dX5_takesSemicolon_28 ?_
      refine Wa_putI cf_X5 lk_X5_18 k_3 (j := 2) rfl (by decide) rfl rfl ⟨by decide, by decide⟩ dX5_takesSemicolon_29 ?_
      refine Wa_iconst (z := 1) dX5_takesSemicolon_32 ?_
      exact Wa_zreturn dX5_takesSemicolon_33 rfl (by decide) ⟨_, rfl, rg_bool (by decide), h⟩
    · have h := h.2 c6
      refine Wa_iconst (z := 0) dX5_takesSemicolon_15 ?_
      exact Wa_zreturn dX5_takesSemicolon_16 rfl (by decide) ⟨_, rfl, rg_bool (by decide), h⟩
theorem en_X5_takesSemicolon {g : AG} {d : Nat} {M : AM} {Q : Int → AM → Prop} (h : S_X5_takesSemicolon_0 g d M Q) : MetI g mX5_takesSemicolon d [vR 3] M Q := MetA.of (by decide) (Nat.le_of_ble_eq_true rfl) h
def S_X5_mayEnd_0 (g : AG) (d : Nat) (M : AM) (Q : Int → AM → Prop) : Prop := Wa g mX5_mayEnd d 0 [(0, vR 3)] [] M (QI Q)
set_option maxRecDepth 100000 in
theorem sg_X5_mayEnd_0 {g : AG} {d : Nat} {M : AM} {Q : Int → AM → Prop} 
  (h : (¬ (M 3 0) = 1 → (Q 0 M)) ∧ ((M 3 0) = 1 → (MetI g mX5_sideMayEnd d [vR 3] M (fun z4 M3 => rg z4 → ((z4 = 0 → (Q 0 M3)) ∧ (¬ z4 = 0 → (Q 1 M3))))))) : S_X5_mayEnd_0 g (d + 1) M Q := by
  show Wa _ _ _ _ _ _ _ _
  refine Wa_aload_n 0 dX5_mayEnd_0 rfl rfl ?_
  refine Wa_getI2 (v := (M 3 0)) cf_X5 lk_X5_9 k_3 (j := 0) rfl (by decide) rfl dX5_mayEnd_1 (fun r1 => ?_)
  refine Wa_iconst (z := 1) dX5_mayEnd_4 ?_
  refine Wa_icmp_ne (tgt := 19) dX5_mayEnd_5 (by decide) r1 ⟨by decide, by decide⟩ (fun c2 => ?_) (fun c2 => ?_)
  · have h := h.1 c2
    refine Wa_iconst (z := 0) dX5_mayEnd_19 ?_
    exact Wa_zreturn dX5_mayEnd_20 rfl (by decide) ⟨_, rfl, rg_bool (by decide), h⟩
  · have h := h.2 c2
    refine Wa_aload_n 0 dX5_mayEnd_8 rfl rfl ?_
    refine Wa_callV [] _ cf_X5 rfl k_3 lc_X5_35 cv_X5_sideMayEnd rfl rfl (Nat.le_refl _) (Nat.le_of_ble_eq_true rfl) dX5_mayEnd_9 h ?_
    intro r M3 h
    obtain ⟨z4, rfl, r5, h⟩ := h
    have h := h r5
    refine Wa_if_eq (tgt := 19) dX5_mayEnd_12 (by decide) r5 (fun c6 => ?_) (fun c6 => ?_)
    · have h := h.1 c6
      refine Wa_iconst (z := 0) dX5_mayEnd_19 ?_
      exact Wa_zreturn dX5_mayEnd_20 rfl (by decide) ⟨_, rfl, rg_bool (by decide), h⟩
    · have h := h.2 c6
      refine Wa_iconst (z := 1) dX5_mayEnd_15 ?_
      refine Wa_goto (tgt := 20) dX5_mayEnd_16 (by decide) ?_
      exact Wa_zreturn dX5_mayEnd_20 rfl (by decide) ⟨_, rfl, rg_bool (by decide), h⟩
theorem en_X5_mayEnd {g : AG} {d : Nat} {M : AM} {Q : Int → AM → Prop} (h : S_X5_mayEnd_0 g d M Q) : MetI g mX5_mayEnd d [vR 3] M Q := MetA.of (by decide) (Nat.le_of_ble_eq_true rfl) h
def S_X5_sideMayEnd_0 (g : AG) (d : Nat) (M : AM) (Q : Int → AM → Prop) : Prop := Wa g mX5_sideMayEnd d 0 [(0, vR 3)] [] M (QI Q)
set_option maxRecDepth 100000 in
theorem sg_X5_sideMayEnd_0 {g : AG} {d : Nat} {M : AM} {Q : Int → AM → Prop} 
  (h : ((M 3 1) = 0 → (Q 1 M)) ∧ (¬ (M 3 1) = 0 → (((M 3 2) ≤ 0 → (Q 0 M)) ∧ (¬ (M 3 2) ≤ 0 → (Q 1 M))))) : S_X5_sideMayEnd_0 g (d + 1) M Q := by
  show Wa _ _ _ _ _ _ _ _
  refine Wa_aload_n 0 dX5_sideMayEnd_0 rfl rfl ?_
  refine Wa_getI2 (v := (M 3 1)) cf_X5 lk_X5_15 k_3 (j := 1) rfl (by decide) rfl dX5_sideMayEnd_1 (fun r1 => ?_)
  refine Wa_if_eq (tgt := 14) dX5_sideMayEnd_4 (by decide) r1 (fun c2 => ?_) (fun c2 => ?_)
  · have h := h.1 c2
    refine Wa_iconst (z := 1) dX5_sideMayEnd_14 ?_
    refine Wa_goto (tgt := 19) dX5_sideMayEnd_15 (by decide) ?_
    exact Wa_zreturn dX5_sideMayEnd_19 rfl (by decide) ⟨_, rfl, rg_bool (by decide), h⟩
  · have h := h.2 c2
    refine Wa_aload_n 0 dX5_sideMayEnd_7 rfl rfl ?_
    refine Wa_getI2 (v := (M 3 2)) cf_X5 lk_X5_18 k_3 (j := 2) rfl (by decide) rfl dX5_sideMayEnd_8 (fun r3 => ?_)
    refine Wa_if_le (tgt := 18) dX5_sideMayEnd_11 (by decide) r3 (fun c4 => ?_) (fun c4 => ?_)
    · have h := h.1 c4
      refine Wa_iconst (z := 0) dX5_sideMayEnd_18 ?_
      exact Wa_zreturn dX5_sideMayEnd_19 rfl (by decide) ⟨_, rfl, rg_bool (by decide), h⟩
    · have h := h.2 c4
      refine Wa_iconst (z := 1) dX5_sideMayEnd_14 ?_
      refine Wa_goto (tgt := 19) dX5_sideMayEnd_15 (by decide) ?_
      exact Wa_zreturn dX5_sideMayEnd_19 rfl (by decide) ⟨_, rfl, rg_bool (by decide), h⟩
theorem en_X5_sideMayEnd {g : AG} {d : Nat} {M : AM} {Q : Int → AM → Prop} (h : S_X5_sideMayEnd_0 g d M Q) : MetI g mX5_sideMayEnd d [vR 3] M Q := MetA.of (by decide) (Nat.le_of_ble_eq_true rfl) h
