def S_X2_compare_0 (g : AG) (d : Nat) (o : Nat) (M : AM) (Q : AM → Prop) : Prop := Wa g mX2_compare d 0 [(0, vR o)] [] M (QV Q)
def S_X2_compare_12 (g : AG) (d : Nat) (o : Nat) (l1 : Int) (M : AM) (Q : AM → Prop) : Prop := Wa g mX2_compare d 12 [(0, vR o), (1, vI l1)] [] M (QV Q)
set_option maxRecDepth 100000 in
theorem sg_X2_compare_0 {g : AG} {d : Nat} {o : Nat} {M : AM} {Q : AM → Prop} (hm : IsMatch o)
  (h : S_X2_compare_12 g (d + 1) o 0 (mU (mU M o 7 0) o 8 0) Q) : S_X2_compare_0 g (d + 1) o M Q := by
  show Wa _ _ _ _ _ _ _ _
  refine Wa_aload_n 0 dX2_compare_0 rfl rfl ?_
  refine Wa_iconst (z := 0) dX2_compare_1 ?_
  refine Wa_putI cf_X2 lk_X2_43 hm.1 (j := 7) rfl (by decide) rfl rfl ⟨by decide, by decide⟩ dX2_compare_2 ?_
  refine Wa_aload_n 0 dX2_compare_5 rfl rfl ?_
  refine Wa_iconst (z := 0) dX2_compare_6 ?_
  refine Wa_putI cf_X2 lk_X2_47 hm.1 (j := 8) rfl (by decide) rfl rfl ⟨by decide, by decide⟩ dX2_compare_7 ?_
  refine Wa_iconst (z := 0) dX2_compare_10 ?_
  refine Wa_istore_n (ls' := [(1, vI 0), (0, vR o)]) dX2_compare_11 rfl (by decide) rfl ?_
  refine Wa_sub [1, 0] rfl ?_
  exact h
set_option maxRecDepth 100000 in
theorem sg_X2_compare_12 {g : AG} {d : Nat} {o : Nat} {l1 : Int} {M : AM} {Q : AM → Prop} (hm : IsMatch o)
  (h : rg l1 ∧ ((8 ≤ l1 → (MetV g mX2_matchParts d [vR o, vI 0, vI (M (o + 5) 0), vI 0, vI (M (o + 5) 1), vI 0] M (fun M5 => MetV g mX2_slideGaps d [vR o] M5 (fun M8 => Q M8)))) ∧ (¬ 8 ≤ l1 → ((0 ≤ l1 ∧ l1 < 8) ∧ (S_X2_compare_12 g (d + 1) o (l1 + 1) (mU (mU M (o + 7) (l1).toNat (-1)) (o + 8) (l1).toNat (-1)) Q))))) : S_X2_compare_12 g (d + 1) o l1 M Q := by
  show Wa _ _ _ _ _ _ _ _
  refine Wa_iload_n 1 dX2_compare_12 rfl rfl ?_
  refine Wa_bipush (z := 8) dX2_compare_13 (by decide) ?_
  obtain ⟨q1, h⟩ := h
  refine Wa_icmp_ge (tgt := 42) dX2_compare_15 (by decide) q1 ⟨by decide, by decide⟩ (fun c2 => ?_) (fun c2 => ?_)
  · have h := h.1 c2
    refine Wa_aload_n 0 dX2_compare_42 rfl rfl ?_
    refine Wa_iconst (z := 0) dX2_compare_43 ?_
    refine Wa_aload_n 0 dX2_compare_44 rfl rfl ?_
    refine Wa_getR cf_X2 lk_X2_12 hm.1 (j := 0) rfl (by decide) dX2_compare_45 ?_
    refine Wa_getR cf_X7 lk_X2_50 hm.2.1.1 (j := 1) rfl (by decide) dX2_compare_48 ?_
    refine Wa_iconst (z := 0) dX2_compare_51 ?_
    refine Wa_iald2 (v := (M (o + 5) 0)) hm.2.1.2.2.2 ⟨by decide, by decide⟩ rfl dX2_compare_52 (fun r3 => ?_)
    refine Wa_iconst (z := 0) dX2_compare_53 ?_
    refine Wa_aload_n 0 dX2_compare_54 rfl rfl ?_
    refine Wa_getR cf_X2 lk_X2_12 hm.1 (j := 0) rfl (by decide) dX2_compare_55 ?_
    refine Wa_getR cf_X7 lk_X2_50 hm.2.1.1 (j := 1) rfl (by decide) dX2_compare_58 ?_
    refine Wa_iconst (z := 1) dX2_compare_61 ?_
    refine Wa_iald2 (v := (M (o + 5) 1)) hm.2.1.2.2.2 ⟨by decide, by decide⟩ rfl dX2_compare_62 (fun r4 => ?_)
    refine Wa_iconst (z := 0) dX2_compare_63 ?_
    refine Wa_callV [vI 0, vI (M (o + 5) 0), vI 0, vI (M (o + 5) 1), vI 0] _ cf_X2 rfl hm.1 lc_X2_53 cv_X2_matchParts rfl rfl (Nat.le_refl _) (Nat.le_of_ble_eq_true rfl) dX2_compare_64 h ?_
    intro r M5 h
    obtain ⟨rfl, h⟩ := h
    refine Wa_aload_n 0 dX2_compare_67 rfl rfl ?_
    refine Wa_callV [] _ cf_X2 rfl hm.1 lc_X2_57 cv_X2_slideGaps rfl rfl (Nat.le_refl _) (Nat.le_of_ble_eq_true rfl) dX2_compare_68 h ?_
    intro r M8 h
    obtain ⟨rfl, h⟩ := h
    exact Wa_return dX2_compare_71 rfl ⟨rfl, h⟩
  · have h := h.2 c2
    refine Wa_aload_n 0 dX2_compare_18 rfl rfl ?_
    refine Wa_getR cf_X2 lk_X2_20 hm.1 (j := 1) rfl (by decide) dX2_compare_19 ?_
    refine Wa_iconst (z := 0) dX2_compare_22 ?_
    refine Wa_aald hm.2.2.1 ⟨by decide, by decide⟩ dX2_compare_23 ?_
    refine Wa_iload_n 1 dX2_compare_24 rfl rfl ?_
    refine Wa_iconst (z := (-1)) dX2_compare_25 ?_
    obtain ⟨b11, h⟩ := h
    refine Wa_iast (hm.2.2.2.1 0 (by decide)) b11 ⟨by decide, by decide⟩ dX2_compare_26 ?_
    refine Wa_aload_n 0 dX2_compare_27 rfl rfl ?_
    refine Wa_getR cf_X2 lk_X2_20 hm.1 (j := 1) rfl (by decide) dX2_compare_28 ?_
    refine Wa_iconst (z := 1) dX2_compare_31 ?_
    refine Wa_aald hm.2.2.1 ⟨by decide, by decide⟩ dX2_compare_32 ?_
    refine Wa_iload_n 1 dX2_compare_33 rfl rfl ?_
    refine Wa_iconst (z := (-1)) dX2_compare_34 ?_
    refine Wa_iast (hm.2.2.2.1 1 (by decide)) b11 ⟨by decide, by decide⟩ dX2_compare_35 ?_
    refine Wa_iinc (ls' := [(1, vI (l1 + 1)), (0, vR o)]) 1 dX2_compare_36 rfl (by decide) rfl ?_
    refine Wa_goto (tgt := 12) dX2_compare_39 (by decide) ?_
    refine Wa_sub [1, 0] rfl ?_
    exact h
theorem en_X2_compare {g : AG} {d : Nat} {o : Nat} {M : AM} {Q : AM → Prop} (h : S_X2_compare_0 g d o M Q) : MetV g mX2_compare d [vR o] M Q := MetA.of (by decide) (Nat.le_of_ble_eq_true rfl) h
def S_X2_kept_0 (g : AG) (d : Nat) (o : Nat) (M : AM) (Q : Int → AM → Prop) : Prop := Wa g mX2_kept d 0 [(0, vR o)] [] M (QI Q)
def S_X2_kept_4 (g : AG) (d : Nat) (o : Nat) (l1 : Int) (l2 : Int) (M : AM) (Q : Int → AM → Prop) : Prop := Wa g mX2_kept d 4 [(0, vR o), (1, vI l1), (2, vI l2)] [] M (QI Q)
set_option maxRecDepth 100000 in
theorem sg_X2_kept_0 {g : AG} {d : Nat} {o : Nat} {M : AM} {Q : Int → AM → Prop} (hm : IsMatch o)
  (h : S_X2_kept_4 g (d + 1) o 0 0 M Q) : S_X2_kept_0 g (d + 1) o M Q := by
  show Wa _ _ _ _ _ _ _ _
  refine Wa_iconst (z := 0) dX2_kept_0 ?_
  refine Wa_istore_n (ls' := [(1, vI 0), (0, vR o)]) dX2_kept_1 rfl (by decide) rfl ?_
  refine Wa_iconst (z := 0) dX2_kept_2 ?_
  refine Wa_istore_n (ls' := [(2, vI 0), (1, vI 0), (0, vR o)]) dX2_kept_3 rfl (by decide) rfl ?_
  refine Wa_sub [2, 1, 0] rfl ?_
  exact h
set_option maxRecDepth 100000 in
theorem sg_X2_kept_4 {g : AG} {d : Nat} {o : Nat} {l1 : Int} {l2 : Int} {M : AM} {Q : Int → AM → Prop} (hm : IsMatch o)
  (h : rg l2 ∧ (((M (o + 5) 0) ≤ l2 → (rg l1 ∧ (Q l1 M))) ∧ (¬ (M (o + 5) 0) ≤ l2 → ((0 ≤ l2 ∧ l2 < 8) ∧ ((¬ (M (o + 7) (l2).toNat) = (-1) → (S_X2_kept_4 g (d + 1) o (l1 + 1) (l2 + 1) M Q)) ∧ ((M (o + 7) (l2).toNat) = (-1) → (S_X2_kept_4 g (d + 1) o (l1 + 0) (l2 + 1) M Q))))))) : S_X2_kept_4 g (d + 1) o l1 l2 M Q := by
  show Wa _ _ _ _ _ _ _ _
  refine Wa_iload_n 2 dX2_kept_4 rfl rfl ?_
  refine Wa_aload_n 0 dX2_kept_5 rfl rfl ?_
  refine Wa_getR cf_X2 lk_X2_12 hm.1 (j := 0) rfl (by decide) dX2_kept_6 ?_
  refine Wa_getR cf_X7 lk_X2_50 hm.2.1.1 (j := 1) rfl (by decide) dX2_kept_9 ?_
  refine Wa_iconst (z := 0) dX2_kept_12 ?_
  refine Wa_iald2 (v := (M (o + 5) 0)) hm.2.1.2.2.2 ⟨by decide, by decide⟩ rfl dX2_kept_13 (fun r1 => ?_)
  obtain ⟨q2, h⟩ := h
  refine Wa_icmp_ge (tgt := 43) dX2_kept_14 (by decide) q2 r1 (fun c3 => ?_) (fun c3 => ?_)
  · have h := h.1 c3
    refine Wa_iload_n 1 dX2_kept_43 rfl rfl ?_
    obtain ⟨q4, h⟩ := h
    exact Wa_ireturn dX2_kept_44 rfl ⟨_, rfl, q4, h⟩
  · have h := h.2 c3
    refine Wa_iload_n 1 dX2_kept_17 rfl rfl ?_
    refine Wa_aload_n 0 dX2_kept_18 rfl rfl ?_
    refine Wa_getR cf_X2 lk_X2_20 hm.1 (j := 1) rfl (by decide) dX2_kept_19 ?_
    refine Wa_iconst (z := 0) dX2_kept_22 ?_
    refine Wa_aald hm.2.2.1 ⟨by decide, by decide⟩ dX2_kept_23 ?_
    refine Wa_iload_n 2 dX2_kept_24 rfl rfl ?_
    obtain ⟨b5, h⟩ := h
    refine Wa_iald2 (v := (M (o + 7) (l2).toNat)) (hm.2.2.2.1 0 (by decide)) b5 rfl dX2_kept_25 (fun r6 => ?_)
    refine Wa_iconst (z := (-1)) dX2_kept_26 ?_
    refine Wa_icmp_ne (tgt := 34) dX2_kept_27 (by decide) r6 ⟨by decide, by decide⟩ (fun c7 => ?_) (fun c7 => ?_)
    · have h := h.1 c7
      refine Wa_iconst (z := 1) dX2_kept_34 ?_
      refine Wa_iadd dX2_kept_35 ?_
      refine Wa_istore_n (ls' := [(1, vI (l1 + 1)), (0, vR o), (2, vI l2)]) dX2_kept_36 rfl (by decide) rfl ?_
      refine Wa_iinc (ls' := [(2, vI (l2 + 1)), (1, vI (l1 + 1)), (0, vR o)]) 2 dX2_kept_37 rfl (by decide) rfl ?_
      refine Wa_goto (tgt := 4) dX2_kept_40 (by decide) ?_
      refine Wa_sub [2, 1, 0] rfl ?_
      exact h
    · have h := h.2 c7
      refine Wa_iconst (z := 0) dX2_kept_30 ?_
      refine Wa_goto (tgt := 35) dX2_kept_31 (by decide) ?_
      refine Wa_iadd dX2_kept_35 ?_
      refine Wa_istore_n (ls' := [(1, vI (l1 + 0)), (0, vR o), (2, vI l2)]) dX2_kept_36 rfl (by decide) rfl ?_
      refine Wa_iinc (ls' := [(2, vI (l2 + 1)), (1, vI (l1 + 0)), (0, vR o)]) 2 dX2_kept_37 rfl (by decide) rfl ?_
      refine Wa_goto (tgt := 4) dX2_kept_40 (by decide) ?_
      refine Wa_sub [2, 1, 0] rfl ?_
      exact h
theorem en_X2_kept {g : AG} {d : Nat} {o : Nat} {M : AM} {Q : Int → AM → Prop} (h : S_X2_kept_0 g d o M Q) : MetI g mX2_kept d [vR o] M Q := MetA.of (by decide) (Nat.le_of_ble_eq_true rfl) h
def S_X2_notKept_0 (g : AG) (d : Nat) (o : Nat) (M : AM) (Q : Int → AM → Prop) : Prop := Wa g mX2_notKept d 0 [(0, vR o)] [] M (QI Q)
set_option maxRecDepth 100000 in
theorem sg_X2_notKept_0 {g : AG} {d : Nat} {o : Nat} {M : AM} {Q : Int → AM → Prop} (hm : IsMatch o)
  (h : MetI g mX7_total d [vR (o + 1)] M (fun z2 M1 => rg z2 → (MetI g mX2_kept d [vR o] M1 (fun z5 M4 => rg z5 → (rg (z2 - (2 * z5)) ∧ (Q (z2 - (2 * z5)) M4)))))) : S_X2_notKept_0 g (d + 1) o M Q := by
  show Wa _ _ _ _ _ _ _ _
  refine Wa_aload_n 0 dX2_notKept_0 rfl rfl ?_
  refine Wa_getR cf_X2 lk_X2_12 hm.1 (j := 0) rfl (by decide) dX2_notKept_1 ?_
  refine Wa_callV [] _ cf_X7 rfl hm.2.1.1 lc_X2_60 cv_X7_total rfl rfl (Nat.le_refl _) (Nat.le_of_ble_eq_true rfl) dX2_notKept_4 h ?_
  intro r M1 h
  obtain ⟨z2, rfl, r3, h⟩ := h
  have h := h r3
  refine Wa_iconst (z := 2) dX2_notKept_7 ?_
  refine Wa_aload_n 0 dX2_notKept_8 rfl rfl ?_
  refine Wa_callV [] _ cf_X2 rfl hm.1 lc_X2_64 cv_X2_kept rfl rfl (Nat.le_refl _) (Nat.le_of_ble_eq_true rfl) dX2_notKept_9 h ?_
  intro r M4 h
  obtain ⟨z5, rfl, r6, h⟩ := h
  have h := h r6
  refine Wa_imul dX2_notKept_12 ?_
  refine Wa_isub dX2_notKept_13 ?_
  obtain ⟨q7, h⟩ := h
  exact Wa_ireturn dX2_notKept_14 rfl ⟨_, rfl, q7, h⟩
theorem en_X2_notKept {g : AG} {d : Nat} {o : Nat} {M : AM} {Q : Int → AM → Prop} (h : S_X2_notKept_0 g d o M Q) : MetI g mX2_notKept d [vR o] M Q := MetA.of (by decide) (Nat.le_of_ble_eq_true rfl) h
def S_X2_shortest_0 (g : AG) (d : Nat) (o : Nat) (M : AM) (Q : Int → AM → Prop) : Prop := Wa g mX2_shortest d 0 [(0, vR o)] [] M (QI Q)
set_option maxRecDepth 100000 in
theorem sg_X2_shortest_0 {g : AG} {d : Nat} {o : Nat} {M : AM} {Q : Int → AM → Prop} (hm : IsMatch o)
  (h : MetI g mX0_most d [vR (o + 9), vR (o + 3), vI 0, vI (M (o + 5) 0), vR (o + 4), vI 0, vI (M (o + 5) 1)] M (fun z4 M3 => rg z4 → (MetI g mX7_total d [vR (o + 1)] M3 (fun z7 M6 => rg z7 → (rg (z7 - (2 * z4)) ∧ (Q (z7 - (2 * z4)) M6)))))) : S_X2_shortest_0 g (d + 1) o M Q := by
  show Wa _ _ _ _ _ _ _ _
  refine Wa_aload_n 0 dX2_shortest_0 rfl rfl ?_
  refine Wa_getR cf_X2 lk_X2_26 hm.1 (j := 2) rfl (by decide) dX2_shortest_1 ?_
  refine Wa_aload_n 0 dX2_shortest_4 rfl rfl ?_
  refine Wa_getR cf_X2 lk_X2_12 hm.1 (j := 0) rfl (by decide) dX2_shortest_5 ?_
  refine Wa_getR cf_X7 lk_X2_67 hm.2.1.1 (j := 0) rfl (by decide) dX2_shortest_8 ?_
  refine Wa_iconst (z := 0) dX2_shortest_11 ?_
  refine Wa_aald hm.2.1.2.1 ⟨by decide, by decide⟩ dX2_shortest_12 ?_
  refine Wa_iconst (z := 0) dX2_shortest_13 ?_
  refine Wa_aload_n 0 dX2_shortest_14 rfl rfl ?_
  refine Wa_getR cf_X2 lk_X2_12 hm.1 (j := 0) rfl (by decide) dX2_shortest_15 ?_
  refine Wa_getR cf_X7 lk_X2_50 hm.2.1.1 (j := 1) rfl (by decide) dX2_shortest_18 ?_
  refine Wa_iconst (z := 0) dX2_shortest_21 ?_
  refine Wa_iald2 (v := (M (o + 5) 0)) hm.2.1.2.2.2 ⟨by decide, by decide⟩ rfl dX2_shortest_22 (fun r1 => ?_)
  refine Wa_aload_n 0 dX2_shortest_23 rfl rfl ?_
  refine Wa_getR cf_X2 lk_X2_12 hm.1 (j := 0) rfl (by decide) dX2_shortest_24 ?_
  refine Wa_getR cf_X7 lk_X2_67 hm.2.1.1 (j := 0) rfl (by decide) dX2_shortest_27 ?_
  refine Wa_iconst (z := 1) dX2_shortest_30 ?_
  refine Wa_aald hm.2.1.2.1 ⟨by decide, by decide⟩ dX2_shortest_31 ?_
  refine Wa_iconst (z := 0) dX2_shortest_32 ?_
  refine Wa_aload_n 0 dX2_shortest_33 rfl rfl ?_
  refine Wa_getR cf_X2 lk_X2_12 hm.1 (j := 0) rfl (by decide) dX2_shortest_34 ?_
  refine Wa_getR cf_X7 lk_X2_50 hm.2.1.1 (j := 1) rfl (by decide) dX2_shortest_37 ?_
  refine Wa_iconst (z := 1) dX2_shortest_40 ?_
  refine Wa_iald2 (v := (M (o + 5) 1)) hm.2.1.2.2.2 ⟨by decide, by decide⟩ rfl dX2_shortest_41 (fun r2 => ?_)
  refine Wa_callV [vR (o + 3), vI 0, vI (M (o + 5) 0), vR (o + 4), vI 0, vI (M (o + 5) 1)] _ cf_X0 rfl hm.2.2.2.2.1.1 lc_X2_70 cv_X0_most rfl rfl (Nat.le_refl _) (Nat.le_of_ble_eq_true rfl) dX2_shortest_42 h ?_
  intro r M3 h
  obtain ⟨z4, rfl, r5, h⟩ := h
  have h := h r5
  refine Wa_istore_n (ls' := [(1, vI z4), (0, vR o)]) dX2_shortest_45 rfl (by decide) rfl ?_
  refine Wa_aload_n 1 dX2_shortest_46 rfl rfl ?_
  refine Wa_getR cf_X2 lk_X2_12 hm.1 (j := 0) rfl (by decide) dX2_shortest_47 ?_
  refine Wa_callV [] _ cf_X7 rfl hm.2.1.1 lc_X2_60 cv_X7_total rfl rfl (Nat.le_refl _) (Nat.le_of_ble_eq_true rfl) dX2_shortest_50 h ?_
  intro r M6 h
  obtain ⟨z7, rfl, r8, h⟩ := h
  have h := h r8
  refine Wa_iconst (z := 2) dX2_shortest_53 ?_
  refine Wa_iload_n 0 dX2_shortest_54 rfl rfl ?_
  refine Wa_imul dX2_shortest_55 ?_
  refine Wa_isub dX2_shortest_56 ?_
  obtain ⟨q9, h⟩ := h
  exact Wa_ireturn dX2_shortest_57 rfl ⟨_, rfl, q9, h⟩
theorem en_X2_shortest {g : AG} {d : Nat} {o : Nat} {M : AM} {Q : Int → AM → Prop} (h : S_X2_shortest_0 g d o M Q) : MetI g mX2_shortest d [vR o] M Q := MetA.of (by decide) (Nat.le_of_ble_eq_true rfl) h
def S_X2_keep_0 (g : AG) (d : Nat) (o : Nat) (l1 : Int) (l2 : Int) (M : AM) (Q : AM → Prop) : Prop := Wa g mX2_keep d 0 [(0, vR o), (1, vI l1), (2, vI l2)] [] M (QV Q)
set_option maxRecDepth 100000 in
theorem sg_X2_keep_0 {g : AG} {d : Nat} {o : Nat} {l1 : Int} {l2 : Int} {M : AM} {Q : AM → Prop} (hm : IsMatch o)
  (h : (0 ≤ l1 ∧ l1 < 8) ∧ (rg l2 ∧ ((0 ≤ l2 ∧ l2 < 8) ∧ (rg l1 ∧ (Q (mU (mU M (o + 7) (l1).toNat l2) (o + 8) (l2).toNat l1)))))) : S_X2_keep_0 g (d + 1) o l1 l2 M Q := by
  show Wa _ _ _ _ _ _ _ _
  refine Wa_aload_n 0 dX2_keep_0 rfl rfl ?_
  refine Wa_getR cf_X2 lk_X2_20 hm.1 (j := 1) rfl (by decide) dX2_keep_1 ?_
  refine Wa_iconst (z := 0) dX2_keep_4 ?_
  refine Wa_aald hm.2.2.1 ⟨by decide, by decide⟩ dX2_keep_5 ?_
  refine Wa_iload_n 1 dX2_keep_6 rfl rfl ?_
  refine Wa_iload_n 2 dX2_keep_7 rfl rfl ?_
  obtain ⟨b1, h⟩ := h
  obtain ⟨q2, h⟩ := h
  refine Wa_iast (hm.2.2.2.1 0 (by decide)) b1 q2 dX2_keep_8 ?_
  refine Wa_aload_n 0 dX2_keep_9 rfl rfl ?_
  refine Wa_getR cf_X2 lk_X2_20 hm.1 (j := 1) rfl (by decide) dX2_keep_10 ?_
  refine Wa_iconst (z := 1) dX2_keep_13 ?_
  refine Wa_aald hm.2.2.1 ⟨by decide, by decide⟩ dX2_keep_14 ?_
  refine Wa_iload_n 2 dX2_keep_15 rfl rfl ?_
  refine Wa_iload_n 1 dX2_keep_16 rfl rfl ?_
  obtain ⟨b3, h⟩ := h
  obtain ⟨q4, h⟩ := h
  refine Wa_iast (hm.2.2.2.1 1 (by decide)) b3 q4 dX2_keep_17 ?_
  exact Wa_return dX2_keep_18 rfl ⟨rfl, h⟩
theorem en_X2_keep {g : AG} {d : Nat} {o : Nat} {l1 : Int} {l2 : Int} {M : AM} {Q : AM → Prop} (h : S_X2_keep_0 g d o l1 l2 M Q) : MetV g mX2_keep d [vR o, vI l1, vI l2] M Q := MetA.of (by decide) (Nat.le_of_ble_eq_true rfl) h
def S_X2_same_0 (g : AG) (d : Nat) (o : Nat) (l1 : Int) (l2 : Int) (M : AM) (Q : Int → AM → Prop) : Prop := Wa g mX2_same d 0 [(0, vR o), (1, vI l1), (2, vI l2)] [] M (QI Q)
set_option maxRecDepth 100000 in
theorem sg_X2_same_0 {g : AG} {d : Nat} {o : Nat} {l1 : Int} {l2 : Int} {M : AM} {Q : Int → AM → Prop} (hm : IsMatch o)
  (h : (0 ≤ l1 ∧ l1 < 8) ∧ ((0 ≤ l2 ∧ l2 < 8) ∧ ((¬ (M (o + 3) (l1).toNat) = (M (o + 4) (l2).toNat) → (Q 0 M)) ∧ ((M (o + 3) (l1).toNat) = (M (o + 4) (l2).toNat) → (Q 1 M))))) : S_X2_same_0 g (d + 1) o l1 l2 M Q := by
  show Wa _ _ _ _ _ _ _ _
  refine Wa_aload_n 0 dX2_same_0 rfl rfl ?_
  refine Wa_getR cf_X2 lk_X2_12 hm.1 (j := 0) rfl (by decide) dX2_same_1 ?_
  refine Wa_getR cf_X7 lk_X2_67 hm.2.1.1 (j := 0) rfl (by decide) dX2_same_4 ?_
  refine Wa_iconst (z := 0) dX2_same_7 ?_
  refine Wa_aald hm.2.1.2.1 ⟨by decide, by decide⟩ dX2_same_8 ?_
  refine Wa_iload_n 1 dX2_same_9 rfl rfl ?_
  obtain ⟨b1, h⟩ := h
  refine Wa_iald2 (v := (M (o + 3) (l1).toNat)) (hm.2.1.2.2.1 0 (by decide)) b1 rfl dX2_same_10 (fun r2 => ?_)
  refine Wa_aload_n 0 dX2_same_11 rfl rfl ?_
  refine Wa_getR cf_X2 lk_X2_12 hm.1 (j := 0) rfl (by decide) dX2_same_12 ?_
  refine Wa_getR cf_X7 lk_X2_67 hm.2.1.1 (j := 0) rfl (by decide) dX2_same_15 ?_
  refine Wa_iconst (z := 1) dX2_same_18 ?_
  refine Wa_aald hm.2.1.2.1 ⟨by decide, by decide⟩ dX2_same_19 ?_
  refine Wa_iload_n 2 dX2_same_20 rfl rfl ?_
  obtain ⟨b3, h⟩ := h
  refine Wa_iald2 (v := (M (o + 4) (l2).toNat)) (hm.2.1.2.2.1 1 (by decide)) b3 rfl dX2_same_21 (fun r4 => ?_)
  refine Wa_icmp_ne (tgt := 29) dX2_same_22 (by decide) r2 r4 (fun c5 => ?_) (fun c5 => ?_)
  · have h := h.1 c5
    refine Wa_iconst (z := 0) dX2_same_29 ?_
    exact Wa_zreturn dX2_same_30 rfl (by decide) ⟨_, rfl, rg_bool (by decide), h⟩
  · have h := h.2 c5
    refine Wa_iconst (z := 1) dX2_same_25 ?_
    refine Wa_goto (tgt := 30) dX2_same_26 (by decide) ?_
    exact Wa_zreturn dX2_same_30 rfl (by decide) ⟨_, rfl, rg_bool (by decide), h⟩
theorem en_X2_same {g : AG} {d : Nat} {o : Nat} {l1 : Int} {l2 : Int} {M : AM} {Q : Int → AM → Prop} (h : S_X2_same_0 g d o l1 l2 M Q) : MetI g mX2_same d [vR o, vI l1, vI l2] M Q := MetA.of (by decide) (Nat.le_of_ble_eq_true rfl) h
def S_X2_matchParts_0 (g : AG) (d : Nat) (o : Nat) (l1 : Int) (l2 : Int) (l3 : Int) (l4 : Int) (l5 : Int) (M : AM) (Q : AM → Prop) : Prop := Wa g mX2_matchParts d 0 [(0, vR o), (1, vI l1), (2, vI l2), (3, vI l3), (4, vI l4), (5, vI l5)] [] M (QV Q)
def S_X2_matchParts_14 (g : AG) (d : Nat) (o : Nat) (l2 : Int) (l4 : Int) (l5 : Int) (l6 : Int) (l7 : Int) (M : AM) (Q : AM → Prop) : Prop := Wa g mX2_matchParts d 14 [(0, vR o), (2, vI l2), (4, vI l4), (5, vI l5), (6, vI l6), (7, vI l7)] [] M (QV Q)
def S_X2_matchParts_62 (g : AG) (d : Nat) (o : Nat) (l5 : Int) (l6 : Int) (l7 : Int) (l8 : Int) (l9 : Int) (M : AM) (Q : AM → Prop) : Prop := Wa g mX2_matchParts d 62 [(0, vR o), (5, vI l5), (6, vI l6), (7, vI l7), (8, vI l8), (9, vI l9)] [] M (QV Q)
def S_X2_matchParts_108 (g : AG) (d : Nat) (o : Nat) (l5 : Int) (l6 : Int) (l7 : Int) (l8 : Int) (l9 : Int) (M : AM) (Q : AM → Prop) : Prop := Wa g mX2_matchParts d 108 [(0, vR o), (5, vI l5), (6, vI l6), (7, vI l7), (8, vI l8), (9, vI l9)] [] M (QV Q)
set_option maxRecDepth 100000 in
theorem sg_X2_matchParts_0 {g : AG} {d : Nat} {o : Nat} {l1 : Int} {l2 : Int} {l3 : Int} {l4 : Int} {l5 : Int} {M : AM} {Q : AM → Prop} (hm : IsMatch o)
  (h : rg l5 ∧ ((l5 ≤ 8 → (S_X2_matchParts_14 g (d + 1) o l2 l4 l5 l1 l3 M Q)) ∧ (¬ l5 ≤ 8 → (Q M)))) : S_X2_matchParts_0 g (d + 1) o l1 l2 l3 l4 l5 M Q := by
  show Wa _ _ _ _ _ _ _ _
  refine Wa_iload 5 dX2_matchParts_0 rfl ?_
  refine Wa_bipush (z := 8) dX2_matchParts_2 (by decide) ?_
  obtain ⟨q1, h⟩ := h
  refine Wa_icmp_le (tgt := 8) dX2_matchParts_4 (by decide) q1 ⟨by decide, by decide⟩ (fun c2 => ?_) (fun c2 => ?_)
  · have h := h.1 c2
    refine Wa_iload_n 1 dX2_matchParts_8 rfl rfl ?_
    refine Wa_istore (ls' := [(6, vI l1), (0, vR o), (1, vI l1), (2, vI l2), (3, vI l3), (4, vI l4), (5, vI l5)]) dX2_matchParts_9 (by decide) rfl ?_
    refine Wa_iload_n 4 dX2_matchParts_11 rfl rfl ?_
    refine Wa_istore (ls' := [(7, vI l3), (6, vI l1), (0, vR o), (1, vI l1), (2, vI l2), (3, vI l3), (4, vI l4), (5, vI l5)]) dX2_matchParts_12 (by decide) rfl ?_
    refine Wa_sub [2, 4, 6, 7, 1, 0] rfl ?_
    exact h
  · have h := h.2 c2
    exact Wa_return dX2_matchParts_7 rfl ⟨rfl, h⟩
set_option maxRecDepth 100000 in
theorem sg_X2_matchParts_14 {g : AG} {d : Nat} {o : Nat} {l2 : Int} {l4 : Int} {l5 : Int} {l6 : Int} {l7 : Int} {M : AM} {Q : AM → Prop} (hm : IsMatch o)
  (h : rg l6 ∧ (rg l2 ∧ ((l2 ≤ l6 → (S_X2_matchParts_62 g (d + 1) o l5 l6 l7 l2 l4 M Q)) ∧ (¬ l2 ≤ l6 → (rg l7 ∧ (rg l4 ∧ ((l4 ≤ l7 → (S_X2_matchParts_62 g (d + 1) o l5 l6 l7 l2 l4 M Q)) ∧ (¬ l4 ≤ l7 → (MetI g mX2_same d [vR o, vI l6, vI l7] M (fun z8 M7 => rg z8 → ((z8 = 0 → (S_X2_matchParts_62 g (d + 1) o l5 l6 l7 l2 l4 M7 Q)) ∧ (¬ z8 = 0 → (MetV g mX2_keep d [vR o, vI l6, vI l7] M7 (fun M11 => S_X2_matchParts_14 g (d + 1) o l2 l4 l5 (l6 + 1) (l7 + 1) M11 Q)))))))))))))) : S_X2_matchParts_14 g (d + 1) o l2 l4 l5 l6 l7 M Q := by
  show Wa _ _ _ _ _ _ _ _
  refine Wa_iload 4 dX2_matchParts_14 rfl ?_
  refine Wa_iload_n 1 dX2_matchParts_16 rfl rfl ?_
  obtain ⟨q1, h⟩ := h
  obtain ⟨q2, h⟩ := h
  refine Wa_icmp_ge (tgt := 55) dX2_matchParts_17 (by decide) q1 q2 (fun c3 => ?_) (fun c3 => ?_)
  · have h := h.1 c3
    refine Wa_iload_n 1 dX2_matchParts_55 rfl rfl ?_
    refine Wa_istore (ls' := [(8, vI l2), (0, vR o), (2, vI l2), (4, vI l4), (5, vI l5), (6, vI l6), (7, vI l7)]) dX2_matchParts_56 (by decide) rfl ?_
    refine Wa_iload 3 dX2_matchParts_58 rfl ?_
    refine Wa_istore (ls' := [(9, vI l4), (8, vI l2), (0, vR o), (2, vI l2), (4, vI l4), (5, vI l5), (6, vI l6), (7, vI l7)]) dX2_matchParts_60 (by decide) rfl ?_
    refine Wa_sub [2, 5, 6, 7, 1, 0] rfl ?_
    exact h
  · have h := h.2 c3
    refine Wa_iload 5 dX2_matchParts_20 rfl ?_
    refine Wa_iload 2 dX2_matchParts_22 rfl ?_
    obtain ⟨q4, h⟩ := h
    obtain ⟨q5, h⟩ := h
    refine Wa_icmp_ge (tgt := 55) dX2_matchParts_24 (by decide) q4 q5 (fun c6 => ?_) (fun c6 => ?_)
    · have h := h.1 c6
      refine Wa_iload_n 1 dX2_matchParts_55 rfl rfl ?_
      refine Wa_istore (ls' := [(8, vI l2), (0, vR o), (2, vI l2), (4, vI l4), (5, vI l5), (6, vI l6), (7, vI l7)]) dX2_matchParts_56 (by decide) rfl ?_
      refine Wa_iload 3 dX2_matchParts_58 rfl ?_
      refine Wa_istore (ls' := [(9, vI l4), (8, vI l2), (0, vR o), (2, vI l2), (4, vI l4), (5, vI l5), (6, vI l6), (7, vI l7)]) dX2_matchParts_60 (by decide) rfl ?_
      refine Wa_sub [2, 5, 6, 7, 1, 0] rfl ?_
      exact h
    · have h := h.2 c6
      refine Wa_aload_n 0 dX2_matchParts_27 rfl rfl ?_
      refine Wa_iload 4 dX2_matchParts_28 rfl ?_
      refine Wa_iload 5 dX2_matchParts_30 rfl ?_
      refine Wa_callV [vI l6, vI l7] _ cf_X2 rfl hm.1 lc_X2_74 cv_X2_same rfl rfl (Nat.le_refl _) (Nat.le_of_ble_eq_true rfl) dX2_matchParts_32 h ?_
      intro r M7 h
      obtain ⟨z8, rfl, r9, h⟩ := h
      have h := h r9
      refine Wa_if_eq (tgt := 55) dX2_matchParts_35 (by decide) r9 (fun c10 => ?_) (fun c10 => ?_)
      · have h := h.1 c10
        refine Wa_iload_n 1 dX2_matchParts_55 rfl rfl ?_
        refine Wa_istore (ls' := [(8, vI l2), (0, vR o), (2, vI l2), (4, vI l4), (5, vI l5), (6, vI l6), (7, vI l7)]) dX2_matchParts_56 (by decide) rfl ?_
        refine Wa_iload 3 dX2_matchParts_58 rfl ?_
        refine Wa_istore (ls' := [(9, vI l4), (8, vI l2), (0, vR o), (2, vI l2), (4, vI l4), (5, vI l5), (6, vI l6), (7, vI l7)]) dX2_matchParts_60 (by decide) rfl ?_
        refine Wa_sub [2, 5, 6, 7, 1, 0] rfl ?_
        exact h
      · have h := h.2 c10
        refine Wa_aload_n 0 dX2_matchParts_38 rfl rfl ?_
        refine Wa_iload 4 dX2_matchParts_39 rfl ?_
        refine Wa_iload 5 dX2_matchParts_41 rfl ?_
        refine Wa_callV [vI l6, vI l7] _ cf_X2 rfl hm.1 lc_X2_78 cv_X2_keep rfl rfl (Nat.le_refl _) (Nat.le_of_ble_eq_true rfl) dX2_matchParts_43 h ?_
        intro r M11 h
        obtain ⟨rfl, h⟩ := h
        refine Wa_iinc (ls' := [(6, vI (l6 + 1)), (0, vR o), (2, vI l2), (4, vI l4), (5, vI l5), (7, vI l7)]) 4 dX2_matchParts_46 rfl (by decide) rfl ?_
        refine Wa_iinc (ls' := [(7, vI (l7 + 1)), (6, vI (l6 + 1)), (0, vR o), (2, vI l2), (4, vI l4), (5, vI l5)]) 5 dX2_matchParts_49 rfl (by decide) rfl ?_
        refine Wa_goto (tgt := 14) dX2_matchParts_52 (by decide) ?_
        refine Wa_sub [2, 3, 4, 5, 1, 0] rfl ?_
        exact h
set_option maxRecDepth 100000 in
theorem sg_X2_matchParts_62 {g : AG} {d : Nat} {o : Nat} {l5 : Int} {l6 : Int} {l7 : Int} {l8 : Int} {l9 : Int} {M : AM} {Q : AM → Prop} (hm : IsMatch o)
  (h : rg l8 ∧ (rg l6 ∧ ((l8 ≤ l6 → (S_X2_matchParts_108 g (d + 1) o l5 l6 l7 l8 l9 M Q)) ∧ (¬ l8 ≤ l6 → (rg l9 ∧ (rg l7 ∧ ((l9 ≤ l7 → (S_X2_matchParts_108 g (d + 1) o l5 l6 l7 l8 l9 M Q)) ∧ (¬ l9 ≤ l7 → (rg (l8 - 1) ∧ (rg (l9 - 1) ∧ (MetI g mX2_same d [vR o, vI (l8 - 1), vI (l9 - 1)] M (fun z10 M9 => rg z10 → ((z10 = 0 → (S_X2_matchParts_108 g (d + 1) o l5 l6 l7 l8 l9 M9 Q)) ∧ (¬ z10 = 0 → (rg (l8 + (-1)) ∧ (rg (l9 + (-1)) ∧ (MetV g mX2_keep d [vR o, vI (l8 + (-1)), vI (l9 + (-1))] M9 (fun M15 => S_X2_matchParts_62 g (d + 1) o l5 l6 l7 (l8 + (-1)) (l9 + (-1)) M15 Q)))))))))))))))))) : S_X2_matchParts_62 g (d + 1) o l5 l6 l7 l8 l9 M Q := by
  show Wa _ _ _ _ _ _ _ _
  refine Wa_iload 4 dX2_matchParts_62 rfl ?_
  refine Wa_iload 2 dX2_matchParts_64 rfl ?_
  obtain ⟨q1, h⟩ := h
  obtain ⟨q2, h⟩ := h
  refine Wa_icmp_le (tgt := 108) dX2_matchParts_66 (by decide) q1 q2 (fun c3 => ?_) (fun c3 => ?_)
  · have h := h.1 c3
    refine Wa_sub [0, 1, 2, 3, 4, 5] rfl ?_
    exact h
  · have h := h.2 c3
    refine Wa_iload 5 dX2_matchParts_69 rfl ?_
    refine Wa_iload 3 dX2_matchParts_71 rfl ?_
    obtain ⟨q4, h⟩ := h
    obtain ⟨q5, h⟩ := h
    refine Wa_icmp_le (tgt := 108) dX2_matchParts_73 (by decide) q4 q5 (fun c6 => ?_) (fun c6 => ?_)
    · have h := h.1 c6
      refine Wa_sub [0, 1, 2, 3, 4, 5] rfl ?_
      exact h
    · have h := h.2 c6
      refine Wa_aload_n 0 dX2_matchParts_76 rfl rfl ?_
      refine Wa_iload 4 dX2_matchParts_77 rfl ?_
      refine Wa_iconst (z := 1) dX2_matchParts_79 ?_
      refine Wa_isub dX2_matchParts_80 ?_
      refine Wa_iload 5 dX2_matchParts_81 rfl ?_
      refine Wa_iconst (z := 1) dX2_matchParts_83 ?_
      refine Wa_isub dX2_matchParts_84 ?_
      obtain ⟨q7, h⟩ := h
      obtain ⟨q8, h⟩ := h
      refine Wa_callV [vI (l8 - 1), vI (l9 - 1)] _ cf_X2 rfl hm.1 lc_X2_74 cv_X2_same rfl rfl (Nat.le_refl _) (Nat.le_of_ble_eq_true rfl) dX2_matchParts_85 h ?_
      intro r M9 h
      obtain ⟨z10, rfl, r11, h⟩ := h
      have h := h r11
      refine Wa_if_eq (tgt := 108) dX2_matchParts_88 (by decide) r11 (fun c12 => ?_) (fun c12 => ?_)
      · have h := h.1 c12
        refine Wa_sub [0, 1, 2, 3, 4, 5] rfl ?_
        exact h
      · have h := h.2 c12
        refine Wa_iinc (ls' := [(8, vI (l8 + (-1))), (0, vR o), (5, vI l5), (6, vI l6), (7, vI l7), (9, vI l9)]) 4 dX2_matchParts_91 rfl (by decide) rfl ?_
        refine Wa_iinc (ls' := [(9, vI (l9 + (-1))), (8, vI (l8 + (-1))), (0, vR o), (5, vI l5), (6, vI l6), (7, vI l7)]) 5 dX2_matchParts_94 rfl (by decide) rfl ?_
        refine Wa_aload_n 2 dX2_matchParts_97 rfl rfl ?_
        refine Wa_iload 1 dX2_matchParts_98 rfl ?_
        refine Wa_iload 0 dX2_matchParts_100 rfl ?_
        obtain ⟨q13, h⟩ := h
        obtain ⟨q14, h⟩ := h
        refine Wa_callV [vI (l8 + (-1)), vI (l9 + (-1))] _ cf_X2 rfl hm.1 lc_X2_78 cv_X2_keep rfl rfl (Nat.le_refl _) (Nat.le_of_ble_eq_true rfl) dX2_matchParts_102 h ?_
        intro r M15 h
        obtain ⟨rfl, h⟩ := h
        refine Wa_goto (tgt := 62) dX2_matchParts_105 (by decide) ?_
        refine Wa_sub [2, 3, 4, 5, 1, 0] rfl ?_
        exact h
set_option maxRecDepth 100000 in
theorem sg_X2_matchParts_108 {g : AG} {d : Nat} {o : Nat} {l5 : Int} {l6 : Int} {l7 : Int} {l8 : Int} {l9 : Int} {M : AM} {Q : AM → Prop} (hm : IsMatch o)
  (h : rg l6 ∧ (rg l8 ∧ ((l6 = l8 → (Q M)) ∧ (¬ l6 = l8 → (rg l7 ∧ (rg l9 ∧ ((¬ l7 = l9 → (MetV g mX2_findAnchors d [vR o, vI l6, vI l8, vI l7, vI l9] M (fun M7 => MetI g mX2_keepLongestChain d [vR o, vI l6, vI l8] M7 (fun z11 M10 => rg z11 → ((z11 = 0 → (MetV g mX2_keepMost d [vR o, vI l6, vI l8, vI l7, vI l9] M10 (fun M14 => Q M14))) ∧ (¬ z11 = 0 → (rg l5 ∧ (MetV g mX2_matchBetweenAnchors d [vR o, vI l6, vI l8, vI l7, vI l9, vI l5] M10 (fun M18 => Q M18))))))))) ∧ (l7 = l9 → (Q M))))))))) : S_X2_matchParts_108 g (d + 1) o l5 l6 l7 l8 l9 M Q := by
  show Wa _ _ _ _ _ _ _ _
  refine Wa_iload 2 dX2_matchParts_108 rfl ?_
  refine Wa_iload 4 dX2_matchParts_110 rfl ?_
  obtain ⟨q1, h⟩ := h
  obtain ⟨q2, h⟩ := h
  refine Wa_icmp_eq (tgt := 122) dX2_matchParts_112 (by decide) q1 q2 (fun c3 => ?_) (fun c3 => ?_)
  · have h := h.1 c3
    exact Wa_return dX2_matchParts_122 rfl ⟨rfl, h⟩
  · have h := h.2 c3
    refine Wa_iload 3 dX2_matchParts_115 rfl ?_
    refine Wa_iload 5 dX2_matchParts_117 rfl ?_
    obtain ⟨q4, h⟩ := h
    obtain ⟨q5, h⟩ := h
    refine Wa_icmp_ne (tgt := 123) dX2_matchParts_119 (by decide) q4 q5 (fun c6 => ?_) (fun c6 => ?_)
    · have h := h.1 c6
      refine Wa_aload_n 0 dX2_matchParts_123 rfl rfl ?_
      refine Wa_iload 2 dX2_matchParts_124 rfl ?_
      refine Wa_iload 4 dX2_matchParts_126 rfl ?_
      refine Wa_iload 3 dX2_matchParts_128 rfl ?_
      refine Wa_iload 5 dX2_matchParts_130 rfl ?_
      refine Wa_callV [vI l6, vI l8, vI l7, vI l9] _ cf_X2 rfl hm.1 lc_X2_82 cv_X2_findAnchors rfl rfl (Nat.le_refl _) (Nat.le_of_ble_eq_true rfl) dX2_matchParts_132 h ?_
      intro r M7 h
      obtain ⟨rfl, h⟩ := h
      refine Wa_aload_n 0 dX2_matchParts_135 rfl rfl ?_
      refine Wa_iload 2 dX2_matchParts_136 rfl ?_
      refine Wa_iload 4 dX2_matchParts_138 rfl ?_
      refine Wa_callV [vI l6, vI l8] _ cf_X2 rfl hm.1 lc_X2_86 cv_X2_keepLongestChain rfl rfl (Nat.le_refl _) (Nat.le_of_ble_eq_true rfl) dX2_matchParts_140 h ?_
      intro r M10 h
      obtain ⟨z11, rfl, r12, h⟩ := h
      have h := h r12
      refine Wa_if_eq (tgt := 163) dX2_matchParts_143 (by decide) r12 (fun c13 => ?_) (fun c13 => ?_)
      · have h := h.1 c13
        refine Wa_aload_n 0 dX2_matchParts_163 rfl rfl ?_
        refine Wa_iload 2 dX2_matchParts_164 rfl ?_
        refine Wa_iload 4 dX2_matchParts_166 rfl ?_
        refine Wa_iload 3 dX2_matchParts_168 rfl ?_
        refine Wa_iload 5 dX2_matchParts_170 rfl ?_
        refine Wa_callV [vI l6, vI l8, vI l7, vI l9] _ cf_X2 rfl hm.1 lc_X2_92 cv_X2_keepMost rfl rfl (Nat.le_refl _) (Nat.le_of_ble_eq_true rfl) dX2_matchParts_172 h ?_
        intro r M14 h
        obtain ⟨rfl, h⟩ := h
        exact Wa_return dX2_matchParts_175 rfl ⟨rfl, h⟩
      · have h := h.2 c13
        refine Wa_aload_n 0 dX2_matchParts_146 rfl rfl ?_
        refine Wa_iload 2 dX2_matchParts_147 rfl ?_
        refine Wa_iload 4 dX2_matchParts_149 rfl ?_
        refine Wa_iload 3 dX2_matchParts_151 rfl ?_
        refine Wa_iload 5 dX2_matchParts_153 rfl ?_
        refine Wa_iload 1 dX2_matchParts_155 rfl ?_
        obtain ⟨q17, h⟩ := h
        refine Wa_callV [vI l6, vI l8, vI l7, vI l9, vI l5] _ cf_X2 rfl hm.1 lc_X2_89 cv_X2_matchBetweenAnchors rfl rfl (Nat.le_refl _) (Nat.le_of_ble_eq_true rfl) dX2_matchParts_157 h ?_
        intro r M18 h
        obtain ⟨rfl, h⟩ := h
        refine Wa_goto (tgt := 175) dX2_matchParts_160 (by decide) ?_
        exact Wa_return dX2_matchParts_175 rfl ⟨rfl, h⟩
    · have h := h.2 c6
      exact Wa_return dX2_matchParts_122 rfl ⟨rfl, h⟩
theorem en_X2_matchParts {g : AG} {d : Nat} {o : Nat} {l1 : Int} {l2 : Int} {l3 : Int} {l4 : Int} {l5 : Int} {M : AM} {Q : AM → Prop} (h : S_X2_matchParts_0 g d o l1 l2 l3 l4 l5 M Q) : MetV g mX2_matchParts d [vR o, vI l1, vI l2, vI l3, vI l4, vI l5] M Q := MetA.of (by decide) (Nat.le_of_ble_eq_true rfl) h
def S_X2_findAnchors_0 (g : AG) (d : Nat) (o : Nat) (l1 : Int) (l2 : Int) (l3 : Int) (l4 : Int) (M : AM) (Q : AM → Prop) : Prop := Wa g mX2_findAnchors d 0 [(0, vR o), (1, vI l1), (2, vI l2), (3, vI l3), (4, vI l4)] [] M (QV Q)
def S_X2_findAnchors_3 (g : AG) (d : Nat) (o : Nat) (l1 : Int) (l2 : Int) (l3 : Int) (l4 : Int) (l5 : Int) (M : AM) (Q : AM → Prop) : Prop := Wa g mX2_findAnchors d 3 [(0, vR o), (1, vI l1), (2, vI l2), (3, vI l3), (4, vI l4), (5, vI l5)] [] M (QV Q)
set_option maxRecDepth 100000 in
theorem sg_X2_findAnchors_0 {g : AG} {d : Nat} {o : Nat} {l1 : Int} {l2 : Int} {l3 : Int} {l4 : Int} {M : AM} {Q : AM → Prop} (hm : IsMatch o)
  (h : S_X2_findAnchors_3 g (d + 1) o l1 l2 l3 l4 l1 M Q) : S_X2_findAnchors_0 g (d + 1) o l1 l2 l3 l4 M Q := by
  show Wa _ _ _ _ _ _ _ _
  refine Wa_iload_n 1 dX2_findAnchors_0 rfl rfl ?_
  refine Wa_istore (ls' := [(5, vI l1), (0, vR o), (1, vI l1), (2, vI l2), (3, vI l3), (4, vI l4)]) dX2_findAnchors_1 (by decide) rfl ?_
  refine Wa_sub [1, 2, 3, 4, 5, 0] rfl ?_
  exact h
set_option maxRecDepth 100000 in
theorem sg_X2_findAnchors_3 {g : AG} {d : Nat} {o : Nat} {l1 : Int} {l2 : Int} {l3 : Int} {l4 : Int} {l5 : Int} {M : AM} {Q : AM → Prop} (hm : IsMatch o)
  (h : rg l5 ∧ (rg l2 ∧ ((l2 ≤ l5 → (Q M)) ∧ (¬ l2 ≤ l5 → ((0 ≤ l5 ∧ l5 < 8) ∧ (rg l1 ∧ (MetI g mX2_onlyPlaceOf d [vR o, vI (M (o + 3) (l5).toNat), vI 0, vI l1, vI l2] M (fun z8 M7 => rg z8 → ((¬ z8 = l5 → (S_X2_findAnchors_3 g (d + 1) o l1 l2 l3 l4 (l5 + 1) (mU M7 (o + 20) (l5).toNat (-1)) Q)) ∧ (z8 = l5 → (rg l3 ∧ (rg l4 ∧ (MetI g mX2_onlyPlaceOf d [vR o, vI (M (o + 3) (l5).toNat), vI 1, vI l3, vI l4] M7 (fun z16 M15 => rg z16 → (S_X2_findAnchors_3 g (d + 1) o l1 l2 l3 l4 (l5 + 1) (mU M15 (o + 20) (l5).toNat z16) Q))))))))))))))) : S_X2_findAnchors_3 g (d + 1) o l1 l2 l3 l4 l5 M Q := by
  show Wa _ _ _ _ _ _ _ _
  refine Wa_iload 5 dX2_findAnchors_3 rfl ?_
  refine Wa_iload_n 2 dX2_findAnchors_5 rfl rfl ?_
  obtain ⟨q1, h⟩ := h
  obtain ⟨q2, h⟩ := h
  refine Wa_icmp_ge (tgt := 76) dX2_findAnchors_6 (by decide) q1 q2 (fun c3 => ?_) (fun c3 => ?_)
  · have h := h.1 c3
    exact Wa_return dX2_findAnchors_76 rfl ⟨rfl, h⟩
  · have h := h.2 c3
    refine Wa_aload_n 0 dX2_findAnchors_9 rfl rfl ?_
    refine Wa_getR cf_X2 lk_X2_12 hm.1 (j := 0) rfl (by decide) dX2_findAnchors_10 ?_
    refine Wa_getR cf_X7 lk_X2_67 hm.2.1.1 (j := 0) rfl (by decide) dX2_findAnchors_13 ?_
    refine Wa_iconst (z := 0) dX2_findAnchors_16 ?_
    refine Wa_aald hm.2.1.2.1 ⟨by decide, by decide⟩ dX2_findAnchors_17 ?_
    refine Wa_iload 5 dX2_findAnchors_18 rfl ?_
    obtain ⟨b4, h⟩ := h
    refine Wa_iald2 (v := (M (o + 3) (l5).toNat)) (hm.2.1.2.2.1 0 (by decide)) b4 rfl dX2_findAnchors_20 (fun r5 => ?_)
    refine Wa_istore (ls' := [(6, vI (M (o + 3) (l5).toNat)), (0, vR o), (1, vI l1), (2, vI l2), (3, vI l3), (4, vI l4), (5, vI l5)]) dX2_findAnchors_21 (by decide) rfl ?_
    refine Wa_aload_n 1 dX2_findAnchors_23 rfl rfl ?_
    refine Wa_iload 0 dX2_findAnchors_24 rfl ?_
    refine Wa_iconst (z := 0) dX2_findAnchors_26 ?_
    refine Wa_iload_n 2 dX2_findAnchors_27 rfl rfl ?_
    refine Wa_iload_n 3 dX2_findAnchors_28 rfl rfl ?_
    obtain ⟨q6, h⟩ := h
    refine Wa_callV [vI (M (o + 3) (l5).toNat), vI 0, vI l1, vI l2] _ cf_X2 rfl hm.1 lc_X2_95 cv_X2_onlyPlaceOf rfl rfl (Nat.le_refl _) (Nat.le_of_ble_eq_true rfl) dX2_findAnchors_29 h ?_
    intro r M7 h
    obtain ⟨z8, rfl, r9, h⟩ := h
    have h := h r9
    refine Wa_iload 6 dX2_findAnchors_32 rfl ?_
    refine Wa_icmp_ne (tgt := 41) dX2_findAnchors_34 (by decide) r9 q1 (fun c10 => ?_) (fun c10 => ?_)
    · have h := h.1 c10
      refine Wa_iconst (z := 0) dX2_findAnchors_41 ?_
      refine Wa_istore (ls' := [(7, vI 0), (6, vI (M (o + 3) (l5).toNat)), (0, vR o), (1, vI l1), (2, vI l2), (3, vI l3), (4, vI l4), (5, vI l5)]) dX2_findAnchors_42 (by decide) rfl ?_
      refine Wa_aload_n 2 dX2_findAnchors_44 rfl rfl ?_
      refine Wa_getR cf_X2 lk_X2_30 hm.1 (j := 3) rfl (by decide) dX2_findAnchors_45 ?_
      refine Wa_iload 7 dX2_findAnchors_48 rfl ?_
      refine Wa_iload 0 dX2_findAnchors_50 rfl ?_
      refine Wa_if_eq (tgt := 68) dX2_findAnchors_52 (by decide) ⟨by decide, by decide⟩ (fun c11 => ?_) (fun c11 => ?_)
      · refine Wa_iconst (z := (-1)) dX2_findAnchors_68 ?_
        refine Wa_iast hm.2.2.2.2.2.1 b4 ⟨by decide, by decide⟩ dX2_findAnchors_69 ?_
        refine Wa_iinc (ls' := [(5, vI (l5 + 1)), (7, vI 0), (6, vI (M (o + 3) (l5).toNat)), (0, vR o), (1, vI l1), (2, vI l2), (3, vI l3), (4, vI l4)]) 7 dX2_findAnchors_70 rfl (by decide) rfl ?_
        refine Wa_goto (tgt := 3) dX2_findAnchors_73 (by decide) ?_
        refine Wa_sub [3, 4, 5, 6, 7, 0] rfl ?_
        exact h
      · exact absurd c11 (by decide)
    · have h := h.2 c10
      refine Wa_iconst (z := 1) dX2_findAnchors_37 ?_
      refine Wa_goto (tgt := 42) dX2_findAnchors_38 (by decide) ?_
      refine Wa_istore (ls' := [(7, vI 1), (6, vI (M (o + 3) (l5).toNat)), (0, vR o), (1, vI l1), (2, vI l2), (3, vI l3), (4, vI l4), (5, vI l5)]) dX2_findAnchors_42 (by decide) rfl ?_
      refine Wa_aload_n 2 dX2_findAnchors_44 rfl rfl ?_
      refine Wa_getR cf_X2 lk_X2_30 hm.1 (j := 3) rfl (by decide) dX2_findAnchors_45 ?_
      refine Wa_iload 7 dX2_findAnchors_48 rfl ?_
      refine Wa_iload 0 dX2_findAnchors_50 rfl ?_
      refine Wa_if_eq (tgt := 68) dX2_findAnchors_52 (by decide) ⟨by decide, by decide⟩ (fun c12 => ?_) (fun c12 => ?_)
      · exact absurd c12 (by decide)
      · refine Wa_aload_n 2 dX2_findAnchors_55 rfl rfl ?_
        refine Wa_iload 1 dX2_findAnchors_56 rfl ?_
        refine Wa_iconst (z := 1) dX2_findAnchors_58 ?_
        refine Wa_iload_n 5 dX2_findAnchors_59 rfl rfl ?_
        refine Wa_iload 6 dX2_findAnchors_60 rfl ?_
        obtain ⟨q13, h⟩ := h
        obtain ⟨q14, h⟩ := h
        refine Wa_callV [vI (M (o + 3) (l5).toNat), vI 1, vI l3, vI l4] _ cf_X2 rfl hm.1 lc_X2_95 cv_X2_onlyPlaceOf rfl rfl (Nat.le_refl _) (Nat.le_of_ble_eq_true rfl) dX2_findAnchors_62 h ?_
        intro r M15 h
        obtain ⟨z16, rfl, r17, h⟩ := h
        have h := h r17
        refine Wa_goto (tgt := 69) dX2_findAnchors_65 (by decide) ?_
        refine Wa_iast hm.2.2.2.2.2.1 b4 r17 dX2_findAnchors_69 ?_
        refine Wa_iinc (ls' := [(5, vI (l5 + 1)), (7, vI 1), (6, vI (M (o + 3) (l5).toNat)), (0, vR o), (1, vI l1), (2, vI l2), (3, vI l3), (4, vI l4)]) 7 dX2_findAnchors_70 rfl (by decide) rfl ?_
        refine Wa_goto (tgt := 3) dX2_findAnchors_73 (by decide) ?_
        refine Wa_sub [3, 4, 5, 6, 7, 0] rfl ?_
        exact h
theorem en_X2_findAnchors {g : AG} {d : Nat} {o : Nat} {l1 : Int} {l2 : Int} {l3 : Int} {l4 : Int} {M : AM} {Q : AM → Prop} (h : S_X2_findAnchors_0 g d o l1 l2 l3 l4 M Q) : MetV g mX2_findAnchors d [vR o, vI l1, vI l2, vI l3, vI l4] M Q := MetA.of (by decide) (Nat.le_of_ble_eq_true rfl) h
def S_X2_onlyPlaceOf_0 (g : AG) (d : Nat) (o : Nat) (l1 : Int) (l2 : Int) (l3 : Int) (l4 : Int) (M : AM) (Q : Int → AM → Prop) : Prop := Wa g mX2_onlyPlaceOf d 0 [(0, vR o), (1, vI l1), (2, vI l2), (3, vI l3), (4, vI l4)] [] M (QI Q)
def S_X2_onlyPlaceOf_6 (g : AG) (d : Nat) (o : Nat) (l1 : Int) (l2 : Int) (l4 : Int) (l5 : Int) (l6 : Int) (M : AM) (Q : Int → AM → Prop) : Prop := Wa g mX2_onlyPlaceOf d 6 [(0, vR o), (1, vI l1), (2, vI l2), (4, vI l4), (5, vI l5), (6, vI l6)] [] M (QI Q)
set_option maxRecDepth 100000 in
theorem sg_X2_onlyPlaceOf_0 {g : AG} {d : Nat} {o : Nat} {l1 : Int} {l2 : Int} {l3 : Int} {l4 : Int} {M : AM} {Q : Int → AM → Prop} (hm : IsMatch o)
  (h : S_X2_onlyPlaceOf_6 g (d + 1) o l1 l2 l4 (-1) l3 M Q) : S_X2_onlyPlaceOf_0 g (d + 1) o l1 l2 l3 l4 M Q := by
  show Wa _ _ _ _ _ _ _ _
  refine Wa_iconst (z := (-1)) dX2_onlyPlaceOf_0 ?_
  refine Wa_istore (ls' := [(5, vI (-1)), (0, vR o), (1, vI l1), (2, vI l2), (3, vI l3), (4, vI l4)]) dX2_onlyPlaceOf_1 (by decide) rfl ?_
  refine Wa_iload_n 4 dX2_onlyPlaceOf_3 rfl rfl ?_
  refine Wa_istore (ls' := [(6, vI l3), (5, vI (-1)), (0, vR o), (1, vI l1), (2, vI l2), (3, vI l3), (4, vI l4)]) dX2_onlyPlaceOf_4 (by decide) rfl ?_
  refine Wa_sub [2, 3, 4, 6, 1, 0] rfl ?_
  exact h
set_option maxRecDepth 100000 in
theorem sg_X2_onlyPlaceOf_6 {g : AG} {d : Nat} {o : Nat} {l1 : Int} {l2 : Int} {l4 : Int} {l5 : Int} {l6 : Int} {M : AM} {Q : Int → AM → Prop} (hm : IsMatch o)
  (h : rg l6 ∧ (rg l4 ∧ ((l4 ≤ l6 → (rg l5 ∧ (Q l5 M))) ∧ (¬ l4 ≤ l6 → ((0 ≤ l2 ∧ l2 < 2) ∧ ((0 ≤ l6 ∧ l6 < 8) ∧ (rg l1 ∧ ((¬ (M (o + 3 + (l2).toNat) (l6).toNat) = l1 → (S_X2_onlyPlaceOf_6 g (d + 1) o l1 l2 l4 l5 (l6 + 1) M Q)) ∧ ((M (o + 3 + (l2).toNat) (l6).toNat) = l1 → (rg l5 ∧ ((l5 = (-1) → (S_X2_onlyPlaceOf_6 g (d + 1) o l1 l2 l4 l6 (l6 + 1) M Q)) ∧ (¬ l5 = (-1) → (Q (-1) M))))))))))))) : S_X2_onlyPlaceOf_6 g (d + 1) o l1 l2 l4 l5 l6 M Q := by
  show Wa _ _ _ _ _ _ _ _
  refine Wa_iload 5 dX2_onlyPlaceOf_6 rfl ?_
  refine Wa_iload 3 dX2_onlyPlaceOf_8 rfl ?_
  obtain ⟨q1, h⟩ := h
  obtain ⟨q2, h⟩ := h
  refine Wa_icmp_ge (tgt := 47) dX2_onlyPlaceOf_10 (by decide) q1 q2 (fun c3 => ?_) (fun c3 => ?_)
  · have h := h.1 c3
    refine Wa_iload 4 dX2_onlyPlaceOf_47 rfl ?_
    obtain ⟨q4, h⟩ := h
    exact Wa_ireturn dX2_onlyPlaceOf_49 rfl ⟨_, rfl, q4, h⟩
  · have h := h.2 c3
    refine Wa_aload_n 0 dX2_onlyPlaceOf_13 rfl rfl ?_
    refine Wa_getR cf_X2 lk_X2_12 hm.1 (j := 0) rfl (by decide) dX2_onlyPlaceOf_14 ?_
    refine Wa_getR cf_X7 lk_X2_67 hm.2.1.1 (j := 0) rfl (by decide) dX2_onlyPlaceOf_17 ?_
    refine Wa_iload_n 2 dX2_onlyPlaceOf_20 rfl rfl ?_
    obtain ⟨b5, h⟩ := h
    refine Wa_aald hm.2.1.2.1 b5 dX2_onlyPlaceOf_21 ?_
    refine Wa_iload 5 dX2_onlyPlaceOf_22 rfl ?_
    obtain ⟨b6, h⟩ := h
    refine Wa_iald2 (v := (M (o + 3 + (l2).toNat) (l6).toNat)) (hm.2.1.2.2.1 _ (inb_nat b5)) b6 rfl dX2_onlyPlaceOf_24 (fun r7 => ?_)
    refine Wa_iload_n 1 dX2_onlyPlaceOf_25 rfl rfl ?_
    obtain ⟨q8, h⟩ := h
    refine Wa_icmp_ne (tgt := 41) dX2_onlyPlaceOf_26 (by decide) r7 q8 (fun c9 => ?_) (fun c9 => ?_)
    · have h := h.1 c9
      refine Wa_iinc (ls' := [(6, vI (l6 + 1)), (0, vR o), (1, vI l1), (2, vI l2), (4, vI l4), (5, vI l5)]) 5 dX2_onlyPlaceOf_41 rfl (by decide) rfl ?_
      refine Wa_goto (tgt := 6) dX2_onlyPlaceOf_44 (by decide) ?_
      refine Wa_sub [1, 2, 3, 4, 5, 0] rfl ?_
      exact h
    · have h := h.2 c9
      refine Wa_iload 4 dX2_onlyPlaceOf_29 rfl ?_
      refine Wa_iconst (z := (-1)) dX2_onlyPlaceOf_31 ?_
      obtain ⟨q10, h⟩ := h
      refine Wa_icmp_eq (tgt := 37) dX2_onlyPlaceOf_32 (by decide) q10 ⟨by decide, by decide⟩ (fun c11 => ?_) (fun c11 => ?_)
      · have h := h.1 c11
        refine Wa_iload 5 dX2_onlyPlaceOf_37 rfl ?_
        refine Wa_istore (ls' := [(5, vI l6), (0, vR o), (1, vI l1), (2, vI l2), (4, vI l4), (6, vI l6)]) dX2_onlyPlaceOf_39 (by decide) rfl ?_
        refine Wa_iinc (ls' := [(6, vI (l6 + 1)), (5, vI l6), (0, vR o), (1, vI l1), (2, vI l2), (4, vI l4)]) 5 dX2_onlyPlaceOf_41 rfl (by decide) rfl ?_
        refine Wa_goto (tgt := 6) dX2_onlyPlaceOf_44 (by decide) ?_
        refine Wa_sub [2, 3, 4, 5, 1, 0] rfl ?_
        exact h
      · have h := h.2 c11
        refine Wa_iconst (z := (-1)) dX2_onlyPlaceOf_35 ?_
        exact Wa_ireturn dX2_onlyPlaceOf_36 rfl ⟨_, rfl, ⟨by decide, by decide⟩, h⟩
theorem en_X2_onlyPlaceOf {g : AG} {d : Nat} {o : Nat} {l1 : Int} {l2 : Int} {l3 : Int} {l4 : Int} {M : AM} {Q : Int → AM → Prop} (h : S_X2_onlyPlaceOf_0 g d o l1 l2 l3 l4 M Q) : MetI g mX2_onlyPlaceOf d [vR o, vI l1, vI l2, vI l3, vI l4] M Q := MetA.of (by decide) (Nat.le_of_ble_eq_true rfl) h
def S_X2_keepLongestChain_0 (g : AG) (d : Nat) (o : Nat) (l1 : Int) (l2 : Int) (M : AM) (Q : Int → AM → Prop) : Prop := Wa g mX2_keepLongestChain d 0 [(0, vR o), (1, vI l1), (2, vI l2)] [] M (QI Q)
def S_X2_keepLongestChain_24 (g : AG) (d : Nat) (o : Nat) (l2 : Int) (l3 : Int) (l4 : Int) (l5 : Int) (l6 : Int) (M : AM) (Q : Int → AM → Prop) : Prop := Wa g mX2_keepLongestChain d 24 [(0, vR o), (2, vI l2), (3, vI l3), (4, vI l4), (5, vI l5), (6, vI l6)] [] M (QI Q)
set_option maxRecDepth 100000 in
theorem sg_X2_keepLongestChain_0 {g : AG} {d : Nat} {o : Nat} {l1 : Int} {l2 : Int} {M : AM} {Q : Int → AM → Prop} (hm : IsMatch o)
  (h : rg l1 ∧ (rg l2 ∧ (MetI g mX2_measureChains d [vR o, vI l1, vI l2] M (fun z4 M3 => rg z4 → ((z4 ≤ 0 → (S_X2_keepLongestChain_24 g (d + 1) o l2 z4 0 (-1) l1 M3 Q)) ∧ (¬ z4 ≤ 0 → (S_X2_keepLongestChain_24 g (d + 1) o l2 z4 1 (-1) l1 M3 Q))))))) : S_X2_keepLongestChain_0 g (d + 1) o l1 l2 M Q := by
  show Wa _ _ _ _ _ _ _ _
  refine Wa_aload_n 0 dX2_keepLongestChain_0 rfl rfl ?_
  refine Wa_iload_n 1 dX2_keepLongestChain_1 rfl rfl ?_
  refine Wa_iload_n 2 dX2_keepLongestChain_2 rfl rfl ?_
  obtain ⟨q1, h⟩ := h
  obtain ⟨q2, h⟩ := h
  refine Wa_callV [vI l1, vI l2] _ cf_X2 rfl hm.1 lc_X2_99 cv_X2_measureChains rfl rfl (Nat.le_refl _) (Nat.le_of_ble_eq_true rfl) dX2_keepLongestChain_3 h ?_
  intro r M3 h
  obtain ⟨z4, rfl, r5, h⟩ := h
  have h := h r5
  refine Wa_istore_n (ls' := [(3, vI z4), (0, vR o), (1, vI l1), (2, vI l2)]) dX2_keepLongestChain_6 rfl (by decide) rfl ?_
  refine Wa_iload_n 0 dX2_keepLongestChain_7 rfl rfl ?_
  refine Wa_if_le (tgt := 15) dX2_keepLongestChain_8 (by decide) r5 (fun c6 => ?_) (fun c6 => ?_)
  · have h := h.1 c6
    refine Wa_iconst (z := 0) dX2_keepLongestChain_15 ?_
    refine Wa_istore (ls' := [(4, vI 0), (3, vI z4), (0, vR o), (1, vI l1), (2, vI l2)]) dX2_keepLongestChain_16 (by decide) rfl ?_
    refine Wa_iconst (z := (-1)) dX2_keepLongestChain_18 ?_
    refine Wa_istore (ls' := [(5, vI (-1)), (4, vI 0), (3, vI z4), (0, vR o), (1, vI l1), (2, vI l2)]) dX2_keepLongestChain_19 (by decide) rfl ?_
    refine Wa_iload_n 4 dX2_keepLongestChain_21 rfl rfl ?_
    refine Wa_istore (ls' := [(6, vI l1), (5, vI (-1)), (4, vI 0), (3, vI z4), (0, vR o), (1, vI l1), (2, vI l2)]) dX2_keepLongestChain_22 (by decide) rfl ?_
    refine Wa_sub [4, 6, 3, 2, 1, 0] rfl ?_
    exact h
  · have h := h.2 c6
    refine Wa_iconst (z := 1) dX2_keepLongestChain_11 ?_
    refine Wa_goto (tgt := 16) dX2_keepLongestChain_12 (by decide) ?_
    refine Wa_istore (ls' := [(4, vI 1), (3, vI z4), (0, vR o), (1, vI l1), (2, vI l2)]) dX2_keepLongestChain_16 (by decide) rfl ?_
    refine Wa_iconst (z := (-1)) dX2_keepLongestChain_18 ?_
    refine Wa_istore (ls' := [(5, vI (-1)), (4, vI 1), (3, vI z4), (0, vR o), (1, vI l1), (2, vI l2)]) dX2_keepLongestChain_19 (by decide) rfl ?_
    refine Wa_iload_n 4 dX2_keepLongestChain_21 rfl rfl ?_
    refine Wa_istore (ls' := [(6, vI l1), (5, vI (-1)), (4, vI 1), (3, vI z4), (0, vR o), (1, vI l1), (2, vI l2)]) dX2_keepLongestChain_22 (by decide) rfl ?_
    refine Wa_sub [4, 6, 3, 2, 1, 0] rfl ?_
    exact h
set_option maxRecDepth 100000 in
theorem sg_X2_keepLongestChain_24 {g : AG} {d : Nat} {o : Nat} {l2 : Int} {l3 : Int} {l4 : Int} {l5 : Int} {l6 : Int} {M : AM} {Q : Int → AM → Prop} (hm : IsMatch o)
  (h : rg l6 ∧ (rg l2 ∧ ((l2 ≤ l6 → ((l4 = 0 ∨ l4 = 1) ∧ (Q l4 M))) ∧ (¬ l2 ≤ l6 → ((0 ≤ l6 ∧ l6 < 8) ∧ (rg l5 ∧ (((M (o + 20) (l6).toNat) ≤ l5 → (S_X2_keepLongestChain_24 g (d + 1) o l2 l3 l4 l5 (l6 + 1) M Q)) ∧ (¬ (M (o + 20) (l6).toNat) ≤ l5 → (rg l3 ∧ ((¬ (M (o + 21) (l6).toNat) = l3 → (S_X2_keepLongestChain_24 g (d + 1) o l2 l3 l4 l5 (l6 + 1) M Q)) ∧ ((M (o + 21) (l6).toNat) = l3 → (MetV g mX2_keep d [vR o, vI l6, vI (M (o + 20) (l6).toNat)] M (fun M13 => rg ((M13 o 7) + 1) ∧ (S_X2_keepLongestChain_24 g (d + 1) o l2 (l3 + (-1)) l4 (M (o + 20) (l6).toNat) (l6 + 1) (mU M13 o 7 ((M13 o 7) + 1)) Q)))))))))))))) : S_X2_keepLongestChain_24 g (d + 1) o l2 l3 l4 l5 l6 M Q := by
  show Wa _ _ _ _ _ _ _ _
  refine Wa_iload 5 dX2_keepLongestChain_24 rfl ?_
  refine Wa_iload_n 1 dX2_keepLongestChain_26 rfl rfl ?_
  obtain ⟨q1, h⟩ := h
  obtain ⟨q2, h⟩ := h
  refine Wa_icmp_ge (tgt := 89) dX2_keepLongestChain_27 (by decide) q1 q2 (fun c3 => ?_) (fun c3 => ?_)
  · have h := h.1 c3
    refine Wa_iload 3 dX2_keepLongestChain_89 rfl ?_
    obtain ⟨z4, h⟩ := h
    exact Wa_zreturn dX2_keepLongestChain_91 rfl z4 ⟨_, rfl, rg_bool z4, h⟩
  · have h := h.2 c3
    refine Wa_aload_n 0 dX2_keepLongestChain_30 rfl rfl ?_
    refine Wa_getR cf_X2 lk_X2_30 hm.1 (j := 3) rfl (by decide) dX2_keepLongestChain_31 ?_
    refine Wa_iload 5 dX2_keepLongestChain_34 rfl ?_
    obtain ⟨b5, h⟩ := h
    refine Wa_iald2 (v := (M (o + 20) (l6).toNat)) hm.2.2.2.2.2.1 b5 rfl dX2_keepLongestChain_36 (fun r6 => ?_)
    refine Wa_iload 4 dX2_keepLongestChain_37 rfl ?_
    obtain ⟨q7, h⟩ := h
    refine Wa_icmp_le (tgt := 83) dX2_keepLongestChain_39 (by decide) r6 q7 (fun c8 => ?_) (fun c8 => ?_)
    · have h := h.1 c8
      refine Wa_iinc (ls' := [(6, vI (l6 + 1)), (0, vR o), (2, vI l2), (3, vI l3), (4, vI l4), (5, vI l5)]) 5 dX2_keepLongestChain_83 rfl (by decide) rfl ?_
      refine Wa_goto (tgt := 24) dX2_keepLongestChain_86 (by decide) ?_
      refine Wa_sub [1, 2, 3, 4, 5, 0] rfl ?_
      exact h
    · have h := h.2 c8
      refine Wa_aload_n 0 dX2_keepLongestChain_42 rfl rfl ?_
      refine Wa_getR cf_X2 lk_X2_34 hm.1 (j := 4) rfl (by decide) dX2_keepLongestChain_43 ?_
      refine Wa_iload 5 dX2_keepLongestChain_46 rfl ?_
      refine Wa_iald2 (v := (M (o + 21) (l6).toNat)) hm.2.2.2.2.2.2.1 b5 rfl dX2_keepLongestChain_48 (fun r9 => ?_)
      refine Wa_iload_n 2 dX2_keepLongestChain_49 rfl rfl ?_
      obtain ⟨q10, h⟩ := h
      refine Wa_icmp_ne (tgt := 83) dX2_keepLongestChain_50 (by decide) r9 q10 (fun c11 => ?_) (fun c11 => ?_)
      · have h := h.1 c11
        refine Wa_iinc (ls' := [(6, vI (l6 + 1)), (0, vR o), (2, vI l2), (3, vI l3), (4, vI l4), (5, vI l5)]) 5 dX2_keepLongestChain_83 rfl (by decide) rfl ?_
        refine Wa_goto (tgt := 24) dX2_keepLongestChain_86 (by decide) ?_
        refine Wa_sub [1, 2, 3, 4, 5, 0] rfl ?_
        exact h
      · have h := h.2 c11
        refine Wa_aload_n 0 dX2_keepLongestChain_53 rfl rfl ?_
        refine Wa_getR cf_X2 lk_X2_30 hm.1 (j := 3) rfl (by decide) dX2_keepLongestChain_54 ?_
        refine Wa_iload 5 dX2_keepLongestChain_57 rfl ?_
        refine Wa_iald2 (v := (M (o + 20) (l6).toNat)) hm.2.2.2.2.2.1 b5 rfl dX2_keepLongestChain_59 (fun r12 => ?_)
        refine Wa_istore (ls' := [(5, vI (M (o + 20) (l6).toNat)), (0, vR o), (2, vI l2), (3, vI l3), (4, vI l4), (6, vI l6)]) dX2_keepLongestChain_60 (by decide) rfl ?_
        refine Wa_aload_n 1 dX2_keepLongestChain_62 rfl rfl ?_
        refine Wa_iload 5 dX2_keepLongestChain_63 rfl ?_
        refine Wa_iload 0 dX2_keepLongestChain_65 rfl ?_
        refine Wa_callV [vI l6, vI (M (o + 20) (l6).toNat)] _ cf_X2 rfl hm.1 lc_X2_78 cv_X2_keep rfl rfl (Nat.le_refl _) (Nat.le_of_ble_eq_true rfl) dX2_keepLongestChain_67 h ?_
        intro r M13 h
        obtain ⟨rfl, h⟩ := h
        refine Wa_aload_n 1 dX2_keepLongestChain_70 rfl rfl ?_
        refine Wa_dup dX2_keepLongestChain_71 rfl ?_
        refine Wa_getI2 (v := (M13 o 7)) cf_X2 lk_X2_43 hm.1 (j := 7) rfl (by decide) rfl dX2_keepLongestChain_72 (fun r16 => ?_)
        refine Wa_iconst (z := 1) dX2_keepLongestChain_75 ?_
        refine Wa_iadd dX2_keepLongestChain_76 ?_
        obtain ⟨q17, h⟩ := h
        refine Wa_putI cf_X2 lk_X2_43 hm.1 (j := 7) rfl (by decide) rfl rfl q17 dX2_keepLongestChain_77 ?_
        refine Wa_iinc (ls' := [(3, vI (l3 + (-1))), (5, vI (M (o + 20) (l6).toNat)), (0, vR o), (2, vI l2), (4, vI l4), (6, vI l6)]) 3 dX2_keepLongestChain_80 rfl (by decide) rfl ?_
        refine Wa_iinc (ls' := [(6, vI (l6 + 1)), (3, vI (l3 + (-1))), (5, vI (M (o + 20) (l6).toNat)), (0, vR o), (2, vI l2), (4, vI l4)]) 5 dX2_keepLongestChain_83 rfl (by decide) rfl ?_
        refine Wa_goto (tgt := 24) dX2_keepLongestChain_86 (by decide) ?_
        refine Wa_sub [3, 4, 1, 5, 2, 0] rfl ?_
        exact h
theorem en_X2_keepLongestChain {g : AG} {d : Nat} {o : Nat} {l1 : Int} {l2 : Int} {M : AM} {Q : Int → AM → Prop} (h : S_X2_keepLongestChain_0 g d o l1 l2 M Q) : MetI g mX2_keepLongestChain d [vR o, vI l1, vI l2] M Q := MetA.of (by decide) (Nat.le_of_ble_eq_true rfl) h
def S_X2_measureChains_0 (g : AG) (d : Nat) (o : Nat) (l1 : Int) (l2 : Int) (M : AM) (Q : Int → AM → Prop) : Prop := Wa g mX2_measureChains d 0 [(0, vR o), (1, vI l1), (2, vI l2)] [] M (QI Q)
def S_X2_measureChains_7 (g : AG) (d : Nat) (o : Nat) (l1 : Int) (l2 : Int) (l3 : Int) (l4 : Int) (M : AM) (Q : Int → AM → Prop) : Prop := Wa g mX2_measureChains d 7 [(0, vR o), (1, vI l1), (2, vI l2), (3, vI l3), (4, vI l4)] [] M (QI Q)
def S_X2_measureChains_44 (g : AG) (d : Nat) (o : Nat) (l1 : Int) (l2 : Int) (l3 : Int) (l4 : Int) (l5 : Int) (l6 : Int) (M : AM) (Q : Int → AM → Prop) : Prop := Wa g mX2_measureChains d 44 [(0, vR o), (1, vI l1), (2, vI l2), (3, vI l3), (4, vI l4), (5, vI l5), (6, vI l6)] [] M (QI Q)
set_option maxRecDepth 100000 in
theorem sg_X2_measureChains_0 {g : AG} {d : Nat} {o : Nat} {l1 : Int} {l2 : Int} {M : AM} {Q : Int → AM → Prop} (hm : IsMatch o)
  (h : S_X2_measureChains_7 g (d + 1) o l1 l2 0 (l2 - 1) M Q) : S_X2_measureChains_0 g (d + 1) o l1 l2 M Q := by
  show Wa _ _ _ _ _ _ _ _
  refine Wa_iconst (z := 0) dX2_measureChains_0 ?_
  refine Wa_istore_n (ls' := [(3, vI 0), (0, vR o), (1, vI l1), (2, vI l2)]) dX2_measureChains_1 rfl (by decide) rfl ?_
  refine Wa_iload_n 3 dX2_measureChains_2 rfl rfl ?_
  refine Wa_iconst (z := 1) dX2_measureChains_3 ?_
  refine Wa_isub dX2_measureChains_4 ?_
  refine Wa_istore (ls' := [(4, vI (l2 - 1)), (3, vI 0), (0, vR o), (1, vI l1), (2, vI l2)]) dX2_measureChains_5 (by decide) rfl ?_
  refine Wa_sub [2, 3, 4, 1, 0] rfl ?_
  exact h
set_option maxRecDepth 100000 in
theorem sg_X2_measureChains_7 {g : AG} {d : Nat} {o : Nat} {l1 : Int} {l2 : Int} {l3 : Int} {l4 : Int} {M : AM} {Q : Int → AM → Prop} (hm : IsMatch o)
  (h : rg l4 ∧ (rg l1 ∧ ((l4 < l1 → (rg l3 ∧ (Q l3 M))) ∧ (¬ l4 < l1 → ((0 ≤ l4 ∧ l4 < 8) ∧ ((¬ (M (o + 20) (l4).toNat) = (-1) → (S_X2_measureChains_44 g (d + 1) o l1 l2 l3 l4 0 (l4 + 1) (mU M (o + 21) (l4).toNat 0) Q)) ∧ ((M (o + 20) (l4).toNat) = (-1) → (S_X2_measureChains_7 g (d + 1) o l1 l2 l3 (l4 + (-1)) (mU M (o + 21) (l4).toNat 0) Q)))))))) : S_X2_measureChains_7 g (d + 1) o l1 l2 l3 l4 M Q := by
  show Wa _ _ _ _ _ _ _ _
  refine Wa_iload 4 dX2_measureChains_7 rfl ?_
  refine Wa_iload_n 1 dX2_measureChains_9 rfl rfl ?_
  obtain ⟨q1, h⟩ := h
  obtain ⟨q2, h⟩ := h
  refine Wa_icmp_lt (tgt := 116) dX2_measureChains_10 (by decide) q1 q2 (fun c3 => ?_) (fun c3 => ?_)
  · have h := h.1 c3
    refine Wa_iload_n 3 dX2_measureChains_116 rfl rfl ?_
    obtain ⟨q4, h⟩ := h
    exact Wa_ireturn dX2_measureChains_117 rfl ⟨_, rfl, q4, h⟩
  · have h := h.2 c3
    refine Wa_aload_n 0 dX2_measureChains_13 rfl rfl ?_
    refine Wa_getR cf_X2 lk_X2_34 hm.1 (j := 4) rfl (by decide) dX2_measureChains_14 ?_
    refine Wa_iload 4 dX2_measureChains_17 rfl ?_
    refine Wa_iconst (z := 0) dX2_measureChains_19 ?_
    obtain ⟨b5, h⟩ := h
    refine Wa_iast hm.2.2.2.2.2.2.1 b5 ⟨by decide, by decide⟩ dX2_measureChains_20 ?_
    refine Wa_aload_n 0 dX2_measureChains_21 rfl rfl ?_
    refine Wa_getR cf_X2 lk_X2_30 hm.1 (j := 3) rfl (by decide) dX2_measureChains_22 ?_
    refine Wa_iload 4 dX2_measureChains_25 rfl ?_
    refine Wa_iald2 (v := (M (o + 20) (l4).toNat)) hm.2.2.2.2.2.1 b5 (mU_rd (by omega)) dX2_measureChains_27 (fun r6 => ?_)
    refine Wa_iconst (z := (-1)) dX2_measureChains_28 ?_
    refine Wa_icmp_ne (tgt := 35) dX2_measureChains_29 (by decide) r6 ⟨by decide, by decide⟩ (fun c7 => ?_) (fun c7 => ?_)
    · have h := h.1 c7
      refine Wa_iconst (z := 0) dX2_measureChains_35 ?_
      refine Wa_istore (ls' := [(5, vI 0), (0, vR o), (1, vI l1), (2, vI l2), (3, vI l3), (4, vI l4)]) dX2_measureChains_36 (by decide) rfl ?_
      refine Wa_iload 5 dX2_measureChains_38 rfl ?_
      refine Wa_iconst (z := 1) dX2_measureChains_40 ?_
      refine Wa_iadd dX2_measureChains_41 ?_
      refine Wa_istore (ls' := [(6, vI (l4 + 1)), (5, vI 0), (0, vR o), (1, vI l1), (2, vI l2), (3, vI l3), (4, vI l4)]) dX2_measureChains_42 (by decide) rfl ?_
      refine Wa_sub [2, 3, 4, 5, 6, 1, 0] rfl ?_
      exact h
    · have h := h.2 c7
      refine Wa_goto (tgt := 110) dX2_measureChains_32 (by decide) ?_
      refine Wa_iinc (ls' := [(4, vI (l4 + (-1))), (0, vR o), (1, vI l1), (2, vI l2), (3, vI l3)]) 4 dX2_measureChains_110 rfl (by decide) rfl ?_
      refine Wa_goto (tgt := 7) dX2_measureChains_113 (by decide) ?_
      refine Wa_sub [1, 2, 3, 4, 0] rfl ?_
      exact h
set_option maxRecDepth 100000 in
theorem sg_X2_measureChains_44 {g : AG} {d : Nat} {o : Nat} {l1 : Int} {l2 : Int} {l3 : Int} {l4 : Int} {l5 : Int} {l6 : Int} {M : AM} {Q : Int → AM → Prop} (hm : IsMatch o)
  (h : rg l6 ∧ (rg l2 ∧ ((l2 ≤ l6 → ((0 ≤ l4 ∧ l4 < 8) ∧ (rg (l5 + 1) ∧ (rg l3 ∧ (S_X2_measureChains_7 g (d + 1) o l1 l2 (if l3 < (l5 + 1) then (l5 + 1) else l3) (l4 + (-1)) (mU M (o + 21) (l4).toNat (l5 + 1)) Q))))) ∧ (¬ l2 ≤ l6 → ((0 ≤ l6 ∧ l6 < 8) ∧ ((0 ≤ l4 ∧ l4 < 8) ∧ (((M (o + 20) (l6).toNat) ≤ (M (o + 20) (l4).toNat) → (S_X2_measureChains_44 g (d + 1) o l1 l2 l3 l4 l5 (l6 + 1) M Q)) ∧ (¬ (M (o + 20) (l6).toNat) ≤ (M (o + 20) (l4).toNat) → (rg l5 ∧ (S_X2_measureChains_44 g (d + 1) o l1 l2 l3 l4 (if l5 < (M (o + 21) (l6).toNat) then (M (o + 21) (l6).toNat) else l5) (l6 + 1) M Q)))))))))) : S_X2_measureChains_44 g (d + 1) o l1 l2 l3 l4 l5 l6 M Q := by
  show Wa _ _ _ _ _ _ _ _
  refine Wa_iload 6 dX2_measureChains_44 rfl ?_
  refine Wa_iload_n 2 dX2_measureChains_46 rfl rfl ?_
  obtain ⟨q1, h⟩ := h
  obtain ⟨q2, h⟩ := h
  refine Wa_icmp_ge (tgt := 87) dX2_measureChains_47 (by decide) q1 q2 (fun c3 => ?_) (fun c3 => ?_)
  · have h := h.1 c3
    refine Wa_aload_n 0 dX2_measureChains_87 rfl rfl ?_
    refine Wa_getR cf_X2 lk_X2_34 hm.1 (j := 4) rfl (by decide) dX2_measureChains_88 ?_
    refine Wa_iload 4 dX2_measureChains_91 rfl ?_
    refine Wa_iload 5 dX2_measureChains_93 rfl ?_
    refine Wa_iconst (z := 1) dX2_measureChains_95 ?_
    refine Wa_iadd dX2_measureChains_96 ?_
    obtain ⟨b4, h⟩ := h
    obtain ⟨q5, h⟩ := h
    refine Wa_iast hm.2.2.2.2.2.2.1 b4 q5 dX2_measureChains_97 ?_
    refine Wa_iload_n 3 dX2_measureChains_98 rfl rfl ?_
    refine Wa_aload_n 0 dX2_measureChains_99 rfl rfl ?_
    refine Wa_getR cf_X2 lk_X2_34 hm.1 (j := 4) rfl (by decide) dX2_measureChains_100 ?_
    refine Wa_iload 4 dX2_measureChains_103 rfl ?_
    refine Wa_iald2 (v := (l5 + 1)) hm.2.2.2.2.2.2.1 b4 mU_at dX2_measureChains_105 (fun r6 => ?_)
    obtain ⟨q7, h⟩ := h
    refine Wa_mmax lc_X2_103 st_max in_Math co_max q7 r6 (by omega) (Nat.le_of_ble_eq_true rfl) dX2_measureChains_106 ?_
    refine Wa_istore_n (ls' := [(3, vI (if l3 < (l5 + 1) then (l5 + 1) else l3)), (0, vR o), (1, vI l1), (2, vI l2), (4, vI l4), (5, vI l5), (6, vI l6)]) dX2_measureChains_109 rfl (by decide) rfl ?_
    refine Wa_iinc (ls' := [(4, vI (l4 + (-1))), (3, vI (if l3 < (l5 + 1) then (l5 + 1) else l3)), (0, vR o), (1, vI l1), (2, vI l2), (5, vI l5), (6, vI l6)]) 4 dX2_measureChains_110 rfl (by decide) rfl ?_
    refine Wa_goto (tgt := 7) dX2_measureChains_113 (by decide) ?_
    refine Wa_sub [2, 3, 4, 1, 0] rfl ?_
    exact h
  · have h := h.2 c3
    refine Wa_aload_n 0 dX2_measureChains_50 rfl rfl ?_
    refine Wa_getR cf_X2 lk_X2_30 hm.1 (j := 3) rfl (by decide) dX2_measureChains_51 ?_
    refine Wa_iload 6 dX2_measureChains_54 rfl ?_
    obtain ⟨b8, h⟩ := h
    refine Wa_iald2 (v := (M (o + 20) (l6).toNat)) hm.2.2.2.2.2.1 b8 rfl dX2_measureChains_56 (fun r9 => ?_)
    refine Wa_aload_n 0 dX2_measureChains_57 rfl rfl ?_
    refine Wa_getR cf_X2 lk_X2_30 hm.1 (j := 3) rfl (by decide) dX2_measureChains_58 ?_
    refine Wa_iload 4 dX2_measureChains_61 rfl ?_
    obtain ⟨b10, h⟩ := h
    refine Wa_iald2 (v := (M (o + 20) (l4).toNat)) hm.2.2.2.2.2.1 b10 rfl dX2_measureChains_63 (fun r11 => ?_)
    refine Wa_icmp_le (tgt := 81) dX2_measureChains_64 (by decide) r9 r11 (fun c12 => ?_) (fun c12 => ?_)
    · have h := h.1 c12
      refine Wa_iinc (ls' := [(6, vI (l6 + 1)), (0, vR o), (1, vI l1), (2, vI l2), (3, vI l3), (4, vI l4), (5, vI l5)]) 6 dX2_measureChains_81 rfl (by decide) rfl ?_
      refine Wa_goto (tgt := 44) dX2_measureChains_84 (by decide) ?_
      refine Wa_sub [1, 2, 3, 4, 5, 6, 0] rfl ?_
      exact h
    · have h := h.2 c12
      refine Wa_iload 5 dX2_measureChains_67 rfl ?_
      refine Wa_aload_n 0 dX2_measureChains_69 rfl rfl ?_
      refine Wa_getR cf_X2 lk_X2_34 hm.1 (j := 4) rfl (by decide) dX2_measureChains_70 ?_
      refine Wa_iload 6 dX2_measureChains_73 rfl ?_
      refine Wa_iald2 (v := (M (o + 21) (l6).toNat)) hm.2.2.2.2.2.2.1 b8 rfl dX2_measureChains_75 (fun r13 => ?_)
      obtain ⟨q14, h⟩ := h
      refine Wa_mmax lc_X2_103 st_max in_Math co_max q14 r13 (by omega) (Nat.le_of_ble_eq_true rfl) dX2_measureChains_76 ?_
      refine Wa_istore (ls' := [(5, vI (if l5 < (M (o + 21) (l6).toNat) then (M (o + 21) (l6).toNat) else l5)), (0, vR o), (1, vI l1), (2, vI l2), (3, vI l3), (4, vI l4), (6, vI l6)]) dX2_measureChains_79 (by decide) rfl ?_
      refine Wa_iinc (ls' := [(6, vI (l6 + 1)), (5, vI (if l5 < (M (o + 21) (l6).toNat) then (M (o + 21) (l6).toNat) else l5)), (0, vR o), (1, vI l1), (2, vI l2), (3, vI l3), (4, vI l4)]) 6 dX2_measureChains_81 rfl (by decide) rfl ?_
      refine Wa_goto (tgt := 44) dX2_measureChains_84 (by decide) ?_
      refine Wa_sub [2, 3, 4, 5, 6, 1, 0] rfl ?_
      exact h
theorem en_X2_measureChains {g : AG} {d : Nat} {o : Nat} {l1 : Int} {l2 : Int} {M : AM} {Q : Int → AM → Prop} (h : S_X2_measureChains_0 g d o l1 l2 M Q) : MetI g mX2_measureChains d [vR o, vI l1, vI l2] M Q := MetA.of (by decide) (Nat.le_of_ble_eq_true rfl) h
def S_X2_matchBetweenAnchors_0 (g : AG) (d : Nat) (o : Nat) (l1 : Int) (l2 : Int) (l3 : Int) (l4 : Int) (l5 : Int) (M : AM) (Q : AM → Prop) : Prop := Wa g mX2_matchBetweenAnchors d 0 [(0, vR o), (1, vI l1), (2, vI l2), (3, vI l3), (4, vI l4), (5, vI l5)] [] M (QV Q)
def S_X2_matchBetweenAnchors_9 (g : AG) (d : Nat) (o : Nat) (l2 : Int) (l4 : Int) (l5 : Int) (l6 : Int) (l7 : Int) (l8 : Int) (M : AM) (Q : AM → Prop) : Prop := Wa g mX2_matchBetweenAnchors d 9 [(0, vR o), (2, vI l2), (4, vI l4), (5, vI l5), (6, vI l6), (7, vI l7), (8, vI l8)] [] M (QV Q)
set_option maxRecDepth 100000 in
theorem sg_X2_matchBetweenAnchors_0 {g : AG} {d : Nat} {o : Nat} {l1 : Int} {l2 : Int} {l3 : Int} {l4 : Int} {l5 : Int} {M : AM} {Q : AM → Prop} (hm : IsMatch o)
  (h : S_X2_matchBetweenAnchors_9 g (d + 1) o l2 l4 l5 l1 l3 l1 M Q) : S_X2_matchBetweenAnchors_0 g (d + 1) o l1 l2 l3 l4 l5 M Q := by
  show Wa _ _ _ _ _ _ _ _
  refine Wa_iload_n 1 dX2_matchBetweenAnchors_0 rfl rfl ?_
  refine Wa_istore (ls' := [(6, vI l1), (0, vR o), (1, vI l1), (2, vI l2), (3, vI l3), (4, vI l4), (5, vI l5)]) dX2_matchBetweenAnchors_1 (by decide) rfl ?_
  refine Wa_iload_n 4 dX2_matchBetweenAnchors_3 rfl rfl ?_
  refine Wa_istore (ls' := [(7, vI l3), (6, vI l1), (0, vR o), (1, vI l1), (2, vI l2), (3, vI l3), (4, vI l4), (5, vI l5)]) dX2_matchBetweenAnchors_4 (by decide) rfl ?_
  refine Wa_iload_n 3 dX2_matchBetweenAnchors_6 rfl rfl ?_
  refine Wa_istore (ls' := [(8, vI l1), (7, vI l3), (6, vI l1), (0, vR o), (1, vI l1), (2, vI l2), (3, vI l3), (4, vI l4), (5, vI l5)]) dX2_matchBetweenAnchors_7 (by decide) rfl ?_
  refine Wa_sub [3, 5, 7, 8, 2, 1, 0] rfl ?_
  exact h
set_option maxRecDepth 100000 in
theorem sg_X2_matchBetweenAnchors_9 {g : AG} {d : Nat} {o : Nat} {l2 : Int} {l4 : Int} {l5 : Int} {l6 : Int} {l7 : Int} {l8 : Int} {M : AM} {Q : AM → Prop} (hm : IsMatch o)
  (h : rg l8 ∧ (rg l2 ∧ ((l2 ≤ l8 → (rg l6 ∧ (rg l7 ∧ (rg l4 ∧ (rg (l5 + 1) ∧ (MetV g mX2_matchParts d [vR o, vI l6, vI l2, vI l7, vI l4, vI (l5 + 1)] M (fun M8 => Q M8))))))) ∧ (¬ l2 ≤ l8 → ((0 ≤ l8 ∧ l8 < 8) ∧ (((M (o + 7) (l8).toNat) = (-1) → (S_X2_matchBetweenAnchors_9 g (d + 1) o l2 l4 l5 l6 l7 (l8 + 1) M Q)) ∧ (¬ (M (o + 7) (l8).toNat) = (-1) → (rg l6 ∧ (rg l7 ∧ (rg (l5 + 1) ∧ (MetV g mX2_matchParts d [vR o, vI l6, vI l8, vI l7, vI (M (o + 7) (l8).toNat), vI (l5 + 1)] M (fun M17 => S_X2_matchBetweenAnchors_9 g (d + 1) o l2 l4 l5 (l8 + 1) ((M (o + 7) (l8).toNat) + 1) (l8 + 1) M17 Q)))))))))))) : S_X2_matchBetweenAnchors_9 g (d + 1) o l2 l4 l5 l6 l7 l8 M Q := by
  show Wa _ _ _ _ _ _ _ _
  refine Wa_iload 6 dX2_matchBetweenAnchors_9 rfl ?_
  refine Wa_iload_n 1 dX2_matchBetweenAnchors_11 rfl rfl ?_
  obtain ⟨q1, h⟩ := h
  obtain ⟨q2, h⟩ := h
  refine Wa_icmp_ge (tgt := 66) dX2_matchBetweenAnchors_12 (by decide) q1 q2 (fun c3 => ?_) (fun c3 => ?_)
  · have h := h.1 c3
    refine Wa_aload_n 0 dX2_matchBetweenAnchors_66 rfl rfl ?_
    refine Wa_iload 4 dX2_matchBetweenAnchors_67 rfl ?_
    refine Wa_iload_n 1 dX2_matchBetweenAnchors_69 rfl rfl ?_
    refine Wa_iload 5 dX2_matchBetweenAnchors_70 rfl ?_
    refine Wa_iload 2 dX2_matchBetweenAnchors_72 rfl ?_
    refine Wa_iload 3 dX2_matchBetweenAnchors_74 rfl ?_
    refine Wa_iconst (z := 1) dX2_matchBetweenAnchors_76 ?_
    refine Wa_iadd dX2_matchBetweenAnchors_77 ?_
    obtain ⟨q4, h⟩ := h
    obtain ⟨q5, h⟩ := h
    obtain ⟨q6, h⟩ := h
    obtain ⟨q7, h⟩ := h
    refine Wa_callV [vI l6, vI l2, vI l7, vI l4, vI (l5 + 1)] _ cf_X2 rfl hm.1 lc_X2_53 cv_X2_matchParts rfl rfl (Nat.le_refl _) (Nat.le_of_ble_eq_true rfl) dX2_matchBetweenAnchors_78 h ?_
    intro r M8 h
    obtain ⟨rfl, h⟩ := h
    exact Wa_return dX2_matchBetweenAnchors_81 rfl ⟨rfl, h⟩
  · have h := h.2 c3
    refine Wa_aload_n 0 dX2_matchBetweenAnchors_15 rfl rfl ?_
    refine Wa_getR cf_X2 lk_X2_20 hm.1 (j := 1) rfl (by decide) dX2_matchBetweenAnchors_16 ?_
    refine Wa_iconst (z := 0) dX2_matchBetweenAnchors_19 ?_
    refine Wa_aald hm.2.2.1 ⟨by decide, by decide⟩ dX2_matchBetweenAnchors_20 ?_
    refine Wa_iload 6 dX2_matchBetweenAnchors_21 rfl ?_
    obtain ⟨b11, h⟩ := h
    refine Wa_iald2 (v := (M (o + 7) (l8).toNat)) (hm.2.2.2.1 0 (by decide)) b11 rfl dX2_matchBetweenAnchors_23 (fun r12 => ?_)
    refine Wa_istore (ls' := [(9, vI (M (o + 7) (l8).toNat)), (0, vR o), (2, vI l2), (4, vI l4), (5, vI l5), (6, vI l6), (7, vI l7), (8, vI l8)]) dX2_matchBetweenAnchors_24 (by decide) rfl ?_
    refine Wa_iload 0 dX2_matchBetweenAnchors_26 rfl ?_
    refine Wa_iconst (z := (-1)) dX2_matchBetweenAnchors_28 ?_
    refine Wa_icmp_eq (tgt := 60) dX2_matchBetweenAnchors_29 (by decide) r12 ⟨by decide, by decide⟩ (fun c13 => ?_) (fun c13 => ?_)
    · have h := h.1 c13
      refine Wa_iinc (ls' := [(8, vI (l8 + 1)), (9, vI (M (o + 7) (l8).toNat)), (0, vR o), (2, vI l2), (4, vI l4), (5, vI l5), (6, vI l6), (7, vI l7)]) 7 dX2_matchBetweenAnchors_60 rfl (by decide) rfl ?_
      refine Wa_goto (tgt := 9) dX2_matchBetweenAnchors_63 (by decide) ?_
      refine Wa_sub [2, 3, 4, 5, 6, 7, 0] rfl ?_
      exact h
    · have h := h.2 c13
      refine Wa_aload_n 1 dX2_matchBetweenAnchors_32 rfl rfl ?_
      refine Wa_iload 5 dX2_matchBetweenAnchors_33 rfl ?_
      refine Wa_iload 7 dX2_matchBetweenAnchors_35 rfl ?_
      refine Wa_iload 6 dX2_matchBetweenAnchors_37 rfl ?_
      refine Wa_iload 0 dX2_matchBetweenAnchors_39 rfl ?_
      refine Wa_iload 4 dX2_matchBetweenAnchors_41 rfl ?_
      refine Wa_iconst (z := 1) dX2_matchBetweenAnchors_43 ?_
      refine Wa_iadd dX2_matchBetweenAnchors_44 ?_
      obtain ⟨q14, h⟩ := h
      obtain ⟨q15, h⟩ := h
      obtain ⟨q16, h⟩ := h
      refine Wa_callV [vI l6, vI l8, vI l7, vI (M (o + 7) (l8).toNat), vI (l5 + 1)] _ cf_X2 rfl hm.1 lc_X2_53 cv_X2_matchParts rfl rfl (Nat.le_refl _) (Nat.le_of_ble_eq_true rfl) dX2_matchBetweenAnchors_45 h ?_
      intro r M17 h
      obtain ⟨rfl, h⟩ := h
      refine Wa_iload 7 dX2_matchBetweenAnchors_48 rfl ?_
      refine Wa_iconst (z := 1) dX2_matchBetweenAnchors_50 ?_
      refine Wa_iadd dX2_matchBetweenAnchors_51 ?_
      refine Wa_istore (ls' := [(6, vI (l8 + 1)), (9, vI (M (o + 7) (l8).toNat)), (0, vR o), (2, vI l2), (4, vI l4), (5, vI l5), (7, vI l7), (8, vI l8)]) dX2_matchBetweenAnchors_52 (by decide) rfl ?_
      refine Wa_iload 1 dX2_matchBetweenAnchors_54 rfl ?_
      refine Wa_iconst (z := 1) dX2_matchBetweenAnchors_56 ?_
      refine Wa_iadd dX2_matchBetweenAnchors_57 ?_
      refine Wa_istore (ls' := [(7, vI ((M (o + 7) (l8).toNat) + 1)), (6, vI (l8 + 1)), (9, vI (M (o + 7) (l8).toNat)), (0, vR o), (2, vI l2), (4, vI l4), (5, vI l5), (8, vI l8)]) dX2_matchBetweenAnchors_58 (by decide) rfl ?_
      refine Wa_iinc (ls' := [(8, vI (l8 + 1)), (7, vI ((M (o + 7) (l8).toNat) + 1)), (6, vI (l8 + 1)), (9, vI (M (o + 7) (l8).toNat)), (0, vR o), (2, vI l2), (4, vI l4), (5, vI l5)]) 7 dX2_matchBetweenAnchors_60 rfl (by decide) rfl ?_
      refine Wa_goto (tgt := 9) dX2_matchBetweenAnchors_63 (by decide) ?_
      refine Wa_sub [4, 5, 6, 7, 2, 1, 0] rfl ?_
      exact h
theorem en_X2_matchBetweenAnchors {g : AG} {d : Nat} {o : Nat} {l1 : Int} {l2 : Int} {l3 : Int} {l4 : Int} {l5 : Int} {M : AM} {Q : AM → Prop} (h : S_X2_matchBetweenAnchors_0 g d o l1 l2 l3 l4 l5 M Q) : MetV g mX2_matchBetweenAnchors d [vR o, vI l1, vI l2, vI l3, vI l4, vI l5] M Q := MetA.of (by decide) (Nat.le_of_ble_eq_true rfl) h
def S_X2_keepMost_0 (g : AG) (d : Nat) (o : Nat) (l1 : Int) (l2 : Int) (l3 : Int) (l4 : Int) (M : AM) (Q : AM → Prop) : Prop := Wa g mX2_keepMost d 0 [(0, vR o), (1, vI l1), (2, vI l2), (3, vI l3), (4, vI l4)] [] M (QV Q)
def S_X2_keepMost_37 (g : AG) (d : Nat) (o : Nat) (l2 : Int) (l4 : Int) (l5 : Int) (l6 : Int) (M : AM) (Q : AM → Prop) : Prop := Wa g mX2_keepMost d 37 [(0, vR o), (2, vI l2), (4, vI l4), (5, vI l5), (6, vI l6)] [] M (QV Q)
set_option maxRecDepth 100000 in
theorem sg_X2_keepMost_0 {g : AG} {d : Nat} {o : Nat} {l1 : Int} {l2 : Int} {l3 : Int} {l4 : Int} {M : AM} {Q : AM → Prop} (hm : IsMatch o)
  (h : rg l1 ∧ (rg l2 ∧ (rg l3 ∧ (rg l4 ∧ (MetI g mX0_most d [vR (o + 9), vR (o + 3), vI l1, vI l2, vR (o + 4), vI l3, vI l4] M (fun z6 M5 => rg z6 → (S_X2_keepMost_37 g (d + 1) o l2 l4 l1 l3 M5 Q))))))) : S_X2_keepMost_0 g (d + 1) o l1 l2 l3 l4 M Q := by
  show Wa _ _ _ _ _ _ _ _
  refine Wa_aload_n 0 dX2_keepMost_0 rfl rfl ?_
  refine Wa_getR cf_X2 lk_X2_26 hm.1 (j := 2) rfl (by decide) dX2_keepMost_1 ?_
  refine Wa_aload_n 0 dX2_keepMost_4 rfl rfl ?_
  refine Wa_getR cf_X2 lk_X2_12 hm.1 (j := 0) rfl (by decide) dX2_keepMost_5 ?_
  refine Wa_getR cf_X7 lk_X2_67 hm.2.1.1 (j := 0) rfl (by decide) dX2_keepMost_8 ?_
  refine Wa_iconst (z := 0) dX2_keepMost_11 ?_
  refine Wa_aald hm.2.1.2.1 ⟨by decide, by decide⟩ dX2_keepMost_12 ?_
  refine Wa_iload_n 1 dX2_keepMost_13 rfl rfl ?_
  refine Wa_iload_n 2 dX2_keepMost_14 rfl rfl ?_
  refine Wa_aload_n 0 dX2_keepMost_15 rfl rfl ?_
  refine Wa_getR cf_X2 lk_X2_12 hm.1 (j := 0) rfl (by decide) dX2_keepMost_16 ?_
  refine Wa_getR cf_X7 lk_X2_67 hm.2.1.1 (j := 0) rfl (by decide) dX2_keepMost_19 ?_
  refine Wa_iconst (z := 1) dX2_keepMost_22 ?_
  refine Wa_aald hm.2.1.2.1 ⟨by decide, by decide⟩ dX2_keepMost_23 ?_
  refine Wa_iload_n 3 dX2_keepMost_24 rfl rfl ?_
  refine Wa_iload 4 dX2_keepMost_25 rfl ?_
  obtain ⟨q1, h⟩ := h
  obtain ⟨q2, h⟩ := h
  obtain ⟨q3, h⟩ := h
  obtain ⟨q4, h⟩ := h
  refine Wa_callV [vR (o + 3), vI l1, vI l2, vR (o + 4), vI l3, vI l4] _ cf_X0 rfl hm.2.2.2.2.1.1 lc_X2_70 cv_X0_most rfl rfl (Nat.le_refl _) (Nat.le_of_ble_eq_true rfl) dX2_keepMost_27 h ?_
  intro r M5 h
  obtain ⟨z6, rfl, r7, h⟩ := h
  have h := h r7
  refine Wa_pop dX2_keepMost_30 rfl ?_
  refine Wa_iload_n 1 dX2_keepMost_31 rfl rfl ?_
  refine Wa_istore (ls' := [(5, vI l1), (0, vR o), (1, vI l1), (2, vI l2), (3, vI l3), (4, vI l4)]) dX2_keepMost_32 (by decide) rfl ?_
  refine Wa_iload_n 4 dX2_keepMost_34 rfl rfl ?_
  refine Wa_istore (ls' := [(6, vI l3), (5, vI l1), (0, vR o), (1, vI l1), (2, vI l2), (3, vI l3), (4, vI l4)]) dX2_keepMost_35 (by decide) rfl ?_
  refine Wa_sub [2, 4, 6, 1, 0] rfl ?_
  exact h
set_option maxRecDepth 100000 in
theorem sg_X2_keepMost_37 {g : AG} {d : Nat} {o : Nat} {l2 : Int} {l4 : Int} {l5 : Int} {l6 : Int} {M : AM} {Q : AM → Prop} (hm : IsMatch o)
  (h : rg l5 ∧ (rg l2 ∧ ((l2 ≤ l5 → (Q M)) ∧ (¬ l2 ≤ l5 → (rg l6 ∧ (rg l4 ∧ ((l4 ≤ l6 → (Q M)) ∧ (¬ l4 ≤ l6 → (MetI g mX2_same d [vR o, vI l5, vI l6] M (fun z8 M7 => rg z8 → ((z8 = 0 → ((0 ≤ (l5 + 1) ∧ (l5 + 1) < 9) ∧ ((0 ≤ l6 ∧ l6 < 9) ∧ ((0 ≤ l5 ∧ l5 < 9) ∧ ((0 ≤ (l6 + 1) ∧ (l6 + 1) < 9) ∧ (((M7 (o + 11 + ((l5 + 1)).toNat) (l6).toNat) < (M7 (o + 11 + (l5).toNat) ((l6 + 1)).toNat) → (S_X2_keepMost_37 g (d + 1) o l2 l4 l5 (l6 + 1) M7 Q)) ∧ (¬ (M7 (o + 11 + ((l5 + 1)).toNat) (l6).toNat) < (M7 (o + 11 + (l5).toNat) ((l6 + 1)).toNat) → (S_X2_keepMost_37 g (d + 1) o l2 l4 (l5 + 1) l6 M7 Q)))))))) ∧ (¬ z8 = 0 → (MetV g mX2_keep d [vR o, vI l5, vI l6] M7 (fun M18 => S_X2_keepMost_37 g (d + 1) o l2 l4 (l5 + 1) (l6 + 1) M18 Q)))))))))))))) : S_X2_keepMost_37 g (d + 1) o l2 l4 l5 l6 M Q := by
  show Wa _ _ _ _ _ _ _ _
  refine Wa_iload 3 dX2_keepMost_37 rfl ?_
  refine Wa_iload_n 1 dX2_keepMost_39 rfl rfl ?_
  obtain ⟨q1, h⟩ := h
  obtain ⟨q2, h⟩ := h
  refine Wa_icmp_ge (tgt := 123) dX2_keepMost_40 (by decide) q1 q2 (fun c3 => ?_) (fun c3 => ?_)
  · have h := h.1 c3
    exact Wa_return dX2_keepMost_123 rfl ⟨rfl, h⟩
  · have h := h.2 c3
    refine Wa_iload 4 dX2_keepMost_43 rfl ?_
    refine Wa_iload 2 dX2_keepMost_45 rfl ?_
    obtain ⟨q4, h⟩ := h
    obtain ⟨q5, h⟩ := h
    refine Wa_icmp_ge (tgt := 123) dX2_keepMost_47 (by decide) q4 q5 (fun c6 => ?_) (fun c6 => ?_)
    · have h := h.1 c6
      exact Wa_return dX2_keepMost_123 rfl ⟨rfl, h⟩
    · have h := h.2 c6
      refine Wa_aload_n 0 dX2_keepMost_50 rfl rfl ?_
      refine Wa_iload 3 dX2_keepMost_51 rfl ?_
      refine Wa_iload 4 dX2_keepMost_53 rfl ?_
      refine Wa_callV [vI l5, vI l6] _ cf_X2 rfl hm.1 lc_X2_74 cv_X2_same rfl rfl (Nat.le_refl _) (Nat.le_of_ble_eq_true rfl) dX2_keepMost_55 h ?_
      intro r M7 h
      obtain ⟨z8, rfl, r9, h⟩ := h
      have h := h r9
      refine Wa_if_eq (tgt := 78) dX2_keepMost_58 (by decide) r9 (fun c10 => ?_) (fun c10 => ?_)
      · have h := h.1 c10
        refine Wa_aload_n 0 dX2_keepMost_78 rfl rfl ?_
        refine Wa_getR cf_X2 lk_X2_26 hm.1 (j := 2) rfl (by decide) dX2_keepMost_79 ?_
        refine Wa_getR cf_X0 lk_X2_108 hm.2.2.2.2.1.1 (j := 0) rfl (by decide) dX2_keepMost_82 ?_
        refine Wa_iload 3 dX2_keepMost_85 rfl ?_
        refine Wa_iconst (z := 1) dX2_keepMost_87 ?_
        refine Wa_iadd dX2_keepMost_88 ?_
        obtain ⟨b11, h⟩ := h
        refine Wa_aald hm.2.2.2.2.1.2.1 b11 dX2_keepMost_89 ?_
        refine Wa_iload 4 dX2_keepMost_90 rfl ?_
        obtain ⟨b12, h⟩ := h
        refine Wa_iald2 (v := (M7 (o + 11 + ((l5 + 1)).toNat) (l6).toNat)) (hm.2.2.2.2.1.2.2 _ (inb_nat b11)) b12 rfl dX2_keepMost_92 (fun r13 => ?_)
        refine Wa_aload_n 0 dX2_keepMost_93 rfl rfl ?_
        refine Wa_getR cf_X2 lk_X2_26 hm.1 (j := 2) rfl (by decide) dX2_keepMost_94 ?_
        refine Wa_getR cf_X0 lk_X2_108 hm.2.2.2.2.1.1 (j := 0) rfl (by decide) dX2_keepMost_97 ?_
        refine Wa_iload 3 dX2_keepMost_100 rfl ?_
        obtain ⟨b14, h⟩ := h
        refine Wa_aald hm.2.2.2.2.1.2.1 b14 dX2_keepMost_102 ?_
        refine Wa_iload 4 dX2_keepMost_103 rfl ?_
        refine Wa_iconst (z := 1) dX2_keepMost_105 ?_
        refine Wa_iadd dX2_keepMost_106 ?_
        obtain ⟨b15, h⟩ := h
        refine Wa_iald2 (v := (M7 (o + 11 + (l5).toNat) ((l6 + 1)).toNat)) (hm.2.2.2.2.1.2.2 _ (inb_nat b14)) b15 rfl dX2_keepMost_107 (fun r16 => ?_)
        refine Wa_icmp_lt (tgt := 117) dX2_keepMost_108 (by decide) r13 r16 (fun c17 => ?_) (fun c17 => ?_)
        · have h := h.1 c17
          refine Wa_iinc (ls' := [(6, vI (l6 + 1)), (0, vR o), (2, vI l2), (4, vI l4), (5, vI l5)]) 4 dX2_keepMost_117 rfl (by decide) rfl ?_
          refine Wa_goto (tgt := 37) dX2_keepMost_120 (by decide) ?_
          refine Wa_sub [1, 2, 3, 4, 0] rfl ?_
          exact h
        · have h := h.2 c17
          refine Wa_iinc (ls' := [(5, vI (l5 + 1)), (0, vR o), (2, vI l2), (4, vI l4), (6, vI l6)]) 3 dX2_keepMost_111 rfl (by decide) rfl ?_
          refine Wa_goto (tgt := 37) dX2_keepMost_114 (by decide) ?_
          refine Wa_sub [1, 2, 3, 0, 4] rfl ?_
          exact h
      · have h := h.2 c10
        refine Wa_aload_n 0 dX2_keepMost_61 rfl rfl ?_
        refine Wa_iload 3 dX2_keepMost_62 rfl ?_
        refine Wa_iload 4 dX2_keepMost_64 rfl ?_
        refine Wa_callV [vI l5, vI l6] _ cf_X2 rfl hm.1 lc_X2_78 cv_X2_keep rfl rfl (Nat.le_refl _) (Nat.le_of_ble_eq_true rfl) dX2_keepMost_66 h ?_
        intro r M18 h
        obtain ⟨rfl, h⟩ := h
        refine Wa_iinc (ls' := [(5, vI (l5 + 1)), (0, vR o), (2, vI l2), (4, vI l4), (6, vI l6)]) 3 dX2_keepMost_69 rfl (by decide) rfl ?_
        refine Wa_iinc (ls' := [(6, vI (l6 + 1)), (5, vI (l5 + 1)), (0, vR o), (2, vI l2), (4, vI l4)]) 4 dX2_keepMost_72 rfl (by decide) rfl ?_
        refine Wa_goto (tgt := 37) dX2_keepMost_75 (by decide) ?_
        refine Wa_sub [2, 3, 4, 1, 0] rfl ?_
        exact h
theorem en_X2_keepMost {g : AG} {d : Nat} {o : Nat} {l1 : Int} {l2 : Int} {l3 : Int} {l4 : Int} {M : AM} {Q : AM → Prop} (h : S_X2_keepMost_0 g d o l1 l2 l3 l4 M Q) : MetV g mX2_keepMost d [vR o, vI l1, vI l2, vI l3, vI l4] M Q := MetA.of (by decide) (Nat.le_of_ble_eq_true rfl) h
def S_X2_slideGaps_0 (g : AG) (d : Nat) (o : Nat) (M : AM) (Q : AM → Prop) : Prop := Wa g mX2_slideGaps d 0 [(0, vR o)] [] M (QV Q)
def S_X2_slideGaps_36 (g : AG) (d : Nat) (o : Nat) (l1 : Int) (M : AM) (Q : AM → Prop) : Prop := Wa g mX2_slideGaps d 36 [(0, vR o), (1, vI l1)] [] M (QV Q)
def S_X2_slideGaps_62 (g : AG) (d : Nat) (o : Nat) (l1 : Int) (l2 : Int) (M : AM) (Q : AM → Prop) : Prop := Wa g mX2_slideGaps d 62 [(0, vR o), (1, vI l1), (2, vI l2)] [] M (QV Q)
set_option maxRecDepth 100000 in
theorem sg_X2_slideGaps_0 {g : AG} {d : Nat} {o : Nat} {M : AM} {Q : AM → Prop} (hm : IsMatch o)
  (h : rg ((M (o + 5) 0) + 1) ∧ (rg ((M (o + 5) 1) + 1) ∧ (S_X2_slideGaps_36 g (d + 1) o 0 (mU (mU M (o + 22) 0 ((M (o + 5) 0) + 1)) (o + 22) 1 ((M (o + 5) 1) + 1)) Q))) : S_X2_slideGaps_0 g (d + 1) o M Q := by
  show Wa _ _ _ _ _ _ _ _
  refine Wa_aload_n 0 dX2_slideGaps_0 rfl rfl ?_
  refine Wa_getR cf_X2 lk_X2_37 hm.1 (j := 5) rfl (by decide) dX2_slideGaps_1 ?_
  refine Wa_iconst (z := 0) dX2_slideGaps_4 ?_
  refine Wa_aload_n 0 dX2_slideGaps_5 rfl rfl ?_
  refine Wa_getR cf_X2 lk_X2_12 hm.1 (j := 0) rfl (by decide) dX2_slideGaps_6 ?_
  refine Wa_getR cf_X7 lk_X2_50 hm.2.1.1 (j := 1) rfl (by decide) dX2_slideGaps_9 ?_
  refine Wa_iconst (z := 0) dX2_slideGaps_12 ?_
  refine Wa_iald2 (v := (M (o + 5) 0)) hm.2.1.2.2.2 ⟨by decide, by decide⟩ rfl dX2_slideGaps_13 (fun r1 => ?_)
  refine Wa_iconst (z := 1) dX2_slideGaps_14 ?_
  refine Wa_iadd dX2_slideGaps_15 ?_
  obtain ⟨q2, h⟩ := h
  refine Wa_iast hm.2.2.2.2.2.2.2.1 ⟨by decide, by decide⟩ q2 dX2_slideGaps_16 ?_
  refine Wa_aload_n 0 dX2_slideGaps_17 rfl rfl ?_
  refine Wa_getR cf_X2 lk_X2_37 hm.1 (j := 5) rfl (by decide) dX2_slideGaps_18 ?_
  refine Wa_iconst (z := 1) dX2_slideGaps_21 ?_
  refine Wa_aload_n 0 dX2_slideGaps_22 rfl rfl ?_
  refine Wa_getR cf_X2 lk_X2_12 hm.1 (j := 0) rfl (by decide) dX2_slideGaps_23 ?_
  refine Wa_getR cf_X7 lk_X2_50 hm.2.1.1 (j := 1) rfl (by decide) dX2_slideGaps_26 ?_
  refine Wa_iconst (z := 1) dX2_slideGaps_29 ?_
  refine Wa_iald2 (v := (M (o + 5) 1)) hm.2.1.2.2.2 ⟨by decide, by decide⟩ (mU_rd (by omega)) dX2_slideGaps_30 (fun r3 => ?_)
  refine Wa_iconst (z := 1) dX2_slideGaps_31 ?_
  refine Wa_iadd dX2_slideGaps_32 ?_
  obtain ⟨q4, h⟩ := h
  refine Wa_iast hm.2.2.2.2.2.2.2.1 ⟨by decide, by decide⟩ q4 dX2_slideGaps_33 ?_
  refine Wa_iconst (z := 0) dX2_slideGaps_34 ?_
  refine Wa_istore_n (ls' := [(1, vI 0), (0, vR o)]) dX2_slideGaps_35 rfl (by decide) rfl ?_
  refine Wa_sub [1, 0] rfl ?_
  exact h
set_option maxRecDepth 100000 in
theorem sg_X2_slideGaps_36 {g : AG} {d : Nat} {o : Nat} {l1 : Int} {M : AM} {Q : AM → Prop} (hm : IsMatch o)
  (h : rg l1 ∧ ((8 < l1 → (Q M)) ∧ (¬ 8 < l1 → (((M (o + 22) 0) ≤ 0 → (Q M)) ∧ (¬ (M (o + 22) 0) ≤ 0 → (((M (o + 22) 1) ≤ 0 → (Q M)) ∧ (¬ (M (o + 22) 1) ≤ 0 → (S_X2_slideGaps_62 g (d + 1) o l1 0 M Q)))))))) : S_X2_slideGaps_36 g (d + 1) o l1 M Q := by
  show Wa _ _ _ _ _ _ _ _
  refine Wa_iload_n 1 dX2_slideGaps_36 rfl rfl ?_
  refine Wa_bipush (z := 8) dX2_slideGaps_37 (by decide) ?_
  obtain ⟨q1, h⟩ := h
  refine Wa_icmp_gt (tgt := 117) dX2_slideGaps_39 (by decide) q1 ⟨by decide, by decide⟩ (fun c2 => ?_) (fun c2 => ?_)
  · have h := h.1 c2
    exact Wa_return dX2_slideGaps_117 rfl ⟨rfl, h⟩
  · have h := h.2 c2
    refine Wa_aload_n 0 dX2_slideGaps_42 rfl rfl ?_
    refine Wa_getR cf_X2 lk_X2_37 hm.1 (j := 5) rfl (by decide) dX2_slideGaps_43 ?_
    refine Wa_iconst (z := 0) dX2_slideGaps_46 ?_
    refine Wa_iald2 (v := (M (o + 22) 0)) hm.2.2.2.2.2.2.2.1 ⟨by decide, by decide⟩ rfl dX2_slideGaps_47 (fun r3 => ?_)
    refine Wa_if_le (tgt := 117) dX2_slideGaps_48 (by decide) r3 (fun c4 => ?_) (fun c4 => ?_)
    · have h := h.1 c4
      exact Wa_return dX2_slideGaps_117 rfl ⟨rfl, h⟩
    · have h := h.2 c4
      refine Wa_aload_n 0 dX2_slideGaps_51 rfl rfl ?_
      refine Wa_getR cf_X2 lk_X2_37 hm.1 (j := 5) rfl (by decide) dX2_slideGaps_52 ?_
      refine Wa_iconst (z := 1) dX2_slideGaps_55 ?_
      refine Wa_iald2 (v := (M (o + 22) 1)) hm.2.2.2.2.2.2.2.1 ⟨by decide, by decide⟩ rfl dX2_slideGaps_56 (fun r5 => ?_)
      refine Wa_if_le (tgt := 117) dX2_slideGaps_57 (by decide) r5 (fun c6 => ?_) (fun c6 => ?_)
      · have h := h.1 c6
        exact Wa_return dX2_slideGaps_117 rfl ⟨rfl, h⟩
      · have h := h.2 c6
        refine Wa_iconst (z := 0) dX2_slideGaps_60 ?_
        refine Wa_istore_n (ls' := [(2, vI 0), (0, vR o), (1, vI l1)]) dX2_slideGaps_61 rfl (by decide) rfl ?_
        refine Wa_sub [1, 2, 0] rfl ?_
        exact h
set_option maxRecDepth 100000 in
theorem sg_X2_slideGaps_62 {g : AG} {d : Nat} {o : Nat} {l1 : Int} {l2 : Int} {M : AM} {Q : AM → Prop} (hm : IsMatch o)
  (h : rg l2 ∧ ((2 ≤ l2 → (MetV g mX2_widenGap d [vR o] M (fun M3 => MetV g mX2_slideGap d [vR o] M3 (fun M6 => MetV g mX2_widenGap d [vR o] M6 (fun M9 => S_X2_slideGaps_36 g (d + 1) o (l1 + 1) M9 Q))))) ∧ (¬ 2 ≤ l2 → ((0 ≤ l2 ∧ l2 < 2) ∧ (rg ((M (o + 22) (l2).toNat) - 1) ∧ (S_X2_slideGaps_62 g (d + 1) o l1 (l2 + 1) (mU (mU M (o + 23) (l2).toNat ((M (o + 22) (l2).toNat) - 1)) (o + 22) (l2).toNat ((M (o + 22) (l2).toNat) - 1)) Q)))))) : S_X2_slideGaps_62 g (d + 1) o l1 l2 M Q := by
  show Wa _ _ _ _ _ _ _ _
  refine Wa_iload_n 2 dX2_slideGaps_62 rfl rfl ?_
  refine Wa_iconst (z := 2) dX2_slideGaps_63 ?_
  obtain ⟨q1, h⟩ := h
  refine Wa_icmp_ge (tgt := 99) dX2_slideGaps_64 (by decide) q1 ⟨by decide, by decide⟩ (fun c2 => ?_) (fun c2 => ?_)
  · have h := h.1 c2
    refine Wa_aload_n 0 dX2_slideGaps_99 rfl rfl ?_
    refine Wa_callV [] _ cf_X2 rfl hm.1 lc_X2_111 cv_X2_widenGap rfl rfl (Nat.le_refl _) (Nat.le_of_ble_eq_true rfl) dX2_slideGaps_100 h ?_
    intro r M3 h
    obtain ⟨rfl, h⟩ := h
    refine Wa_aload_n 0 dX2_slideGaps_103 rfl rfl ?_
    refine Wa_callV [] _ cf_X2 rfl hm.1 lc_X2_114 cv_X2_slideGap rfl rfl (Nat.le_refl _) (Nat.le_of_ble_eq_true rfl) dX2_slideGaps_104 h ?_
    intro r M6 h
    obtain ⟨rfl, h⟩ := h
    refine Wa_aload_n 0 dX2_slideGaps_107 rfl rfl ?_
    refine Wa_callV [] _ cf_X2 rfl hm.1 lc_X2_111 cv_X2_widenGap rfl rfl (Nat.le_refl _) (Nat.le_of_ble_eq_true rfl) dX2_slideGaps_108 h ?_
    intro r M9 h
    obtain ⟨rfl, h⟩ := h
    refine Wa_iinc (ls' := [(1, vI (l1 + 1)), (0, vR o), (2, vI l2)]) 1 dX2_slideGaps_111 rfl (by decide) rfl ?_
    refine Wa_goto (tgt := 36) dX2_slideGaps_114 (by decide) ?_
    refine Wa_sub [1, 0] rfl ?_
    exact h
  · have h := h.2 c2
    refine Wa_aload_n 0 dX2_slideGaps_67 rfl rfl ?_
    refine Wa_getR cf_X2 lk_X2_40 hm.1 (j := 6) rfl (by decide) dX2_slideGaps_68 ?_
    refine Wa_iload_n 2 dX2_slideGaps_71 rfl rfl ?_
    refine Wa_aload_n 0 dX2_slideGaps_72 rfl rfl ?_
    refine Wa_getR cf_X2 lk_X2_37 hm.1 (j := 5) rfl (by decide) dX2_slideGaps_73 ?_
    refine Wa_iload_n 2 dX2_slideGaps_76 rfl rfl ?_
    obtain ⟨b12, h⟩ := h
    refine Wa_iald2 (v := (M (o + 22) (l2).toNat)) hm.2.2.2.2.2.2.2.1 b12 rfl dX2_slideGaps_77 (fun r13 => ?_)
    refine Wa_iconst (z := 1) dX2_slideGaps_78 ?_
    refine Wa_isub dX2_slideGaps_79 ?_
    obtain ⟨q14, h⟩ := h
    refine Wa_iast hm.2.2.2.2.2.2.2.2 b12 q14 dX2_slideGaps_80 ?_
    refine Wa_aload_n 0 dX2_slideGaps_81 rfl rfl ?_
    refine Wa_getR cf_X2 lk_X2_37 hm.1 (j := 5) rfl (by decide) dX2_slideGaps_82 ?_
    refine Wa_iload_n 2 dX2_slideGaps_85 rfl rfl ?_
    refine Wa_aload_n 0 dX2_slideGaps_86 rfl rfl ?_
    refine Wa_getR cf_X2 lk_X2_40 hm.1 (j := 6) rfl (by decide) dX2_slideGaps_87 ?_
    refine Wa_iload_n 2 dX2_slideGaps_90 rfl rfl ?_
    refine Wa_iald2 (v := ((M (o + 22) (l2).toNat) - 1)) hm.2.2.2.2.2.2.2.2 b12 mU_at dX2_slideGaps_91 (fun r15 => ?_)
    refine Wa_iast hm.2.2.2.2.2.2.2.1 b12 r15 dX2_slideGaps_92 ?_
    refine Wa_iinc (ls' := [(2, vI (l2 + 1)), (0, vR o), (1, vI l1)]) 2 dX2_slideGaps_93 rfl (by decide) rfl ?_
    refine Wa_goto (tgt := 62) dX2_slideGaps_96 (by decide) ?_
    refine Wa_sub [1, 2, 0] rfl ?_
    exact h
theorem en_X2_slideGaps {g : AG} {d : Nat} {o : Nat} {M : AM} {Q : AM → Prop} (h : S_X2_slideGaps_0 g d o M Q) : MetV g mX2_slideGaps d [vR o] M Q := MetA.of (by decide) (Nat.le_of_ble_eq_true rfl) h
def S_X2_widenGap_0 (g : AG) (d : Nat) (o : Nat) (M : AM) (Q : AM → Prop) : Prop := Wa g mX2_widenGap d 0 [(0, vR o)] [] M (QV Q)
def S_X2_widenGap_2 (g : AG) (d : Nat) (o : Nat) (l1 : Int) (M : AM) (Q : AM → Prop) : Prop := Wa g mX2_widenGap d 2 [(0, vR o), (1, vI l1)] [] M (QV Q)
def S_X2_widenGap_7 (g : AG) (d : Nat) (o : Nat) (l1 : Int) (M : AM) (Q : AM → Prop) : Prop := Wa g mX2_widenGap d 7 [(0, vR o), (1, vI l1)] [] M (QV Q)
set_option maxRecDepth 100000 in
theorem sg_X2_widenGap_0 {g : AG} {d : Nat} {o : Nat} {M : AM} {Q : AM → Prop} (hm : IsMatch o)
  (h : S_X2_widenGap_2 g (d + 1) o 0 M Q) : S_X2_widenGap_0 g (d + 1) o M Q := by
  show Wa _ _ _ _ _ _ _ _
  refine Wa_iconst (z := 0) dX2_widenGap_0 ?_
  refine Wa_istore_n (ls' := [(1, vI 0), (0, vR o)]) dX2_widenGap_1 rfl (by decide) rfl ?_
  refine Wa_sub [1, 0] rfl ?_
  exact h
set_option maxRecDepth 100000 in
theorem sg_X2_widenGap_2 {g : AG} {d : Nat} {o : Nat} {l1 : Int} {M : AM} {Q : AM → Prop} (hm : IsMatch o)
  (h : rg l1 ∧ ((2 ≤ l1 → (Q M)) ∧ (¬ 2 ≤ l1 → (S_X2_widenGap_7 g (d + 1) o l1 M Q)))) : S_X2_widenGap_2 g (d + 1) o l1 M Q := by
  show Wa _ _ _ _ _ _ _ _
  refine Wa_iload_n 1 dX2_widenGap_2 rfl rfl ?_
  refine Wa_iconst (z := 2) dX2_widenGap_3 ?_
  obtain ⟨q1, h⟩ := h
  refine Wa_icmp_ge (tgt := 54) dX2_widenGap_4 (by decide) q1 ⟨by decide, by decide⟩ (fun c2 => ?_) (fun c2 => ?_)
  · have h := h.1 c2
    exact Wa_return dX2_widenGap_54 rfl ⟨rfl, h⟩
  · have h := h.2 c2
    refine Wa_sub [0, 1] rfl ?_
    exact h
set_option maxRecDepth 100000 in
theorem sg_X2_widenGap_7 {g : AG} {d : Nat} {o : Nat} {l1 : Int} {M : AM} {Q : AM → Prop} (hm : IsMatch o)
  (h : (0 ≤ l1 ∧ l1 < 2) ∧ (((M (o + 22) (l1).toNat) ≤ 0 → (S_X2_widenGap_2 g (d + 1) o (l1 + 1) M Q)) ∧ (¬ (M (o + 22) (l1).toNat) ≤ 0 → ((0 ≤ ((M (o + 22) (l1).toNat) - 1) ∧ ((M (o + 22) (l1).toNat) - 1) < 8) ∧ ((¬ (M (o + 7 + (l1).toNat) (((M (o + 22) (l1).toNat) - 1)).toNat) = (-1) → (S_X2_widenGap_2 g (d + 1) o (l1 + 1) M Q)) ∧ ((M (o + 7 + (l1).toNat) (((M (o + 22) (l1).toNat) - 1)).toNat) = (-1) → (rg ((M (o + 22) (l1).toNat) - 1) ∧ (S_X2_widenGap_7 g (d + 1) o l1 (mU M (o + 22) (l1).toNat ((M (o + 22) (l1).toNat) - 1)) Q)))))))) : S_X2_widenGap_7 g (d + 1) o l1 M Q := by
  show Wa _ _ _ _ _ _ _ _
  refine Wa_aload_n 0 dX2_widenGap_7 rfl rfl ?_
  refine Wa_getR cf_X2 lk_X2_37 hm.1 (j := 5) rfl (by decide) dX2_widenGap_8 ?_
  refine Wa_iload_n 1 dX2_widenGap_11 rfl rfl ?_
  obtain ⟨b1, h⟩ := h
  refine Wa_iald2 (v := (M (o + 22) (l1).toNat)) hm.2.2.2.2.2.2.2.1 b1 rfl dX2_widenGap_12 (fun r2 => ?_)
  refine Wa_if_le (tgt := 48) dX2_widenGap_13 (by decide) r2 (fun c3 => ?_) (fun c3 => ?_)
  · have h := h.1 c3
    refine Wa_iinc (ls' := [(1, vI (l1 + 1)), (0, vR o)]) 1 dX2_widenGap_48 rfl (by decide) rfl ?_
    refine Wa_goto (tgt := 2) dX2_widenGap_51 (by decide) ?_
    refine Wa_sub [1, 0] rfl ?_
    exact h
  · have h := h.2 c3
    refine Wa_aload_n 0 dX2_widenGap_16 rfl rfl ?_
    refine Wa_getR cf_X2 lk_X2_20 hm.1 (j := 1) rfl (by decide) dX2_widenGap_17 ?_
    refine Wa_iload_n 1 dX2_widenGap_20 rfl rfl ?_
    refine Wa_aald hm.2.2.1 b1 dX2_widenGap_21 ?_
    refine Wa_aload_n 0 dX2_widenGap_22 rfl rfl ?_
    refine Wa_getR cf_X2 lk_X2_37 hm.1 (j := 5) rfl (by decide) dX2_widenGap_23 ?_
    refine Wa_iload_n 1 dX2_widenGap_26 rfl rfl ?_
    refine Wa_iald2 (v := (M (o + 22) (l1).toNat)) hm.2.2.2.2.2.2.2.1 b1 rfl dX2_widenGap_27 (fun r4 => ?_)
    refine Wa_iconst (z := 1) dX2_widenGap_28 ?_
    refine Wa_isub dX2_widenGap_29 ?_
    obtain ⟨b5, h⟩ := h
    refine Wa_iald2 (v := (M (o + 7 + (l1).toNat) (((M (o + 22) (l1).toNat) - 1)).toNat)) (hm.2.2.2.1 _ (inb_nat b1)) b5 rfl dX2_widenGap_30 (fun r6 => ?_)
    refine Wa_iconst (z := (-1)) dX2_widenGap_31 ?_
    refine Wa_icmp_ne (tgt := 48) dX2_widenGap_32 (by decide) r6 ⟨by decide, by decide⟩ (fun c7 => ?_) (fun c7 => ?_)
    · have h := h.1 c7
      refine Wa_iinc (ls' := [(1, vI (l1 + 1)), (0, vR o)]) 1 dX2_widenGap_48 rfl (by decide) rfl ?_
      refine Wa_goto (tgt := 2) dX2_widenGap_51 (by decide) ?_
      refine Wa_sub [1, 0] rfl ?_
      exact h
    · have h := h.2 c7
      refine Wa_aload_n 0 dX2_widenGap_35 rfl rfl ?_
      refine Wa_getR cf_X2 lk_X2_37 hm.1 (j := 5) rfl (by decide) dX2_widenGap_36 ?_
      refine Wa_iload_n 1 dX2_widenGap_39 rfl rfl ?_
      refine Wa_dup2 dX2_widenGap_40 rfl rfl ?_
      refine Wa_iald2 (v := (M (o + 22) (l1).toNat)) hm.2.2.2.2.2.2.2.1 b1 rfl dX2_widenGap_41 (fun r8 => ?_)
      refine Wa_iconst (z := 1) dX2_widenGap_42 ?_
      refine Wa_isub dX2_widenGap_43 ?_
      obtain ⟨q9, h⟩ := h
      refine Wa_iast hm.2.2.2.2.2.2.2.1 b1 q9 dX2_widenGap_44 ?_
      refine Wa_goto (tgt := 7) dX2_widenGap_45 (by decide) ?_
      refine Wa_sub [0, 1] rfl ?_
      exact h
theorem en_X2_widenGap {g : AG} {d : Nat} {o : Nat} {M : AM} {Q : AM → Prop} (h : S_X2_widenGap_0 g d o M Q) : MetV g mX2_widenGap d [vR o] M Q := MetA.of (by decide) (Nat.le_of_ble_eq_true rfl) h
def S_X2_slideGap_0 (g : AG) (d : Nat) (o : Nat) (M : AM) (Q : AM → Prop) : Prop := Wa g mX2_slideGap d 0 [(0, vR o)] [] M (QV Q)
def S_X2_slideGap_61 (g : AG) (d : Nat) (o : Nat) (l3 : Int) (l4 : Int) (M : AM) (Q : AM → Prop) : Prop := Wa g mX2_slideGap d 61 [(0, vR o), (3, vI l3), (4, vI l4)] [] M (QV Q)
set_option maxRecDepth 100000 in
theorem sg_X2_slideGap_0 {g : AG} {d : Nat} {o : Nat} {M : AM} {Q : AM → Prop} (hm : IsMatch o)
  (h : ((M (o + 23) 0) ≤ (M (o + 22) 0) → (((M (o + 23) 1) ≤ (M (o + 22) 1) → (Q M)) ∧ (¬ (M (o + 23) 1) ≤ (M (o + 22) 1) → (S_X2_slideGap_61 g (d + 1) o 1 0 M Q)))) ∧ (¬ (M (o + 23) 0) ≤ (M (o + 22) 0) → (((M (o + 23) 1) ≤ (M (o + 22) 1) → (S_X2_slideGap_61 g (d + 1) o 0 0 M Q)) ∧ (¬ (M (o + 23) 1) ≤ (M (o + 22) 1) → (Q M))))) : S_X2_slideGap_0 g (d + 1) o M Q := by
  show Wa _ _ _ _ _ _ _ _
  refine Wa_aload_n 0 dX2_slideGap_0 rfl rfl ?_
  refine Wa_getR cf_X2 lk_X2_37 hm.1 (j := 5) rfl (by decide) dX2_slideGap_1 ?_
  refine Wa_iconst (z := 0) dX2_slideGap_4 ?_
  refine Wa_iald2 (v := (M (o + 22) 0)) hm.2.2.2.2.2.2.2.1 ⟨by decide, by decide⟩ rfl dX2_slideGap_5 (fun r1 => ?_)
  refine Wa_aload_n 0 dX2_slideGap_6 rfl rfl ?_
  refine Wa_getR cf_X2 lk_X2_40 hm.1 (j := 6) rfl (by decide) dX2_slideGap_7 ?_
  refine Wa_iconst (z := 0) dX2_slideGap_10 ?_
  refine Wa_iald2 (v := (M (o + 23) 0)) hm.2.2.2.2.2.2.2.2 ⟨by decide, by decide⟩ rfl dX2_slideGap_11 (fun r2 => ?_)
  refine Wa_icmp_ge (tgt := 19) dX2_slideGap_12 (by decide) r1 r2 (fun c3 => ?_) (fun c3 => ?_)
  · have h := h.1 c3
    refine Wa_iconst (z := 0) dX2_slideGap_19 ?_
    refine Wa_istore_n (ls' := [(1, vI 0), (0, vR o)]) dX2_slideGap_20 rfl (by decide) rfl ?_
    refine Wa_aload_n 1 dX2_slideGap_21 rfl rfl ?_
    refine Wa_getR cf_X2 lk_X2_37 hm.1 (j := 5) rfl (by decide) dX2_slideGap_22 ?_
    refine Wa_iconst (z := 1) dX2_slideGap_25 ?_
    refine Wa_iald2 (v := (M (o + 22) 1)) hm.2.2.2.2.2.2.2.1 ⟨by decide, by decide⟩ rfl dX2_slideGap_26 (fun r4 => ?_)
    refine Wa_aload_n 1 dX2_slideGap_27 rfl rfl ?_
    refine Wa_getR cf_X2 lk_X2_40 hm.1 (j := 6) rfl (by decide) dX2_slideGap_28 ?_
    refine Wa_iconst (z := 1) dX2_slideGap_31 ?_
    refine Wa_iald2 (v := (M (o + 23) 1)) hm.2.2.2.2.2.2.2.2 ⟨by decide, by decide⟩ rfl dX2_slideGap_32 (fun r5 => ?_)
    refine Wa_icmp_ge (tgt := 40) dX2_slideGap_33 (by decide) r4 r5 (fun c6 => ?_) (fun c6 => ?_)
    · have h := h.1 c6
      refine Wa_iconst (z := 0) dX2_slideGap_40 ?_
      refine Wa_istore_n (ls' := [(2, vI 0), (1, vI 0), (0, vR o)]) dX2_slideGap_41 rfl (by decide) rfl ?_
      refine Wa_iload_n 1 dX2_slideGap_42 rfl rfl ?_
      refine Wa_iload_n 0 dX2_slideGap_43 rfl rfl ?_
      refine Wa_icmp_ne (tgt := 48) dX2_slideGap_44 (by decide) ⟨by decide, by decide⟩ ⟨by decide, by decide⟩ (fun c7 => ?_) (fun c7 => ?_)
      · exact absurd c7 (by decide)
      · exact Wa_return dX2_slideGap_47 rfl ⟨rfl, h⟩
    · have h := h.2 c6
      refine Wa_iconst (z := 1) dX2_slideGap_36 ?_
      refine Wa_goto (tgt := 41) dX2_slideGap_37 (by decide) ?_
      refine Wa_istore_n (ls' := [(2, vI 1), (1, vI 0), (0, vR o)]) dX2_slideGap_41 rfl (by decide) rfl ?_
      refine Wa_iload_n 1 dX2_slideGap_42 rfl rfl ?_
      refine Wa_iload_n 0 dX2_slideGap_43 rfl rfl ?_
      refine Wa_icmp_ne (tgt := 48) dX2_slideGap_44 (by decide) ⟨by decide, by decide⟩ ⟨by decide, by decide⟩ (fun c8 => ?_) (fun c8 => ?_)
      · refine Wa_iload_n 1 dX2_slideGap_48 rfl rfl ?_
        refine Wa_if_eq (tgt := 56) dX2_slideGap_49 (by decide) ⟨by decide, by decide⟩ (fun c9 => ?_) (fun c9 => ?_)
        · refine Wa_iconst (z := 1) dX2_slideGap_56 ?_
          refine Wa_istore_n (ls' := [(3, vI 1), (2, vI 1), (1, vI 0), (0, vR o)]) dX2_slideGap_57 rfl (by decide) rfl ?_
          refine Wa_iconst (z := 0) dX2_slideGap_58 ?_
          refine Wa_istore (ls' := [(4, vI 0), (3, vI 1), (2, vI 1), (1, vI 0), (0, vR o)]) dX2_slideGap_59 (by decide) rfl ?_
          refine Wa_sub [4, 1, 0] rfl ?_
          exact h
        · exact absurd c9 (by decide)
      · exact absurd c8 (by decide)
  · have h := h.2 c3
    refine Wa_iconst (z := 1) dX2_slideGap_15 ?_
    refine Wa_goto (tgt := 20) dX2_slideGap_16 (by decide) ?_
    refine Wa_istore_n (ls' := [(1, vI 1), (0, vR o)]) dX2_slideGap_20 rfl (by decide) rfl ?_
    refine Wa_aload_n 1 dX2_slideGap_21 rfl rfl ?_
    refine Wa_getR cf_X2 lk_X2_37 hm.1 (j := 5) rfl (by decide) dX2_slideGap_22 ?_
    refine Wa_iconst (z := 1) dX2_slideGap_25 ?_
    refine Wa_iald2 (v := (M (o + 22) 1)) hm.2.2.2.2.2.2.2.1 ⟨by decide, by decide⟩ rfl dX2_slideGap_26 (fun r10 => ?_)
    refine Wa_aload_n 1 dX2_slideGap_27 rfl rfl ?_
    refine Wa_getR cf_X2 lk_X2_40 hm.1 (j := 6) rfl (by decide) dX2_slideGap_28 ?_
    refine Wa_iconst (z := 1) dX2_slideGap_31 ?_
    refine Wa_iald2 (v := (M (o + 23) 1)) hm.2.2.2.2.2.2.2.2 ⟨by decide, by decide⟩ rfl dX2_slideGap_32 (fun r11 => ?_)
    refine Wa_icmp_ge (tgt := 40) dX2_slideGap_33 (by decide) r10 r11 (fun c12 => ?_) (fun c12 => ?_)
    · have h := h.1 c12
      refine Wa_iconst (z := 0) dX2_slideGap_40 ?_
      refine Wa_istore_n (ls' := [(2, vI 0), (1, vI 1), (0, vR o)]) dX2_slideGap_41 rfl (by decide) rfl ?_
      refine Wa_iload_n 1 dX2_slideGap_42 rfl rfl ?_
      refine Wa_iload_n 0 dX2_slideGap_43 rfl rfl ?_
      refine Wa_icmp_ne (tgt := 48) dX2_slideGap_44 (by decide) ⟨by decide, by decide⟩ ⟨by decide, by decide⟩ (fun c13 => ?_) (fun c13 => ?_)
      · refine Wa_iload_n 1 dX2_slideGap_48 rfl rfl ?_
        refine Wa_if_eq (tgt := 56) dX2_slideGap_49 (by decide) ⟨by decide, by decide⟩ (fun c14 => ?_) (fun c14 => ?_)
        · exact absurd c14 (by decide)
        · refine Wa_iconst (z := 0) dX2_slideGap_52 ?_
          refine Wa_goto (tgt := 57) dX2_slideGap_53 (by decide) ?_
          refine Wa_istore_n (ls' := [(3, vI 0), (2, vI 0), (1, vI 1), (0, vR o)]) dX2_slideGap_57 rfl (by decide) rfl ?_
          refine Wa_iconst (z := 0) dX2_slideGap_58 ?_
          refine Wa_istore (ls' := [(4, vI 0), (3, vI 0), (2, vI 0), (1, vI 1), (0, vR o)]) dX2_slideGap_59 (by decide) rfl ?_
          refine Wa_sub [4, 1, 0] rfl ?_
          exact h
      · exact absurd c13 (by decide)
    · have h := h.2 c12
      refine Wa_iconst (z := 1) dX2_slideGap_36 ?_
      refine Wa_goto (tgt := 41) dX2_slideGap_37 (by decide) ?_
      refine Wa_istore_n (ls' := [(2, vI 1), (1, vI 1), (0, vR o)]) dX2_slideGap_41 rfl (by decide) rfl ?_
      refine Wa_iload_n 1 dX2_slideGap_42 rfl rfl ?_
      refine Wa_iload_n 0 dX2_slideGap_43 rfl rfl ?_
      refine Wa_icmp_ne (tgt := 48) dX2_slideGap_44 (by decide) ⟨by decide, by decide⟩ ⟨by decide, by decide⟩ (fun c15 => ?_) (fun c15 => ?_)
      · exact absurd c15 (by decide)
      · exact Wa_return dX2_slideGap_47 rfl ⟨rfl, h⟩
set_option maxRecDepth 100000 in
theorem sg_X2_slideGap_61 {g : AG} {d : Nat} {o : Nat} {l3 : Int} {l4 : Int} {M : AM} {Q : AM → Prop} (hm : IsMatch o)
  (h : rg l4 ∧ ((8 ≤ l4 → (Q M)) ∧ (¬ 8 ≤ l4 → (rg l3 ∧ (MetI g mX2_maySlide d [vR o, vI l3] M (fun z5 M4 => rg z5 → ((z5 = 0 → (Q M4)) ∧ (¬ z5 = 0 → (MetV g mX2_slideOnce d [vR o, vI l3] M4 (fun M8 => S_X2_slideGap_61 g (d + 1) o l3 (l4 + 1) M8 Q)))))))))) : S_X2_slideGap_61 g (d + 1) o l3 l4 M Q := by
  show Wa _ _ _ _ _ _ _ _
  refine Wa_iload 2 dX2_slideGap_61 rfl ?_
  refine Wa_bipush (z := 8) dX2_slideGap_63 (by decide) ?_
  obtain ⟨q1, h⟩ := h
  refine Wa_icmp_ge (tgt := 87) dX2_slideGap_65 (by decide) q1 ⟨by decide, by decide⟩ (fun c2 => ?_) (fun c2 => ?_)
  · have h := h.1 c2
    exact Wa_return dX2_slideGap_87 rfl ⟨rfl, h⟩
  · have h := h.2 c2
    refine Wa_aload_n 0 dX2_slideGap_68 rfl rfl ?_
    refine Wa_iload_n 1 dX2_slideGap_69 rfl rfl ?_
    obtain ⟨q3, h⟩ := h
    refine Wa_callV [vI l3] _ cf_X2 rfl hm.1 lc_X2_117 cv_X2_maySlide rfl rfl (Nat.le_refl _) (Nat.le_of_ble_eq_true rfl) dX2_slideGap_70 h ?_
    intro r M4 h
    obtain ⟨z5, rfl, r6, h⟩ := h
    have h := h r6
    refine Wa_if_eq (tgt := 87) dX2_slideGap_73 (by decide) r6 (fun c7 => ?_) (fun c7 => ?_)
    · have h := h.1 c7
      exact Wa_return dX2_slideGap_87 rfl ⟨rfl, h⟩
    · have h := h.2 c7
      refine Wa_aload_n 0 dX2_slideGap_76 rfl rfl ?_
      refine Wa_iload_n 1 dX2_slideGap_77 rfl rfl ?_
      refine Wa_callV [vI l3] _ cf_X2 rfl hm.1 lc_X2_121 cv_X2_slideOnce rfl rfl (Nat.le_refl _) (Nat.le_of_ble_eq_true rfl) dX2_slideGap_78 h ?_
      intro r M8 h
      obtain ⟨rfl, h⟩ := h
      refine Wa_iinc (ls' := [(4, vI (l4 + 1)), (0, vR o), (3, vI l3)]) 2 dX2_slideGap_81 rfl (by decide) rfl ?_
      refine Wa_goto (tgt := 61) dX2_slideGap_84 (by decide) ?_
      refine Wa_sub [1, 2, 0] rfl ?_
      exact h
theorem en_X2_slideGap {g : AG} {d : Nat} {o : Nat} {M : AM} {Q : AM → Prop} (h : S_X2_slideGap_0 g d o M Q) : MetV g mX2_slideGap d [vR o] M Q := MetA.of (by decide) (Nat.le_of_ble_eq_true rfl) h
def S_X2_maySlide_0 (g : AG) (d : Nat) (o : Nat) (l1 : Int) (M : AM) (Q : Int → AM → Prop) : Prop := Wa g mX2_maySlide d 0 [(0, vR o), (1, vI l1)] [] M (QI Q)
set_option maxRecDepth 100000 in
theorem sg_X2_maySlide_0 {g : AG} {d : Nat} {o : Nat} {l1 : Int} {M : AM} {Q : Int → AM → Prop} (hm : IsMatch o)
  (h : ((M (o + 22) 0) < 1 → (Q 0 M)) ∧ (¬ (M (o + 22) 0) < 1 → ((1 ≤ (M (o + 22) 1) → ((0 ≤ ((M (o + 22) 0) - 1) ∧ ((M (o + 22) 0) - 1) < 8) ∧ (((M (o + 7) (((M (o + 22) 0) - 1)).toNat) = (-1) → (Q 0 M)) ∧ (¬ (M (o + 7) (((M (o + 22) 0) - 1)).toNat) = (-1) → ((0 ≤ ((M (o + 22) 1) - 1) ∧ ((M (o + 22) 1) - 1) < 8) ∧ ((¬ (M (o + 8) (((M (o + 22) 1) - 1)).toNat) = (-1) → ((0 ≤ l1 ∧ l1 < 2) ∧ ((0 ≤ ((M (o + 22) (l1).toNat) - 1) ∧ ((M (o + 22) (l1).toNat) - 1) < 8) ∧ ((0 ≤ ((M (o + 23) (l1).toNat) - 1) ∧ ((M (o + 23) (l1).toNat) - 1) < 8) ∧ ((¬ (M (o + 3 + (l1).toNat) (((M (o + 22) (l1).toNat) - 1)).toNat) = (M (o + 3 + (l1).toNat) (((M (o + 23) (l1).toNat) - 1)).toNat) → (Q 0 M)) ∧ ((M (o + 3 + (l1).toNat) (((M (o + 22) (l1).toNat) - 1)).toNat) = (M (o + 3 + (l1).toNat) (((M (o + 23) (l1).toNat) - 1)).toNat) → (Q 1 M))))))) ∧ ((M (o + 8) (((M (o + 22) 1) - 1)).toNat) = (-1) → (Q 0 M)))))))) ∧ (¬ 1 ≤ (M (o + 22) 1) → (Q 0 M))))) : S_X2_maySlide_0 g (d + 1) o l1 M Q := by
  show Wa _ _ _ _ _ _ _ _
  refine Wa_aload_n 0 dX2_maySlide_0 rfl rfl ?_
  refine Wa_getR cf_X2 lk_X2_37 hm.1 (j := 5) rfl (by decide) dX2_maySlide_1 ?_
  refine Wa_iconst (z := 0) dX2_maySlide_4 ?_
  refine Wa_iald2 (v := (M (o + 22) 0)) hm.2.2.2.2.2.2.2.1 ⟨by decide, by decide⟩ rfl dX2_maySlide_5 (fun r1 => ?_)
  refine Wa_iconst (z := 1) dX2_maySlide_6 ?_
  refine Wa_icmp_lt (tgt := 20) dX2_maySlide_7 (by decide) r1 ⟨by decide, by decide⟩ (fun c2 => ?_) (fun c2 => ?_)
  · have h := h.1 c2
    refine Wa_iconst (z := 0) dX2_maySlide_20 ?_
    exact Wa_zreturn dX2_maySlide_21 rfl (by decide) ⟨_, rfl, rg_bool (by decide), h⟩
  · have h := h.2 c2
    refine Wa_aload_n 0 dX2_maySlide_10 rfl rfl ?_
    refine Wa_getR cf_X2 lk_X2_37 hm.1 (j := 5) rfl (by decide) dX2_maySlide_11 ?_
    refine Wa_iconst (z := 1) dX2_maySlide_14 ?_
    refine Wa_iald2 (v := (M (o + 22) 1)) hm.2.2.2.2.2.2.2.1 ⟨by decide, by decide⟩ rfl dX2_maySlide_15 (fun r3 => ?_)
    refine Wa_iconst (z := 1) dX2_maySlide_16 ?_
    refine Wa_icmp_ge (tgt := 22) dX2_maySlide_17 (by decide) r3 ⟨by decide, by decide⟩ (fun c4 => ?_) (fun c4 => ?_)
    · have h := h.1 c4
      refine Wa_aload_n 0 dX2_maySlide_22 rfl rfl ?_
      refine Wa_getR cf_X2 lk_X2_20 hm.1 (j := 1) rfl (by decide) dX2_maySlide_23 ?_
      refine Wa_iconst (z := 0) dX2_maySlide_26 ?_
      refine Wa_aald hm.2.2.1 ⟨by decide, by decide⟩ dX2_maySlide_27 ?_
      refine Wa_aload_n 0 dX2_maySlide_28 rfl rfl ?_
      refine Wa_getR cf_X2 lk_X2_37 hm.1 (j := 5) rfl (by decide) dX2_maySlide_29 ?_
      refine Wa_iconst (z := 0) dX2_maySlide_32 ?_
      refine Wa_iald2 (v := (M (o + 22) 0)) hm.2.2.2.2.2.2.2.1 ⟨by decide, by decide⟩ rfl dX2_maySlide_33 (fun r5 => ?_)
      refine Wa_iconst (z := 1) dX2_maySlide_34 ?_
      refine Wa_isub dX2_maySlide_35 ?_
      obtain ⟨b6, h⟩ := h
      refine Wa_iald2 (v := (M (o + 7) (((M (o + 22) 0) - 1)).toNat)) (hm.2.2.2.1 0 (by decide)) b6 rfl dX2_maySlide_36 (fun r7 => ?_)
      refine Wa_iconst (z := (-1)) dX2_maySlide_37 ?_
      refine Wa_icmp_eq (tgt := 60) dX2_maySlide_38 (by decide) r7 ⟨by decide, by decide⟩ (fun c8 => ?_) (fun c8 => ?_)
      · have h := h.1 c8
        refine Wa_iconst (z := 0) dX2_maySlide_60 ?_
        exact Wa_zreturn dX2_maySlide_61 rfl (by decide) ⟨_, rfl, rg_bool (by decide), h⟩
      · have h := h.2 c8
        refine Wa_aload_n 0 dX2_maySlide_41 rfl rfl ?_
        refine Wa_getR cf_X2 lk_X2_20 hm.1 (j := 1) rfl (by decide) dX2_maySlide_42 ?_
        refine Wa_iconst (z := 1) dX2_maySlide_45 ?_
        refine Wa_aald hm.2.2.1 ⟨by decide, by decide⟩ dX2_maySlide_46 ?_
        refine Wa_aload_n 0 dX2_maySlide_47 rfl rfl ?_
        refine Wa_getR cf_X2 lk_X2_37 hm.1 (j := 5) rfl (by decide) dX2_maySlide_48 ?_
        refine Wa_iconst (z := 1) dX2_maySlide_51 ?_
        refine Wa_iald2 (v := (M (o + 22) 1)) hm.2.2.2.2.2.2.2.1 ⟨by decide, by decide⟩ rfl dX2_maySlide_52 (fun r9 => ?_)
        refine Wa_iconst (z := 1) dX2_maySlide_53 ?_
        refine Wa_isub dX2_maySlide_54 ?_
        obtain ⟨b10, h⟩ := h
        refine Wa_iald2 (v := (M (o + 8) (((M (o + 22) 1) - 1)).toNat)) (hm.2.2.2.1 1 (by decide)) b10 rfl dX2_maySlide_55 (fun r11 => ?_)
        refine Wa_iconst (z := (-1)) dX2_maySlide_56 ?_
        refine Wa_icmp_ne (tgt := 62) dX2_maySlide_57 (by decide) r11 ⟨by decide, by decide⟩ (fun c12 => ?_) (fun c12 => ?_)
        · have h := h.1 c12
          refine Wa_aload_n 0 dX2_maySlide_62 rfl rfl ?_
          refine Wa_getR cf_X2 lk_X2_12 hm.1 (j := 0) rfl (by decide) dX2_maySlide_63 ?_
          refine Wa_getR cf_X7 lk_X2_67 hm.2.1.1 (j := 0) rfl (by decide) dX2_maySlide_66 ?_
          refine Wa_iload_n 1 dX2_maySlide_69 rfl rfl ?_
          obtain ⟨b13, h⟩ := h
          refine Wa_aald hm.2.1.2.1 b13 dX2_maySlide_70 ?_
          refine Wa_astore_n (ls' := [(2, vR (o + 3 + (l1).toNat)), (0, vR o), (1, vI l1)]) dX2_maySlide_71 rfl (by decide) rfl ?_
          refine Wa_aload_n 0 dX2_maySlide_72 rfl rfl ?_
          refine Wa_aload_n 1 dX2_maySlide_73 rfl rfl ?_
          refine Wa_getR cf_X2 lk_X2_37 hm.1 (j := 5) rfl (by decide) dX2_maySlide_74 ?_
          refine Wa_iload_n 2 dX2_maySlide_77 rfl rfl ?_
          refine Wa_iald2 (v := (M (o + 22) (l1).toNat)) hm.2.2.2.2.2.2.2.1 b13 rfl dX2_maySlide_78 (fun r14 => ?_)
          refine Wa_iconst (z := 1) dX2_maySlide_79 ?_
          refine Wa_isub dX2_maySlide_80 ?_
          obtain ⟨b15, h⟩ := h
          refine Wa_iald2 (v := (M (o + 3 + (l1).toNat) (((M (o + 22) (l1).toNat) - 1)).toNat)) (hm.2.1.2.2.1 _ (inb_nat b13)) b15 rfl dX2_maySlide_81 (fun r16 => ?_)
          refine Wa_aload_n 0 dX2_maySlide_82 rfl rfl ?_
          refine Wa_aload_n 1 dX2_maySlide_83 rfl rfl ?_
          refine Wa_getR cf_X2 lk_X2_40 hm.1 (j := 6) rfl (by decide) dX2_maySlide_84 ?_
          refine Wa_iload_n 2 dX2_maySlide_87 rfl rfl ?_
          refine Wa_iald2 (v := (M (o + 23) (l1).toNat)) hm.2.2.2.2.2.2.2.2 b13 rfl dX2_maySlide_88 (fun r17 => ?_)
          refine Wa_iconst (z := 1) dX2_maySlide_89 ?_
          refine Wa_isub dX2_maySlide_90 ?_
          obtain ⟨b18, h⟩ := h
          refine Wa_iald2 (v := (M (o + 3 + (l1).toNat) (((M (o + 23) (l1).toNat) - 1)).toNat)) (hm.2.1.2.2.1 _ (inb_nat b13)) b18 rfl dX2_maySlide_91 (fun r19 => ?_)
          refine Wa_icmp_ne (tgt := 99) dX2_maySlide_92 (by decide) r16 r19 (fun c20 => ?_) (fun c20 => ?_)
          · have h := h.1 c20
            refine Wa_iconst (z := 0) dX2_maySlide_99 ?_
            exact Wa_zreturn dX2_maySlide_100 rfl (by decide) ⟨_, rfl, rg_bool (by decide), h⟩
          · have h := h.2 c20
            refine Wa_iconst (z := 1) dX2_maySlide_95 ?_
            refine Wa_goto (tgt := 100) dX2_maySlide_96 (by decide) ?_
            exact Wa_zreturn dX2_maySlide_100 rfl (by decide) ⟨_, rfl, rg_bool (by decide), h⟩
        · have h := h.2 c12
          refine Wa_iconst (z := 0) dX2_maySlide_60 ?_
          exact Wa_zreturn dX2_maySlide_61 rfl (by decide) ⟨_, rfl, rg_bool (by decide), h⟩
    · have h := h.2 c4
      refine Wa_iconst (z := 0) dX2_maySlide_20 ?_
      exact Wa_zreturn dX2_maySlide_21 rfl (by decide) ⟨_, rfl, rg_bool (by decide), h⟩
theorem en_X2_maySlide {g : AG} {d : Nat} {o : Nat} {l1 : Int} {M : AM} {Q : Int → AM → Prop} (h : S_X2_maySlide_0 g d o l1 M Q) : MetI g mX2_maySlide d [vR o, vI l1] M Q := MetA.of (by decide) (Nat.le_of_ble_eq_true rfl) h
def S_X2_slideOnce_0 (g : AG) (d : Nat) (o : Nat) (l1 : Int) (M : AM) (Q : AM → Prop) : Prop := Wa g mX2_slideOnce d 0 [(0, vR o), (1, vI l1)] [] M (QV Q)
def S_X2_slideOnce_2 (g : AG) (d : Nat) (o : Nat) (l1 : Int) (l2 : Int) (M : AM) (Q : AM → Prop) : Prop := Wa g mX2_slideOnce d 2 [(0, vR o), (1, vI l1), (2, vI l2)] [] M (QV Q)
set_option maxRecDepth 100000 in
theorem sg_X2_slideOnce_0 {g : AG} {d : Nat} {o : Nat} {l1 : Int} {M : AM} {Q : AM → Prop} (hm : IsMatch o)
  (h : S_X2_slideOnce_2 g (d + 1) o l1 0 M Q) : S_X2_slideOnce_0 g (d + 1) o l1 M Q := by
  show Wa _ _ _ _ _ _ _ _
  refine Wa_iconst (z := 0) dX2_slideOnce_0 ?_
  refine Wa_istore_n (ls' := [(2, vI 0), (0, vR o), (1, vI l1)]) dX2_slideOnce_1 rfl (by decide) rfl ?_
  refine Wa_sub [1, 2, 0] rfl ?_
  exact h
set_option maxRecDepth 100000 in
theorem sg_X2_slideOnce_2 {g : AG} {d : Nat} {o : Nat} {l1 : Int} {l2 : Int} {M : AM} {Q : AM → Prop} (hm : IsMatch o)
  (h : rg l2 ∧ ((2 ≤ l2 → ((0 ≤ l1 ∧ l1 < 2) ∧ ((0 ≤ (M (o + 22) (l1).toNat) ∧ (M (o + 22) (l1).toNat) < 8) ∧ ((0 ≤ (1 - l1) ∧ (1 - l1) < 2) ∧ ((0 ≤ (M (o + 23) (l1).toNat) ∧ (M (o + 23) (l1).toNat) < 8) ∧ ((0 ≤ (M (o + 23) ((1 - l1)).toNat) ∧ (M (o + 23) ((1 - l1)).toNat) < 8) ∧ (rg ((M o 8) + 1) ∧ (Q (mU (mU (mU (mU M (o + 7 + (l1).toNat) ((M (o + 22) (l1).toNat)).toNat (-1)) (o + 7 + (l1).toNat) ((M (o + 23) (l1).toNat)).toNat (M (o + 23) ((1 - l1)).toNat)) (o + 7 + ((1 - l1)).toNat) ((M (o + 23) ((1 - l1)).toNat)).toNat (M (o + 23) (l1).toNat)) o 8 ((M o 8) + 1)))))))))) ∧ (¬ 2 ≤ l2 → ((0 ≤ l2 ∧ l2 < 2) ∧ (rg ((M (o + 22) (l2).toNat) - 1) ∧ (rg ((M (o + 23) (l2).toNat) - 1) ∧ (S_X2_slideOnce_2 g (d + 1) o l1 (l2 + 1) (mU (mU M (o + 22) (l2).toNat ((M (o + 22) (l2).toNat) - 1)) (o + 23) (l2).toNat ((M (o + 23) (l2).toNat) - 1)) Q))))))) : S_X2_slideOnce_2 g (d + 1) o l1 l2 M Q := by
  show Wa _ _ _ _ _ _ _ _
  refine Wa_iload_n 2 dX2_slideOnce_2 rfl rfl ?_
  refine Wa_iconst (z := 2) dX2_slideOnce_3 ?_
  obtain ⟨q1, h⟩ := h
  refine Wa_icmp_ge (tgt := 33) dX2_slideOnce_4 (by decide) q1 ⟨by decide, by decide⟩ (fun c2 => ?_) (fun c2 => ?_)
  · have h := h.1 c2
    refine Wa_iconst (z := 1) dX2_slideOnce_33 ?_
    refine Wa_iload_n 1 dX2_slideOnce_34 rfl rfl ?_
    refine Wa_isub dX2_slideOnce_35 ?_
    refine Wa_istore_n (ls' := [(2, vI (1 - l1)), (0, vR o), (1, vI l1)]) dX2_slideOnce_36 rfl (by decide) rfl ?_
    refine Wa_aload_n 1 dX2_slideOnce_37 rfl rfl ?_
    refine Wa_getR cf_X2 lk_X2_20 hm.1 (j := 1) rfl (by decide) dX2_slideOnce_38 ?_
    refine Wa_iload_n 2 dX2_slideOnce_41 rfl rfl ?_
    obtain ⟨b3, h⟩ := h
    refine Wa_aald hm.2.2.1 b3 dX2_slideOnce_42 ?_
    refine Wa_aload_n 1 dX2_slideOnce_43 rfl rfl ?_
    refine Wa_getR cf_X2 lk_X2_37 hm.1 (j := 5) rfl (by decide) dX2_slideOnce_44 ?_
    refine Wa_iload_n 2 dX2_slideOnce_47 rfl rfl ?_
    refine Wa_iald2 (v := (M (o + 22) (l1).toNat)) hm.2.2.2.2.2.2.2.1 b3 rfl dX2_slideOnce_48 (fun r4 => ?_)
    refine Wa_iconst (z := (-1)) dX2_slideOnce_49 ?_
    obtain ⟨b5, h⟩ := h
    refine Wa_iast (hm.2.2.2.1 _ (inb_nat b3)) b5 ⟨by decide, by decide⟩ dX2_slideOnce_50 ?_
    refine Wa_aload_n 1 dX2_slideOnce_51 rfl rfl ?_
    refine Wa_getR cf_X2 lk_X2_20 hm.1 (j := 1) rfl (by decide) dX2_slideOnce_52 ?_
    refine Wa_iload_n 2 dX2_slideOnce_55 rfl rfl ?_
    refine Wa_aald hm.2.2.1 b3 dX2_slideOnce_56 ?_
    refine Wa_aload_n 1 dX2_slideOnce_57 rfl rfl ?_
    refine Wa_getR cf_X2 lk_X2_40 hm.1 (j := 6) rfl (by decide) dX2_slideOnce_58 ?_
    refine Wa_iload_n 2 dX2_slideOnce_61 rfl rfl ?_
    refine Wa_iald2 (v := (M (o + 23) (l1).toNat)) hm.2.2.2.2.2.2.2.2 b3 (mU_rd (by omega)) dX2_slideOnce_62 (fun r6 => ?_)
    refine Wa_aload_n 1 dX2_slideOnce_63 rfl rfl ?_
    refine Wa_getR cf_X2 lk_X2_40 hm.1 (j := 6) rfl (by decide) dX2_slideOnce_64 ?_
    refine Wa_iload_n 0 dX2_slideOnce_67 rfl rfl ?_
    obtain ⟨b7, h⟩ := h
    refine Wa_iald2 (v := (M (o + 23) ((1 - l1)).toNat)) hm.2.2.2.2.2.2.2.2 b7 (mU_rd (by omega)) dX2_slideOnce_68 (fun r8 => ?_)
    obtain ⟨b9, h⟩ := h
    refine Wa_iast (hm.2.2.2.1 _ (inb_nat b3)) b9 r8 dX2_slideOnce_69 ?_
    refine Wa_aload_n 1 dX2_slideOnce_70 rfl rfl ?_
    refine Wa_getR cf_X2 lk_X2_20 hm.1 (j := 1) rfl (by decide) dX2_slideOnce_71 ?_
    refine Wa_iload_n 0 dX2_slideOnce_74 rfl rfl ?_
    refine Wa_aald hm.2.2.1 b7 dX2_slideOnce_75 ?_
    refine Wa_aload_n 1 dX2_slideOnce_76 rfl rfl ?_
    refine Wa_getR cf_X2 lk_X2_40 hm.1 (j := 6) rfl (by decide) dX2_slideOnce_77 ?_
    refine Wa_iload_n 0 dX2_slideOnce_80 rfl rfl ?_
    refine Wa_iald2 (v := (M (o + 23) ((1 - l1)).toNat)) hm.2.2.2.2.2.2.2.2 b7 ((mU_rd (by omega)).trans (mU_rd (by omega))) dX2_slideOnce_81 (fun r10 => ?_)
    refine Wa_aload_n 1 dX2_slideOnce_82 rfl rfl ?_
    refine Wa_getR cf_X2 lk_X2_40 hm.1 (j := 6) rfl (by decide) dX2_slideOnce_83 ?_
    refine Wa_iload_n 2 dX2_slideOnce_86 rfl rfl ?_
    refine Wa_iald2 (v := (M (o + 23) (l1).toNat)) hm.2.2.2.2.2.2.2.2 b3 ((mU_rd (by omega)).trans (mU_rd (by omega))) dX2_slideOnce_87 (fun r11 => ?_)
    obtain ⟨b12, h⟩ := h
    refine Wa_iast (hm.2.2.2.1 _ (inb_nat b7)) b12 r11 dX2_slideOnce_88 ?_
    refine Wa_aload_n 1 dX2_slideOnce_89 rfl rfl ?_
    refine Wa_dup dX2_slideOnce_90 rfl ?_
    refine Wa_getI2 (v := (M o 8)) cf_X2 lk_X2_47 hm.1 (j := 8) rfl (by decide) ((mU_rd (by omega)).trans ((mU_rd (by omega)).trans (mU_rd (by omega)))) dX2_slideOnce_91 (fun r13 => ?_)
    refine Wa_iconst (z := 1) dX2_slideOnce_94 ?_
    refine Wa_iadd dX2_slideOnce_95 ?_
    obtain ⟨q14, h⟩ := h
    refine Wa_putI cf_X2 lk_X2_47 hm.1 (j := 8) rfl (by decide) rfl rfl q14 dX2_slideOnce_96 ?_
    exact Wa_return dX2_slideOnce_99 rfl ⟨rfl, h⟩
  · have h := h.2 c2
    refine Wa_aload_n 0 dX2_slideOnce_7 rfl rfl ?_
    refine Wa_getR cf_X2 lk_X2_37 hm.1 (j := 5) rfl (by decide) dX2_slideOnce_8 ?_
    refine Wa_iload_n 2 dX2_slideOnce_11 rfl rfl ?_
    refine Wa_dup2 dX2_slideOnce_12 rfl rfl ?_
    obtain ⟨b15, h⟩ := h
    refine Wa_iald2 (v := (M (o + 22) (l2).toNat)) hm.2.2.2.2.2.2.2.1 b15 rfl dX2_slideOnce_13 (fun r16 => ?_)
    refine Wa_iconst (z := 1) dX2_slideOnce_14 ?_
    refine Wa_isub dX2_slideOnce_15 ?_
    obtain ⟨q17, h⟩ := h
    refine Wa_iast hm.2.2.2.2.2.2.2.1 b15 q17 dX2_slideOnce_16 ?_
    refine Wa_aload_n 0 dX2_slideOnce_17 rfl rfl ?_
    refine Wa_getR cf_X2 lk_X2_40 hm.1 (j := 6) rfl (by decide) dX2_slideOnce_18 ?_
    refine Wa_iload_n 2 dX2_slideOnce_21 rfl rfl ?_
    refine Wa_dup2 dX2_slideOnce_22 rfl rfl ?_
    refine Wa_iald2 (v := (M (o + 23) (l2).toNat)) hm.2.2.2.2.2.2.2.2 b15 (mU_rd (by omega)) dX2_slideOnce_23 (fun r18 => ?_)
    refine Wa_iconst (z := 1) dX2_slideOnce_24 ?_
    refine Wa_isub dX2_slideOnce_25 ?_
    obtain ⟨q19, h⟩ := h
    refine Wa_iast hm.2.2.2.2.2.2.2.2 b15 q19 dX2_slideOnce_26 ?_
    refine Wa_iinc (ls' := [(2, vI (l2 + 1)), (0, vR o), (1, vI l1)]) 2 dX2_slideOnce_27 rfl (by decide) rfl ?_
    refine Wa_goto (tgt := 2) dX2_slideOnce_30 (by decide) ?_
    refine Wa_sub [1, 2, 0] rfl ?_
    exact h
theorem en_X2_slideOnce {g : AG} {d : Nat} {o : Nat} {l1 : Int} {M : AM} {Q : AM → Prop} (h : S_X2_slideOnce_0 g d o l1 M Q) : MetV g mX2_slideOnce d [vR o, vI l1] M Q := MetA.of (by decide) (Nat.le_of_ble_eq_true rfl) h
