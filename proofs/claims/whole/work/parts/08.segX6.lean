def S_X6_has_0 (g : AG) (d : Nat) (l1 : Int) (M : AM) (Q : Int → AM → Prop) : Prop := Wa g mX6_has d 0 [(0, vR 71), (1, vI l1)] [] M (QI Q)
set_option maxRecDepth 100000 in
theorem sg_X6_has_0 {g : AG} {d : Nat} {l1 : Int} {M : AM} {Q : Int → AM → Prop} 
  (h : rg l1 ∧ ((l1 < 0 → (Q 0 M)) ∧ (¬ l1 < 0 → (((M 71 6) ≤ l1 → (Q 0 M)) ∧ (¬ (M 71 6) ≤ l1 → (Q 1 M)))))) : S_X6_has_0 g (d + 1) l1 M Q := by
  show Wa _ _ _ _ _ _ _ _
  refine Wa_iload_n 1 dX6_has_0 rfl rfl ?_
  obtain ⟨q1, h⟩ := h
  refine Wa_if_lt (tgt := 16) dX6_has_1 (by decide) q1 (fun c2 => ?_) (fun c2 => ?_)
  · have h := h.1 c2
    refine Wa_iconst (z := 0) dX6_has_16 ?_
    exact Wa_zreturn dX6_has_17 rfl (by decide) ⟨_, rfl, rg_bool (by decide), h⟩
  · have h := h.2 c2
    refine Wa_iload_n 1 dX6_has_4 rfl rfl ?_
    refine Wa_aload_n 0 dX6_has_5 rfl rfl ?_
    refine Wa_getI2 (v := (M 71 6)) cf_X6 lk_X6_32 k_71 (j := 6) rfl (by decide) rfl dX6_has_6 (fun r3 => ?_)
    refine Wa_icmp_ge (tgt := 16) dX6_has_9 (by decide) q1 r3 (fun c4 => ?_) (fun c4 => ?_)
    · have h := h.1 c4
      refine Wa_iconst (z := 0) dX6_has_16 ?_
      exact Wa_zreturn dX6_has_17 rfl (by decide) ⟨_, rfl, rg_bool (by decide), h⟩
    · have h := h.2 c4
      refine Wa_iconst (z := 1) dX6_has_12 ?_
      refine Wa_goto (tgt := 17) dX6_has_13 (by decide) ?_
      exact Wa_zreturn dX6_has_17 rfl (by decide) ⟨_, rfl, rg_bool (by decide), h⟩
theorem en_X6_has {g : AG} {d : Nat} {l1 : Int} {M : AM} {Q : Int → AM → Prop} (h : S_X6_has_0 g d l1 M Q) : MetI g mX6_has d [vR 71, vI l1] M Q := MetA.of (by decide) (Nat.le_of_ble_eq_true rfl) h
def S_X6_howManyOf_0 (g : AG) (d : Nat) (l1 : Int) (M : AM) (Q : Int → AM → Prop) : Prop := Wa g mX6_howManyOf d 0 [(0, vR 71), (1, vI l1)] [] M (QI Q)
def S_X6_howManyOf_4 (g : AG) (d : Nat) (l1 : Int) (l2 : Int) (l3 : Int) (M : AM) (Q : Int → AM → Prop) : Prop := Wa g mX6_howManyOf d 4 [(0, vR 71), (1, vI l1), (2, vI l2), (3, vI l3)] [] M (QI Q)
set_option maxRecDepth 100000 in
theorem sg_X6_howManyOf_0 {g : AG} {d : Nat} {l1 : Int} {M : AM} {Q : Int → AM → Prop} 
  (h : S_X6_howManyOf_4 g (d + 1) l1 0 0 M Q) : S_X6_howManyOf_0 g (d + 1) l1 M Q := by
  show Wa _ _ _ _ _ _ _ _
  refine Wa_iconst (z := 0) dX6_howManyOf_0 ?_
  refine Wa_istore_n (ls' := [(2, vI 0), (0, vR 71), (1, vI l1)]) dX6_howManyOf_1 rfl (by decide) rfl ?_
  refine Wa_iconst (z := 0) dX6_howManyOf_2 ?_
  refine Wa_istore_n (ls' := [(3, vI 0), (2, vI 0), (0, vR 71), (1, vI l1)]) dX6_howManyOf_3 rfl (by decide) rfl ?_
  refine Wa_sub [2, 3, 1, 0] rfl ?_
  exact h
set_option maxRecDepth 100000 in
theorem sg_X6_howManyOf_4 {g : AG} {d : Nat} {l1 : Int} {l2 : Int} {l3 : Int} {M : AM} {Q : Int → AM → Prop} 
  (h : rg l3 ∧ (((M 71 6) ≤ l3 → (rg l2 ∧ (Q l2 M))) ∧ (¬ (M 71 6) ≤ l3 → ((0 ≤ l3 ∧ l3 < 16) ∧ (rg l1 ∧ ((¬ (M 72 (l3).toNat) = l1 → (S_X6_howManyOf_4 g (d + 1) l1 (l2 + 0) (l3 + 1) M Q)) ∧ ((M 72 (l3).toNat) = l1 → (S_X6_howManyOf_4 g (d + 1) l1 (l2 + 1) (l3 + 1) M Q)))))))) : S_X6_howManyOf_4 g (d + 1) l1 l2 l3 M Q := by
  show Wa _ _ _ _ _ _ _ _
  refine Wa_iload_n 3 dX6_howManyOf_4 rfl rfl ?_
  refine Wa_aload_n 0 dX6_howManyOf_5 rfl rfl ?_
  refine Wa_getI2 (v := (M 71 6)) cf_X6 lk_X6_32 k_71 (j := 6) rfl (by decide) rfl dX6_howManyOf_6 (fun r1 => ?_)
  obtain ⟨q2, h⟩ := h
  refine Wa_icmp_ge (tgt := 36) dX6_howManyOf_9 (by decide) q2 r1 (fun c3 => ?_) (fun c3 => ?_)
  · have h := h.1 c3
    refine Wa_iload_n 2 dX6_howManyOf_36 rfl rfl ?_
    obtain ⟨q4, h⟩ := h
    exact Wa_ireturn dX6_howManyOf_37 rfl ⟨_, rfl, q4, h⟩
  · have h := h.2 c3
    refine Wa_iload_n 2 dX6_howManyOf_12 rfl rfl ?_
    refine Wa_aload_n 0 dX6_howManyOf_13 rfl rfl ?_
    refine Wa_getR cf_X6 lk_X6_9 k_71 (j := 0) rfl (by decide) dX6_howManyOf_14 ?_
    refine Wa_iload_n 3 dX6_howManyOf_17 rfl rfl ?_
    obtain ⟨b5, h⟩ := h
    refine Wa_iald2 (v := (M 72 (l3).toNat)) k_72 b5 rfl dX6_howManyOf_18 (fun r6 => ?_)
    refine Wa_iload_n 1 dX6_howManyOf_19 rfl rfl ?_
    obtain ⟨q7, h⟩ := h
    refine Wa_icmp_ne (tgt := 27) dX6_howManyOf_20 (by decide) r6 q7 (fun c8 => ?_) (fun c8 => ?_)
    · have h := h.1 c8
      refine Wa_iconst (z := 0) dX6_howManyOf_27 ?_
      refine Wa_iadd dX6_howManyOf_28 ?_
      refine Wa_istore_n (ls' := [(2, vI (l2 + 0)), (0, vR 71), (1, vI l1), (3, vI l3)]) dX6_howManyOf_29 rfl (by decide) rfl ?_
      refine Wa_iinc (ls' := [(3, vI (l3 + 1)), (2, vI (l2 + 0)), (0, vR 71), (1, vI l1)]) 3 dX6_howManyOf_30 rfl (by decide) rfl ?_
      refine Wa_goto (tgt := 4) dX6_howManyOf_33 (by decide) ?_
      refine Wa_sub [2, 3, 1, 0] rfl ?_
      exact h
    · have h := h.2 c8
      refine Wa_iconst (z := 1) dX6_howManyOf_23 ?_
      refine Wa_goto (tgt := 28) dX6_howManyOf_24 (by decide) ?_
      refine Wa_iadd dX6_howManyOf_28 ?_
      refine Wa_istore_n (ls' := [(2, vI (l2 + 1)), (0, vR 71), (1, vI l1), (3, vI l3)]) dX6_howManyOf_29 rfl (by decide) rfl ?_
      refine Wa_iinc (ls' := [(3, vI (l3 + 1)), (2, vI (l2 + 1)), (0, vR 71), (1, vI l1)]) 3 dX6_howManyOf_30 rfl (by decide) rfl ?_
      refine Wa_goto (tgt := 4) dX6_howManyOf_33 (by decide) ?_
      refine Wa_sub [2, 3, 1, 0] rfl ?_
      exact h
theorem en_X6_howManyOf {g : AG} {d : Nat} {l1 : Int} {M : AM} {Q : Int → AM → Prop} (h : S_X6_howManyOf_0 g d l1 M Q) : MetI g mX6_howManyOf d [vR 71, vI l1] M Q := MetA.of (by decide) (Nat.le_of_ble_eq_true rfl) h
def S_X6_build_0 (g : AG) (d : Nat) (M : AM) (Q : AM → Prop) : Prop := Wa g mX6_build d 0 [(0, vR 71), (1, vR 4), (2, vR 57)] [] M (QV Q)
def S_X6_build_18 (g : AG) (d : Nat) (l4 : Int) (M : AM) (Q : AM → Prop) : Prop := Wa g mX6_build d 18 [(0, vR 71), (1, vR 4), (2, vR 57), (3, vR 5), (4, vI l4)] [] M (QV Q)
def S_X6_build_60 (g : AG) (d : Nat) (l4 : Int) (l5 : Int) (l6 : Int) (M : AM) (Q : AM → Prop) : Prop := Wa g mX6_build d 60 [(0, vR 71), (1, vR 4), (2, vR 57), (3, vR 5), (4, vI l4), (5, vI l5), (6, vI l6)] [] M (QV Q)
set_option maxRecDepth 100000 in
theorem sg_X6_build_0 {g : AG} {d : Nat} {M : AM} {Q : AM → Prop} 
  (h : S_X6_build_18 g (d + 1) 0 (mU (mU M 71 6 0) 71 7 0) Q) : S_X6_build_0 g (d + 1) M Q := by
  show Wa _ _ _ _ _ _ _ _
  refine Wa_aload_n 0 dX6_build_0 rfl rfl ?_
  refine Wa_iconst (z := 0) dX6_build_1 ?_
  refine Wa_putI cf_X6 lk_X6_32 k_71 (j := 6) rfl (by decide) rfl rfl ⟨by decide, by decide⟩ dX6_build_2 ?_
  refine Wa_aload_n 0 dX6_build_5 rfl rfl ?_
  refine Wa_iconst (z := 0) dX6_build_6 ?_
  refine Wa_putI cf_X6 lk_X6_36 k_71 (j := 7) rfl (by decide) rfl rfl ⟨by decide, by decide⟩ dX6_build_7 ?_
  refine Wa_aload_n 1 dX6_build_10 rfl rfl ?_
  refine Wa_getR cf_X2 lk_X6_39 k_4 (j := 0) rfl (by decide) dX6_build_11 ?_
  refine Wa_astore_n (ls' := [(3, vR 5), (0, vR 71), (1, vR 4), (2, vR 57)]) dX6_build_14 rfl (by decide) rfl ?_
  refine Wa_iconst (z := 0) dX6_build_15 ?_
  refine Wa_istore (ls' := [(4, vI 0), (3, vR 5), (0, vR 71), (1, vR 4), (2, vR 57)]) dX6_build_16 (by decide) rfl ?_
  refine Wa_sub [2, 3, 4, 1, 0] rfl ?_
  exact h
set_option maxRecDepth 100000 in
theorem sg_X6_build_18 {g : AG} {d : Nat} {l4 : Int} {M : AM} {Q : AM → Prop} 
  (h : rg l4 ∧ ((8 ≤ l4 → (S_X6_build_60 g (d + 1) 0 0 0 M Q)) ∧ (¬ 8 ≤ l4 → ((0 ≤ l4 ∧ l4 < 8) ∧ (S_X6_build_18 g (d + 1) (l4 + 1) (mU (mU M 78 (l4).toNat (-1)) 79 (l4).toNat (-1)) Q))))) : S_X6_build_18 g (d + 1) l4 M Q := by
  show Wa _ _ _ _ _ _ _ _
  refine Wa_iload 4 dX6_build_18 rfl ?_
  refine Wa_bipush (z := 8) dX6_build_20 (by decide) ?_
  obtain ⟨q1, h⟩ := h
  refine Wa_icmp_ge (tgt := 51) dX6_build_22 (by decide) q1 ⟨by decide, by decide⟩ (fun c2 => ?_) (fun c2 => ?_)
  · have h := h.1 c2
    refine Wa_iconst (z := 0) dX6_build_51 ?_
    refine Wa_istore (ls' := [(4, vI 0), (0, vR 71), (1, vR 4), (2, vR 57), (3, vR 5)]) dX6_build_52 (by decide) rfl ?_
    refine Wa_iconst (z := 0) dX6_build_54 ?_
    refine Wa_istore (ls' := [(5, vI 0), (4, vI 0), (0, vR 71), (1, vR 4), (2, vR 57), (3, vR 5)]) dX6_build_55 (by decide) rfl ?_
    refine Wa_iconst (z := 0) dX6_build_57 ?_
    refine Wa_istore (ls' := [(6, vI 0), (5, vI 0), (4, vI 0), (0, vR 71), (1, vR 4), (2, vR 57), (3, vR 5)]) dX6_build_58 (by decide) rfl ?_
    refine Wa_sub [3, 4, 5, 6, 2, 1, 0] rfl ?_
    exact h
  · have h := h.2 c2
    refine Wa_aload_n 0 dX6_build_25 rfl rfl ?_
    refine Wa_getR cf_X6 lk_X6_29 k_71 (j := 5) rfl (by decide) dX6_build_26 ?_
    refine Wa_iconst (z := 0) dX6_build_29 ?_
    refine Wa_aald k_77 ⟨by decide, by decide⟩ dX6_build_30 ?_
    refine Wa_iload 4 dX6_build_31 rfl ?_
    refine Wa_iconst (z := (-1)) dX6_build_33 ?_
    obtain ⟨b3, h⟩ := h
    refine Wa_iast k_78 b3 ⟨by decide, by decide⟩ dX6_build_34 ?_
    refine Wa_aload_n 0 dX6_build_35 rfl rfl ?_
    refine Wa_getR cf_X6 lk_X6_29 k_71 (j := 5) rfl (by decide) dX6_build_36 ?_
    refine Wa_iconst (z := 1) dX6_build_39 ?_
    refine Wa_aald k_77 ⟨by decide, by decide⟩ dX6_build_40 ?_
    refine Wa_iload 4 dX6_build_41 rfl ?_
    refine Wa_iconst (z := (-1)) dX6_build_43 ?_
    refine Wa_iast k_79 b3 ⟨by decide, by decide⟩ dX6_build_44 ?_
    refine Wa_iinc (ls' := [(4, vI (l4 + 1)), (0, vR 71), (1, vR 4), (2, vR 57), (3, vR 5)]) 4 dX6_build_45 rfl (by decide) rfl ?_
    refine Wa_goto (tgt := 18) dX6_build_48 (by decide) ?_
    refine Wa_sub [1, 2, 3, 4, 0] rfl ?_
    exact h
set_option maxRecDepth 100000 in
theorem sg_X6_build_60 {g : AG} {d : Nat} {l4 : Int} {l5 : Int} {l6 : Int} {M : AM} {Q : AM → Prop} 
  (h : rg l6 ∧ ((8 < l6 → (Q M)) ∧ (¬ 8 < l6 → (rg l4 ∧ (MetI g mX6_nextKept d [vR 71, vR 4, vI 0, vI l4] M (fun z5 M4 => rg z5 → (rg l5 ∧ (MetI g mX6_nextKept d [vR 71, vR 4, vI 1, vI l5] M4 (fun z9 M8 => rg z9 → ((l4 < z5 → (MetV g mX6_findChanged d [vR 71, vR 5, vR 57, vI l4, vI z5, vI l5, vI z9] M8 (fun M12 => MetV g mX6_addDropped d [vR 71, vI l4, vI z5] M12 (fun M15 => MetV g mX6_addAdded d [vR 71, vR 5, vR 57, vI l5, vI z9] M15 (fun M18 => rg ((M18 71 7) + 1) ∧ (((M18 9 0) ≤ z5 → (Q (mU M18 71 7 ((M18 71 7) + 1)))) ∧ (¬ (M18 9 0) ≤ z5 → ((z9 < (M18 9 1) → (MetV g mX6_addStep d [vR 71, vI 0, vI z5, vI z9, vF FP.fconst1, vI (-1)] (mU M18 71 7 ((M18 71 7) + 1)) (fun M27 => S_X6_build_60 g (d + 1) (z5 + 1) (z9 + 1) (l6 + 1) M27 Q))) ∧ (¬ z9 < (M18 9 1) → (Q (mU M18 71 7 ((M18 71 7) + 1)))))))))))) ∧ (¬ l4 < z5 → ((z9 ≤ l5 → (((M8 9 0) ≤ z5 → (Q M8)) ∧ (¬ (M8 9 0) ≤ z5 → ((z9 < (M8 9 1) → (MetV g mX6_addStep d [vR 71, vI 0, vI z5, vI z9, vF FP.fconst1, vI (-1)] M8 (fun M35 => S_X6_build_60 g (d + 1) (z5 + 1) (z9 + 1) (l6 + 1) M35 Q))) ∧ (¬ z9 < (M8 9 1) → (Q M8)))))) ∧ (¬ z9 ≤ l5 → (MetV g mX6_findChanged d [vR 71, vR 5, vR 57, vI l4, vI z5, vI l5, vI z9] M8 (fun M38 => MetV g mX6_addDropped d [vR 71, vI l4, vI z5] M38 (fun M41 => MetV g mX6_addAdded d [vR 71, vR 5, vR 57, vI l5, vI z9] M41 (fun M44 => rg ((M44 71 7) + 1) ∧ (((M44 9 0) ≤ z5 → (Q (mU M44 71 7 ((M44 71 7) + 1)))) ∧ (¬ (M44 9 0) ≤ z5 → ((z9 < (M44 9 1) → (MetV g mX6_addStep d [vR 71, vI 0, vI z5, vI z9, vF FP.fconst1, vI (-1)] (mU M44 71 7 ((M44 71 7) + 1)) (fun M53 => S_X6_build_60 g (d + 1) (z5 + 1) (z9 + 1) (l6 + 1) M53 Q))) ∧ (¬ z9 < (M44 9 1) → (Q (mU M44 71 7 ((M44 71 7) + 1)))))))))))))))))))))))) : S_X6_build_60 g (d + 1) l4 l5 l6 M Q := by
  show Wa _ _ _ _ _ _ _ _
  refine Wa_iload 6 dX6_build_60 rfl ?_
  refine Wa_bipush (z := 8) dX6_build_62 (by decide) ?_
  obtain ⟨q1, h⟩ := h
  refine Wa_icmp_gt (tgt := 195) dX6_build_64 (by decide) q1 ⟨by decide, by decide⟩ (fun c2 => ?_) (fun c2 => ?_)
  · have h := h.1 c2
    exact Wa_return dX6_build_195 rfl ⟨rfl, h⟩
  · have h := h.2 c2
    refine Wa_aload_n 0 dX6_build_67 rfl rfl ?_
    refine Wa_aload_n 1 dX6_build_68 rfl rfl ?_
    refine Wa_iconst (z := 0) dX6_build_69 ?_
    refine Wa_iload 4 dX6_build_70 rfl ?_
    obtain ⟨q3, h⟩ := h
    refine Wa_callV [vR 4, vI 0, vI l4] _ cf_X6 rfl k_71 lc_X6_45 cv_X6_nextKept rfl rfl (Nat.le_refl _) (Nat.le_of_ble_eq_true rfl) dX6_build_72 h ?_
    intro r M4 h
    obtain ⟨z5, rfl, r6, h⟩ := h
    have h := h r6
    refine Wa_istore (ls' := [(7, vI z5), (0, vR 71), (1, vR 4), (2, vR 57), (3, vR 5), (4, vI l4), (5, vI l5), (6, vI l6)]) dX6_build_75 (by decide) rfl ?_
    refine Wa_aload_n 1 dX6_build_77 rfl rfl ?_
    refine Wa_aload_n 2 dX6_build_78 rfl rfl ?_
    refine Wa_iconst (z := 1) dX6_build_79 ?_
    refine Wa_iload 6 dX6_build_80 rfl ?_
    obtain ⟨q7, h⟩ := h
    refine Wa_callV [vR 4, vI 1, vI l5] _ cf_X6 rfl k_71 lc_X6_45 cv_X6_nextKept rfl rfl (Nat.le_refl _) (Nat.le_of_ble_eq_true rfl) dX6_build_82 h ?_
    intro r M8 h
    obtain ⟨z9, rfl, r10, h⟩ := h
    have h := h r10
    refine Wa_istore (ls' := [(8, vI z9), (7, vI z5), (0, vR 71), (1, vR 4), (2, vR 57), (3, vR 5), (4, vI l4), (5, vI l5), (6, vI l6)]) dX6_build_85 (by decide) rfl ?_
    refine Wa_iload 6 dX6_build_87 rfl ?_
    refine Wa_iload 1 dX6_build_89 rfl ?_
    refine Wa_icmp_lt (tgt := 101) dX6_build_91 (by decide) q3 r6 (fun c11 => ?_) (fun c11 => ?_)
    · have h := h.1 c11
      refine Wa_aload_n 2 dX6_build_101 rfl rfl ?_
      refine Wa_aload_n 5 dX6_build_102 rfl rfl ?_
      refine Wa_aload_n 4 dX6_build_103 rfl rfl ?_
      refine Wa_iload 6 dX6_build_104 rfl ?_
      refine Wa_iload 1 dX6_build_106 rfl ?_
      refine Wa_iload 7 dX6_build_108 rfl ?_
      refine Wa_iload 0 dX6_build_110 rfl ?_
      refine Wa_callV [vR 5, vR 57, vI l4, vI z5, vI l5, vI z9] _ cf_X6 rfl k_71 lc_X6_49 cv_X6_findChanged rfl rfl (Nat.le_refl _) (Nat.le_of_ble_eq_true rfl) dX6_build_112 h ?_
      intro r M12 h
      obtain ⟨rfl, h⟩ := h
      refine Wa_aload_n 2 dX6_build_115 rfl rfl ?_
      refine Wa_iload 6 dX6_build_116 rfl ?_
      refine Wa_iload 1 dX6_build_118 rfl ?_
      refine Wa_callV [vI l4, vI z5] _ cf_X6 rfl k_71 lc_X6_53 cv_X6_addDropped rfl rfl (Nat.le_refl _) (Nat.le_of_ble_eq_true rfl) dX6_build_120 h ?_
      intro r M15 h
      obtain ⟨rfl, h⟩ := h
      refine Wa_aload_n 2 dX6_build_123 rfl rfl ?_
      refine Wa_aload_n 5 dX6_build_124 rfl rfl ?_
      refine Wa_aload_n 4 dX6_build_125 rfl rfl ?_
      refine Wa_iload 7 dX6_build_126 rfl ?_
      refine Wa_iload 0 dX6_build_128 rfl ?_
      refine Wa_callV [vR 5, vR 57, vI l5, vI z9] _ cf_X6 rfl k_71 lc_X6_57 cv_X6_addAdded rfl rfl (Nat.le_refl _) (Nat.le_of_ble_eq_true rfl) dX6_build_130 h ?_
      intro r M18 h
      obtain ⟨rfl, h⟩ := h
      refine Wa_aload_n 2 dX6_build_133 rfl rfl ?_
      refine Wa_dup dX6_build_134 rfl ?_
      refine Wa_getI2 (v := (M18 71 7)) cf_X6 lk_X6_36 k_71 (j := 7) rfl (by decide) rfl dX6_build_135 (fun r21 => ?_)
      refine Wa_iconst (z := 1) dX6_build_138 ?_
      refine Wa_iadd dX6_build_139 ?_
      obtain ⟨q22, h⟩ := h
      refine Wa_putI cf_X6 lk_X6_36 k_71 (j := 7) rfl (by decide) rfl rfl q22 dX6_build_140 ?_
      refine Wa_iload 1 dX6_build_143 rfl ?_
      refine Wa_aload_n 5 dX6_build_145 rfl rfl ?_
      refine Wa_getR cf_X7 lk_X6_61 k_5 (j := 1) rfl (by decide) dX6_build_146 ?_
      refine Wa_iconst (z := 0) dX6_build_149 ?_
      refine Wa_iald2 (v := (M18 9 0)) k_9 ⟨by decide, by decide⟩ (mU_rd (by decide)) dX6_build_150 (fun r23 => ?_)
      refine Wa_icmp_ge (tgt := 165) dX6_build_151 (by decide) r6 r23 (fun c24 => ?_) (fun c24 => ?_)
      · have h := h.1 c24
        exact Wa_return dX6_build_165 rfl ⟨rfl, h⟩
      · have h := h.2 c24
        refine Wa_iload 0 dX6_build_154 rfl ?_
        refine Wa_aload_n 5 dX6_build_156 rfl rfl ?_
        refine Wa_getR cf_X7 lk_X6_61 k_5 (j := 1) rfl (by decide) dX6_build_157 ?_
        refine Wa_iconst (z := 1) dX6_build_160 ?_
        refine Wa_iald2 (v := (M18 9 1)) k_9 ⟨by decide, by decide⟩ (mU_rd (by decide)) dX6_build_161 (fun r25 => ?_)
        refine Wa_icmp_lt (tgt := 166) dX6_build_162 (by decide) r10 r25 (fun c26 => ?_) (fun c26 => ?_)
        · have h := h.1 c26
          refine Wa_aload_n 2 dX6_build_166 rfl rfl ?_
          refine Wa_iconst (z := 0) dX6_build_167 ?_
          refine Wa_iload 1 dX6_build_168 rfl ?_
          refine Wa_iload 0 dX6_build_170 rfl ?_
          refine Wa_fconst1 dX6_build_172 ?_
          refine Wa_iconst (z := (-1)) dX6_build_173 ?_
          refine Wa_callV [vI 0, vI z5, vI z9, vF FP.fconst1, vI (-1)] _ cf_X6 rfl k_71 lc_X6_65 cv_X6_addStep rfl rfl (Nat.le_refl _) (Nat.le_of_ble_eq_true rfl) dX6_build_174 h ?_
          intro r M27 h
          obtain ⟨rfl, h⟩ := h
          refine Wa_iload 1 dX6_build_177 rfl ?_
          refine Wa_iconst (z := 1) dX6_build_179 ?_
          refine Wa_iadd dX6_build_180 ?_
          refine Wa_istore (ls' := [(4, vI (z5 + 1)), (8, vI z9), (7, vI z5), (0, vR 71), (1, vR 4), (2, vR 57), (3, vR 5), (5, vI l5), (6, vI l6)]) dX6_build_181 (by decide) rfl ?_
          refine Wa_iload 1 dX6_build_183 rfl ?_
          refine Wa_iconst (z := 1) dX6_build_185 ?_
          refine Wa_iadd dX6_build_186 ?_
          refine Wa_istore (ls' := [(5, vI (z9 + 1)), (4, vI (z5 + 1)), (8, vI z9), (7, vI z5), (0, vR 71), (1, vR 4), (2, vR 57), (3, vR 5), (6, vI l6)]) dX6_build_187 (by decide) rfl ?_
          refine Wa_iinc (ls' := [(6, vI (l6 + 1)), (5, vI (z9 + 1)), (4, vI (z5 + 1)), (8, vI z9), (7, vI z5), (0, vR 71), (1, vR 4), (2, vR 57), (3, vR 5)]) 8 dX6_build_189 rfl (by decide) rfl ?_
          refine Wa_goto (tgt := 60) dX6_build_192 (by decide) ?_
          refine Wa_sub [5, 6, 7, 8, 2, 1, 0] rfl ?_
          exact h
        · have h := h.2 c26
          exact Wa_return dX6_build_165 rfl ⟨rfl, h⟩
    · have h := h.2 c11
      refine Wa_iload 7 dX6_build_94 rfl ?_
      refine Wa_iload 0 dX6_build_96 rfl ?_
      refine Wa_icmp_ge (tgt := 143) dX6_build_98 (by decide) q7 r10 (fun c30 => ?_) (fun c30 => ?_)
      · have h := h.1 c30
        refine Wa_iload 1 dX6_build_143 rfl ?_
        refine Wa_aload_n 5 dX6_build_145 rfl rfl ?_
        refine Wa_getR cf_X7 lk_X6_61 k_5 (j := 1) rfl (by decide) dX6_build_146 ?_
        refine Wa_iconst (z := 0) dX6_build_149 ?_
        refine Wa_iald2 (v := (M8 9 0)) k_9 ⟨by decide, by decide⟩ rfl dX6_build_150 (fun r31 => ?_)
        refine Wa_icmp_ge (tgt := 165) dX6_build_151 (by decide) r6 r31 (fun c32 => ?_) (fun c32 => ?_)
        · have h := h.1 c32
          exact Wa_return dX6_build_165 rfl ⟨rfl, h⟩
        · have h := h.2 c32
          refine Wa_iload 0 dX6_build_154 rfl ?_
          refine Wa_aload_n 5 dX6_build_156 rfl rfl ?_
          refine Wa_getR cf_X7 lk_X6_61 k_5 (j := 1) rfl (by decide) dX6_build_157 ?_
          refine Wa_iconst (z := 1) dX6_build_160 ?_
          refine Wa_iald2 (v := (M8 9 1)) k_9 ⟨by decide, by decide⟩ rfl dX6_build_161 (fun r33 => ?_)
          refine Wa_icmp_lt (tgt := 166) dX6_build_162 (by decide) r10 r33 (fun c34 => ?_) (fun c34 => ?_)
          · have h := h.1 c34
            refine Wa_aload_n 2 dX6_build_166 rfl rfl ?_
            refine Wa_iconst (z := 0) dX6_build_167 ?_
            refine Wa_iload 1 dX6_build_168 rfl ?_
            refine Wa_iload 0 dX6_build_170 rfl ?_
            refine Wa_fconst1 dX6_build_172 ?_
            refine Wa_iconst (z := (-1)) dX6_build_173 ?_
            refine Wa_callV [vI 0, vI z5, vI z9, vF FP.fconst1, vI (-1)] _ cf_X6 rfl k_71 lc_X6_65 cv_X6_addStep rfl rfl (Nat.le_refl _) (Nat.le_of_ble_eq_true rfl) dX6_build_174 h ?_
            intro r M35 h
            obtain ⟨rfl, h⟩ := h
            refine Wa_iload 1 dX6_build_177 rfl ?_
            refine Wa_iconst (z := 1) dX6_build_179 ?_
            refine Wa_iadd dX6_build_180 ?_
            refine Wa_istore (ls' := [(4, vI (z5 + 1)), (8, vI z9), (7, vI z5), (0, vR 71), (1, vR 4), (2, vR 57), (3, vR 5), (5, vI l5), (6, vI l6)]) dX6_build_181 (by decide) rfl ?_
            refine Wa_iload 1 dX6_build_183 rfl ?_
            refine Wa_iconst (z := 1) dX6_build_185 ?_
            refine Wa_iadd dX6_build_186 ?_
            refine Wa_istore (ls' := [(5, vI (z9 + 1)), (4, vI (z5 + 1)), (8, vI z9), (7, vI z5), (0, vR 71), (1, vR 4), (2, vR 57), (3, vR 5), (6, vI l6)]) dX6_build_187 (by decide) rfl ?_
            refine Wa_iinc (ls' := [(6, vI (l6 + 1)), (5, vI (z9 + 1)), (4, vI (z5 + 1)), (8, vI z9), (7, vI z5), (0, vR 71), (1, vR 4), (2, vR 57), (3, vR 5)]) 8 dX6_build_189 rfl (by decide) rfl ?_
            refine Wa_goto (tgt := 60) dX6_build_192 (by decide) ?_
            refine Wa_sub [5, 6, 7, 8, 2, 1, 0] rfl ?_
            exact h
          · have h := h.2 c34
            exact Wa_return dX6_build_165 rfl ⟨rfl, h⟩
      · have h := h.2 c30
        refine Wa_aload_n 2 dX6_build_101 rfl rfl ?_
        refine Wa_aload_n 5 dX6_build_102 rfl rfl ?_
        refine Wa_aload_n 4 dX6_build_103 rfl rfl ?_
        refine Wa_iload 6 dX6_build_104 rfl ?_
        refine Wa_iload 1 dX6_build_106 rfl ?_
        refine Wa_iload 7 dX6_build_108 rfl ?_
        refine Wa_iload 0 dX6_build_110 rfl ?_
        refine Wa_callV [vR 5, vR 57, vI l4, vI z5, vI l5, vI z9] _ cf_X6 rfl k_71 lc_X6_49 cv_X6_findChanged rfl rfl (Nat.le_refl _) (Nat.le_of_ble_eq_true rfl) dX6_build_112 h ?_
        intro r M38 h
        obtain ⟨rfl, h⟩ := h
        refine Wa_aload_n 2 dX6_build_115 rfl rfl ?_
        refine Wa_iload 6 dX6_build_116 rfl ?_
        refine Wa_iload 1 dX6_build_118 rfl ?_
        refine Wa_callV [vI l4, vI z5] _ cf_X6 rfl k_71 lc_X6_53 cv_X6_addDropped rfl rfl (Nat.le_refl _) (Nat.le_of_ble_eq_true rfl) dX6_build_120 h ?_
        intro r M41 h
        obtain ⟨rfl, h⟩ := h
        refine Wa_aload_n 2 dX6_build_123 rfl rfl ?_
        refine Wa_aload_n 5 dX6_build_124 rfl rfl ?_
        refine Wa_aload_n 4 dX6_build_125 rfl rfl ?_
        refine Wa_iload 7 dX6_build_126 rfl ?_
        refine Wa_iload 0 dX6_build_128 rfl ?_
        refine Wa_callV [vR 5, vR 57, vI l5, vI z9] _ cf_X6 rfl k_71 lc_X6_57 cv_X6_addAdded rfl rfl (Nat.le_refl _) (Nat.le_of_ble_eq_true rfl) dX6_build_130 h ?_
        intro r M44 h
        obtain ⟨rfl, h⟩ := h
        refine Wa_aload_n 2 dX6_build_133 rfl rfl ?_
        refine Wa_dup dX6_build_134 rfl ?_
        refine Wa_getI2 (v := (M44 71 7)) cf_X6 lk_X6_36 k_71 (j := 7) rfl (by decide) rfl dX6_build_135 (fun r47 => ?_)
        refine Wa_iconst (z := 1) dX6_build_138 ?_
        refine Wa_iadd dX6_build_139 ?_
        obtain ⟨q48, h⟩ := h
        refine Wa_putI cf_X6 lk_X6_36 k_71 (j := 7) rfl (by decide) rfl rfl q48 dX6_build_140 ?_
        refine Wa_iload 1 dX6_build_143 rfl ?_
        refine Wa_aload_n 5 dX6_build_145 rfl rfl ?_
        refine Wa_getR cf_X7 lk_X6_61 k_5 (j := 1) rfl (by decide) dX6_build_146 ?_
        refine Wa_iconst (z := 0) dX6_build_149 ?_
        refine Wa_iald2 (v := (M44 9 0)) k_9 ⟨by decide, by decide⟩ (mU_rd (by decide)) dX6_build_150 (fun r49 => ?_)
        refine Wa_icmp_ge (tgt := 165) dX6_build_151 (by decide) r6 r49 (fun c50 => ?_) (fun c50 => ?_)
        · have h := h.1 c50
          exact Wa_return dX6_build_165 rfl ⟨rfl, h⟩
        · have h := h.2 c50
          refine Wa_iload 0 dX6_build_154 rfl ?_
          refine Wa_aload_n 5 dX6_build_156 rfl rfl ?_
          refine Wa_getR cf_X7 lk_X6_61 k_5 (j := 1) rfl (by decide) dX6_build_157 ?_
          refine Wa_iconst (z := 1) dX6_build_160 ?_
          refine Wa_iald2 (v := (M44 9 1)) k_9 ⟨by decide, by decide⟩ (mU_rd (by decide)) dX6_build_161 (fun r51 => ?_)
          refine Wa_icmp_lt (tgt := 166) dX6_build_162 (by decide) r10 r51 (fun c52 => ?_) (fun c52 => ?_)
          · have h := h.1 c52
            refine Wa_aload_n 2 dX6_build_166 rfl rfl ?_
            refine Wa_iconst (z := 0) dX6_build_167 ?_
            refine Wa_iload 1 dX6_build_168 rfl ?_
            refine Wa_iload 0 dX6_build_170 rfl ?_
            refine Wa_fconst1 dX6_build_172 ?_
            refine Wa_iconst (z := (-1)) dX6_build_173 ?_
            refine Wa_callV [vI 0, vI z5, vI z9, vF FP.fconst1, vI (-1)] _ cf_X6 rfl k_71 lc_X6_65 cv_X6_addStep rfl rfl (Nat.le_refl _) (Nat.le_of_ble_eq_true rfl) dX6_build_174 h ?_
            intro r M53 h
            obtain ⟨rfl, h⟩ := h
            refine Wa_iload 1 dX6_build_177 rfl ?_
            refine Wa_iconst (z := 1) dX6_build_179 ?_
            refine Wa_iadd dX6_build_180 ?_
            refine Wa_istore (ls' := [(4, vI (z5 + 1)), (8, vI z9), (7, vI z5), (0, vR 71), (1, vR 4), (2, vR 57), (3, vR 5), (5, vI l5), (6, vI l6)]) dX6_build_181 (by decide) rfl ?_
            refine Wa_iload 1 dX6_build_183 rfl ?_
            refine Wa_iconst (z := 1) dX6_build_185 ?_
            refine Wa_iadd dX6_build_186 ?_
            refine Wa_istore (ls' := [(5, vI (z9 + 1)), (4, vI (z5 + 1)), (8, vI z9), (7, vI z5), (0, vR 71), (1, vR 4), (2, vR 57), (3, vR 5), (6, vI l6)]) dX6_build_187 (by decide) rfl ?_
            refine Wa_iinc (ls' := [(6, vI (l6 + 1)), (5, vI (z9 + 1)), (4, vI (z5 + 1)), (8, vI z9), (7, vI z5), (0, vR 71), (1, vR 4), (2, vR 57), (3, vR 5)]) 8 dX6_build_189 rfl (by decide) rfl ?_
            refine Wa_goto (tgt := 60) dX6_build_192 (by decide) ?_
            refine Wa_sub [5, 6, 7, 8, 2, 1, 0] rfl ?_
            exact h
          · have h := h.2 c52
            exact Wa_return dX6_build_165 rfl ⟨rfl, h⟩
theorem en_X6_build {g : AG} {d : Nat} {M : AM} {Q : AM → Prop} (h : S_X6_build_0 g d M Q) : MetV g mX6_build d [vR 71, vR 4, vR 57] M Q := MetA.of (by decide) (Nat.le_of_ble_eq_true rfl) h
def S_X6_nextKept_0 (g : AG) (d : Nat) (l2 : Int) (l3 : Int) (M : AM) (Q : Int → AM → Prop) : Prop := Wa g mX6_nextKept d 0 [(0, vR 71), (1, vR 4), (2, vI l2), (3, vI l3)] [] M (QI Q)
def S_X6_nextKept_3 (g : AG) (d : Nat) (l2 : Int) (l4 : Int) (M : AM) (Q : Int → AM → Prop) : Prop := Wa g mX6_nextKept d 3 [(1, vR 4), (2, vI l2), (4, vI l4)] [] M (QI Q)
set_option maxRecDepth 100000 in
theorem sg_X6_nextKept_0 {g : AG} {d : Nat} {l2 : Int} {l3 : Int} {M : AM} {Q : Int → AM → Prop} 
  (h : S_X6_nextKept_3 g (d + 1) l2 l3 M Q) : S_X6_nextKept_0 g (d + 1) l2 l3 M Q := by
  show Wa _ _ _ _ _ _ _ _
  refine Wa_iload_n 3 dX6_nextKept_0 rfl rfl ?_
  refine Wa_istore (ls' := [(4, vI l3), (0, vR 71), (1, vR 4), (2, vI l2), (3, vI l3)]) dX6_nextKept_1 (by decide) rfl ?_
  refine Wa_sub [2, 3, 0] rfl ?_
  exact h
set_option maxRecDepth 100000 in
theorem sg_X6_nextKept_3 {g : AG} {d : Nat} {l2 : Int} {l4 : Int} {M : AM} {Q : Int → AM → Prop} 
  (h : (0 ≤ l2 ∧ l2 < 2) ∧ (rg l4 ∧ (((M 9 (l2).toNat) ≤ l4 → (Q l4 M)) ∧ (¬ (M 9 (l2).toNat) ≤ l4 → ((0 ≤ l4 ∧ l4 < 8) ∧ ((¬ (M (11 + (l2).toNat) (l4).toNat) = (-1) → (Q l4 M)) ∧ ((M (11 + (l2).toNat) (l4).toNat) = (-1) → (S_X6_nextKept_3 g (d + 1) l2 (l4 + 1) M Q)))))))) : S_X6_nextKept_3 g (d + 1) l2 l4 M Q := by
  show Wa _ _ _ _ _ _ _ _
  refine Wa_iload 2 dX6_nextKept_3 rfl ?_
  refine Wa_aload_n 0 dX6_nextKept_5 rfl rfl ?_
  refine Wa_getR cf_X2 lk_X6_39 k_4 (j := 0) rfl (by decide) dX6_nextKept_6 ?_
  refine Wa_getR cf_X7 lk_X6_61 k_5 (j := 1) rfl (by decide) dX6_nextKept_9 ?_
  refine Wa_iload_n 1 dX6_nextKept_12 rfl rfl ?_
  obtain ⟨b1, h⟩ := h
  refine Wa_iald2 (v := (M 9 (l2).toNat)) k_9 b1 rfl dX6_nextKept_13 (fun r2 => ?_)
  obtain ⟨q3, h⟩ := h
  refine Wa_icmp_ge (tgt := 36) dX6_nextKept_14 (by decide) q3 r2 (fun c4 => ?_) (fun c4 => ?_)
  · have h := h.1 c4
    refine Wa_iload 2 dX6_nextKept_36 rfl ?_
    exact Wa_ireturn dX6_nextKept_38 rfl ⟨_, rfl, q3, h⟩
  · have h := h.2 c4
    refine Wa_aload_n 0 dX6_nextKept_17 rfl rfl ?_
    refine Wa_getR cf_X2 lk_X6_69 k_4 (j := 1) rfl (by decide) dX6_nextKept_18 ?_
    refine Wa_iload_n 1 dX6_nextKept_21 rfl rfl ?_
    refine Wa_aald k_10 b1 dX6_nextKept_22 ?_
    refine Wa_iload 2 dX6_nextKept_23 rfl ?_
    obtain ⟨b5, h⟩ := h
    refine Wa_iald2 (v := (M (11 + (l2).toNat) (l4).toNat)) (rw_10 _ (inb_nat b1)) b5 rfl dX6_nextKept_25 (fun r6 => ?_)
    refine Wa_iconst (z := (-1)) dX6_nextKept_26 ?_
    refine Wa_icmp_ne (tgt := 36) dX6_nextKept_27 (by decide) r6 ⟨by decide, by decide⟩ (fun c7 => ?_) (fun c7 => ?_)
    · have h := h.1 c7
      refine Wa_iload 2 dX6_nextKept_36 rfl ?_
      exact Wa_ireturn dX6_nextKept_38 rfl ⟨_, rfl, q3, h⟩
    · have h := h.2 c7
      refine Wa_iinc (ls' := [(4, vI (l4 + 1)), (1, vR 4), (2, vI l2)]) 2 dX6_nextKept_30 rfl (by decide) rfl ?_
      refine Wa_goto (tgt := 3) dX6_nextKept_33 (by decide) ?_
      refine Wa_sub [1, 2, 0] rfl ?_
      exact h
theorem en_X6_nextKept {g : AG} {d : Nat} {l2 : Int} {l3 : Int} {M : AM} {Q : Int → AM → Prop} (h : S_X6_nextKept_0 g d l2 l3 M Q) : MetI g mX6_nextKept d [vR 71, vR 4, vI l2, vI l3] M Q := MetA.of (by decide) (Nat.le_of_ble_eq_true rfl) h
def S_X6_findChanged_0 (g : AG) (d : Nat) (l3 : Int) (l4 : Int) (l5 : Int) (l6 : Int) (M : AM) (Q : AM → Prop) : Prop := Wa g mX6_findChanged d 0 [(0, vR 71), (1, vR 5), (2, vR 57), (3, vI l3), (4, vI l4), (5, vI l5), (6, vI l6)] [] M (QV Q)
def S_X6_findChanged_17 (g : AG) (d : Nat) (l3 : Int) (l5 : Int) (l7 : Int) (l8 : Int) (M : AM) (Q : AM → Prop) : Prop := Wa g mX6_findChanged d 17 [(0, vR 71), (1, vR 5), (2, vR 57), (3, vI l3), (5, vI l5), (7, vI l7), (8, vI l8)] [] M (QV Q)
set_option maxRecDepth 100000 in
theorem sg_X6_findChanged_0 {g : AG} {d : Nat} {l3 : Int} {l4 : Int} {l5 : Int} {l6 : Int} {M : AM} {Q : AM → Prop} 
  (h : rg (l4 - l3) ∧ (rg (l6 - l5) ∧ (S_X6_findChanged_17 g (d + 1) l3 l5 (if (l6 - l5) < (l4 - l3) then (l6 - l5) else (l4 - l3)) 0 M Q))) : S_X6_findChanged_0 g (d + 1) l3 l4 l5 l6 M Q := by
  show Wa _ _ _ _ _ _ _ _
  refine Wa_iload 4 dX6_findChanged_0 rfl ?_
  refine Wa_iload_n 3 dX6_findChanged_2 rfl rfl ?_
  refine Wa_isub dX6_findChanged_3 ?_
  refine Wa_iload 6 dX6_findChanged_4 rfl ?_
  refine Wa_iload 5 dX6_findChanged_6 rfl ?_
  refine Wa_isub dX6_findChanged_8 ?_
  obtain ⟨q1, h⟩ := h
  obtain ⟨q2, h⟩ := h
  refine Wa_mmin lc_X6_72 st_min in_Math co_min q1 q2 (by omega) (Nat.le_of_ble_eq_true rfl) dX6_findChanged_9 ?_
  refine Wa_istore (ls' := [(7, vI (if (l6 - l5) < (l4 - l3) then (l6 - l5) else (l4 - l3))), (0, vR 71), (1, vR 5), (2, vR 57), (3, vI l3), (4, vI l4), (5, vI l5), (6, vI l6)]) dX6_findChanged_12 (by decide) rfl ?_
  refine Wa_iconst (z := 0) dX6_findChanged_14 ?_
  refine Wa_istore (ls' := [(8, vI 0), (7, vI (if (l6 - l5) < (l4 - l3) then (l6 - l5) else (l4 - l3))), (0, vR 71), (1, vR 5), (2, vR 57), (3, vI l3), (4, vI l4), (5, vI l5), (6, vI l6)]) dX6_findChanged_15 (by decide) rfl ?_
  refine Wa_sub [2, 3, 4, 5, 7, 1, 0] rfl ?_
  exact h
set_option maxRecDepth 100000 in
theorem sg_X6_findChanged_17 {g : AG} {d : Nat} {l3 : Int} {l5 : Int} {l7 : Int} {l8 : Int} {M : AM} {Q : AM → Prop} 
  (h : rg l8 ∧ (rg l7 ∧ ((l7 ≤ l8 → (Q M)) ∧ (¬ l7 ≤ l8 → ((0 ≤ (l3 + l8) ∧ (l3 + l8) < 8) ∧ ((0 ≤ (l5 + l8) ∧ (l5 + l8) < 8) ∧ (MetF g mX1_fraction d [vR 57, vI (M 7 ((l3 + l8)).toNat), vI (M 8 ((l5 + l8)).toNat)] M (fun z9 M8 => ((fCmp z9 1056964608 .l) < 0 → (S_X6_findChanged_17 g (d + 1) l3 l5 l7 (l8 + 1) M8 Q)) ∧ (¬ (fCmp z9 1056964608 .l) < 0 → (rg (l5 + l8) ∧ (rg (l3 + l8) ∧ (S_X6_findChanged_17 g (d + 1) l3 l5 l7 (l8 + 1) (mU (mU M8 78 ((l3 + l8)).toNat (l5 + l8)) 79 ((l5 + l8)).toNat (l3 + l8)) Q)))))))))))) : S_X6_findChanged_17 g (d + 1) l3 l5 l7 l8 M Q := by
  show Wa _ _ _ _ _ _ _ _
  refine Wa_iload 6 dX6_findChanged_17 rfl ?_
  refine Wa_iload 5 dX6_findChanged_19 rfl ?_
  obtain ⟨q1, h⟩ := h
  obtain ⟨q2, h⟩ := h
  refine Wa_icmp_ge (tgt := 93) dX6_findChanged_21 (by decide) q1 q2 (fun c3 => ?_) (fun c3 => ?_)
  · have h := h.1 c3
    exact Wa_return dX6_findChanged_93 rfl ⟨rfl, h⟩
  · have h := h.2 c3
    refine Wa_iload_n 3 dX6_findChanged_24 rfl rfl ?_
    refine Wa_iload 6 dX6_findChanged_25 rfl ?_
    refine Wa_iadd dX6_findChanged_27 ?_
    refine Wa_istore (ls' := [(9, vI (l3 + l8)), (0, vR 71), (1, vR 5), (2, vR 57), (3, vI l3), (5, vI l5), (7, vI l7), (8, vI l8)]) dX6_findChanged_28 (by decide) rfl ?_
    refine Wa_iload 5 dX6_findChanged_30 rfl ?_
    refine Wa_iload 7 dX6_findChanged_32 rfl ?_
    refine Wa_iadd dX6_findChanged_34 ?_
    refine Wa_istore (ls' := [(10, vI (l5 + l8)), (9, vI (l3 + l8)), (0, vR 71), (1, vR 5), (2, vR 57), (3, vI l3), (5, vI l5), (7, vI l7), (8, vI l8)]) dX6_findChanged_35 (by decide) rfl ?_
    refine Wa_aload_n 4 dX6_findChanged_37 rfl rfl ?_
    refine Wa_aload_n 3 dX6_findChanged_38 rfl rfl ?_
    refine Wa_getR cf_X7 lk_X6_78 k_5 (j := 0) rfl (by decide) dX6_findChanged_39 ?_
    refine Wa_iconst (z := 0) dX6_findChanged_42 ?_
    refine Wa_aald k_6 ⟨by decide, by decide⟩ dX6_findChanged_43 ?_
    refine Wa_iload 1 dX6_findChanged_44 rfl ?_
    obtain ⟨b4, h⟩ := h
    refine Wa_iald2 (v := (M 7 ((l3 + l8)).toNat)) k_7 b4 rfl dX6_findChanged_46 (fun r5 => ?_)
    refine Wa_aload_n 3 dX6_findChanged_47 rfl rfl ?_
    refine Wa_getR cf_X7 lk_X6_78 k_5 (j := 0) rfl (by decide) dX6_findChanged_48 ?_
    refine Wa_iconst (z := 1) dX6_findChanged_51 ?_
    refine Wa_aald k_6 ⟨by decide, by decide⟩ dX6_findChanged_52 ?_
    refine Wa_iload 0 dX6_findChanged_53 rfl ?_
    obtain ⟨b6, h⟩ := h
    refine Wa_iald2 (v := (M 8 ((l5 + l8)).toNat)) k_8 b6 rfl dX6_findChanged_55 (fun r7 => ?_)
    refine Wa_callV [vI (M 7 ((l3 + l8)).toNat), vI (M 8 ((l5 + l8)).toNat)] _ cf_X1 rfl k_57 lc_X6_81 cv_X1_fraction rfl rfl (Nat.le_refl _) (Nat.le_of_ble_eq_true rfl) dX6_findChanged_56 h ?_
    intro r M8 h
    obtain ⟨z9, rfl, h⟩ := h
    refine Wa_ldcf (z := 1056964608) dX6_findChanged_59 kc_X6_87 ?_
    refine Wa_fcmp dX6_findChanged_61 ?_
    refine Wa_if_lt (tgt := 87) dX6_findChanged_62 (by decide) (rg_toInt _) (fun c11 => ?_) (fun c11 => ?_)
    · have h := h.1 c11
      refine Wa_iinc (ls' := [(8, vI (l8 + 1)), (10, vI (l5 + l8)), (9, vI (l3 + l8)), (0, vR 71), (1, vR 5), (2, vR 57), (3, vI l3), (5, vI l5), (7, vI l7)]) 8 dX6_findChanged_87 rfl (by decide) rfl ?_
      refine Wa_goto (tgt := 17) dX6_findChanged_90 (by decide) ?_
      refine Wa_sub [3, 4, 5, 6, 7, 8, 0] rfl ?_
      exact h
    · have h := h.2 c11
      refine Wa_aload_n 2 dX6_findChanged_65 rfl rfl ?_
      refine Wa_getR cf_X6 lk_X6_29 k_71 (j := 5) rfl (by decide) dX6_findChanged_66 ?_
      refine Wa_iconst (z := 0) dX6_findChanged_69 ?_
      refine Wa_aald k_77 ⟨by decide, by decide⟩ dX6_findChanged_70 ?_
      refine Wa_iload 1 dX6_findChanged_71 rfl ?_
      refine Wa_iload 0 dX6_findChanged_73 rfl ?_
      obtain ⟨q12, h⟩ := h
      refine Wa_iast k_78 b4 q12 dX6_findChanged_75 ?_
      refine Wa_aload_n 2 dX6_findChanged_76 rfl rfl ?_
      refine Wa_getR cf_X6 lk_X6_29 k_71 (j := 5) rfl (by decide) dX6_findChanged_77 ?_
      refine Wa_iconst (z := 1) dX6_findChanged_80 ?_
      refine Wa_aald k_77 ⟨by decide, by decide⟩ dX6_findChanged_81 ?_
      refine Wa_iload 0 dX6_findChanged_82 rfl ?_
      refine Wa_iload 1 dX6_findChanged_84 rfl ?_
      obtain ⟨q13, h⟩ := h
      refine Wa_iast k_79 b6 q13 dX6_findChanged_86 ?_
      refine Wa_iinc (ls' := [(8, vI (l8 + 1)), (10, vI (l5 + l8)), (9, vI (l3 + l8)), (0, vR 71), (1, vR 5), (2, vR 57), (3, vI l3), (5, vI l5), (7, vI l7)]) 8 dX6_findChanged_87 rfl (by decide) rfl ?_
      refine Wa_goto (tgt := 17) dX6_findChanged_90 (by decide) ?_
      refine Wa_sub [3, 4, 5, 6, 7, 8, 0] rfl ?_
      exact h
theorem en_X6_findChanged {g : AG} {d : Nat} {l3 : Int} {l4 : Int} {l5 : Int} {l6 : Int} {M : AM} {Q : AM → Prop} (h : S_X6_findChanged_0 g d l3 l4 l5 l6 M Q) : MetV g mX6_findChanged d [vR 71, vR 5, vR 57, vI l3, vI l4, vI l5, vI l6] M Q := MetA.of (by decide) (Nat.le_of_ble_eq_true rfl) h
def S_X6_addDropped_0 (g : AG) (d : Nat) (l1 : Int) (l2 : Int) (M : AM) (Q : AM → Prop) : Prop := Wa g mX6_addDropped d 0 [(0, vR 71), (1, vI l1), (2, vI l2)] [] M (QV Q)
def S_X6_addDropped_2 (g : AG) (d : Nat) (l2 : Int) (l3 : Int) (M : AM) (Q : AM → Prop) : Prop := Wa g mX6_addDropped d 2 [(0, vR 71), (2, vI l2), (3, vI l3)] [] M (QV Q)
set_option maxRecDepth 100000 in
theorem sg_X6_addDropped_0 {g : AG} {d : Nat} {l1 : Int} {l2 : Int} {M : AM} {Q : AM → Prop} 
  (h : S_X6_addDropped_2 g (d + 1) l2 l1 M Q) : S_X6_addDropped_0 g (d + 1) l1 l2 M Q := by
  show Wa _ _ _ _ _ _ _ _
  refine Wa_iload_n 1 dX6_addDropped_0 rfl rfl ?_
  refine Wa_istore_n (ls' := [(3, vI l1), (0, vR 71), (1, vI l1), (2, vI l2)]) dX6_addDropped_1 rfl (by decide) rfl ?_
  refine Wa_sub [1, 3, 0] rfl ?_
  exact h
set_option maxRecDepth 100000 in
theorem sg_X6_addDropped_2 {g : AG} {d : Nat} {l2 : Int} {l3 : Int} {M : AM} {Q : AM → Prop} 
  (h : rg l3 ∧ (rg l2 ∧ ((l2 ≤ l3 → (Q M)) ∧ (¬ l2 ≤ l3 → ((0 ≤ l3 ∧ l3 < 8) ∧ ((¬ (M 78 (l3).toNat) = (-1) → (S_X6_addDropped_2 g (d + 1) l2 (l3 + 1) M Q)) ∧ ((M 78 (l3).toNat) = (-1) → (MetV g mX6_addStep d [vR 71, vI 1, vI l3, vI (-1), vF FP.fconst0, vI (M 71 7)] M (fun M8 => S_X6_addDropped_2 g (d + 1) l2 (l3 + 1) M8 Q))))))))) : S_X6_addDropped_2 g (d + 1) l2 l3 M Q := by
  show Wa _ _ _ _ _ _ _ _
  refine Wa_iload_n 2 dX6_addDropped_2 rfl rfl ?_
  refine Wa_iload_n 1 dX6_addDropped_3 rfl rfl ?_
  obtain ⟨q1, h⟩ := h
  obtain ⟨q2, h⟩ := h
  refine Wa_icmp_ge (tgt := 37) dX6_addDropped_4 (by decide) q1 q2 (fun c3 => ?_) (fun c3 => ?_)
  · have h := h.1 c3
    exact Wa_return dX6_addDropped_37 rfl ⟨rfl, h⟩
  · have h := h.2 c3
    refine Wa_aload_n 0 dX6_addDropped_7 rfl rfl ?_
    refine Wa_getR cf_X6 lk_X6_29 k_71 (j := 5) rfl (by decide) dX6_addDropped_8 ?_
    refine Wa_iconst (z := 0) dX6_addDropped_11 ?_
    refine Wa_aald k_77 ⟨by decide, by decide⟩ dX6_addDropped_12 ?_
    refine Wa_iload_n 2 dX6_addDropped_13 rfl rfl ?_
    obtain ⟨b4, h⟩ := h
    refine Wa_iald2 (v := (M 78 (l3).toNat)) k_78 b4 rfl dX6_addDropped_14 (fun r5 => ?_)
    refine Wa_iconst (z := (-1)) dX6_addDropped_15 ?_
    refine Wa_icmp_ne (tgt := 31) dX6_addDropped_16 (by decide) r5 ⟨by decide, by decide⟩ (fun c6 => ?_) (fun c6 => ?_)
    · have h := h.1 c6
      refine Wa_iinc (ls' := [(3, vI (l3 + 1)), (0, vR 71), (2, vI l2)]) 2 dX6_addDropped_31 rfl (by decide) rfl ?_
      refine Wa_goto (tgt := 2) dX6_addDropped_34 (by decide) ?_
      refine Wa_sub [1, 2, 0] rfl ?_
      exact h
    · have h := h.2 c6
      refine Wa_aload_n 0 dX6_addDropped_19 rfl rfl ?_
      refine Wa_iconst (z := 1) dX6_addDropped_20 ?_
      refine Wa_iload_n 2 dX6_addDropped_21 rfl rfl ?_
      refine Wa_iconst (z := (-1)) dX6_addDropped_22 ?_
      refine Wa_fconst0 dX6_addDropped_23 ?_
      refine Wa_aload_n 0 dX6_addDropped_24 rfl rfl ?_
      refine Wa_getI2 (v := (M 71 7)) cf_X6 lk_X6_36 k_71 (j := 7) rfl (by decide) rfl dX6_addDropped_25 (fun r7 => ?_)
      refine Wa_callV [vI 1, vI l3, vI (-1), vF FP.fconst0, vI (M 71 7)] _ cf_X6 rfl k_71 lc_X6_65 cv_X6_addStep rfl rfl (Nat.le_refl _) (Nat.le_of_ble_eq_true rfl) dX6_addDropped_28 h ?_
      intro r M8 h
      obtain ⟨rfl, h⟩ := h
      refine Wa_iinc (ls' := [(3, vI (l3 + 1)), (0, vR 71), (2, vI l2)]) 2 dX6_addDropped_31 rfl (by decide) rfl ?_
      refine Wa_goto (tgt := 2) dX6_addDropped_34 (by decide) ?_
      refine Wa_sub [1, 2, 0] rfl ?_
      exact h
theorem en_X6_addDropped {g : AG} {d : Nat} {l1 : Int} {l2 : Int} {M : AM} {Q : AM → Prop} (h : S_X6_addDropped_0 g d l1 l2 M Q) : MetV g mX6_addDropped d [vR 71, vI l1, vI l2] M Q := MetA.of (by decide) (Nat.le_of_ble_eq_true rfl) h
def S_X6_addAdded_0 (g : AG) (d : Nat) (l3 : Int) (l4 : Int) (M : AM) (Q : AM → Prop) : Prop := Wa g mX6_addAdded d 0 [(0, vR 71), (1, vR 5), (2, vR 57), (3, vI l3), (4, vI l4)] [] M (QV Q)
def S_X6_addAdded_3 (g : AG) (d : Nat) (l4 : Int) (l5 : Int) (M : AM) (Q : AM → Prop) : Prop := Wa g mX6_addAdded d 3 [(0, vR 71), (1, vR 5), (2, vR 57), (4, vI l4), (5, vI l5)] [] M (QV Q)
set_option maxRecDepth 100000 in
theorem sg_X6_addAdded_0 {g : AG} {d : Nat} {l3 : Int} {l4 : Int} {M : AM} {Q : AM → Prop} 
  (h : S_X6_addAdded_3 g (d + 1) l4 l3 M Q) : S_X6_addAdded_0 g (d + 1) l3 l4 M Q := by
  show Wa _ _ _ _ _ _ _ _
  refine Wa_iload_n 3 dX6_addAdded_0 rfl rfl ?_
  refine Wa_istore (ls' := [(5, vI l3), (0, vR 71), (1, vR 5), (2, vR 57), (3, vI l3), (4, vI l4)]) dX6_addAdded_1 (by decide) rfl ?_
  refine Wa_sub [1, 2, 3, 5, 0] rfl ?_
  exact h
set_option maxRecDepth 100000 in
theorem sg_X6_addAdded_3 {g : AG} {d : Nat} {l4 : Int} {l5 : Int} {M : AM} {Q : AM → Prop} 
  (h : rg l5 ∧ (rg l4 ∧ ((l4 ≤ l5 → (Q M)) ∧ (¬ l4 ≤ l5 → ((0 ≤ l5 ∧ l5 < 8) ∧ ((¬ (M 79 (l5).toNat) = (-1) → ((0 ≤ (M 79 (l5).toNat) ∧ (M 79 (l5).toNat) < 8) ∧ (MetF g mX1_fraction d [vR 57, vI (M 7 ((M 79 (l5).toNat)).toNat), vI (M 8 (l5).toNat)] M (fun z11 M10 => ((fCmp z11 1061158912 .l) < 0 → (MetV g mX6_addStep d [vR 71, vI 3, vI (M 79 (l5).toNat), vI l5, vF z11, vI (M10 71 7)] M10 (fun M15 => S_X6_addAdded_3 g (d + 1) l4 (l5 + 1) M15 Q))) ∧ (¬ (fCmp z11 1061158912 .l) < 0 → (MetV g mX6_addStep d [vR 71, vI 4, vI (M 79 (l5).toNat), vI l5, vF z11, vI (M10 71 7)] M10 (fun M19 => S_X6_addAdded_3 g (d + 1) l4 (l5 + 1) M19 Q))))))) ∧ ((M 79 (l5).toNat) = (-1) → (MetV g mX6_addStep d [vR 71, vI 2, vI (-1), vI l5, vF FP.fconst0, vI (M 71 7)] M (fun M23 => S_X6_addAdded_3 g (d + 1) l4 (l5 + 1) M23 Q))))))))) : S_X6_addAdded_3 g (d + 1) l4 l5 M Q := by
  show Wa _ _ _ _ _ _ _ _
  refine Wa_iload 4 dX6_addAdded_3 rfl ?_
  refine Wa_iload 3 dX6_addAdded_5 rfl ?_
  obtain ⟨q1, h⟩ := h
  obtain ⟨q2, h⟩ := h
  refine Wa_icmp_ge (tgt := 100) dX6_addAdded_7 (by decide) q1 q2 (fun c3 => ?_) (fun c3 => ?_)
  · have h := h.1 c3
    exact Wa_return dX6_addAdded_100 rfl ⟨rfl, h⟩
  · have h := h.2 c3
    refine Wa_aload_n 0 dX6_addAdded_10 rfl rfl ?_
    refine Wa_getR cf_X6 lk_X6_29 k_71 (j := 5) rfl (by decide) dX6_addAdded_11 ?_
    refine Wa_iconst (z := 1) dX6_addAdded_14 ?_
    refine Wa_aald k_77 ⟨by decide, by decide⟩ dX6_addAdded_15 ?_
    refine Wa_iload 4 dX6_addAdded_16 rfl ?_
    obtain ⟨b4, h⟩ := h
    refine Wa_iald2 (v := (M 79 (l5).toNat)) k_79 b4 rfl dX6_addAdded_18 (fun r5 => ?_)
    refine Wa_istore (ls' := [(6, vI (M 79 (l5).toNat)), (0, vR 71), (1, vR 5), (2, vR 57), (4, vI l4), (5, vI l5)]) dX6_addAdded_19 (by decide) rfl ?_
    refine Wa_iload 0 dX6_addAdded_21 rfl ?_
    refine Wa_iconst (z := (-1)) dX6_addAdded_23 ?_
    refine Wa_icmp_ne (tgt := 43) dX6_addAdded_24 (by decide) r5 ⟨by decide, by decide⟩ (fun c6 => ?_) (fun c6 => ?_)
    · have h := h.1 c6
      refine Wa_aload_n 3 dX6_addAdded_43 rfl rfl ?_
      refine Wa_aload_n 2 dX6_addAdded_44 rfl rfl ?_
      refine Wa_getR cf_X7 lk_X6_78 k_5 (j := 0) rfl (by decide) dX6_addAdded_45 ?_
      refine Wa_iconst (z := 0) dX6_addAdded_48 ?_
      refine Wa_aald k_6 ⟨by decide, by decide⟩ dX6_addAdded_49 ?_
      refine Wa_iload 0 dX6_addAdded_50 rfl ?_
      obtain ⟨b7, h⟩ := h
      refine Wa_iald2 (v := (M 7 ((M 79 (l5).toNat)).toNat)) k_7 b7 rfl dX6_addAdded_52 (fun r8 => ?_)
      refine Wa_aload_n 2 dX6_addAdded_53 rfl rfl ?_
      refine Wa_getR cf_X7 lk_X6_78 k_5 (j := 0) rfl (by decide) dX6_addAdded_54 ?_
      refine Wa_iconst (z := 1) dX6_addAdded_57 ?_
      refine Wa_aald k_6 ⟨by decide, by decide⟩ dX6_addAdded_58 ?_
      refine Wa_iload 5 dX6_addAdded_59 rfl ?_
      refine Wa_iald2 (v := (M 8 (l5).toNat)) k_8 b4 rfl dX6_addAdded_61 (fun r9 => ?_)
      refine Wa_callV [vI (M 7 ((M 79 (l5).toNat)).toNat), vI (M 8 (l5).toNat)] _ cf_X1 rfl k_57 lc_X6_81 cv_X1_fraction rfl rfl (Nat.le_refl _) (Nat.le_of_ble_eq_true rfl) dX6_addAdded_62 h ?_
      intro r M10 h
      obtain ⟨z11, rfl, h⟩ := h
      refine Wa_fstore (ls' := [(7, vF z11), (6, vI (M 79 (l5).toNat)), (0, vR 71), (1, vR 5), (2, vR 57), (4, vI l4), (5, vI l5)]) dX6_addAdded_65 (by decide) rfl ?_
      refine Wa_aload_n 2 dX6_addAdded_67 rfl rfl ?_
      refine Wa_fload 0 dX6_addAdded_68 rfl ?_
      refine Wa_ldcf (z := 1061158912) dX6_addAdded_70 kc_X6_88 ?_
      refine Wa_fcmp dX6_addAdded_72 ?_
      refine Wa_if_lt (tgt := 80) dX6_addAdded_73 (by decide) (rg_toInt _) (fun c13 => ?_) (fun c13 => ?_)
      · have h := h.1 c13
        refine Wa_iconst (z := 3) dX6_addAdded_80 ?_
        refine Wa_iload 1 dX6_addAdded_81 rfl ?_
        refine Wa_iload 6 dX6_addAdded_83 rfl ?_
        refine Wa_fload 0 dX6_addAdded_85 rfl ?_
        refine Wa_aload_n 2 dX6_addAdded_87 rfl rfl ?_
        refine Wa_getI2 (v := (M10 71 7)) cf_X6 lk_X6_36 k_71 (j := 7) rfl (by decide) rfl dX6_addAdded_88 (fun r14 => ?_)
        refine Wa_callV [vI 3, vI (M 79 (l5).toNat), vI l5, vF z11, vI (M10 71 7)] _ cf_X6 rfl k_71 lc_X6_65 cv_X6_addStep rfl rfl (Nat.le_refl _) (Nat.le_of_ble_eq_true rfl) dX6_addAdded_91 h ?_
        intro r M15 h
        obtain ⟨rfl, h⟩ := h
        refine Wa_iinc (ls' := [(5, vI (l5 + 1)), (7, vF z11), (6, vI (M 79 (l5).toNat)), (0, vR 71), (1, vR 5), (2, vR 57), (4, vI l4)]) 6 dX6_addAdded_94 rfl (by decide) rfl ?_
        refine Wa_goto (tgt := 3) dX6_addAdded_97 (by decide) ?_
        refine Wa_sub [3, 4, 5, 6, 0] rfl ?_
        exact h
      · have h := h.2 c13
        refine Wa_iconst (z := 4) dX6_addAdded_76 ?_
        refine Wa_goto (tgt := 81) dX6_addAdded_77 (by decide) ?_
        refine Wa_iload 1 dX6_addAdded_81 rfl ?_
        refine Wa_iload 6 dX6_addAdded_83 rfl ?_
        refine Wa_fload 0 dX6_addAdded_85 rfl ?_
        refine Wa_aload_n 2 dX6_addAdded_87 rfl rfl ?_
        refine Wa_getI2 (v := (M10 71 7)) cf_X6 lk_X6_36 k_71 (j := 7) rfl (by decide) rfl dX6_addAdded_88 (fun r18 => ?_)
        refine Wa_callV [vI 4, vI (M 79 (l5).toNat), vI l5, vF z11, vI (M10 71 7)] _ cf_X6 rfl k_71 lc_X6_65 cv_X6_addStep rfl rfl (Nat.le_refl _) (Nat.le_of_ble_eq_true rfl) dX6_addAdded_91 h ?_
        intro r M19 h
        obtain ⟨rfl, h⟩ := h
        refine Wa_iinc (ls' := [(5, vI (l5 + 1)), (7, vF z11), (6, vI (M 79 (l5).toNat)), (0, vR 71), (1, vR 5), (2, vR 57), (4, vI l4)]) 6 dX6_addAdded_94 rfl (by decide) rfl ?_
        refine Wa_goto (tgt := 3) dX6_addAdded_97 (by decide) ?_
        refine Wa_sub [3, 4, 5, 6, 0] rfl ?_
        exact h
    · have h := h.2 c6
      refine Wa_aload_n 1 dX6_addAdded_27 rfl rfl ?_
      refine Wa_iconst (z := 2) dX6_addAdded_28 ?_
      refine Wa_iconst (z := (-1)) dX6_addAdded_29 ?_
      refine Wa_iload 5 dX6_addAdded_30 rfl ?_
      refine Wa_fconst0 dX6_addAdded_32 ?_
      refine Wa_aload_n 1 dX6_addAdded_33 rfl rfl ?_
      refine Wa_getI2 (v := (M 71 7)) cf_X6 lk_X6_36 k_71 (j := 7) rfl (by decide) rfl dX6_addAdded_34 (fun r22 => ?_)
      refine Wa_callV [vI 2, vI (-1), vI l5, vF FP.fconst0, vI (M 71 7)] _ cf_X6 rfl k_71 lc_X6_65 cv_X6_addStep rfl rfl (Nat.le_refl _) (Nat.le_of_ble_eq_true rfl) dX6_addAdded_37 h ?_
      intro r M23 h
      obtain ⟨rfl, h⟩ := h
      refine Wa_goto (tgt := 94) dX6_addAdded_40 (by decide) ?_
      refine Wa_iinc (ls' := [(5, vI (l5 + 1)), (6, vI (M 79 (l5).toNat)), (0, vR 71), (1, vR 5), (2, vR 57), (4, vI l4)]) 5 dX6_addAdded_94 rfl (by decide) rfl ?_
      refine Wa_goto (tgt := 3) dX6_addAdded_97 (by decide) ?_
      refine Wa_sub [2, 3, 4, 5, 0] rfl ?_
      exact h
theorem en_X6_addAdded {g : AG} {d : Nat} {l3 : Int} {l4 : Int} {M : AM} {Q : AM → Prop} (h : S_X6_addAdded_0 g d l3 l4 M Q) : MetV g mX6_addAdded d [vR 71, vR 5, vR 57, vI l3, vI l4] M Q := MetA.of (by decide) (Nat.le_of_ble_eq_true rfl) h
def S_X6_addStep_0 (g : AG) (d : Nat) (l1 : Int) (l2 : Int) (l3 : Int) (l4 : UInt32) (l5 : Int) (M : AM) (Q : AM → Prop) : Prop := Wa g mX6_addStep d 0 [(0, vR 71), (1, vI l1), (2, vI l2), (3, vI l3), (4, vF l4), (5, vI l5)] [] M (QV Q)
set_option maxRecDepth 100000 in
theorem sg_X6_addStep_0 {g : AG} {d : Nat} {l1 : Int} {l2 : Int} {l3 : Int} {l4 : UInt32} {l5 : Int} {M : AM} {Q : AM → Prop} 
  (h : ((M 71 6) < 16 → ((0 ≤ (M 71 6) ∧ (M 71 6) < 16) ∧ (rg l1 ∧ (rg l2 ∧ (rg l3 ∧ (MetI g mX8_singleBits d [vF l4] (mU (mU (mU M 72 ((M 71 6)).toNat l1) 73 ((M 71 6)).toNat l2) 74 ((M 71 6)).toNat l3) (fun z12 M11 => rg z12 → ((0 ≤ (M11 71 6) ∧ (M11 71 6) < 16) ∧ (rg l5 ∧ (rg ((M11 71 6) + 1) ∧ (Q (mU (mU (mU M11 75 ((M 71 6)).toNat z12) 76 ((M11 71 6)).toNat l5) 71 6 ((M11 71 6) + 1))))))))))))) ∧ (¬ (M 71 6) < 16 → (Q M))) : S_X6_addStep_0 g (d + 1) l1 l2 l3 l4 l5 M Q := by
  show Wa _ _ _ _ _ _ _ _
  refine Wa_aload_n 0 dX6_addStep_0 rfl rfl ?_
  refine Wa_getI2 (v := (M 71 6)) cf_X6 lk_X6_32 k_71 (j := 6) rfl (by decide) rfl dX6_addStep_1 (fun r1 => ?_)
  refine Wa_aload_n 0 dX6_addStep_4 rfl rfl ?_
  refine Wa_getR cf_X6 lk_X6_9 k_71 (j := 0) rfl (by decide) dX6_addStep_5 ?_
  refine Wa_alen k_72 dX6_addStep_8 ?_
  refine Wa_icmp_lt (tgt := 13) dX6_addStep_9 (by decide) r1 ⟨by decide, by decide⟩ (fun c2 => ?_) (fun c2 => ?_)
  · have h := h.1 c2
    refine Wa_aload_n 0 dX6_addStep_13 rfl rfl ?_
    refine Wa_getR cf_X6 lk_X6_9 k_71 (j := 0) rfl (by decide) dX6_addStep_14 ?_
    refine Wa_aload_n 0 dX6_addStep_17 rfl rfl ?_
    refine Wa_getI2 (v := (M 71 6)) cf_X6 lk_X6_32 k_71 (j := 6) rfl (by decide) rfl dX6_addStep_18 (fun r3 => ?_)
    refine Wa_iload_n 1 dX6_addStep_21 rfl rfl ?_
    obtain ⟨b4, h⟩ := h
    obtain ⟨q5, h⟩ := h
    refine Wa_iast k_72 b4 q5 dX6_addStep_22 ?_
    refine Wa_aload_n 0 dX6_addStep_23 rfl rfl ?_
    refine Wa_getR cf_X6 lk_X6_15 k_71 (j := 1) rfl (by decide) dX6_addStep_24 ?_
    refine Wa_aload_n 0 dX6_addStep_27 rfl rfl ?_
    refine Wa_getI2 (v := (M 71 6)) cf_X6 lk_X6_32 k_71 (j := 6) rfl (by decide) (mU_rd (by decide)) dX6_addStep_28 (fun r6 => ?_)
    refine Wa_iload_n 2 dX6_addStep_31 rfl rfl ?_
    obtain ⟨q7, h⟩ := h
    refine Wa_iast k_73 b4 q7 dX6_addStep_32 ?_
    refine Wa_aload_n 0 dX6_addStep_33 rfl rfl ?_
    refine Wa_getR cf_X6 lk_X6_18 k_71 (j := 2) rfl (by decide) dX6_addStep_34 ?_
    refine Wa_aload_n 0 dX6_addStep_37 rfl rfl ?_
    refine Wa_getI2 (v := (M 71 6)) cf_X6 lk_X6_32 k_71 (j := 6) rfl (by decide) ((mU_rd (by decide)).trans (mU_rd (by decide))) dX6_addStep_38 (fun r8 => ?_)
    refine Wa_iload_n 3 dX6_addStep_41 rfl rfl ?_
    obtain ⟨q9, h⟩ := h
    refine Wa_iast k_74 b4 q9 dX6_addStep_42 ?_
    refine Wa_aload_n 0 dX6_addStep_43 rfl rfl ?_
    refine Wa_getR cf_X6 lk_X6_21 k_71 (j := 3) rfl (by decide) dX6_addStep_44 ?_
    refine Wa_aload_n 0 dX6_addStep_47 rfl rfl ?_
    refine Wa_getI2 (v := (M 71 6)) cf_X6 lk_X6_32 k_71 (j := 6) rfl (by decide) ((mU_rd (by decide)).trans ((mU_rd (by decide)).trans (mU_rd (by decide)))) dX6_addStep_48 (fun r10 => ?_)
    refine Wa_fload 4 dX6_addStep_51 rfl ?_
    refine Wa_callS [vF l4] _ lc_X6_89 cs_X8_singleBits rfl rfl (Nat.le_refl _) (Nat.le_of_ble_eq_true rfl) dX6_addStep_53 h ?_
    intro r M11 h
    obtain ⟨z12, rfl, r13, h⟩ := h
    have h := h r13
    refine Wa_iast k_75 b4 r13 dX6_addStep_56 ?_
    refine Wa_aload_n 0 dX6_addStep_57 rfl rfl ?_
    refine Wa_getR cf_X6 lk_X6_24 k_71 (j := 4) rfl (by decide) dX6_addStep_58 ?_
    refine Wa_aload_n 0 dX6_addStep_61 rfl rfl ?_
    refine Wa_getI2 (v := (M11 71 6)) cf_X6 lk_X6_32 k_71 (j := 6) rfl (by decide) (mU_rd (by decide)) dX6_addStep_62 (fun r14 => ?_)
    refine Wa_iload 5 dX6_addStep_65 rfl ?_
    obtain ⟨b15, h⟩ := h
    obtain ⟨q16, h⟩ := h
    refine Wa_iast k_76 b15 q16 dX6_addStep_67 ?_
    refine Wa_aload_n 0 dX6_addStep_68 rfl rfl ?_
    refine Wa_dup dX6_addStep_69 rfl ?_
    refine Wa_getI2 (v := (M11 71 6)) cf_X6 lk_X6_32 k_71 (j := 6) rfl (by decide) ((mU_rd (by decide)).trans (mU_rd (by decide))) dX6_addStep_70 (fun r17 => ?_)
    refine Wa_iconst (z := 1) dX6_addStep_73 ?_
    refine Wa_iadd dX6_addStep_74 ?_
    obtain ⟨q18, h⟩ := h
    refine Wa_putI cf_X6 lk_X6_32 k_71 (j := 6) rfl (by decide) rfl rfl q18 dX6_addStep_75 ?_
    exact Wa_return dX6_addStep_78 rfl ⟨rfl, h⟩
  · have h := h.2 c2
    exact Wa_return dX6_addStep_12 rfl ⟨rfl, h⟩
theorem en_X6_addStep {g : AG} {d : Nat} {l1 : Int} {l2 : Int} {l3 : Int} {l4 : UInt32} {l5 : Int} {M : AM} {Q : AM → Prop} (h : S_X6_addStep_0 g d l1 l2 l3 l4 l5 M Q) : MetV g mX6_addStep d [vR 71, vI l1, vI l2, vI l3, vF l4, vI l5] M Q := MetA.of (by decide) (Nat.le_of_ble_eq_true rfl) h
