def S_X9_lettersOf_0 (g : AG) (d : Nat) (l0 : Int) (M : AM) (Q : Int → AM → Prop) : Prop := Wa g mX9_lettersOf d 0 [(0, vI l0)] [] M (QI Q)
set_option maxRecDepth 100000 in
theorem sg_X9_lettersOf_0 {g : AG} {d : Nat} {l0 : Int} {M : AM} {Q : Int → AM → Prop} 
  (h : rg l0 ∧ ((128 ≤ l0 → ((16384 ≤ l0 → (Q 3 M)) ∧ (¬ 16384 ≤ l0 → (Q 2 M)))) ∧ (¬ 128 ≤ l0 → (Q 1 M)))) : S_X9_lettersOf_0 g (d + 1) l0 M Q := by
  show Wa _ _ _ _ _ _ _ _
  refine Wa_iload_n 0 dX9_lettersOf_0 rfl rfl ?_
  refine Wa_sipush (z := 128) dX9_lettersOf_1 (by decide) ?_
  obtain ⟨q1, h⟩ := h
  refine Wa_icmp_ge (tgt := 11) dX9_lettersOf_4 (by decide) q1 ⟨by decide, by decide⟩ (fun c2 => ?_) (fun c2 => ?_)
  · have h := h.1 c2
    refine Wa_iload_n 0 dX9_lettersOf_11 rfl rfl ?_
    refine Wa_sipush (z := 16384) dX9_lettersOf_12 (by decide) ?_
    refine Wa_icmp_ge (tgt := 22) dX9_lettersOf_15 (by decide) q1 ⟨by decide, by decide⟩ (fun c3 => ?_) (fun c3 => ?_)
    · have h := h.1 c3
      refine Wa_iconst (z := 3) dX9_lettersOf_22 ?_
      exact Wa_ireturn dX9_lettersOf_23 rfl ⟨_, rfl, ⟨by decide, by decide⟩, h⟩
    · have h := h.2 c3
      refine Wa_iconst (z := 2) dX9_lettersOf_18 ?_
      refine Wa_goto (tgt := 23) dX9_lettersOf_19 (by decide) ?_
      exact Wa_ireturn dX9_lettersOf_23 rfl ⟨_, rfl, ⟨by decide, by decide⟩, h⟩
  · have h := h.2 c2
    refine Wa_iconst (z := 1) dX9_lettersOf_7 ?_
    refine Wa_goto (tgt := 23) dX9_lettersOf_8 (by decide) ?_
    exact Wa_ireturn dX9_lettersOf_23 rfl ⟨_, rfl, ⟨by decide, by decide⟩, h⟩
theorem en_X9_lettersOf {g : AG} {d : Nat} {l0 : Int} {M : AM} {Q : Int → AM → Prop} (h : S_X9_lettersOf_0 g d l0 M Q) : MetI g mX9_lettersOf d [vI l0] M Q := MetA.of (by decide) (Nat.le_of_ble_eq_true rfl) h
def S_X9_letterOf_0 (g : AG) (d : Nat) (l0 : Int) (l1 : Int) (M : AM) (Q : Int → AM → Prop) : Prop := Wa g mX9_letterOf d 0 [(0, vI l0), (1, vI l1)] [] M (QI Q)
def S_X9_letterOf_9 (g : AG) (d : Nat) (l1 : Int) (l2 : Int) (l3 : Int) (M : AM) (Q : Int → AM → Prop) : Prop := Wa g mX9_letterOf d 9 [(1, vI l1), (2, vI l2), (3, vI l3)] [] M (QI Q)
set_option maxRecDepth 100000 in
theorem sg_X9_letterOf_0 {g : AG} {d : Nat} {l0 : Int} {l1 : Int} {M : AM} {Q : Int → AM → Prop} 
  (h : rg l0 ∧ (MetI g mX9_lettersOf d [vI l0] M (fun z3 M2 => rg z3 → (S_X9_letterOf_9 g (d + 1) l1 l0 (z3 - 1) M2 Q)))) : S_X9_letterOf_0 g (d + 1) l0 l1 M Q := by
  show Wa _ _ _ _ _ _ _ _
  refine Wa_iload_n 0 dX9_letterOf_0 rfl rfl ?_
  refine Wa_istore_n (ls' := [(2, vI l0), (0, vI l0), (1, vI l1)]) dX9_letterOf_1 rfl (by decide) rfl ?_
  refine Wa_iload_n 1 dX9_letterOf_2 rfl rfl ?_
  obtain ⟨q1, h⟩ := h
  refine Wa_callS [vI l0] _ lc_X9_177 cs_X9_lettersOf rfl rfl (Nat.le_refl _) (Nat.le_of_ble_eq_true rfl) dX9_letterOf_3 h ?_
  intro r M2 h
  obtain ⟨z3, rfl, r4, h⟩ := h
  have h := h r4
  refine Wa_iconst (z := 1) dX9_letterOf_6 ?_
  refine Wa_isub dX9_letterOf_7 ?_
  refine Wa_istore_n (ls' := [(3, vI (z3 - 1)), (2, vI l0), (0, vI l0), (1, vI l1)]) dX9_letterOf_8 rfl (by decide) rfl ?_
  refine Wa_sub [3, 1, 0] rfl ?_
  exact h
set_option maxRecDepth 100000 in
theorem sg_X9_letterOf_9 {g : AG} {d : Nat} {l1 : Int} {l2 : Int} {l3 : Int} {M : AM} {Q : Int → AM → Prop} 
  (h : rg l3 ∧ (rg l1 ∧ ((l3 ≤ l1 → (Q (iRem l2 128) M)) ∧ (¬ l3 ≤ l1 → (S_X9_letterOf_9 g (d + 1) l1 (iDiv l2 128) (l3 + (-1)) M Q))))) : S_X9_letterOf_9 g (d + 1) l1 l2 l3 M Q := by
  show Wa _ _ _ _ _ _ _ _
  refine Wa_iload_n 2 dX9_letterOf_9 rfl rfl ?_
  refine Wa_iload_n 0 dX9_letterOf_10 rfl rfl ?_
  obtain ⟨q1, h⟩ := h
  obtain ⟨q2, h⟩ := h
  refine Wa_icmp_le (tgt := 26) dX9_letterOf_11 (by decide) q1 q2 (fun c3 => ?_) (fun c3 => ?_)
  · have h := h.1 c3
    refine Wa_iload_n 1 dX9_letterOf_26 rfl rfl ?_
    refine Wa_sipush (z := 128) dX9_letterOf_27 (by decide) ?_
    refine Wa_irem dX9_letterOf_30 (by decide) ?_
    exact Wa_ireturn dX9_letterOf_31 rfl ⟨_, rfl, (rg_toInt _), h⟩
  · have h := h.2 c3
    refine Wa_iload_n 1 dX9_letterOf_14 rfl rfl ?_
    refine Wa_sipush (z := 128) dX9_letterOf_15 (by decide) ?_
    refine Wa_idiv dX9_letterOf_18 (by decide) ?_
    refine Wa_istore_n (ls' := [(2, vI (iDiv l2 128)), (1, vI l1), (3, vI l3)]) dX9_letterOf_19 rfl (by decide) rfl ?_
    refine Wa_iinc (ls' := [(3, vI (l3 + (-1))), (2, vI (iDiv l2 128)), (1, vI l1)]) 2 dX9_letterOf_20 rfl (by decide) rfl ?_
    refine Wa_goto (tgt := 9) dX9_letterOf_23 (by decide) ?_
    refine Wa_sub [2, 1, 0] rfl ?_
    exact h
theorem en_X9_letterOf {g : AG} {d : Nat} {l0 : Int} {l1 : Int} {M : AM} {Q : Int → AM → Prop} (h : S_X9_letterOf_0 g d l0 l1 M Q) : MetI g mX9_letterOf d [vI l0, vI l1] M Q := MetA.of (by decide) (Nat.le_of_ble_eq_true rfl) h
def S_X9_alike_0 (g : AG) (d : Nat) (l1 : Int) (l2 : Int) (M : AM) (Q : Int → AM → Prop) : Prop := Wa g mX9_alike d 0 [(0, vR 88), (1, vI l1), (2, vI l2)] [] M (QI Q)
def S_X9_alike_14 (g : AG) (d : Nat) (l1 : Int) (l2 : Int) (l3 : Int) (l4 : Int) (l5 : Int) (M : AM) (Q : Int → AM → Prop) : Prop := Wa g mX9_alike d 14 [(0, vR 88), (1, vI l1), (2, vI l2), (3, vI l3), (4, vI l4), (5, vI l5)] [] M (QI Q)
def S_X9_alike_22 (g : AG) (d : Nat) (l1 : Int) (l2 : Int) (l3 : Int) (l4 : Int) (l5 : Int) (l6 : Int) (M : AM) (Q : Int → AM → Prop) : Prop := Wa g mX9_alike d 22 [(0, vR 88), (1, vI l1), (2, vI l2), (3, vI l3), (4, vI l4), (5, vI l5), (6, vI l6)] [] M (QI Q)
set_option maxRecDepth 100000 in
theorem sg_X9_alike_0 {g : AG} {d : Nat} {l1 : Int} {l2 : Int} {M : AM} {Q : Int → AM → Prop} 
  (h : rg l1 ∧ (MetI g mX9_lettersOf d [vI l1] M (fun z3 M2 => rg z3 → (rg l2 ∧ (MetI g mX9_lettersOf d [vI l2] M2 (fun z7 M6 => rg z7 → (S_X9_alike_14 g (d + 1) l1 l2 z3 z7 3 M6 Q))))))) : S_X9_alike_0 g (d + 1) l1 l2 M Q := by
  show Wa _ _ _ _ _ _ _ _
  refine Wa_iload_n 1 dX9_alike_0 rfl rfl ?_
  obtain ⟨q1, h⟩ := h
  refine Wa_callS [vI l1] _ lc_X9_177 cs_X9_lettersOf rfl rfl (Nat.le_refl _) (Nat.le_of_ble_eq_true rfl) dX9_alike_1 h ?_
  intro r M2 h
  obtain ⟨z3, rfl, r4, h⟩ := h
  have h := h r4
  refine Wa_istore_n (ls' := [(3, vI z3), (0, vR 88), (1, vI l1), (2, vI l2)]) dX9_alike_4 rfl (by decide) rfl ?_
  refine Wa_iload_n 3 dX9_alike_5 rfl rfl ?_
  obtain ⟨q5, h⟩ := h
  refine Wa_callS [vI l2] _ lc_X9_177 cs_X9_lettersOf rfl rfl (Nat.le_refl _) (Nat.le_of_ble_eq_true rfl) dX9_alike_6 h ?_
  intro r M6 h
  obtain ⟨z7, rfl, r8, h⟩ := h
  have h := h r8
  refine Wa_istore (ls' := [(4, vI z7), (3, vI z3), (0, vR 88), (1, vI l1), (2, vI l2)]) dX9_alike_9 (by decide) rfl ?_
  refine Wa_iconst (z := 3) dX9_alike_11 ?_
  refine Wa_istore (ls' := [(5, vI 3), (4, vI z7), (3, vI z3), (0, vR 88), (1, vI l1), (2, vI l2)]) dX9_alike_12 (by decide) rfl ?_
  refine Wa_sub [3, 4, 5, 2, 1, 0] rfl ?_
  exact h
set_option maxRecDepth 100000 in
theorem sg_X9_alike_14 {g : AG} {d : Nat} {l1 : Int} {l2 : Int} {l3 : Int} {l4 : Int} {l5 : Int} {M : AM} {Q : Int → AM → Prop} 
  (h : rg l5 ∧ ((l5 < 0 → (Q (M 100 0) M)) ∧ (¬ l5 < 0 → (S_X9_alike_22 g (d + 1) l1 l2 l3 l4 l5 3 M Q)))) : S_X9_alike_14 g (d + 1) l1 l2 l3 l4 l5 M Q := by
  show Wa _ _ _ _ _ _ _ _
  refine Wa_iload 5 dX9_alike_14 rfl ?_
  obtain ⟨q1, h⟩ := h
  refine Wa_if_lt (tgt := 153) dX9_alike_16 (by decide) q1 (fun c2 => ?_) (fun c2 => ?_)
  · have h := h.1 c2
    refine Wa_aload_n 0 dX9_alike_153 rfl rfl ?_
    refine Wa_getR cf_X9 lk_X9_43 k_88 (j := 20) rfl (by decide) dX9_alike_154 ?_
    refine Wa_iconst (z := 0) dX9_alike_157 ?_
    refine Wa_iald2 (v := (M 100 0)) k_100 ⟨by decide, by decide⟩ rfl dX9_alike_158 (fun r3 => ?_)
    exact Wa_ireturn dX9_alike_159 rfl ⟨_, rfl, r3, h⟩
  · have h := h.2 c2
    refine Wa_iconst (z := 3) dX9_alike_19 ?_
    refine Wa_istore (ls' := [(6, vI 3), (0, vR 88), (1, vI l1), (2, vI l2), (3, vI l3), (4, vI l4), (5, vI l5)]) dX9_alike_20 (by decide) rfl ?_
    refine Wa_sub [1, 2, 3, 4, 5, 6, 0] rfl ?_
    exact h
set_option maxRecDepth 100000 in
theorem sg_X9_alike_22 {g : AG} {d : Nat} {l1 : Int} {l2 : Int} {l3 : Int} {l4 : Int} {l5 : Int} {l6 : Int} {M : AM} {Q : Int → AM → Prop} 
  (h : rg l6 ∧ ((l6 < 0 → (S_X9_alike_14 g (d + 1) l1 l2 l3 l4 (l5 + (-1)) M Q)) ∧ (¬ l6 < 0 → (rg l5 ∧ (rg l3 ∧ ((l3 ≤ l5 → ((0 ≤ ((4 * l5) + l6) ∧ ((4 * l5) + l6) < 16) ∧ (S_X9_alike_22 g (d + 1) l1 l2 l3 l4 l5 (l6 + (-1)) (mU M 100 (((4 * l5) + l6)).toNat 0) Q))) ∧ (¬ l3 ≤ l5 → (rg l4 ∧ ((l4 ≤ l6 → ((0 ≤ ((4 * l5) + l6) ∧ ((4 * l5) + l6) < 16) ∧ (S_X9_alike_22 g (d + 1) l1 l2 l3 l4 l5 (l6 + (-1)) (mU M 100 (((4 * l5) + l6)).toNat 0) Q))) ∧ (¬ l4 ≤ l6 → ((0 ≤ ((4 * (l5 + 1)) + l6) ∧ ((4 * (l5 + 1)) + l6) < 16) ∧ ((0 ≤ (((4 * l5) + l6) + 1) ∧ (((4 * l5) + l6) + 1) < 16) ∧ (rg l1 ∧ (MetI g mX9_letterOf d [vI l1, vI l5] M (fun z16 M15 => rg z16 → (rg l2 ∧ (MetI g mX9_letterOf d [vI l2, vI l6] M15 (fun z20 M19 => rg z20 → ((¬ z16 = z20 → (((M 100 (((4 * (l5 + 1)) + l6)).toNat) ≤ (M 100 ((((4 * l5) + l6) + 1)).toNat) → ((0 ≤ ((4 * l5) + l6) ∧ ((4 * l5) + l6) < 16) ∧ (S_X9_alike_22 g (d + 1) l1 l2 l3 l4 l5 (l6 + (-1)) (mU M19 100 (((4 * l5) + l6)).toNat (M 100 ((((4 * l5) + l6) + 1)).toNat)) Q))) ∧ (¬ (M 100 (((4 * (l5 + 1)) + l6)).toNat) ≤ (M 100 ((((4 * l5) + l6) + 1)).toNat) → ((0 ≤ ((4 * l5) + l6) ∧ ((4 * l5) + l6) < 16) ∧ (S_X9_alike_22 g (d + 1) l1 l2 l3 l4 l5 (l6 + (-1)) (mU M19 100 (((4 * l5) + l6)).toNat (M 100 (((4 * (l5 + 1)) + l6)).toNat)) Q))))) ∧ (z16 = z20 → ((0 ≤ (((4 * (l5 + 1)) + l6) + 1) ∧ (((4 * (l5 + 1)) + l6) + 1) < 16) ∧ ((0 ≤ ((4 * l5) + l6) ∧ ((4 * l5) + l6) < 16) ∧ (rg (1 + (M19 100 ((((4 * (l5 + 1)) + l6) + 1)).toNat)) ∧ (S_X9_alike_22 g (d + 1) l1 l2 l3 l4 l5 (l6 + (-1)) (mU M19 100 (((4 * l5) + l6)).toNat (1 + (M19 100 ((((4 * (l5 + 1)) + l6) + 1)).toNat))) Q)))))))))))))))))))))))) : S_X9_alike_22 g (d + 1) l1 l2 l3 l4 l5 l6 M Q := by
  show Wa _ _ _ _ _ _ _ _
  refine Wa_iload 6 dX9_alike_22 rfl ?_
  obtain ⟨q1, h⟩ := h
  refine Wa_if_lt (tgt := 147) dX9_alike_24 (by decide) q1 (fun c2 => ?_) (fun c2 => ?_)
  · have h := h.1 c2
    refine Wa_iinc (ls' := [(5, vI (l5 + (-1))), (0, vR 88), (1, vI l1), (2, vI l2), (3, vI l3), (4, vI l4), (6, vI l6)]) 5 dX9_alike_147 rfl (by decide) rfl ?_
    refine Wa_goto (tgt := 14) dX9_alike_150 (by decide) ?_
    refine Wa_sub [1, 2, 3, 4, 5, 0] rfl ?_
    exact h
  · have h := h.2 c2
    refine Wa_iconst (z := 0) dX9_alike_27 ?_
    refine Wa_istore (ls' := [(7, vI 0), (0, vR 88), (1, vI l1), (2, vI l2), (3, vI l3), (4, vI l4), (5, vI l5), (6, vI l6)]) dX9_alike_28 (by decide) rfl ?_
    refine Wa_iload 6 dX9_alike_30 rfl ?_
    refine Wa_iload_n 4 dX9_alike_32 rfl rfl ?_
    obtain ⟨q3, h⟩ := h
    obtain ⟨q4, h⟩ := h
    refine Wa_icmp_ge (tgt := 127) dX9_alike_33 (by decide) q3 q4 (fun c5 => ?_) (fun c5 => ?_)
    · have h := h.1 c5
      refine Wa_aload_n 1 dX9_alike_127 rfl rfl ?_
      refine Wa_getR cf_X9 lk_X9_43 k_88 (j := 20) rfl (by decide) dX9_alike_128 ?_
      refine Wa_iconst (z := 4) dX9_alike_131 ?_
      refine Wa_iload 6 dX9_alike_132 rfl ?_
      refine Wa_imul dX9_alike_134 ?_
      refine Wa_iload 7 dX9_alike_135 rfl ?_
      refine Wa_iadd dX9_alike_137 ?_
      refine Wa_iload 0 dX9_alike_138 rfl ?_
      obtain ⟨b6, h⟩ := h
      refine Wa_iast k_100 b6 ⟨by decide, by decide⟩ dX9_alike_140 ?_
      refine Wa_iinc (ls' := [(6, vI (l6 + (-1))), (7, vI 0), (0, vR 88), (1, vI l1), (2, vI l2), (3, vI l3), (4, vI l4), (5, vI l5)]) 7 dX9_alike_141 rfl (by decide) rfl ?_
      refine Wa_goto (tgt := 22) dX9_alike_144 (by decide) ?_
      refine Wa_sub [2, 3, 4, 5, 6, 7, 0] rfl ?_
      exact h
    · have h := h.2 c5
      refine Wa_iload 7 dX9_alike_36 rfl ?_
      refine Wa_iload 5 dX9_alike_38 rfl ?_
      obtain ⟨q7, h⟩ := h
      refine Wa_icmp_ge (tgt := 127) dX9_alike_40 (by decide) q1 q7 (fun c8 => ?_) (fun c8 => ?_)
      · have h := h.1 c8
        refine Wa_aload_n 1 dX9_alike_127 rfl rfl ?_
        refine Wa_getR cf_X9 lk_X9_43 k_88 (j := 20) rfl (by decide) dX9_alike_128 ?_
        refine Wa_iconst (z := 4) dX9_alike_131 ?_
        refine Wa_iload 6 dX9_alike_132 rfl ?_
        refine Wa_imul dX9_alike_134 ?_
        refine Wa_iload 7 dX9_alike_135 rfl ?_
        refine Wa_iadd dX9_alike_137 ?_
        refine Wa_iload 0 dX9_alike_138 rfl ?_
        obtain ⟨b9, h⟩ := h
        refine Wa_iast k_100 b9 ⟨by decide, by decide⟩ dX9_alike_140 ?_
        refine Wa_iinc (ls' := [(6, vI (l6 + (-1))), (7, vI 0), (0, vR 88), (1, vI l1), (2, vI l2), (3, vI l3), (4, vI l4), (5, vI l5)]) 7 dX9_alike_141 rfl (by decide) rfl ?_
        refine Wa_goto (tgt := 22) dX9_alike_144 (by decide) ?_
        refine Wa_sub [2, 3, 4, 5, 6, 7, 0] rfl ?_
        exact h
      · have h := h.2 c8
        refine Wa_aload_n 1 dX9_alike_43 rfl rfl ?_
        refine Wa_getR cf_X9 lk_X9_43 k_88 (j := 20) rfl (by decide) dX9_alike_44 ?_
        refine Wa_iconst (z := 4) dX9_alike_47 ?_
        refine Wa_iload 6 dX9_alike_48 rfl ?_
        refine Wa_iconst (z := 1) dX9_alike_50 ?_
        refine Wa_iadd dX9_alike_51 ?_
        refine Wa_imul dX9_alike_52 ?_
        refine Wa_iload 7 dX9_alike_53 rfl ?_
        refine Wa_iadd dX9_alike_55 ?_
        obtain ⟨b10, h⟩ := h
        refine Wa_iald2 (v := (M 100 (((4 * (l5 + 1)) + l6)).toNat)) k_100 b10 rfl dX9_alike_56 (fun r11 => ?_)
        refine Wa_istore (ls' := [(8, vI (M 100 (((4 * (l5 + 1)) + l6)).toNat)), (7, vI 0), (0, vR 88), (1, vI l1), (2, vI l2), (3, vI l3), (4, vI l4), (5, vI l5), (6, vI l6)]) dX9_alike_57 (by decide) rfl ?_
        refine Wa_aload_n 2 dX9_alike_59 rfl rfl ?_
        refine Wa_getR cf_X9 lk_X9_43 k_88 (j := 20) rfl (by decide) dX9_alike_60 ?_
        refine Wa_iconst (z := 4) dX9_alike_63 ?_
        refine Wa_iload 7 dX9_alike_64 rfl ?_
        refine Wa_imul dX9_alike_66 ?_
        refine Wa_iload 8 dX9_alike_67 rfl ?_
        refine Wa_iadd dX9_alike_69 ?_
        refine Wa_iconst (z := 1) dX9_alike_70 ?_
        refine Wa_iadd dX9_alike_71 ?_
        obtain ⟨b12, h⟩ := h
        refine Wa_iald2 (v := (M 100 ((((4 * l5) + l6) + 1)).toNat)) k_100 b12 rfl dX9_alike_72 (fun r13 => ?_)
        refine Wa_istore (ls' := [(9, vI (M 100 ((((4 * l5) + l6) + 1)).toNat)), (8, vI (M 100 (((4 * (l5 + 1)) + l6)).toNat)), (7, vI 0), (0, vR 88), (1, vI l1), (2, vI l2), (3, vI l3), (4, vI l4), (5, vI l5), (6, vI l6)]) dX9_alike_73 (by decide) rfl ?_
        refine Wa_iload_n 4 dX9_alike_75 rfl rfl ?_
        refine Wa_iload 8 dX9_alike_76 rfl ?_
        obtain ⟨q14, h⟩ := h
        refine Wa_callS [vI l1, vI l5] _ lc_X9_181 cs_X9_letterOf rfl rfl (Nat.le_refl _) (Nat.le_of_ble_eq_true rfl) dX9_alike_78 h ?_
        intro r M15 h
        obtain ⟨z16, rfl, r17, h⟩ := h
        have h := h r17
        refine Wa_iload_n 5 dX9_alike_81 rfl rfl ?_
        refine Wa_iload 9 dX9_alike_82 rfl ?_
        obtain ⟨q18, h⟩ := h
        refine Wa_callS [vI l2, vI l6] _ lc_X9_181 cs_X9_letterOf rfl rfl (Nat.le_refl _) (Nat.le_of_ble_eq_true rfl) dX9_alike_84 h ?_
        intro r M19 h
        obtain ⟨z20, rfl, r21, h⟩ := h
        have h := h r21
        refine Wa_icmp_ne (tgt := 111) dX9_alike_87 (by decide) r17 r21 (fun c22 => ?_) (fun c22 => ?_)
        · have h := h.1 c22
          refine Wa_iload 1 dX9_alike_111 rfl ?_
          refine Wa_iload 0 dX9_alike_113 rfl ?_
          refine Wa_icmp_le (tgt := 123) dX9_alike_115 (by decide) r11 r13 (fun c23 => ?_) (fun c23 => ?_)
          · have h := h.1 c23
            refine Wa_iload 0 dX9_alike_123 rfl ?_
            refine Wa_istore (ls' := [(7, vI (M 100 ((((4 * l5) + l6) + 1)).toNat)), (9, vI (M 100 ((((4 * l5) + l6) + 1)).toNat)), (8, vI (M 100 (((4 * (l5 + 1)) + l6)).toNat)), (0, vR 88), (1, vI l1), (2, vI l2), (3, vI l3), (4, vI l4), (5, vI l5), (6, vI l6)]) dX9_alike_125 (by decide) rfl ?_
            refine Wa_aload_n 3 dX9_alike_127 rfl rfl ?_
            refine Wa_getR cf_X9 lk_X9_43 k_88 (j := 20) rfl (by decide) dX9_alike_128 ?_
            refine Wa_iconst (z := 4) dX9_alike_131 ?_
            refine Wa_iload 8 dX9_alike_132 rfl ?_
            refine Wa_imul dX9_alike_134 ?_
            refine Wa_iload 9 dX9_alike_135 rfl ?_
            refine Wa_iadd dX9_alike_137 ?_
            refine Wa_iload 0 dX9_alike_138 rfl ?_
            obtain ⟨b24, h⟩ := h
            refine Wa_iast k_100 b24 r13 dX9_alike_140 ?_
            refine Wa_iinc (ls' := [(6, vI (l6 + (-1))), (7, vI (M 100 ((((4 * l5) + l6) + 1)).toNat)), (9, vI (M 100 ((((4 * l5) + l6) + 1)).toNat)), (8, vI (M 100 (((4 * (l5 + 1)) + l6)).toNat)), (0, vR 88), (1, vI l1), (2, vI l2), (3, vI l3), (4, vI l4), (5, vI l5)]) 9 dX9_alike_141 rfl (by decide) rfl ?_
            refine Wa_goto (tgt := 22) dX9_alike_144 (by decide) ?_
            refine Wa_sub [4, 5, 6, 7, 8, 9, 0] rfl ?_
            exact h
          · have h := h.2 c23
            refine Wa_iload 1 dX9_alike_118 rfl ?_
            refine Wa_goto (tgt := 125) dX9_alike_120 (by decide) ?_
            refine Wa_istore (ls' := [(7, vI (M 100 (((4 * (l5 + 1)) + l6)).toNat)), (9, vI (M 100 ((((4 * l5) + l6) + 1)).toNat)), (8, vI (M 100 (((4 * (l5 + 1)) + l6)).toNat)), (0, vR 88), (1, vI l1), (2, vI l2), (3, vI l3), (4, vI l4), (5, vI l5), (6, vI l6)]) dX9_alike_125 (by decide) rfl ?_
            refine Wa_aload_n 3 dX9_alike_127 rfl rfl ?_
            refine Wa_getR cf_X9 lk_X9_43 k_88 (j := 20) rfl (by decide) dX9_alike_128 ?_
            refine Wa_iconst (z := 4) dX9_alike_131 ?_
            refine Wa_iload 8 dX9_alike_132 rfl ?_
            refine Wa_imul dX9_alike_134 ?_
            refine Wa_iload 9 dX9_alike_135 rfl ?_
            refine Wa_iadd dX9_alike_137 ?_
            refine Wa_iload 0 dX9_alike_138 rfl ?_
            obtain ⟨b25, h⟩ := h
            refine Wa_iast k_100 b25 r11 dX9_alike_140 ?_
            refine Wa_iinc (ls' := [(6, vI (l6 + (-1))), (7, vI (M 100 (((4 * (l5 + 1)) + l6)).toNat)), (9, vI (M 100 ((((4 * l5) + l6) + 1)).toNat)), (8, vI (M 100 (((4 * (l5 + 1)) + l6)).toNat)), (0, vR 88), (1, vI l1), (2, vI l2), (3, vI l3), (4, vI l4), (5, vI l5)]) 9 dX9_alike_141 rfl (by decide) rfl ?_
            refine Wa_goto (tgt := 22) dX9_alike_144 (by decide) ?_
            refine Wa_sub [4, 5, 6, 7, 8, 9, 0] rfl ?_
            exact h
        · have h := h.2 c22
          refine Wa_iconst (z := 1) dX9_alike_90 ?_
          refine Wa_aload_n 3 dX9_alike_91 rfl rfl ?_
          refine Wa_getR cf_X9 lk_X9_43 k_88 (j := 20) rfl (by decide) dX9_alike_92 ?_
          refine Wa_iconst (z := 4) dX9_alike_95 ?_
          refine Wa_iload 8 dX9_alike_96 rfl ?_
          refine Wa_iconst (z := 1) dX9_alike_98 ?_
          refine Wa_iadd dX9_alike_99 ?_
          refine Wa_imul dX9_alike_100 ?_
          refine Wa_iload 9 dX9_alike_101 rfl ?_
          refine Wa_iadd dX9_alike_103 ?_
          refine Wa_iconst (z := 1) dX9_alike_104 ?_
          refine Wa_iadd dX9_alike_105 ?_
          obtain ⟨b26, h⟩ := h
          refine Wa_iald2 (v := (M19 100 ((((4 * (l5 + 1)) + l6) + 1)).toNat)) k_100 b26 rfl dX9_alike_106 (fun r27 => ?_)
          refine Wa_iadd dX9_alike_107 ?_
          refine Wa_goto (tgt := 125) dX9_alike_108 (by decide) ?_
          refine Wa_istore (ls' := [(7, vI (1 + (M19 100 ((((4 * (l5 + 1)) + l6) + 1)).toNat))), (9, vI (M 100 ((((4 * l5) + l6) + 1)).toNat)), (8, vI (M 100 (((4 * (l5 + 1)) + l6)).toNat)), (0, vR 88), (1, vI l1), (2, vI l2), (3, vI l3), (4, vI l4), (5, vI l5), (6, vI l6)]) dX9_alike_125 (by decide) rfl ?_
          refine Wa_aload_n 3 dX9_alike_127 rfl rfl ?_
          refine Wa_getR cf_X9 lk_X9_43 k_88 (j := 20) rfl (by decide) dX9_alike_128 ?_
          refine Wa_iconst (z := 4) dX9_alike_131 ?_
          refine Wa_iload 8 dX9_alike_132 rfl ?_
          refine Wa_imul dX9_alike_134 ?_
          refine Wa_iload 9 dX9_alike_135 rfl ?_
          refine Wa_iadd dX9_alike_137 ?_
          refine Wa_iload 0 dX9_alike_138 rfl ?_
          obtain ⟨b28, h⟩ := h
          obtain ⟨q29, h⟩ := h
          refine Wa_iast k_100 b28 q29 dX9_alike_140 ?_
          refine Wa_iinc (ls' := [(6, vI (l6 + (-1))), (7, vI (1 + (M19 100 ((((4 * (l5 + 1)) + l6) + 1)).toNat))), (9, vI (M 100 ((((4 * l5) + l6) + 1)).toNat)), (8, vI (M 100 (((4 * (l5 + 1)) + l6)).toNat)), (0, vR 88), (1, vI l1), (2, vI l2), (3, vI l3), (4, vI l4), (5, vI l5)]) 9 dX9_alike_141 rfl (by decide) rfl ?_
          refine Wa_goto (tgt := 22) dX9_alike_144 (by decide) ?_
          refine Wa_sub [4, 5, 6, 7, 8, 9, 0] rfl ?_
          exact h
theorem en_X9_alike {g : AG} {d : Nat} {l1 : Int} {l2 : Int} {M : AM} {Q : Int → AM → Prop} (h : S_X9_alike_0 g d l1 l2 M Q) : MetI g mX9_alike d [vR 88, vI l1, vI l2] M Q := MetA.of (by decide) (Nat.le_of_ble_eq_true rfl) h
def S_X9_likeBits_0 (g : AG) (d : Nat) (l1 : Int) (l2 : Int) (M : AM) (Q : Int → AM → Prop) : Prop := Wa g mX9_likeBits d 0 [(0, vR 88), (1, vI l1), (2, vI l2)] [] M (QI Q)
set_option maxRecDepth 100000 in
theorem sg_X9_likeBits_0 {g : AG} {d : Nat} {l1 : Int} {l2 : Int} {M : AM} {Q : Int → AM → Prop} 
  (h : rg l1 ∧ (rg l2 ∧ (MetI g mX9_alike d [vR 88, vI l1, vI l2] M (fun z4 M3 => rg z4 → (MetI g mX9_lettersOf d [vI l1] M3 (fun z7 M6 => rg z7 → (MetI g mX9_lettersOf d [vI l2] M6 (fun z10 M9 => rg z10 → (rg (z7 + z10) ∧ (MetL g mX9_bitsOf d [vL (2 * z4), vL (z7 + z10), vI 23, vI 127] M9 (fun z14 M13 => Q (l2I z14) M13))))))))))) : S_X9_likeBits_0 g (d + 1) l1 l2 M Q := by
  show Wa _ _ _ _ _ _ _ _
  refine Wa_ldc2 (z := 2) dX9_likeBits_0 kc_X9_175 ?_
  refine Wa_aload_n 0 dX9_likeBits_3 rfl rfl ?_
  refine Wa_iload_n 1 dX9_likeBits_4 rfl rfl ?_
  refine Wa_iload_n 2 dX9_likeBits_5 rfl rfl ?_
  obtain ⟨q1, h⟩ := h
  obtain ⟨q2, h⟩ := h
  refine Wa_callV [vI l1, vI l2] _ cf_X9 rfl k_88 lc_X9_184 cv_X9_alike rfl rfl (Nat.le_refl _) (Nat.le_of_ble_eq_true rfl) dX9_likeBits_6 h ?_
  intro r M3 h
  obtain ⟨z4, rfl, r5, h⟩ := h
  have h := h r5
  refine Wa_i2l dX9_likeBits_9 r5 ?_
  refine Wa_lmul dX9_likeBits_10 ?_
  refine Wa_iload_n 1 dX9_likeBits_11 rfl rfl ?_
  refine Wa_callS [vI l1] _ lc_X9_177 cs_X9_lettersOf rfl rfl (Nat.le_refl _) (Nat.le_of_ble_eq_true rfl) dX9_likeBits_12 h ?_
  intro r M6 h
  obtain ⟨z7, rfl, r8, h⟩ := h
  have h := h r8
  refine Wa_iload_n 2 dX9_likeBits_15 rfl rfl ?_
  refine Wa_callS [vI l2] _ lc_X9_177 cs_X9_lettersOf rfl rfl (Nat.le_refl _) (Nat.le_of_ble_eq_true rfl) dX9_likeBits_16 h ?_
  intro r M9 h
  obtain ⟨z10, rfl, r11, h⟩ := h
  have h := h r11
  refine Wa_iadd dX9_likeBits_19 ?_
  obtain ⟨q12, h⟩ := h
  refine Wa_i2l dX9_likeBits_20 q12 ?_
  refine Wa_bipush (z := 23) dX9_likeBits_21 (by decide) ?_
  refine Wa_bipush (z := 127) dX9_likeBits_23 (by decide) ?_
  refine Wa_callS [vL (2 * z4), vL (z7 + z10), vI 23, vI 127] _ lc_X9_187 cs_X9_bitsOf rfl rfl (Nat.le_refl _) (Nat.le_of_ble_eq_true rfl) dX9_likeBits_25 h ?_
  intro r M13 h
  obtain ⟨z14, rfl, h⟩ := h
  refine Wa_l2i dX9_likeBits_28 ?_
  exact Wa_ireturn dX9_likeBits_29 rfl ⟨_, rfl, (rg_toInt _), h⟩
theorem en_X9_likeBits {g : AG} {d : Nat} {l1 : Int} {l2 : Int} {M : AM} {Q : Int → AM → Prop} (h : S_X9_likeBits_0 g d l1 l2 M Q) : MetI g mX9_likeBits d [vR 88, vI l1, vI l2] M Q := MetA.of (by decide) (Nat.le_of_ble_eq_true rfl) h
def S_X9_like_0 (g : AG) (d : Nat) (l1 : Int) (l2 : Int) (M : AM) (Q : Int → AM → Prop) : Prop := Wa g mX9_like d 0 [(0, vR 88), (1, vI l1), (2, vI l2)] [] M (QI Q)
set_option maxRecDepth 100000 in
theorem sg_X9_like_0 {g : AG} {d : Nat} {l1 : Int} {l2 : Int} {M : AM} {Q : Int → AM → Prop} 
  (h : rg l1 ∧ (MetI g mX9_isLine d [vR 88, vI 0, vI l1] M (fun z3 M2 => rg z3 → ((z3 = 0 → (Q (-101) M2)) ∧ (¬ z3 = 0 → (rg l2 ∧ (MetI g mX9_isLine d [vR 88, vI 1, vI l2] M2 (fun z8 M7 => rg z8 → ((z8 = 0 → (Q (-101) M7)) ∧ (¬ z8 = 0 → ((0 ≤ l1 ∧ l1 < 32) ∧ ((0 ≤ (16 + l2) ∧ (16 + l2) < 32) ∧ (MetI g mX9_likeBits d [vR 88, vI (M7 92 (l1).toNat), vI (M7 92 ((16 + l2)).toNat)] M7 (fun z16 M15 => rg z16 → (Q z16 M15))))))))))))))) : S_X9_like_0 g (d + 1) l1 l2 M Q := by
  show Wa _ _ _ _ _ _ _ _
  refine Wa_aload_n 0 dX9_like_0 rfl rfl ?_
  refine Wa_iconst (z := 0) dX9_like_1 ?_
  refine Wa_iload_n 1 dX9_like_2 rfl rfl ?_
  obtain ⟨q1, h⟩ := h
  refine Wa_callV [vI 0, vI l1] _ cf_X9 rfl k_88 lc_X9_191 cv_X9_isLine rfl rfl (Nat.le_refl _) (Nat.le_of_ble_eq_true rfl) dX9_like_3 h ?_
  intro r M2 h
  obtain ⟨z3, rfl, r4, h⟩ := h
  have h := h r4
  refine Wa_if_eq (tgt := 40) dX9_like_6 (by decide) r4 (fun c5 => ?_) (fun c5 => ?_)
  · have h := h.1 c5
    refine Wa_bipush (z := (-101)) dX9_like_40 (by decide) ?_
    exact Wa_ireturn dX9_like_42 rfl ⟨_, rfl, ⟨by decide, by decide⟩, h⟩
  · have h := h.2 c5
    refine Wa_aload_n 0 dX9_like_9 rfl rfl ?_
    refine Wa_iconst (z := 1) dX9_like_10 ?_
    refine Wa_iload_n 2 dX9_like_11 rfl rfl ?_
    obtain ⟨q6, h⟩ := h
    refine Wa_callV [vI 1, vI l2] _ cf_X9 rfl k_88 lc_X9_191 cv_X9_isLine rfl rfl (Nat.le_refl _) (Nat.le_of_ble_eq_true rfl) dX9_like_12 h ?_
    intro r M7 h
    obtain ⟨z8, rfl, r9, h⟩ := h
    have h := h r9
    refine Wa_if_eq (tgt := 40) dX9_like_15 (by decide) r9 (fun c10 => ?_) (fun c10 => ?_)
    · have h := h.1 c10
      refine Wa_bipush (z := (-101)) dX9_like_40 (by decide) ?_
      exact Wa_ireturn dX9_like_42 rfl ⟨_, rfl, ⟨by decide, by decide⟩, h⟩
    · have h := h.2 c10
      refine Wa_aload_n 0 dX9_like_18 rfl rfl ?_
      refine Wa_aload_n 0 dX9_like_19 rfl rfl ?_
      refine Wa_getR cf_X9 lk_X9_19 k_88 (j := 7) rfl (by decide) dX9_like_20 ?_
      refine Wa_iload_n 1 dX9_like_23 rfl rfl ?_
      obtain ⟨b11, h⟩ := h
      refine Wa_iald2 (v := (M7 92 (l1).toNat)) k_92 b11 rfl dX9_like_24 (fun r12 => ?_)
      refine Wa_aload_n 0 dX9_like_25 rfl rfl ?_
      refine Wa_getR cf_X9 lk_X9_19 k_88 (j := 7) rfl (by decide) dX9_like_26 ?_
      refine Wa_bipush (z := 16) dX9_like_29 (by decide) ?_
      refine Wa_iload_n 2 dX9_like_31 rfl rfl ?_
      refine Wa_iadd dX9_like_32 ?_
      obtain ⟨b13, h⟩ := h
      refine Wa_iald2 (v := (M7 92 ((16 + l2)).toNat)) k_92 b13 rfl dX9_like_33 (fun r14 => ?_)
      refine Wa_callV [vI (M7 92 (l1).toNat), vI (M7 92 ((16 + l2)).toNat)] _ cf_X9 rfl k_88 lc_X9_194 cv_X9_likeBits rfl rfl (Nat.le_refl _) (Nat.le_of_ble_eq_true rfl) dX9_like_34 h ?_
      intro r M15 h
      obtain ⟨z16, rfl, r17, h⟩ := h
      have h := h r17
      refine Wa_goto (tgt := 42) dX9_like_37 (by decide) ?_
      exact Wa_ireturn dX9_like_42 rfl ⟨_, rfl, r17, h⟩
theorem en_X9_like {g : AG} {d : Nat} {l1 : Int} {l2 : Int} {M : AM} {Q : Int → AM → Prop} (h : S_X9_like_0 g d l1 l2 M Q) : MetI g mX9_like d [vR 88, vI l1, vI l2] M Q := MetA.of (by decide) (Nat.le_of_ble_eq_true rfl) h
def S_X9_addStep_0 (g : AG) (d : Nat) (l1 : Int) (l2 : Int) (l3 : Int) (l4 : Int) (l5 : Int) (M : AM) (Q : AM → Prop) : Prop := Wa g mX9_addStep d 0 [(0, vR 88), (1, vI l1), (2, vI l2), (3, vI l3), (4, vI l4), (5, vI l5)] [] M (QV Q)
set_option maxRecDepth 100000 in
theorem sg_X9_addStep_0 {g : AG} {d : Nat} {l1 : Int} {l2 : Int} {l3 : Int} {l4 : Int} {l5 : Int} {M : AM} {Q : AM → Prop} 
  (h : (0 ≤ (5 * (M 88 22)) ∧ (5 * (M 88 22)) < 80) ∧ (rg l1 ∧ ((0 ≤ ((5 * (M 88 22)) + 1) ∧ ((5 * (M 88 22)) + 1) < 80) ∧ (rg l2 ∧ ((0 ≤ ((5 * (M 88 22)) + 2) ∧ ((5 * (M 88 22)) + 2) < 80) ∧ (rg l3 ∧ ((0 ≤ ((5 * (M 88 22)) + 3) ∧ ((5 * (M 88 22)) + 3) < 80) ∧ (rg l4 ∧ ((0 ≤ ((5 * (M 88 22)) + 4) ∧ ((5 * (M 88 22)) + 4) < 80) ∧ (rg l5 ∧ (rg ((M 88 22) + 1) ∧ (Q (mU (mU (mU (mU (mU (mU M 101 ((5 * (M 88 22))).toNat l1) 101 (((5 * (M 88 22)) + 1)).toNat l2) 101 (((5 * (M 88 22)) + 2)).toNat l3) 101 (((5 * (M 88 22)) + 3)).toNat l4) 101 (((5 * (M 88 22)) + 4)).toNat l5) 88 22 ((M 88 22) + 1)))))))))))))) : S_X9_addStep_0 g (d + 1) l1 l2 l3 l4 l5 M Q := by
  show Wa _ _ _ _ _ _ _ _
  refine Wa_aload_n 0 dX9_addStep_0 rfl rfl ?_
  refine Wa_getR cf_X9 lk_X9_46 k_88 (j := 21) rfl (by decide) dX9_addStep_1 ?_
  refine Wa_iconst (z := 5) dX9_addStep_4 ?_
  refine Wa_aload_n 0 dX9_addStep_5 rfl rfl ?_
  refine Wa_getI2 (v := (M 88 22)) cf_X9 lk_X9_197 k_88 (j := 22) rfl (by decide) rfl dX9_addStep_6 (fun r1 => ?_)
  refine Wa_imul dX9_addStep_9 ?_
  refine Wa_iload_n 1 dX9_addStep_10 rfl rfl ?_
  obtain ⟨b2, h⟩ := h
  obtain ⟨q3, h⟩ := h
  refine Wa_iast k_101 b2 q3 dX9_addStep_11 ?_
  refine Wa_aload_n 0 dX9_addStep_12 rfl rfl ?_
  refine Wa_getR cf_X9 lk_X9_46 k_88 (j := 21) rfl (by decide) dX9_addStep_13 ?_
  refine Wa_iconst (z := 5) dX9_addStep_16 ?_
  refine Wa_aload_n 0 dX9_addStep_17 rfl rfl ?_
  refine Wa_getI2 (v := (M 88 22)) cf_X9 lk_X9_197 k_88 (j := 22) rfl (by decide) (mU_rd (by decide)) dX9_addStep_18 (fun r4 => ?_)
  refine Wa_imul dX9_addStep_21 ?_
  refine Wa_iconst (z := 1) dX9_addStep_22 ?_
  refine Wa_iadd dX9_addStep_23 ?_
  refine Wa_iload_n 2 dX9_addStep_24 rfl rfl ?_
  obtain ⟨b5, h⟩ := h
  obtain ⟨q6, h⟩ := h
  refine Wa_iast k_101 b5 q6 dX9_addStep_25 ?_
  refine Wa_aload_n 0 dX9_addStep_26 rfl rfl ?_
  refine Wa_getR cf_X9 lk_X9_46 k_88 (j := 21) rfl (by decide) dX9_addStep_27 ?_
  refine Wa_iconst (z := 5) dX9_addStep_30 ?_
  refine Wa_aload_n 0 dX9_addStep_31 rfl rfl ?_
  refine Wa_getI2 (v := (M 88 22)) cf_X9 lk_X9_197 k_88 (j := 22) rfl (by decide) ((mU_rd (by decide)).trans (mU_rd (by decide))) dX9_addStep_32 (fun r7 => ?_)
  refine Wa_imul dX9_addStep_35 ?_
  refine Wa_iconst (z := 2) dX9_addStep_36 ?_
  refine Wa_iadd dX9_addStep_37 ?_
  refine Wa_iload_n 3 dX9_addStep_38 rfl rfl ?_
  obtain ⟨b8, h⟩ := h
  obtain ⟨q9, h⟩ := h
  refine Wa_iast k_101 b8 q9 dX9_addStep_39 ?_
  refine Wa_aload_n 0 dX9_addStep_40 rfl rfl ?_
  refine Wa_getR cf_X9 lk_X9_46 k_88 (j := 21) rfl (by decide) dX9_addStep_41 ?_
  refine Wa_iconst (z := 5) dX9_addStep_44 ?_
  refine Wa_aload_n 0 dX9_addStep_45 rfl rfl ?_
  refine Wa_getI2 (v := (M 88 22)) cf_X9 lk_X9_197 k_88 (j := 22) rfl (by decide) ((mU_rd (by decide)).trans ((mU_rd (by decide)).trans (mU_rd (by decide)))) dX9_addStep_46 (fun r10 => ?_)
  refine Wa_imul dX9_addStep_49 ?_
  refine Wa_iconst (z := 3) dX9_addStep_50 ?_
  refine Wa_iadd dX9_addStep_51 ?_
  refine Wa_iload 4 dX9_addStep_52 rfl ?_
  obtain ⟨b11, h⟩ := h
  obtain ⟨q12, h⟩ := h
  refine Wa_iast k_101 b11 q12 dX9_addStep_54 ?_
  refine Wa_aload_n 0 dX9_addStep_55 rfl rfl ?_
  refine Wa_getR cf_X9 lk_X9_46 k_88 (j := 21) rfl (by decide) dX9_addStep_56 ?_
  refine Wa_iconst (z := 5) dX9_addStep_59 ?_
  refine Wa_aload_n 0 dX9_addStep_60 rfl rfl ?_
  refine Wa_getI2 (v := (M 88 22)) cf_X9 lk_X9_197 k_88 (j := 22) rfl (by decide) ((mU_rd (by decide)).trans ((mU_rd (by decide)).trans ((mU_rd (by decide)).trans (mU_rd (by decide))))) dX9_addStep_61 (fun r13 => ?_)
  refine Wa_imul dX9_addStep_64 ?_
  refine Wa_iconst (z := 4) dX9_addStep_65 ?_
  refine Wa_iadd dX9_addStep_66 ?_
  refine Wa_iload 5 dX9_addStep_67 rfl ?_
  obtain ⟨b14, h⟩ := h
  obtain ⟨q15, h⟩ := h
  refine Wa_iast k_101 b14 q15 dX9_addStep_69 ?_
  refine Wa_aload_n 0 dX9_addStep_70 rfl rfl ?_
  refine Wa_dup dX9_addStep_71 rfl ?_
  refine Wa_getI2 (v := (M 88 22)) cf_X9 lk_X9_197 k_88 (j := 22) rfl (by decide) ((mU_rd (by decide)).trans ((mU_rd (by decide)).trans ((mU_rd (by decide)).trans ((mU_rd (by decide)).trans (mU_rd (by decide)))))) dX9_addStep_72 (fun r16 => ?_)
  refine Wa_iconst (z := 1) dX9_addStep_75 ?_
  refine Wa_iadd dX9_addStep_76 ?_
  obtain ⟨q17, h⟩ := h
  refine Wa_putI cf_X9 lk_X9_197 k_88 (j := 22) rfl (by decide) rfl rfl q17 dX9_addStep_77 ?_
  exact Wa_return dX9_addStep_80 rfl ⟨rfl, h⟩
theorem en_X9_addStep {g : AG} {d : Nat} {l1 : Int} {l2 : Int} {l3 : Int} {l4 : Int} {l5 : Int} {M : AM} {Q : AM → Prop} (h : S_X9_addStep_0 g d l1 l2 l3 l4 l5 M Q) : MetV g mX9_addStep d [vR 88, vI l1, vI l2, vI l3, vI l4, vI l5] M Q := MetA.of (by decide) (Nat.le_of_ble_eq_true rfl) h
def S_X9_changeBy_0 (g : AG) (d : Nat) (l1 : Int) (l2 : Int) (M : AM) (Q : Int → AM → Prop) : Prop := Wa g mX9_changeBy d 0 [(0, vR 88), (1, vI l1), (2, vI l2)] [] M (QI Q)
set_option maxRecDepth 100000 in
theorem sg_X9_changeBy_0 {g : AG} {d : Nat} {l1 : Int} {l2 : Int} {M : AM} {Q : Int → AM → Prop} 
  (h : rg l1 ∧ (rg l2 ∧ (MetI g mX9_alike d [vR 88, vI l1, vI l2] M (fun z4 M3 => rg z4 → (MetI g mX9_lettersOf d [vI l1] M3 (fun z7 M6 => rg z7 → (MetI g mX9_lettersOf d [vI l2] M6 (fun z10 M9 => rg z10 → (rg (4 * (2 * z4)) ∧ (rg (3 * (z7 + z10)) ∧ (((4 * (2 * z4)) < (3 * (z7 + z10)) → (rg (2 * (2 * z4)) ∧ (rg (z7 + z10) ∧ (((2 * (2 * z4)) < (z7 + z10) → (Q 0 M9)) ∧ (¬ (2 * (2 * z4)) < (z7 + z10) → (Q 3 M9)))))) ∧ (¬ (4 * (2 * z4)) < (3 * (z7 + z10)) → (Q 4 M9))))))))))))) : S_X9_changeBy_0 g (d + 1) l1 l2 M Q := by
  show Wa _ _ _ _ _ _ _ _
  refine Wa_iconst (z := 2) dX9_changeBy_0 ?_
  refine Wa_aload_n 0 dX9_changeBy_1 rfl rfl ?_
  refine Wa_iload_n 1 dX9_changeBy_2 rfl rfl ?_
  refine Wa_iload_n 2 dX9_changeBy_3 rfl rfl ?_
  obtain ⟨q1, h⟩ := h
  obtain ⟨q2, h⟩ := h
  refine Wa_callV [vI l1, vI l2] _ cf_X9 rfl k_88 lc_X9_184 cv_X9_alike rfl rfl (Nat.le_refl _) (Nat.le_of_ble_eq_true rfl) dX9_changeBy_4 h ?_
  intro r M3 h
  obtain ⟨z4, rfl, r5, h⟩ := h
  have h := h r5
  refine Wa_imul dX9_changeBy_7 ?_
  refine Wa_istore_n (ls' := [(3, vI (2 * z4)), (0, vR 88), (1, vI l1), (2, vI l2)]) dX9_changeBy_8 rfl (by decide) rfl ?_
  refine Wa_iload_n 2 dX9_changeBy_9 rfl rfl ?_
  refine Wa_callS [vI l1] _ lc_X9_177 cs_X9_lettersOf rfl rfl (Nat.le_refl _) (Nat.le_of_ble_eq_true rfl) dX9_changeBy_10 h ?_
  intro r M6 h
  obtain ⟨z7, rfl, r8, h⟩ := h
  have h := h r8
  refine Wa_iload_n 3 dX9_changeBy_13 rfl rfl ?_
  refine Wa_callS [vI l2] _ lc_X9_177 cs_X9_lettersOf rfl rfl (Nat.le_refl _) (Nat.le_of_ble_eq_true rfl) dX9_changeBy_14 h ?_
  intro r M9 h
  obtain ⟨z10, rfl, r11, h⟩ := h
  have h := h r11
  refine Wa_iadd dX9_changeBy_17 ?_
  refine Wa_istore (ls' := [(4, vI (z7 + z10)), (3, vI (2 * z4)), (0, vR 88), (1, vI l1), (2, vI l2)]) dX9_changeBy_18 (by decide) rfl ?_
  refine Wa_iconst (z := 4) dX9_changeBy_20 ?_
  refine Wa_iload_n 1 dX9_changeBy_21 rfl rfl ?_
  refine Wa_imul dX9_changeBy_22 ?_
  refine Wa_iconst (z := 3) dX9_changeBy_23 ?_
  refine Wa_iload 0 dX9_changeBy_24 rfl ?_
  refine Wa_imul dX9_changeBy_26 ?_
  obtain ⟨q12, h⟩ := h
  obtain ⟨q13, h⟩ := h
  refine Wa_icmp_lt (tgt := 34) dX9_changeBy_27 (by decide) q12 q13 (fun c14 => ?_) (fun c14 => ?_)
  · have h := h.1 c14
    refine Wa_iconst (z := 2) dX9_changeBy_34 ?_
    refine Wa_iload_n 1 dX9_changeBy_35 rfl rfl ?_
    refine Wa_imul dX9_changeBy_36 ?_
    refine Wa_iload 0 dX9_changeBy_37 rfl ?_
    obtain ⟨q15, h⟩ := h
    obtain ⟨q16, h⟩ := h
    refine Wa_icmp_lt (tgt := 46) dX9_changeBy_39 (by decide) q15 q16 (fun c17 => ?_) (fun c17 => ?_)
    · have h := h.1 c17
      refine Wa_iconst (z := 0) dX9_changeBy_46 ?_
      exact Wa_ireturn dX9_changeBy_47 rfl ⟨_, rfl, ⟨by decide, by decide⟩, h⟩
    · have h := h.2 c17
      refine Wa_iconst (z := 3) dX9_changeBy_42 ?_
      refine Wa_goto (tgt := 47) dX9_changeBy_43 (by decide) ?_
      exact Wa_ireturn dX9_changeBy_47 rfl ⟨_, rfl, ⟨by decide, by decide⟩, h⟩
  · have h := h.2 c14
    refine Wa_iconst (z := 4) dX9_changeBy_30 ?_
    refine Wa_goto (tgt := 47) dX9_changeBy_31 (by decide) ?_
    exact Wa_ireturn dX9_changeBy_47 rfl ⟨_, rfl, ⟨by decide, by decide⟩, h⟩
theorem en_X9_changeBy {g : AG} {d : Nat} {l1 : Int} {l2 : Int} {M : AM} {Q : Int → AM → Prop} (h : S_X9_changeBy_0 g d l1 l2 M Q) : MetI g mX9_changeBy d [vR 88, vI l1, vI l2] M Q := MetA.of (by decide) (Nat.le_of_ble_eq_true rfl) h
def S_X9_layGap_0 (g : AG) (d : Nat) (l1 : Int) (l2 : Int) (l3 : Int) (l4 : Int) (M : AM) (Q : AM → Prop) : Prop := Wa g mX9_layGap d 0 [(0, vR 88), (1, vI l1), (2, vI l2), (3, vI l3), (4, vI l4)] [] M (QV Q)
def S_X9_layGap_17 (g : AG) (d : Nat) (l1 : Int) (l2 : Int) (l3 : Int) (l4 : Int) (l5 : Int) (l6 : Int) (M : AM) (Q : AM → Prop) : Prop := Wa g mX9_layGap d 17 [(0, vR 88), (1, vI l1), (2, vI l2), (3, vI l3), (4, vI l4), (5, vI l5), (6, vI l6)] [] M (QV Q)
def S_X9_layGap_126 (g : AG) (d : Nat) (l2 : Int) (l4 : Int) (l6 : Int) (M : AM) (Q : AM → Prop) : Prop := Wa g mX9_layGap d 126 [(0, vR 88), (2, vI l2), (4, vI l4), (6, vI l6)] [] M (QV Q)
set_option maxRecDepth 100000 in
theorem sg_X9_layGap_0 {g : AG} {d : Nat} {l1 : Int} {l2 : Int} {l3 : Int} {l4 : Int} {M : AM} {Q : AM → Prop} 
  (h : rg l3 ∧ (rg l4 ∧ ((l4 ≤ l3 → (S_X9_layGap_17 g (d + 1) l1 l2 l3 l4 l4 0 M Q)) ∧ (¬ l4 ≤ l3 → (S_X9_layGap_17 g (d + 1) l1 l2 l3 l4 l3 0 M Q))))) : S_X9_layGap_0 g (d + 1) l1 l2 l3 l4 M Q := by
  show Wa _ _ _ _ _ _ _ _
  refine Wa_iload_n 3 dX9_layGap_0 rfl rfl ?_
  refine Wa_iload 4 dX9_layGap_1 rfl ?_
  obtain ⟨q1, h⟩ := h
  obtain ⟨q2, h⟩ := h
  refine Wa_icmp_ge (tgt := 10) dX9_layGap_3 (by decide) q1 q2 (fun c3 => ?_) (fun c3 => ?_)
  · have h := h.1 c3
    refine Wa_iload 4 dX9_layGap_10 rfl ?_
    refine Wa_istore (ls' := [(5, vI l4), (0, vR 88), (1, vI l1), (2, vI l2), (3, vI l3), (4, vI l4)]) dX9_layGap_12 (by decide) rfl ?_
    refine Wa_iconst (z := 0) dX9_layGap_14 ?_
    refine Wa_istore (ls' := [(6, vI 0), (5, vI l4), (0, vR 88), (1, vI l1), (2, vI l2), (3, vI l3), (4, vI l4)]) dX9_layGap_15 (by decide) rfl ?_
    refine Wa_sub [2, 3, 4, 5, 6, 1, 0] rfl ?_
    exact h
  · have h := h.2 c3
    refine Wa_iload_n 3 dX9_layGap_6 rfl rfl ?_
    refine Wa_goto (tgt := 12) dX9_layGap_7 (by decide) ?_
    refine Wa_istore (ls' := [(5, vI l3), (0, vR 88), (1, vI l1), (2, vI l2), (3, vI l3), (4, vI l4)]) dX9_layGap_12 (by decide) rfl ?_
    refine Wa_iconst (z := 0) dX9_layGap_14 ?_
    refine Wa_istore (ls' := [(6, vI 0), (5, vI l3), (0, vR 88), (1, vI l1), (2, vI l2), (3, vI l3), (4, vI l4)]) dX9_layGap_15 (by decide) rfl ?_
    refine Wa_sub [2, 3, 4, 5, 6, 1, 0] rfl ?_
    exact h
set_option maxRecDepth 100000 in
theorem sg_X9_layGap_17 {g : AG} {d : Nat} {l1 : Int} {l2 : Int} {l3 : Int} {l4 : Int} {l5 : Int} {l6 : Int} {M : AM} {Q : AM → Prop} 
  (h : rg l6 ∧ (rg l3 ∧ ((l3 ≤ l6 → (S_X9_layGap_126 g (d + 1) l2 l4 0 M Q)) ∧ (¬ l3 ≤ l6 → (rg l5 ∧ ((l5 ≤ l6 → (rg (l1 + l6) ∧ (MetV g mX9_addStep d [vR 88, vI 1, vI (l1 + l6), vI (-1), vI 0, vI (M 88 23)] M (fun M9 => S_X9_layGap_17 g (d + 1) l1 l2 l3 l4 l5 (l6 + 1) M9 Q)))) ∧ (¬ l5 ≤ l6 → ((0 ≤ (l1 + l6) ∧ (l1 + l6) < 32) ∧ ((0 ≤ ((16 + l2) + l6) ∧ ((16 + l2) + l6) < 32) ∧ (MetI g mX9_changeBy d [vR 88, vI (M 92 ((l1 + l6)).toNat), vI (M 92 (((16 + l2) + l6)).toNat)] M (fun z17 M16 => rg z17 → ((z17 ≤ 0 → (rg (l1 + l6) ∧ (MetV g mX9_addStep d [vR 88, vI 1, vI (l1 + l6), vI (-1), vI 0, vI (M16 88 23)] M16 (fun M23 => S_X9_layGap_17 g (d + 1) l1 l2 l3 l4 l5 (l6 + 1) M23 Q)))) ∧ (¬ z17 ≤ 0 → (rg (l2 + l6) ∧ (rg (l1 + l6) ∧ (S_X9_layGap_17 g (d + 1) l1 l2 l3 l4 l5 (l6 + 1) (mU (mU M16 102 ((l1 + l6)).toNat (l2 + l6)) 102 (((16 + l2) + l6)).toNat (l1 + l6)) Q)))))))))))))))) : S_X9_layGap_17 g (d + 1) l1 l2 l3 l4 l5 l6 M Q := by
  show Wa _ _ _ _ _ _ _ _
  refine Wa_iload 6 dX9_layGap_17 rfl ?_
  refine Wa_iload_n 3 dX9_layGap_19 rfl rfl ?_
  obtain ⟨q1, h⟩ := h
  obtain ⟨q2, h⟩ := h
  refine Wa_icmp_ge (tgt := 123) dX9_layGap_20 (by decide) q1 q2 (fun c3 => ?_) (fun c3 => ?_)
  · have h := h.1 c3
    refine Wa_iconst (z := 0) dX9_layGap_123 ?_
    refine Wa_istore (ls' := [(6, vI 0), (0, vR 88), (1, vI l1), (2, vI l2), (3, vI l3), (4, vI l4), (5, vI l5)]) dX9_layGap_124 (by decide) rfl ?_
    refine Wa_sub [1, 3, 5, 0] rfl ?_
    exact h
  · have h := h.2 c3
    refine Wa_iload 6 dX9_layGap_23 rfl ?_
    refine Wa_iload 5 dX9_layGap_25 rfl ?_
    obtain ⟨q4, h⟩ := h
    refine Wa_icmp_ge (tgt := 62) dX9_layGap_27 (by decide) q1 q4 (fun c5 => ?_) (fun c5 => ?_)
    · have h := h.1 c5
      refine Wa_iconst (z := 0) dX9_layGap_62 ?_
      refine Wa_istore (ls' := [(7, vI 0), (0, vR 88), (1, vI l1), (2, vI l2), (3, vI l3), (4, vI l4), (5, vI l5), (6, vI l6)]) dX9_layGap_63 (by decide) rfl ?_
      refine Wa_iload 0 dX9_layGap_65 rfl ?_
      refine Wa_if_eq (tgt := 102) dX9_layGap_67 (by decide) ⟨by decide, by decide⟩ (fun c6 => ?_) (fun c6 => ?_)
      · refine Wa_aload_n 1 dX9_layGap_102 rfl rfl ?_
        refine Wa_iconst (z := 1) dX9_layGap_103 ?_
        refine Wa_iload_n 2 dX9_layGap_104 rfl rfl ?_
        refine Wa_iload 7 dX9_layGap_105 rfl ?_
        refine Wa_iadd dX9_layGap_107 ?_
        refine Wa_iconst (z := (-1)) dX9_layGap_108 ?_
        refine Wa_iconst (z := 0) dX9_layGap_109 ?_
        refine Wa_aload_n 1 dX9_layGap_110 rfl rfl ?_
        refine Wa_getI2 (v := (M 88 23)) cf_X9 lk_X9_203 k_88 (j := 23) rfl (by decide) rfl dX9_layGap_111 (fun r7 => ?_)
        obtain ⟨q8, h⟩ := h
        refine Wa_callV [vI 1, vI (l1 + l6), vI (-1), vI 0, vI (M 88 23)] _ cf_X9 rfl k_88 lc_X9_206 cv_X9_addStep rfl rfl (Nat.le_refl _) (Nat.le_of_ble_eq_true rfl) dX9_layGap_114 h ?_
        intro r M9 h
        obtain ⟨rfl, h⟩ := h
        refine Wa_iinc (ls' := [(6, vI (l6 + 1)), (7, vI 0), (0, vR 88), (1, vI l1), (2, vI l2), (3, vI l3), (4, vI l4), (5, vI l5)]) 7 dX9_layGap_117 rfl (by decide) rfl ?_
        refine Wa_goto (tgt := 17) dX9_layGap_120 (by decide) ?_
        refine Wa_sub [2, 3, 4, 5, 6, 7, 0] rfl ?_
        exact h
      · exact absurd c6 (by decide)
    · have h := h.2 c5
      refine Wa_aload_n 0 dX9_layGap_30 rfl rfl ?_
      refine Wa_aload_n 0 dX9_layGap_31 rfl rfl ?_
      refine Wa_getR cf_X9 lk_X9_19 k_88 (j := 7) rfl (by decide) dX9_layGap_32 ?_
      refine Wa_iload_n 1 dX9_layGap_35 rfl rfl ?_
      refine Wa_iload 6 dX9_layGap_36 rfl ?_
      refine Wa_iadd dX9_layGap_38 ?_
      obtain ⟨b12, h⟩ := h
      refine Wa_iald2 (v := (M 92 ((l1 + l6)).toNat)) k_92 b12 rfl dX9_layGap_39 (fun r13 => ?_)
      refine Wa_aload_n 0 dX9_layGap_40 rfl rfl ?_
      refine Wa_getR cf_X9 lk_X9_19 k_88 (j := 7) rfl (by decide) dX9_layGap_41 ?_
      refine Wa_bipush (z := 16) dX9_layGap_44 (by decide) ?_
      refine Wa_iload_n 2 dX9_layGap_46 rfl rfl ?_
      refine Wa_iadd dX9_layGap_47 ?_
      refine Wa_iload 6 dX9_layGap_48 rfl ?_
      refine Wa_iadd dX9_layGap_50 ?_
      obtain ⟨b14, h⟩ := h
      refine Wa_iald2 (v := (M 92 (((16 + l2) + l6)).toNat)) k_92 b14 rfl dX9_layGap_51 (fun r15 => ?_)
      refine Wa_callV [vI (M 92 ((l1 + l6)).toNat), vI (M 92 (((16 + l2) + l6)).toNat)] _ cf_X9 rfl k_88 lc_X9_200 cv_X9_changeBy rfl rfl (Nat.le_refl _) (Nat.le_of_ble_eq_true rfl) dX9_layGap_52 h ?_
      intro r M16 h
      obtain ⟨z17, rfl, r18, h⟩ := h
      have h := h r18
      refine Wa_if_le (tgt := 62) dX9_layGap_55 (by decide) r18 (fun c19 => ?_) (fun c19 => ?_)
      · have h := h.1 c19
        refine Wa_iconst (z := 0) dX9_layGap_62 ?_
        refine Wa_istore (ls' := [(7, vI 0), (0, vR 88), (1, vI l1), (2, vI l2), (3, vI l3), (4, vI l4), (5, vI l5), (6, vI l6)]) dX9_layGap_63 (by decide) rfl ?_
        refine Wa_iload 0 dX9_layGap_65 rfl ?_
        refine Wa_if_eq (tgt := 102) dX9_layGap_67 (by decide) ⟨by decide, by decide⟩ (fun c20 => ?_) (fun c20 => ?_)
        · refine Wa_aload_n 1 dX9_layGap_102 rfl rfl ?_
          refine Wa_iconst (z := 1) dX9_layGap_103 ?_
          refine Wa_iload_n 2 dX9_layGap_104 rfl rfl ?_
          refine Wa_iload 7 dX9_layGap_105 rfl ?_
          refine Wa_iadd dX9_layGap_107 ?_
          refine Wa_iconst (z := (-1)) dX9_layGap_108 ?_
          refine Wa_iconst (z := 0) dX9_layGap_109 ?_
          refine Wa_aload_n 1 dX9_layGap_110 rfl rfl ?_
          refine Wa_getI2 (v := (M16 88 23)) cf_X9 lk_X9_203 k_88 (j := 23) rfl (by decide) rfl dX9_layGap_111 (fun r21 => ?_)
          obtain ⟨q22, h⟩ := h
          refine Wa_callV [vI 1, vI (l1 + l6), vI (-1), vI 0, vI (M16 88 23)] _ cf_X9 rfl k_88 lc_X9_206 cv_X9_addStep rfl rfl (Nat.le_refl _) (Nat.le_of_ble_eq_true rfl) dX9_layGap_114 h ?_
          intro r M23 h
          obtain ⟨rfl, h⟩ := h
          refine Wa_iinc (ls' := [(6, vI (l6 + 1)), (7, vI 0), (0, vR 88), (1, vI l1), (2, vI l2), (3, vI l3), (4, vI l4), (5, vI l5)]) 7 dX9_layGap_117 rfl (by decide) rfl ?_
          refine Wa_goto (tgt := 17) dX9_layGap_120 (by decide) ?_
          refine Wa_sub [2, 3, 4, 5, 6, 7, 0] rfl ?_
          exact h
        · exact absurd c20 (by decide)
      · have h := h.2 c19
        refine Wa_iconst (z := 1) dX9_layGap_58 ?_
        refine Wa_goto (tgt := 63) dX9_layGap_59 (by decide) ?_
        refine Wa_istore (ls' := [(7, vI 1), (0, vR 88), (1, vI l1), (2, vI l2), (3, vI l3), (4, vI l4), (5, vI l5), (6, vI l6)]) dX9_layGap_63 (by decide) rfl ?_
        refine Wa_iload 0 dX9_layGap_65 rfl ?_
        refine Wa_if_eq (tgt := 102) dX9_layGap_67 (by decide) ⟨by decide, by decide⟩ (fun c26 => ?_) (fun c26 => ?_)
        · exact absurd c26 (by decide)
        · refine Wa_aload_n 1 dX9_layGap_70 rfl rfl ?_
          refine Wa_getR cf_X9 lk_X9_49 k_88 (j := 24) rfl (by decide) dX9_layGap_71 ?_
          refine Wa_iload_n 2 dX9_layGap_74 rfl rfl ?_
          refine Wa_iload 7 dX9_layGap_75 rfl ?_
          refine Wa_iadd dX9_layGap_77 ?_
          refine Wa_iload_n 3 dX9_layGap_78 rfl rfl ?_
          refine Wa_iload 7 dX9_layGap_79 rfl ?_
          refine Wa_iadd dX9_layGap_81 ?_
          obtain ⟨q27, h⟩ := h
          refine Wa_iast k_102 b12 q27 dX9_layGap_82 ?_
          refine Wa_aload_n 1 dX9_layGap_83 rfl rfl ?_
          refine Wa_getR cf_X9 lk_X9_49 k_88 (j := 24) rfl (by decide) dX9_layGap_84 ?_
          refine Wa_bipush (z := 16) dX9_layGap_87 (by decide) ?_
          refine Wa_iload_n 3 dX9_layGap_89 rfl rfl ?_
          refine Wa_iadd dX9_layGap_90 ?_
          refine Wa_iload 7 dX9_layGap_91 rfl ?_
          refine Wa_iadd dX9_layGap_93 ?_
          refine Wa_iload_n 2 dX9_layGap_94 rfl rfl ?_
          refine Wa_iload 7 dX9_layGap_95 rfl ?_
          refine Wa_iadd dX9_layGap_97 ?_
          obtain ⟨q28, h⟩ := h
          refine Wa_iast k_102 b14 q28 dX9_layGap_98 ?_
          refine Wa_goto (tgt := 117) dX9_layGap_99 (by decide) ?_
          refine Wa_iinc (ls' := [(6, vI (l6 + 1)), (7, vI 1), (0, vR 88), (1, vI l1), (2, vI l2), (3, vI l3), (4, vI l4), (5, vI l5)]) 7 dX9_layGap_117 rfl (by decide) rfl ?_
          refine Wa_goto (tgt := 17) dX9_layGap_120 (by decide) ?_
          refine Wa_sub [2, 3, 4, 5, 6, 7, 0] rfl ?_
          exact h
set_option maxRecDepth 100000 in
theorem sg_X9_layGap_126 {g : AG} {d : Nat} {l2 : Int} {l4 : Int} {l6 : Int} {M : AM} {Q : AM → Prop} 
  (h : rg l6 ∧ (rg l4 ∧ ((l4 ≤ l6 → (rg ((M 88 23) + 1) ∧ (Q (mU M 88 23 ((M 88 23) + 1))))) ∧ (¬ l4 ≤ l6 → ((0 ≤ ((16 + l2) + l6) ∧ ((16 + l2) + l6) < 32) ∧ ((¬ (M 102 (((16 + l2) + l6)).toNat) = (-1) → ((0 ≤ (M 102 (((16 + l2) + l6)).toNat) ∧ (M 102 (((16 + l2) + l6)).toNat) < 32) ∧ (MetI g mX9_changeBy d [vR 88, vI (M 92 ((M 102 (((16 + l2) + l6)).toNat)).toNat), vI (M 92 (((16 + l2) + l6)).toNat)] M (fun z13 M12 => rg z13 → (MetI g mX9_likeBits d [vR 88, vI (M12 92 ((M 102 (((16 + l2) + l6)).toNat)).toNat), vI (M12 92 (((16 + l2) + l6)).toNat)] M12 (fun z18 M17 => rg z18 → (rg (l2 + l6) ∧ (MetV g mX9_addStep d [vR 88, vI z13, vI (M 102 (((16 + l2) + l6)).toNat), vI (l2 + l6), vI z18, vI (M17 88 23)] M17 (fun M22 => S_X9_layGap_126 g (d + 1) l2 l4 (l6 + 1) M22 Q))))))))) ∧ ((M 102 (((16 + l2) + l6)).toNat) = (-1) → (rg (l2 + l6) ∧ (MetV g mX9_addStep d [vR 88, vI 2, vI (-1), vI (l2 + l6), vI 0, vI (M 88 23)] M (fun M27 => S_X9_layGap_126 g (d + 1) l2 l4 (l6 + 1) M27 Q)))))))))) : S_X9_layGap_126 g (d + 1) l2 l4 l6 M Q := by
  show Wa _ _ _ _ _ _ _ _
  refine Wa_iload 3 dX9_layGap_126 rfl ?_
  refine Wa_iload 2 dX9_layGap_128 rfl ?_
  obtain ⟨q1, h⟩ := h
  obtain ⟨q2, h⟩ := h
  refine Wa_icmp_ge (tgt := 237) dX9_layGap_130 (by decide) q1 q2 (fun c3 => ?_) (fun c3 => ?_)
  · have h := h.1 c3
    refine Wa_aload_n 0 dX9_layGap_237 rfl rfl ?_
    refine Wa_dup dX9_layGap_238 rfl ?_
    refine Wa_getI2 (v := (M 88 23)) cf_X9 lk_X9_203 k_88 (j := 23) rfl (by decide) rfl dX9_layGap_239 (fun r4 => ?_)
    refine Wa_iconst (z := 1) dX9_layGap_242 ?_
    refine Wa_iadd dX9_layGap_243 ?_
    obtain ⟨q5, h⟩ := h
    refine Wa_putI cf_X9 lk_X9_203 k_88 (j := 23) rfl (by decide) rfl rfl q5 dX9_layGap_244 ?_
    exact Wa_return dX9_layGap_247 rfl ⟨rfl, h⟩
  · have h := h.2 c3
    refine Wa_aload_n 0 dX9_layGap_133 rfl rfl ?_
    refine Wa_getR cf_X9 lk_X9_49 k_88 (j := 24) rfl (by decide) dX9_layGap_134 ?_
    refine Wa_bipush (z := 16) dX9_layGap_137 (by decide) ?_
    refine Wa_iload_n 1 dX9_layGap_139 rfl rfl ?_
    refine Wa_iadd dX9_layGap_140 ?_
    refine Wa_iload 3 dX9_layGap_141 rfl ?_
    refine Wa_iadd dX9_layGap_143 ?_
    obtain ⟨b6, h⟩ := h
    refine Wa_iald2 (v := (M 102 (((16 + l2) + l6)).toNat)) k_102 b6 rfl dX9_layGap_144 (fun r7 => ?_)
    refine Wa_istore (ls' := [(7, vI (M 102 (((16 + l2) + l6)).toNat)), (0, vR 88), (2, vI l2), (4, vI l4), (6, vI l6)]) dX9_layGap_145 (by decide) rfl ?_
    refine Wa_iload 0 dX9_layGap_147 rfl ?_
    refine Wa_iconst (z := (-1)) dX9_layGap_149 ?_
    refine Wa_icmp_ne (tgt := 171) dX9_layGap_150 (by decide) r7 ⟨by decide, by decide⟩ (fun c8 => ?_) (fun c8 => ?_)
    · have h := h.1 c8
      refine Wa_aload_n 1 dX9_layGap_171 rfl rfl ?_
      refine Wa_aload_n 1 dX9_layGap_172 rfl rfl ?_
      refine Wa_aload_n 1 dX9_layGap_173 rfl rfl ?_
      refine Wa_getR cf_X9 lk_X9_19 k_88 (j := 7) rfl (by decide) dX9_layGap_174 ?_
      refine Wa_iload 0 dX9_layGap_177 rfl ?_
      obtain ⟨b9, h⟩ := h
      refine Wa_iald2 (v := (M 92 ((M 102 (((16 + l2) + l6)).toNat)).toNat)) k_92 b9 rfl dX9_layGap_179 (fun r10 => ?_)
      refine Wa_aload_n 1 dX9_layGap_180 rfl rfl ?_
      refine Wa_getR cf_X9 lk_X9_19 k_88 (j := 7) rfl (by decide) dX9_layGap_181 ?_
      refine Wa_bipush (z := 16) dX9_layGap_184 (by decide) ?_
      refine Wa_iload_n 2 dX9_layGap_186 rfl rfl ?_
      refine Wa_iadd dX9_layGap_187 ?_
      refine Wa_iload 4 dX9_layGap_188 rfl ?_
      refine Wa_iadd dX9_layGap_190 ?_
      refine Wa_iald2 (v := (M 92 (((16 + l2) + l6)).toNat)) k_92 b6 rfl dX9_layGap_191 (fun r11 => ?_)
      refine Wa_callV [vI (M 92 ((M 102 (((16 + l2) + l6)).toNat)).toNat), vI (M 92 (((16 + l2) + l6)).toNat)] _ cf_X9 rfl k_88 lc_X9_200 cv_X9_changeBy rfl rfl (Nat.le_refl _) (Nat.le_of_ble_eq_true rfl) dX9_layGap_192 h ?_
      intro r M12 h
      obtain ⟨z13, rfl, r14, h⟩ := h
      have h := h r14
      refine Wa_iload 0 dX9_layGap_195 rfl ?_
      refine Wa_iload_n 2 dX9_layGap_197 rfl rfl ?_
      refine Wa_iload 4 dX9_layGap_198 rfl ?_
      refine Wa_iadd dX9_layGap_200 ?_
      refine Wa_aload_n 1 dX9_layGap_201 rfl rfl ?_
      refine Wa_aload_n 1 dX9_layGap_202 rfl rfl ?_
      refine Wa_getR cf_X9 lk_X9_19 k_88 (j := 7) rfl (by decide) dX9_layGap_203 ?_
      refine Wa_iload 0 dX9_layGap_206 rfl ?_
      refine Wa_iald2 (v := (M12 92 ((M 102 (((16 + l2) + l6)).toNat)).toNat)) k_92 b9 rfl dX9_layGap_208 (fun r15 => ?_)
      refine Wa_aload_n 1 dX9_layGap_209 rfl rfl ?_
      refine Wa_getR cf_X9 lk_X9_19 k_88 (j := 7) rfl (by decide) dX9_layGap_210 ?_
      refine Wa_bipush (z := 16) dX9_layGap_213 (by decide) ?_
      refine Wa_iload_n 2 dX9_layGap_215 rfl rfl ?_
      refine Wa_iadd dX9_layGap_216 ?_
      refine Wa_iload 4 dX9_layGap_217 rfl ?_
      refine Wa_iadd dX9_layGap_219 ?_
      refine Wa_iald2 (v := (M12 92 (((16 + l2) + l6)).toNat)) k_92 b6 rfl dX9_layGap_220 (fun r16 => ?_)
      refine Wa_callV [vI (M12 92 ((M 102 (((16 + l2) + l6)).toNat)).toNat), vI (M12 92 (((16 + l2) + l6)).toNat)] _ cf_X9 rfl k_88 lc_X9_194 cv_X9_likeBits rfl rfl (Nat.le_refl _) (Nat.le_of_ble_eq_true rfl) dX9_layGap_221 h ?_
      intro r M17 h
      obtain ⟨z18, rfl, r19, h⟩ := h
      have h := h r19
      refine Wa_aload_n 1 dX9_layGap_224 rfl rfl ?_
      refine Wa_getI2 (v := (M17 88 23)) cf_X9 lk_X9_203 k_88 (j := 23) rfl (by decide) rfl dX9_layGap_225 (fun r20 => ?_)
      obtain ⟨q21, h⟩ := h
      refine Wa_callV [vI z13, vI (M 102 (((16 + l2) + l6)).toNat), vI (l2 + l6), vI z18, vI (M17 88 23)] _ cf_X9 rfl k_88 lc_X9_206 cv_X9_addStep rfl rfl (Nat.le_refl _) (Nat.le_of_ble_eq_true rfl) dX9_layGap_228 h ?_
      intro r M22 h
      obtain ⟨rfl, h⟩ := h
      refine Wa_iinc (ls' := [(6, vI (l6 + 1)), (7, vI (M 102 (((16 + l2) + l6)).toNat)), (0, vR 88), (2, vI l2), (4, vI l4)]) 4 dX9_layGap_231 rfl (by decide) rfl ?_
      refine Wa_goto (tgt := 126) dX9_layGap_234 (by decide) ?_
      refine Wa_sub [2, 3, 4, 0] rfl ?_
      exact h
    · have h := h.2 c8
      refine Wa_aload_n 1 dX9_layGap_153 rfl rfl ?_
      refine Wa_iconst (z := 2) dX9_layGap_154 ?_
      refine Wa_iconst (z := (-1)) dX9_layGap_155 ?_
      refine Wa_iload_n 2 dX9_layGap_156 rfl rfl ?_
      refine Wa_iload 4 dX9_layGap_157 rfl ?_
      refine Wa_iadd dX9_layGap_159 ?_
      refine Wa_iconst (z := 0) dX9_layGap_160 ?_
      refine Wa_aload_n 1 dX9_layGap_161 rfl rfl ?_
      refine Wa_getI2 (v := (M 88 23)) cf_X9 lk_X9_203 k_88 (j := 23) rfl (by decide) rfl dX9_layGap_162 (fun r25 => ?_)
      obtain ⟨q26, h⟩ := h
      refine Wa_callV [vI 2, vI (-1), vI (l2 + l6), vI 0, vI (M 88 23)] _ cf_X9 rfl k_88 lc_X9_206 cv_X9_addStep rfl rfl (Nat.le_refl _) (Nat.le_of_ble_eq_true rfl) dX9_layGap_165 h ?_
      intro r M27 h
      obtain ⟨rfl, h⟩ := h
      refine Wa_goto (tgt := 231) dX9_layGap_168 (by decide) ?_
      refine Wa_iinc (ls' := [(6, vI (l6 + 1)), (7, vI (M 102 (((16 + l2) + l6)).toNat)), (0, vR 88), (2, vI l2), (4, vI l4)]) 4 dX9_layGap_231 rfl (by decide) rfl ?_
      refine Wa_goto (tgt := 126) dX9_layGap_234 (by decide) ?_
      refine Wa_sub [2, 3, 4, 0] rfl ?_
      exact h
theorem en_X9_layGap {g : AG} {d : Nat} {l1 : Int} {l2 : Int} {l3 : Int} {l4 : Int} {M : AM} {Q : AM → Prop} (h : S_X9_layGap_0 g d l1 l2 l3 l4 M Q) : MetV g mX9_layGap d [vR 88, vI l1, vI l2, vI l3, vI l4] M Q := MetA.of (by decide) (Nat.le_of_ble_eq_true rfl) h
def S_X9_layScript_0 (g : AG) (d : Nat) (M : AM) (Q : AM → Prop) : Prop := Wa g mX9_layScript d 0 [(0, vR 88)] [] M (QV Q)
def S_X9_layScript_2 (g : AG) (d : Nat) (l1 : Int) (M : AM) (Q : AM → Prop) : Prop := Wa g mX9_layScript d 2 [(0, vR 88), (1, vI l1)] [] M (QV Q)
def S_X9_layScript_37 (g : AG) (d : Nat) (l1 : Int) (M : AM) (Q : AM → Prop) : Prop := Wa g mX9_layScript d 37 [(0, vR 88), (1, vI l1)] [] M (QV Q)
def S_X9_layScript_60 (g : AG) (d : Nat) (l1 : Int) (l2 : Int) (M : AM) (Q : AM → Prop) : Prop := Wa g mX9_layScript d 60 [(0, vR 88), (1, vI l1), (2, vI l2)] [] M (QV Q)
set_option maxRecDepth 100000 in
theorem sg_X9_layScript_0 {g : AG} {d : Nat} {M : AM} {Q : AM → Prop} 
  (h : S_X9_layScript_2 g (d + 1) 0 M Q) : S_X9_layScript_0 g (d + 1) M Q := by
  show Wa _ _ _ _ _ _ _ _
  refine Wa_iconst (z := 0) dX9_layScript_0 ?_
  refine Wa_istore_n (ls' := [(1, vI 0), (0, vR 88)]) dX9_layScript_1 rfl (by decide) rfl ?_
  refine Wa_sub [1, 0] rfl ?_
  exact h
set_option maxRecDepth 100000 in
theorem sg_X9_layScript_2 {g : AG} {d : Nat} {l1 : Int} {M : AM} {Q : AM → Prop} 
  (h : rg l1 ∧ ((15 ≤ l1 → (MetV g mX9_layKept d [vR 88] M (fun M3 => S_X9_layScript_37 g (d + 1) 0 (mU (mU M3 88 22 0) 88 23 0) Q))) ∧ (¬ 15 ≤ l1 → ((0 ≤ l1 ∧ l1 < 15) ∧ (S_X9_layScript_2 g (d + 1) (l1 + 1) (mU M 103 (l1).toNat (-1)) Q))))) : S_X9_layScript_2 g (d + 1) l1 M Q := by
  show Wa _ _ _ _ _ _ _ _
  refine Wa_iload_n 1 dX9_layScript_2 rfl rfl ?_
  refine Wa_bipush (z := 15) dX9_layScript_3 (by decide) ?_
  obtain ⟨q1, h⟩ := h
  refine Wa_icmp_ge (tgt := 21) dX9_layScript_5 (by decide) q1 ⟨by decide, by decide⟩ (fun c2 => ?_) (fun c2 => ?_)
  · have h := h.1 c2
    refine Wa_aload_n 0 dX9_layScript_21 rfl rfl ?_
    refine Wa_callV [] _ cf_X9 rfl k_88 lc_X9_209 cv_X9_layKept rfl rfl (Nat.le_refl _) (Nat.le_of_ble_eq_true rfl) dX9_layScript_22 h ?_
    intro r M3 h
    obtain ⟨rfl, h⟩ := h
    refine Wa_aload_n 0 dX9_layScript_25 rfl rfl ?_
    refine Wa_iconst (z := 0) dX9_layScript_26 ?_
    refine Wa_putI cf_X9 lk_X9_197 k_88 (j := 22) rfl (by decide) rfl rfl ⟨by decide, by decide⟩ dX9_layScript_27 ?_
    refine Wa_aload_n 0 dX9_layScript_30 rfl rfl ?_
    refine Wa_iconst (z := 0) dX9_layScript_31 ?_
    refine Wa_putI cf_X9 lk_X9_203 k_88 (j := 23) rfl (by decide) rfl rfl ⟨by decide, by decide⟩ dX9_layScript_32 ?_
    refine Wa_iconst (z := 0) dX9_layScript_35 ?_
    refine Wa_istore_n (ls' := [(1, vI 0), (0, vR 88)]) dX9_layScript_36 rfl (by decide) rfl ?_
    refine Wa_sub [1, 0] rfl ?_
    exact h
  · have h := h.2 c2
    refine Wa_aload_n 0 dX9_layScript_8 rfl rfl ?_
    refine Wa_getR cf_X9 lk_X9_52 k_88 (j := 25) rfl (by decide) dX9_layScript_9 ?_
    refine Wa_iload_n 1 dX9_layScript_12 rfl rfl ?_
    refine Wa_iconst (z := (-1)) dX9_layScript_13 ?_
    obtain ⟨b6, h⟩ := h
    refine Wa_iast k_103 b6 ⟨by decide, by decide⟩ dX9_layScript_14 ?_
    refine Wa_iinc (ls' := [(1, vI (l1 + 1)), (0, vR 88)]) 1 dX9_layScript_15 rfl (by decide) rfl ?_
    refine Wa_goto (tgt := 2) dX9_layScript_18 (by decide) ?_
    refine Wa_sub [1, 0] rfl ?_
    exact h
set_option maxRecDepth 100000 in
theorem sg_X9_layScript_37 {g : AG} {d : Nat} {l1 : Int} {M : AM} {Q : AM → Prop} 
  (h : rg l1 ∧ ((32 ≤ l1 → (S_X9_layScript_60 g (d + 1) 0 0 M Q)) ∧ (¬ 32 ≤ l1 → ((0 ≤ l1 ∧ l1 < 32) ∧ (S_X9_layScript_37 g (d + 1) (l1 + 1) (mU M 102 (l1).toNat (-1)) Q))))) : S_X9_layScript_37 g (d + 1) l1 M Q := by
  show Wa _ _ _ _ _ _ _ _
  refine Wa_iload_n 1 dX9_layScript_37 rfl rfl ?_
  refine Wa_bipush (z := 32) dX9_layScript_38 (by decide) ?_
  obtain ⟨q1, h⟩ := h
  refine Wa_icmp_ge (tgt := 56) dX9_layScript_40 (by decide) q1 ⟨by decide, by decide⟩ (fun c2 => ?_) (fun c2 => ?_)
  · have h := h.1 c2
    refine Wa_iconst (z := 0) dX9_layScript_56 ?_
    refine Wa_istore_n (ls' := [(1, vI 0), (0, vR 88)]) dX9_layScript_57 rfl (by decide) rfl ?_
    refine Wa_iconst (z := 0) dX9_layScript_58 ?_
    refine Wa_istore_n (ls' := [(2, vI 0), (1, vI 0), (0, vR 88)]) dX9_layScript_59 rfl (by decide) rfl ?_
    refine Wa_sub [2, 1, 0] rfl ?_
    exact h
  · have h := h.2 c2
    refine Wa_aload_n 0 dX9_layScript_43 rfl rfl ?_
    refine Wa_getR cf_X9 lk_X9_49 k_88 (j := 24) rfl (by decide) dX9_layScript_44 ?_
    refine Wa_iload_n 1 dX9_layScript_47 rfl rfl ?_
    refine Wa_iconst (z := (-1)) dX9_layScript_48 ?_
    obtain ⟨b3, h⟩ := h
    refine Wa_iast k_102 b3 ⟨by decide, by decide⟩ dX9_layScript_49 ?_
    refine Wa_iinc (ls' := [(1, vI (l1 + 1)), (0, vR 88)]) 1 dX9_layScript_50 rfl (by decide) rfl ?_
    refine Wa_goto (tgt := 37) dX9_layScript_53 (by decide) ?_
    refine Wa_sub [1, 0] rfl ?_
    exact h
set_option maxRecDepth 100000 in
theorem sg_X9_layScript_60 {g : AG} {d : Nat} {l1 : Int} {l2 : Int} {M : AM} {Q : AM → Prop} 
  (h : rg l1 ∧ ((l1 < (M 93 0) → (MetI g mX9_countGap d [vR 88, vI 0, vI l1] M (fun z5 M4 => rg z5 → (rg l2 ∧ (MetI g mX9_countGap d [vR 88, vI 1, vI l2] M4 (fun z9 M8 => rg z9 → (rg (z5 + z9) ∧ (((z5 + z9) ≤ 0 → (rg (l1 + z5) ∧ (((M8 93 0) ≤ (l1 + z5) → (S_X9_layScript_60 g (d + 1) (l1 + z5) (l2 + z9) M8 Q)) ∧ (¬ (M8 93 0) ≤ (l1 + z5) → (rg (l2 + z9) ∧ (MetV g mX9_addStep d [vR 88, vI 0, vI (l1 + z5), vI (l2 + z9), vI 1065353216, vI (-1)] M8 (fun M17 => S_X9_layScript_60 g (d + 1) ((l1 + z5) + 1) ((l2 + z9) + 1) M17 Q))))))) ∧ (¬ (z5 + z9) ≤ 0 → (MetV g mX9_layGap d [vR 88, vI l1, vI l2, vI z5, vI z9] M8 (fun M20 => rg (l1 + z5) ∧ (((M20 93 0) ≤ (l1 + z5) → (S_X9_layScript_60 g (d + 1) (l1 + z5) (l2 + z9) M20 Q)) ∧ (¬ (M20 93 0) ≤ (l1 + z5) → (rg (l2 + z9) ∧ (MetV g mX9_addStep d [vR 88, vI 0, vI (l1 + z5), vI (l2 + z9), vI 1065353216, vI (-1)] M20 (fun M27 => S_X9_layScript_60 g (d + 1) ((l1 + z5) + 1) ((l2 + z9) + 1) M27 Q)))))))))))))))) ∧ (¬ l1 < (M 93 0) → (rg l2 ∧ (((M 93 1) ≤ l2 → (Q M)) ∧ (¬ (M 93 1) ≤ l2 → (MetI g mX9_countGap d [vR 88, vI 0, vI l1] M (fun z34 M33 => rg z34 → (MetI g mX9_countGap d [vR 88, vI 1, vI l2] M33 (fun z37 M36 => rg z37 → (rg (z34 + z37) ∧ (((z34 + z37) ≤ 0 → (rg (l1 + z34) ∧ (((M36 93 0) ≤ (l1 + z34) → (S_X9_layScript_60 g (d + 1) (l1 + z34) (l2 + z37) M36 Q)) ∧ (¬ (M36 93 0) ≤ (l1 + z34) → (rg (l2 + z37) ∧ (MetV g mX9_addStep d [vR 88, vI 0, vI (l1 + z34), vI (l2 + z37), vI 1065353216, vI (-1)] M36 (fun M45 => S_X9_layScript_60 g (d + 1) ((l1 + z34) + 1) ((l2 + z37) + 1) M45 Q))))))) ∧ (¬ (z34 + z37) ≤ 0 → (MetV g mX9_layGap d [vR 88, vI l1, vI l2, vI z34, vI z37] M36 (fun M48 => rg (l1 + z34) ∧ (((M48 93 0) ≤ (l1 + z34) → (S_X9_layScript_60 g (d + 1) (l1 + z34) (l2 + z37) M48 Q)) ∧ (¬ (M48 93 0) ≤ (l1 + z34) → (rg (l2 + z37) ∧ (MetV g mX9_addStep d [vR 88, vI 0, vI (l1 + z34), vI (l2 + z37), vI 1065353216, vI (-1)] M48 (fun M55 => S_X9_layScript_60 g (d + 1) ((l1 + z34) + 1) ((l2 + z37) + 1) M55 Q)))))))))))))))))))) : S_X9_layScript_60 g (d + 1) l1 l2 M Q := by
  show Wa _ _ _ _ _ _ _ _
  refine Wa_iload_n 1 dX9_layScript_60 rfl rfl ?_
  refine Wa_aload_n 0 dX9_layScript_61 rfl rfl ?_
  refine Wa_getR cf_X9 lk_X9_22 k_88 (j := 8) rfl (by decide) dX9_layScript_62 ?_
  refine Wa_iconst (z := 0) dX9_layScript_65 ?_
  refine Wa_iald2 (v := (M 93 0)) k_93 ⟨by decide, by decide⟩ rfl dX9_layScript_66 (fun r1 => ?_)
  obtain ⟨q2, h⟩ := h
  refine Wa_icmp_lt (tgt := 80) dX9_layScript_67 (by decide) q2 r1 (fun c3 => ?_) (fun c3 => ?_)
  · have h := h.1 c3
    refine Wa_aload_n 0 dX9_layScript_80 rfl rfl ?_
    refine Wa_iconst (z := 0) dX9_layScript_81 ?_
    refine Wa_iload_n 1 dX9_layScript_82 rfl rfl ?_
    refine Wa_callV [vI 0, vI l1] _ cf_X9 rfl k_88 lc_X9_212 cv_X9_countGap rfl rfl (Nat.le_refl _) (Nat.le_of_ble_eq_true rfl) dX9_layScript_83 h ?_
    intro r M4 h
    obtain ⟨z5, rfl, r6, h⟩ := h
    have h := h r6
    refine Wa_istore_n (ls' := [(3, vI z5), (0, vR 88), (1, vI l1), (2, vI l2)]) dX9_layScript_86 rfl (by decide) rfl ?_
    refine Wa_aload_n 1 dX9_layScript_87 rfl rfl ?_
    refine Wa_iconst (z := 1) dX9_layScript_88 ?_
    refine Wa_iload_n 3 dX9_layScript_89 rfl rfl ?_
    obtain ⟨q7, h⟩ := h
    refine Wa_callV [vI 1, vI l2] _ cf_X9 rfl k_88 lc_X9_212 cv_X9_countGap rfl rfl (Nat.le_refl _) (Nat.le_of_ble_eq_true rfl) dX9_layScript_90 h ?_
    intro r M8 h
    obtain ⟨z9, rfl, r10, h⟩ := h
    have h := h r10
    refine Wa_istore (ls' := [(4, vI z9), (3, vI z5), (0, vR 88), (1, vI l1), (2, vI l2)]) dX9_layScript_93 (by decide) rfl ?_
    refine Wa_iload_n 1 dX9_layScript_95 rfl rfl ?_
    refine Wa_iload 0 dX9_layScript_96 rfl ?_
    refine Wa_iadd dX9_layScript_98 ?_
    obtain ⟨q11, h⟩ := h
    refine Wa_if_le (tgt := 111) dX9_layScript_99 (by decide) q11 (fun c12 => ?_) (fun c12 => ?_)
    · have h := h.1 c12
      refine Wa_iload_n 3 dX9_layScript_111 rfl rfl ?_
      refine Wa_iload_n 1 dX9_layScript_112 rfl rfl ?_
      refine Wa_iadd dX9_layScript_113 ?_
      refine Wa_istore_n (ls' := [(1, vI (l1 + z5)), (4, vI z9), (3, vI z5), (0, vR 88), (2, vI l2)]) dX9_layScript_114 rfl (by decide) rfl ?_
      refine Wa_iload_n 4 dX9_layScript_115 rfl rfl ?_
      refine Wa_iload 1 dX9_layScript_116 rfl ?_
      refine Wa_iadd dX9_layScript_118 ?_
      refine Wa_istore_n (ls' := [(2, vI (l2 + z9)), (1, vI (l1 + z5)), (4, vI z9), (3, vI z5), (0, vR 88)]) dX9_layScript_119 rfl (by decide) rfl ?_
      refine Wa_iload_n 1 dX9_layScript_120 rfl rfl ?_
      refine Wa_aload_n 4 dX9_layScript_121 rfl rfl ?_
      refine Wa_getR cf_X9 lk_X9_22 k_88 (j := 8) rfl (by decide) dX9_layScript_122 ?_
      refine Wa_iconst (z := 0) dX9_layScript_125 ?_
      refine Wa_iald2 (v := (M8 93 0)) k_93 ⟨by decide, by decide⟩ rfl dX9_layScript_126 (fun r13 => ?_)
      obtain ⟨q14, h⟩ := h
      refine Wa_icmp_ge (tgt := 146) dX9_layScript_127 (by decide) q14 r13 (fun c15 => ?_) (fun c15 => ?_)
      · have h := h.1 c15
        refine Wa_goto (tgt := 60) dX9_layScript_146 (by decide) ?_
        refine Wa_sub [4, 1, 0] rfl ?_
        exact h
      · have h := h.2 c15
        refine Wa_aload_n 4 dX9_layScript_130 rfl rfl ?_
        refine Wa_iconst (z := 0) dX9_layScript_131 ?_
        refine Wa_iload_n 1 dX9_layScript_132 rfl rfl ?_
        refine Wa_iload_n 0 dX9_layScript_133 rfl rfl ?_
        refine Wa_ldc (z := 1065353216) dX9_layScript_134 kc_X9_218 ?_
        refine Wa_iconst (z := (-1)) dX9_layScript_136 ?_
        obtain ⟨q16, h⟩ := h
        refine Wa_callV [vI 0, vI (l1 + z5), vI (l2 + z9), vI 1065353216, vI (-1)] _ cf_X9 rfl k_88 lc_X9_206 cv_X9_addStep rfl rfl (Nat.le_refl _) (Nat.le_of_ble_eq_true rfl) dX9_layScript_137 h ?_
        intro r M17 h
        obtain ⟨rfl, h⟩ := h
        refine Wa_iinc (ls' := [(1, vI ((l1 + z5) + 1)), (2, vI (l2 + z9)), (4, vI z9), (3, vI z5), (0, vR 88)]) 1 dX9_layScript_140 rfl (by decide) rfl ?_
        refine Wa_iinc (ls' := [(2, vI ((l2 + z9) + 1)), (1, vI ((l1 + z5) + 1)), (4, vI z9), (3, vI z5), (0, vR 88)]) 1 dX9_layScript_143 rfl (by decide) rfl ?_
        refine Wa_goto (tgt := 60) dX9_layScript_146 (by decide) ?_
        refine Wa_sub [4, 1, 0] rfl ?_
        exact h
    · have h := h.2 c12
      refine Wa_aload_n 2 dX9_layScript_102 rfl rfl ?_
      refine Wa_iload_n 3 dX9_layScript_103 rfl rfl ?_
      refine Wa_iload_n 4 dX9_layScript_104 rfl rfl ?_
      refine Wa_iload_n 1 dX9_layScript_105 rfl rfl ?_
      refine Wa_iload 0 dX9_layScript_106 rfl ?_
      refine Wa_callV [vI l1, vI l2, vI z5, vI z9] _ cf_X9 rfl k_88 lc_X9_215 cv_X9_layGap rfl rfl (Nat.le_refl _) (Nat.le_of_ble_eq_true rfl) dX9_layScript_108 h ?_
      intro r M20 h
      obtain ⟨rfl, h⟩ := h
      refine Wa_iload_n 3 dX9_layScript_111 rfl rfl ?_
      refine Wa_iload_n 1 dX9_layScript_112 rfl rfl ?_
      refine Wa_iadd dX9_layScript_113 ?_
      refine Wa_istore_n (ls' := [(1, vI (l1 + z5)), (4, vI z9), (3, vI z5), (0, vR 88), (2, vI l2)]) dX9_layScript_114 rfl (by decide) rfl ?_
      refine Wa_iload_n 4 dX9_layScript_115 rfl rfl ?_
      refine Wa_iload 1 dX9_layScript_116 rfl ?_
      refine Wa_iadd dX9_layScript_118 ?_
      refine Wa_istore_n (ls' := [(2, vI (l2 + z9)), (1, vI (l1 + z5)), (4, vI z9), (3, vI z5), (0, vR 88)]) dX9_layScript_119 rfl (by decide) rfl ?_
      refine Wa_iload_n 1 dX9_layScript_120 rfl rfl ?_
      refine Wa_aload_n 4 dX9_layScript_121 rfl rfl ?_
      refine Wa_getR cf_X9 lk_X9_22 k_88 (j := 8) rfl (by decide) dX9_layScript_122 ?_
      refine Wa_iconst (z := 0) dX9_layScript_125 ?_
      refine Wa_iald2 (v := (M20 93 0)) k_93 ⟨by decide, by decide⟩ rfl dX9_layScript_126 (fun r23 => ?_)
      obtain ⟨q24, h⟩ := h
      refine Wa_icmp_ge (tgt := 146) dX9_layScript_127 (by decide) q24 r23 (fun c25 => ?_) (fun c25 => ?_)
      · have h := h.1 c25
        refine Wa_goto (tgt := 60) dX9_layScript_146 (by decide) ?_
        refine Wa_sub [4, 1, 0] rfl ?_
        exact h
      · have h := h.2 c25
        refine Wa_aload_n 4 dX9_layScript_130 rfl rfl ?_
        refine Wa_iconst (z := 0) dX9_layScript_131 ?_
        refine Wa_iload_n 1 dX9_layScript_132 rfl rfl ?_
        refine Wa_iload_n 0 dX9_layScript_133 rfl rfl ?_
        refine Wa_ldc (z := 1065353216) dX9_layScript_134 kc_X9_218 ?_
        refine Wa_iconst (z := (-1)) dX9_layScript_136 ?_
        obtain ⟨q26, h⟩ := h
        refine Wa_callV [vI 0, vI (l1 + z5), vI (l2 + z9), vI 1065353216, vI (-1)] _ cf_X9 rfl k_88 lc_X9_206 cv_X9_addStep rfl rfl (Nat.le_refl _) (Nat.le_of_ble_eq_true rfl) dX9_layScript_137 h ?_
        intro r M27 h
        obtain ⟨rfl, h⟩ := h
        refine Wa_iinc (ls' := [(1, vI ((l1 + z5) + 1)), (2, vI (l2 + z9)), (4, vI z9), (3, vI z5), (0, vR 88)]) 1 dX9_layScript_140 rfl (by decide) rfl ?_
        refine Wa_iinc (ls' := [(2, vI ((l2 + z9) + 1)), (1, vI ((l1 + z5) + 1)), (4, vI z9), (3, vI z5), (0, vR 88)]) 1 dX9_layScript_143 rfl (by decide) rfl ?_
        refine Wa_goto (tgt := 60) dX9_layScript_146 (by decide) ?_
        refine Wa_sub [4, 1, 0] rfl ?_
        exact h
  · have h := h.2 c3
    refine Wa_iload_n 2 dX9_layScript_70 rfl rfl ?_
    refine Wa_aload_n 0 dX9_layScript_71 rfl rfl ?_
    refine Wa_getR cf_X9 lk_X9_22 k_88 (j := 8) rfl (by decide) dX9_layScript_72 ?_
    refine Wa_iconst (z := 1) dX9_layScript_75 ?_
    refine Wa_iald2 (v := (M 93 1)) k_93 ⟨by decide, by decide⟩ rfl dX9_layScript_76 (fun r30 => ?_)
    obtain ⟨q31, h⟩ := h
    refine Wa_icmp_ge (tgt := 149) dX9_layScript_77 (by decide) q31 r30 (fun c32 => ?_) (fun c32 => ?_)
    · have h := h.1 c32
      exact Wa_return dX9_layScript_149 rfl ⟨rfl, h⟩
    · have h := h.2 c32
      refine Wa_aload_n 0 dX9_layScript_80 rfl rfl ?_
      refine Wa_iconst (z := 0) dX9_layScript_81 ?_
      refine Wa_iload_n 1 dX9_layScript_82 rfl rfl ?_
      refine Wa_callV [vI 0, vI l1] _ cf_X9 rfl k_88 lc_X9_212 cv_X9_countGap rfl rfl (Nat.le_refl _) (Nat.le_of_ble_eq_true rfl) dX9_layScript_83 h ?_
      intro r M33 h
      obtain ⟨z34, rfl, r35, h⟩ := h
      have h := h r35
      refine Wa_istore_n (ls' := [(3, vI z34), (0, vR 88), (1, vI l1), (2, vI l2)]) dX9_layScript_86 rfl (by decide) rfl ?_
      refine Wa_aload_n 1 dX9_layScript_87 rfl rfl ?_
      refine Wa_iconst (z := 1) dX9_layScript_88 ?_
      refine Wa_iload_n 3 dX9_layScript_89 rfl rfl ?_
      refine Wa_callV [vI 1, vI l2] _ cf_X9 rfl k_88 lc_X9_212 cv_X9_countGap rfl rfl (Nat.le_refl _) (Nat.le_of_ble_eq_true rfl) dX9_layScript_90 h ?_
      intro r M36 h
      obtain ⟨z37, rfl, r38, h⟩ := h
      have h := h r38
      refine Wa_istore (ls' := [(4, vI z37), (3, vI z34), (0, vR 88), (1, vI l1), (2, vI l2)]) dX9_layScript_93 (by decide) rfl ?_
      refine Wa_iload_n 1 dX9_layScript_95 rfl rfl ?_
      refine Wa_iload 0 dX9_layScript_96 rfl ?_
      refine Wa_iadd dX9_layScript_98 ?_
      obtain ⟨q39, h⟩ := h
      refine Wa_if_le (tgt := 111) dX9_layScript_99 (by decide) q39 (fun c40 => ?_) (fun c40 => ?_)
      · have h := h.1 c40
        refine Wa_iload_n 3 dX9_layScript_111 rfl rfl ?_
        refine Wa_iload_n 1 dX9_layScript_112 rfl rfl ?_
        refine Wa_iadd dX9_layScript_113 ?_
        refine Wa_istore_n (ls' := [(1, vI (l1 + z34)), (4, vI z37), (3, vI z34), (0, vR 88), (2, vI l2)]) dX9_layScript_114 rfl (by decide) rfl ?_
        refine Wa_iload_n 4 dX9_layScript_115 rfl rfl ?_
        refine Wa_iload 1 dX9_layScript_116 rfl ?_
        refine Wa_iadd dX9_layScript_118 ?_
        refine Wa_istore_n (ls' := [(2, vI (l2 + z37)), (1, vI (l1 + z34)), (4, vI z37), (3, vI z34), (0, vR 88)]) dX9_layScript_119 rfl (by decide) rfl ?_
        refine Wa_iload_n 1 dX9_layScript_120 rfl rfl ?_
        refine Wa_aload_n 4 dX9_layScript_121 rfl rfl ?_
        refine Wa_getR cf_X9 lk_X9_22 k_88 (j := 8) rfl (by decide) dX9_layScript_122 ?_
        refine Wa_iconst (z := 0) dX9_layScript_125 ?_
        refine Wa_iald2 (v := (M36 93 0)) k_93 ⟨by decide, by decide⟩ rfl dX9_layScript_126 (fun r41 => ?_)
        obtain ⟨q42, h⟩ := h
        refine Wa_icmp_ge (tgt := 146) dX9_layScript_127 (by decide) q42 r41 (fun c43 => ?_) (fun c43 => ?_)
        · have h := h.1 c43
          refine Wa_goto (tgt := 60) dX9_layScript_146 (by decide) ?_
          refine Wa_sub [4, 1, 0] rfl ?_
          exact h
        · have h := h.2 c43
          refine Wa_aload_n 4 dX9_layScript_130 rfl rfl ?_
          refine Wa_iconst (z := 0) dX9_layScript_131 ?_
          refine Wa_iload_n 1 dX9_layScript_132 rfl rfl ?_
          refine Wa_iload_n 0 dX9_layScript_133 rfl rfl ?_
          refine Wa_ldc (z := 1065353216) dX9_layScript_134 kc_X9_218 ?_
          refine Wa_iconst (z := (-1)) dX9_layScript_136 ?_
          obtain ⟨q44, h⟩ := h
          refine Wa_callV [vI 0, vI (l1 + z34), vI (l2 + z37), vI 1065353216, vI (-1)] _ cf_X9 rfl k_88 lc_X9_206 cv_X9_addStep rfl rfl (Nat.le_refl _) (Nat.le_of_ble_eq_true rfl) dX9_layScript_137 h ?_
          intro r M45 h
          obtain ⟨rfl, h⟩ := h
          refine Wa_iinc (ls' := [(1, vI ((l1 + z34) + 1)), (2, vI (l2 + z37)), (4, vI z37), (3, vI z34), (0, vR 88)]) 1 dX9_layScript_140 rfl (by decide) rfl ?_
          refine Wa_iinc (ls' := [(2, vI ((l2 + z37) + 1)), (1, vI ((l1 + z34) + 1)), (4, vI z37), (3, vI z34), (0, vR 88)]) 1 dX9_layScript_143 rfl (by decide) rfl ?_
          refine Wa_goto (tgt := 60) dX9_layScript_146 (by decide) ?_
          refine Wa_sub [4, 1, 0] rfl ?_
          exact h
      · have h := h.2 c40
        refine Wa_aload_n 2 dX9_layScript_102 rfl rfl ?_
        refine Wa_iload_n 3 dX9_layScript_103 rfl rfl ?_
        refine Wa_iload_n 4 dX9_layScript_104 rfl rfl ?_
        refine Wa_iload_n 1 dX9_layScript_105 rfl rfl ?_
        refine Wa_iload 0 dX9_layScript_106 rfl ?_
        refine Wa_callV [vI l1, vI l2, vI z34, vI z37] _ cf_X9 rfl k_88 lc_X9_215 cv_X9_layGap rfl rfl (Nat.le_refl _) (Nat.le_of_ble_eq_true rfl) dX9_layScript_108 h ?_
        intro r M48 h
        obtain ⟨rfl, h⟩ := h
        refine Wa_iload_n 3 dX9_layScript_111 rfl rfl ?_
        refine Wa_iload_n 1 dX9_layScript_112 rfl rfl ?_
        refine Wa_iadd dX9_layScript_113 ?_
        refine Wa_istore_n (ls' := [(1, vI (l1 + z34)), (4, vI z37), (3, vI z34), (0, vR 88), (2, vI l2)]) dX9_layScript_114 rfl (by decide) rfl ?_
        refine Wa_iload_n 4 dX9_layScript_115 rfl rfl ?_
        refine Wa_iload 1 dX9_layScript_116 rfl ?_
        refine Wa_iadd dX9_layScript_118 ?_
        refine Wa_istore_n (ls' := [(2, vI (l2 + z37)), (1, vI (l1 + z34)), (4, vI z37), (3, vI z34), (0, vR 88)]) dX9_layScript_119 rfl (by decide) rfl ?_
        refine Wa_iload_n 1 dX9_layScript_120 rfl rfl ?_
        refine Wa_aload_n 4 dX9_layScript_121 rfl rfl ?_
        refine Wa_getR cf_X9 lk_X9_22 k_88 (j := 8) rfl (by decide) dX9_layScript_122 ?_
        refine Wa_iconst (z := 0) dX9_layScript_125 ?_
        refine Wa_iald2 (v := (M48 93 0)) k_93 ⟨by decide, by decide⟩ rfl dX9_layScript_126 (fun r51 => ?_)
        obtain ⟨q52, h⟩ := h
        refine Wa_icmp_ge (tgt := 146) dX9_layScript_127 (by decide) q52 r51 (fun c53 => ?_) (fun c53 => ?_)
        · have h := h.1 c53
          refine Wa_goto (tgt := 60) dX9_layScript_146 (by decide) ?_
          refine Wa_sub [4, 1, 0] rfl ?_
          exact h
        · have h := h.2 c53
          refine Wa_aload_n 4 dX9_layScript_130 rfl rfl ?_
          refine Wa_iconst (z := 0) dX9_layScript_131 ?_
          refine Wa_iload_n 1 dX9_layScript_132 rfl rfl ?_
          refine Wa_iload_n 0 dX9_layScript_133 rfl rfl ?_
          refine Wa_ldc (z := 1065353216) dX9_layScript_134 kc_X9_218 ?_
          refine Wa_iconst (z := (-1)) dX9_layScript_136 ?_
          obtain ⟨q54, h⟩ := h
          refine Wa_callV [vI 0, vI (l1 + z34), vI (l2 + z37), vI 1065353216, vI (-1)] _ cf_X9 rfl k_88 lc_X9_206 cv_X9_addStep rfl rfl (Nat.le_refl _) (Nat.le_of_ble_eq_true rfl) dX9_layScript_137 h ?_
          intro r M55 h
          obtain ⟨rfl, h⟩ := h
          refine Wa_iinc (ls' := [(1, vI ((l1 + z34) + 1)), (2, vI (l2 + z37)), (4, vI z37), (3, vI z34), (0, vR 88)]) 1 dX9_layScript_140 rfl (by decide) rfl ?_
          refine Wa_iinc (ls' := [(2, vI ((l2 + z37) + 1)), (1, vI ((l1 + z34) + 1)), (4, vI z37), (3, vI z34), (0, vR 88)]) 1 dX9_layScript_143 rfl (by decide) rfl ?_
          refine Wa_goto (tgt := 60) dX9_layScript_146 (by decide) ?_
          refine Wa_sub [4, 1, 0] rfl ?_
          exact h
theorem en_X9_layScript {g : AG} {d : Nat} {M : AM} {Q : AM → Prop} (h : S_X9_layScript_0 g d M Q) : MetV g mX9_layScript d [vR 88] M Q := MetA.of (by decide) (Nat.le_of_ble_eq_true rfl) h
def S_X9_layKept_0 (g : AG) (d : Nat) (M : AM) (Q : AM → Prop) : Prop := Wa g mX9_layKept d 0 [(0, vR 88)] [] M (QV Q)
set_option maxRecDepth 100000 in
theorem sg_X9_layKept_0 {g : AG} {d : Nat} {M : AM} {Q : AM → Prop} 
  (h : MetV g mX9_matchAll d [vR 88] M (fun M1 => MetV g mX9_slideAll d [vR 88] M1 (fun M4 => Q M4))) : S_X9_layKept_0 g (d + 1) M Q := by
  show Wa _ _ _ _ _ _ _ _
  refine Wa_aload_n 0 dX9_layKept_0 rfl rfl ?_
  refine Wa_callV [] _ cf_X9 rfl k_88 lc_X9_219 cv_X9_matchAll rfl rfl (Nat.le_refl _) (Nat.le_of_ble_eq_true rfl) dX9_layKept_1 h ?_
  intro r M1 h
  obtain ⟨rfl, h⟩ := h
  refine Wa_aload_n 0 dX9_layKept_4 rfl rfl ?_
  refine Wa_callV [] _ cf_X9 rfl k_88 lc_X9_222 cv_X9_slideAll rfl rfl (Nat.le_refl _) (Nat.le_of_ble_eq_true rfl) dX9_layKept_5 h ?_
  intro r M4 h
  obtain ⟨rfl, h⟩ := h
  exact Wa_return dX9_layKept_8 rfl ⟨rfl, h⟩
theorem en_X9_layKept {g : AG} {d : Nat} {M : AM} {Q : AM → Prop} (h : S_X9_layKept_0 g d M Q) : MetV g mX9_layKept d [vR 88] M Q := MetA.of (by decide) (Nat.le_of_ble_eq_true rfl) h
def S_X9_isStep_0 (g : AG) (d : Nat) (l1 : Int) (M : AM) (Q : Int → AM → Prop) : Prop := Wa g mX9_isStep d 0 [(0, vR 88), (1, vI l1)] [] M (QI Q)
set_option maxRecDepth 100000 in
theorem sg_X9_isStep_0 {g : AG} {d : Nat} {l1 : Int} {M : AM} {Q : Int → AM → Prop} 
  (h : rg l1 ∧ (rg ((M 88 22) - 1) ∧ (MetI g mX9_in d [vL l1, vL 0, vL ((M 88 22) - 1)] M (fun z5 M4 => rg z5 → ((z5 = 0 ∨ z5 = 1) ∧ (Q z5 M4)))))) : S_X9_isStep_0 g (d + 1) l1 M Q := by
  show Wa _ _ _ _ _ _ _ _
  refine Wa_iload_n 1 dX9_isStep_0 rfl rfl ?_
  obtain ⟨q1, h⟩ := h
  refine Wa_i2l dX9_isStep_1 q1 ?_
  refine Wa_lconst (v := 0) dX9_isStep_2 rfl ?_
  refine Wa_aload_n 0 dX9_isStep_3 rfl rfl ?_
  refine Wa_getI2 (v := (M 88 22)) cf_X9 lk_X9_197 k_88 (j := 22) rfl (by decide) rfl dX9_isStep_4 (fun r2 => ?_)
  refine Wa_iconst (z := 1) dX9_isStep_7 ?_
  refine Wa_isub dX9_isStep_8 ?_
  obtain ⟨q3, h⟩ := h
  refine Wa_i2l dX9_isStep_9 q3 ?_
  refine Wa_callS [vL l1, vL 0, vL ((M 88 22) - 1)] _ lc_X9_73 cs_X9_in rfl rfl (Nat.le_refl _) (Nat.le_of_ble_eq_true rfl) dX9_isStep_10 h ?_
  intro r M4 h
  obtain ⟨z5, rfl, r6, h⟩ := h
  have h := h r6
  obtain ⟨z7, h⟩ := h
  exact Wa_zreturn dX9_isStep_13 rfl z7 ⟨_, rfl, rg_bool z7, h⟩
theorem en_X9_isStep {g : AG} {d : Nat} {l1 : Int} {M : AM} {Q : Int → AM → Prop} (h : S_X9_isStep_0 g d l1 M Q) : MetI g mX9_isStep d [vR 88, vI l1] M Q := MetA.of (by decide) (Nat.le_of_ble_eq_true rfl) h
def S_X9_step_0 (g : AG) (d : Nat) (l1 : Int) (l2 : Int) (M : AM) (Q : Int → AM → Prop) : Prop := Wa g mX9_step d 0 [(0, vR 88), (1, vI l1), (2, vI l2)] [] M (QI Q)
set_option maxRecDepth 100000 in
theorem sg_X9_step_0 {g : AG} {d : Nat} {l1 : Int} {l2 : Int} {M : AM} {Q : Int → AM → Prop} 
  (h : rg l1 ∧ (MetI g mX9_isStep d [vR 88, vI l1] M (fun z3 M2 => rg z3 → ((¬ z3 = 0 → (rg l2 ∧ (MetI g mX9_in d [vL l2, vL 0, vL 4] M2 (fun z8 M7 => rg z8 → ((z8 = 0 → (Q (-102) M7)) ∧ (¬ z8 = 0 → ((0 ≤ ((5 * l1) + l2) ∧ ((5 * l1) + l2) < 80) ∧ (Q (M7 101 (((5 * l1) + l2)).toNat) M7)))))))) ∧ (z3 = 0 → (Q (-101) M2)))))) : S_X9_step_0 g (d + 1) l1 l2 M Q := by
  show Wa _ _ _ _ _ _ _ _
  refine Wa_aload_n 0 dX9_step_0 rfl rfl ?_
  refine Wa_iload_n 1 dX9_step_1 rfl rfl ?_
  obtain ⟨q1, h⟩ := h
  refine Wa_callV [vI l1] _ cf_X9 rfl k_88 lc_X9_225 cv_X9_isStep rfl rfl (Nat.le_refl _) (Nat.le_of_ble_eq_true rfl) dX9_step_2 h ?_
  intro r M2 h
  obtain ⟨z3, rfl, r4, h⟩ := h
  have h := h r4
  refine Wa_if_ne (tgt := 11) dX9_step_5 (by decide) r4 (fun c5 => ?_) (fun c5 => ?_)
  · have h := h.1 c5
    refine Wa_iload_n 2 dX9_step_11 rfl rfl ?_
    obtain ⟨q6, h⟩ := h
    refine Wa_i2l dX9_step_12 q6 ?_
    refine Wa_lconst (v := 0) dX9_step_13 rfl ?_
    refine Wa_ldc2 (z := 4) dX9_step_14 kc_X9_228 ?_
    refine Wa_callS [vL l2, vL 0, vL 4] _ lc_X9_73 cs_X9_in rfl rfl (Nat.le_refl _) (Nat.le_of_ble_eq_true rfl) dX9_step_17 h ?_
    intro r M7 h
    obtain ⟨z8, rfl, r9, h⟩ := h
    have h := h r9
    refine Wa_if_eq (tgt := 36) dX9_step_20 (by decide) r9 (fun c10 => ?_) (fun c10 => ?_)
    · have h := h.1 c10
      refine Wa_bipush (z := (-102)) dX9_step_36 (by decide) ?_
      exact Wa_ireturn dX9_step_38 rfl ⟨_, rfl, ⟨by decide, by decide⟩, h⟩
    · have h := h.2 c10
      refine Wa_aload_n 0 dX9_step_23 rfl rfl ?_
      refine Wa_getR cf_X9 lk_X9_46 k_88 (j := 21) rfl (by decide) dX9_step_24 ?_
      refine Wa_iconst (z := 5) dX9_step_27 ?_
      refine Wa_iload_n 1 dX9_step_28 rfl rfl ?_
      refine Wa_imul dX9_step_29 ?_
      refine Wa_iload_n 2 dX9_step_30 rfl rfl ?_
      refine Wa_iadd dX9_step_31 ?_
      obtain ⟨b11, h⟩ := h
      refine Wa_iald2 (v := (M7 101 (((5 * l1) + l2)).toNat)) k_101 b11 rfl dX9_step_32 (fun r12 => ?_)
      refine Wa_goto (tgt := 38) dX9_step_33 (by decide) ?_
      exact Wa_ireturn dX9_step_38 rfl ⟨_, rfl, r12, h⟩
  · have h := h.2 c5
    refine Wa_bipush (z := (-101)) dX9_step_8 (by decide) ?_
    exact Wa_ireturn dX9_step_10 rfl ⟨_, rfl, ⟨by decide, by decide⟩, h⟩
theorem en_X9_step {g : AG} {d : Nat} {l1 : Int} {l2 : Int} {M : AM} {Q : Int → AM → Prop} (h : S_X9_step_0 g d l1 l2 M Q) : MetI g mX9_step d [vR 88, vI l1, vI l2] M Q := MetA.of (by decide) (Nat.le_of_ble_eq_true rfl) h
def S_X9_lettersBy_0 (g : AG) (d : Nat) (l1 : Int) (l2 : Int) (M : AM) (Q : Int → AM → Prop) : Prop := Wa g mX9_lettersBy d 0 [(0, vR 88), (1, vI l1), (2, vI l2)] [] M (QI Q)
set_option maxRecDepth 100000 in
theorem sg_X9_lettersBy_0 {g : AG} {d : Nat} {l1 : Int} {l2 : Int} {M : AM} {Q : Int → AM → Prop} 
  (h : (0 ≤ ((5 * l1) + 1) ∧ ((5 * l1) + 1) < 80) ∧ ((0 ≤ (M 101 (((5 * l1) + 1)).toNat) ∧ (M 101 (((5 * l1) + 1)).toNat) < 32) ∧ ((0 ≤ ((5 * l1) + 2) ∧ ((5 * l1) + 2) < 80) ∧ ((0 ≤ (16 + (M 101 (((5 * l1) + 2)).toNat)) ∧ (16 + (M 101 (((5 * l1) + 2)).toNat)) < 32) ∧ (MetI g mX9_alike d [vR 88, vI (M 92 ((M 101 (((5 * l1) + 1)).toNat)).toNat), vI (M 92 ((16 + (M 101 (((5 * l1) + 2)).toNat))).toNat)] M (fun z10 M9 => rg z10 → (rg l2 ∧ ((¬ l2 = 0 → ((¬ l2 = 1 → (MetI g mX9_lettersOf d [vI (M 92 ((16 + (M 101 (((5 * l1) + 2)).toNat))).toNat)] M9 (fun z16 M15 => rg z16 → (rg (z16 - z10) ∧ (Q (z16 - z10) M15))))) ∧ (l2 = 1 → (MetI g mX9_lettersOf d [vI (M 92 ((M 101 (((5 * l1) + 1)).toNat)).toNat)] M9 (fun z20 M19 => rg z20 → (rg (z20 - z10) ∧ (Q (z20 - z10) M19))))))) ∧ (l2 = 0 → (Q z10 M9)))))))))) : S_X9_lettersBy_0 g (d + 1) l1 l2 M Q := by
  show Wa _ _ _ _ _ _ _ _
  refine Wa_aload_n 0 dX9_lettersBy_0 rfl rfl ?_
  refine Wa_getR cf_X9 lk_X9_19 k_88 (j := 7) rfl (by decide) dX9_lettersBy_1 ?_
  refine Wa_aload_n 0 dX9_lettersBy_4 rfl rfl ?_
  refine Wa_getR cf_X9 lk_X9_46 k_88 (j := 21) rfl (by decide) dX9_lettersBy_5 ?_
  refine Wa_iconst (z := 5) dX9_lettersBy_8 ?_
  refine Wa_iload_n 1 dX9_lettersBy_9 rfl rfl ?_
  refine Wa_imul dX9_lettersBy_10 ?_
  refine Wa_iconst (z := 1) dX9_lettersBy_11 ?_
  refine Wa_iadd dX9_lettersBy_12 ?_
  obtain ⟨b1, h⟩ := h
  refine Wa_iald2 (v := (M 101 (((5 * l1) + 1)).toNat)) k_101 b1 rfl dX9_lettersBy_13 (fun r2 => ?_)
  obtain ⟨b3, h⟩ := h
  refine Wa_iald2 (v := (M 92 ((M 101 (((5 * l1) + 1)).toNat)).toNat)) k_92 b3 rfl dX9_lettersBy_14 (fun r4 => ?_)
  refine Wa_istore_n (ls' := [(3, vI (M 92 ((M 101 (((5 * l1) + 1)).toNat)).toNat)), (0, vR 88), (1, vI l1), (2, vI l2)]) dX9_lettersBy_15 rfl (by decide) rfl ?_
  refine Wa_aload_n 1 dX9_lettersBy_16 rfl rfl ?_
  refine Wa_getR cf_X9 lk_X9_19 k_88 (j := 7) rfl (by decide) dX9_lettersBy_17 ?_
  refine Wa_bipush (z := 16) dX9_lettersBy_20 (by decide) ?_
  refine Wa_aload_n 1 dX9_lettersBy_22 rfl rfl ?_
  refine Wa_getR cf_X9 lk_X9_46 k_88 (j := 21) rfl (by decide) dX9_lettersBy_23 ?_
  refine Wa_iconst (z := 5) dX9_lettersBy_26 ?_
  refine Wa_iload_n 2 dX9_lettersBy_27 rfl rfl ?_
  refine Wa_imul dX9_lettersBy_28 ?_
  refine Wa_iconst (z := 2) dX9_lettersBy_29 ?_
  refine Wa_iadd dX9_lettersBy_30 ?_
  obtain ⟨b5, h⟩ := h
  refine Wa_iald2 (v := (M 101 (((5 * l1) + 2)).toNat)) k_101 b5 rfl dX9_lettersBy_31 (fun r6 => ?_)
  refine Wa_iadd dX9_lettersBy_32 ?_
  obtain ⟨b7, h⟩ := h
  refine Wa_iald2 (v := (M 92 ((16 + (M 101 (((5 * l1) + 2)).toNat))).toNat)) k_92 b7 rfl dX9_lettersBy_33 (fun r8 => ?_)
  refine Wa_istore (ls' := [(4, vI (M 92 ((16 + (M 101 (((5 * l1) + 2)).toNat))).toNat)), (3, vI (M 92 ((M 101 (((5 * l1) + 1)).toNat)).toNat)), (0, vR 88), (1, vI l1), (2, vI l2)]) dX9_lettersBy_34 (by decide) rfl ?_
  refine Wa_aload_n 2 dX9_lettersBy_36 rfl rfl ?_
  refine Wa_iload_n 1 dX9_lettersBy_37 rfl rfl ?_
  refine Wa_iload 0 dX9_lettersBy_38 rfl ?_
  refine Wa_callV [vI (M 92 ((M 101 (((5 * l1) + 1)).toNat)).toNat), vI (M 92 ((16 + (M 101 (((5 * l1) + 2)).toNat))).toNat)] _ cf_X9 rfl k_88 lc_X9_184 cv_X9_alike rfl rfl (Nat.le_refl _) (Nat.le_of_ble_eq_true rfl) dX9_lettersBy_40 h ?_
  intro r M9 h
  obtain ⟨z10, rfl, r11, h⟩ := h
  have h := h r11
  refine Wa_istore (ls' := [(5, vI z10), (4, vI (M 92 ((16 + (M 101 (((5 * l1) + 2)).toNat))).toNat)), (3, vI (M 92 ((M 101 (((5 * l1) + 1)).toNat)).toNat)), (0, vR 88), (1, vI l1), (2, vI l2)]) dX9_lettersBy_43 (by decide) rfl ?_
  refine Wa_iload_n 5 dX9_lettersBy_45 rfl rfl ?_
  obtain ⟨q12, h⟩ := h
  refine Wa_if_ne (tgt := 54) dX9_lettersBy_46 (by decide) q12 (fun c13 => ?_) (fun c13 => ?_)
  · have h := h.1 c13
    refine Wa_iload_n 5 dX9_lettersBy_54 rfl rfl ?_
    refine Wa_iconst (z := 1) dX9_lettersBy_55 ?_
    refine Wa_icmp_ne (tgt := 69) dX9_lettersBy_56 (by decide) q12 ⟨by decide, by decide⟩ (fun c14 => ?_) (fun c14 => ?_)
    · have h := h.1 c14
      refine Wa_iload 1 dX9_lettersBy_69 rfl ?_
      refine Wa_callS [vI (M 92 ((16 + (M 101 (((5 * l1) + 2)).toNat))).toNat)] _ lc_X9_177 cs_X9_lettersOf rfl rfl (Nat.le_refl _) (Nat.le_of_ble_eq_true rfl) dX9_lettersBy_71 h ?_
      intro r M15 h
      obtain ⟨z16, rfl, r17, h⟩ := h
      have h := h r17
      refine Wa_iload 0 dX9_lettersBy_74 rfl ?_
      refine Wa_isub dX9_lettersBy_76 ?_
      obtain ⟨q18, h⟩ := h
      exact Wa_ireturn dX9_lettersBy_77 rfl ⟨_, rfl, q18, h⟩
    · have h := h.2 c14
      refine Wa_iload_n 2 dX9_lettersBy_59 rfl rfl ?_
      refine Wa_callS [vI (M 92 ((M 101 (((5 * l1) + 1)).toNat)).toNat)] _ lc_X9_177 cs_X9_lettersOf rfl rfl (Nat.le_refl _) (Nat.le_of_ble_eq_true rfl) dX9_lettersBy_60 h ?_
      intro r M19 h
      obtain ⟨z20, rfl, r21, h⟩ := h
      have h := h r21
      refine Wa_iload 0 dX9_lettersBy_63 rfl ?_
      refine Wa_isub dX9_lettersBy_65 ?_
      refine Wa_goto (tgt := 77) dX9_lettersBy_66 (by decide) ?_
      obtain ⟨q22, h⟩ := h
      exact Wa_ireturn dX9_lettersBy_77 rfl ⟨_, rfl, q22, h⟩
  · have h := h.2 c13
    refine Wa_iload 0 dX9_lettersBy_49 rfl ?_
    refine Wa_goto (tgt := 77) dX9_lettersBy_51 (by decide) ?_
    exact Wa_ireturn dX9_lettersBy_77 rfl ⟨_, rfl, r11, h⟩
theorem en_X9_lettersBy {g : AG} {d : Nat} {l1 : Int} {l2 : Int} {M : AM} {Q : Int → AM → Prop} (h : S_X9_lettersBy_0 g d l1 l2 M Q) : MetI g mX9_lettersBy d [vR 88, vI l1, vI l2] M Q := MetA.of (by decide) (Nat.le_of_ble_eq_true rfl) h
def S_X9_letters_0 (g : AG) (d : Nat) (l1 : Int) (l2 : Int) (M : AM) (Q : Int → AM → Prop) : Prop := Wa g mX9_letters d 0 [(0, vR 88), (1, vI l1), (2, vI l2)] [] M (QI Q)
set_option maxRecDepth 100000 in
theorem sg_X9_letters_0 {g : AG} {d : Nat} {l1 : Int} {l2 : Int} {M : AM} {Q : Int → AM → Prop} 
  (h : rg l1 ∧ (MetI g mX9_isStep d [vR 88, vI l1] M (fun z3 M2 => rg z3 → ((¬ z3 = 0 → ((0 ≤ (5 * l1) ∧ (5 * l1) < 80) ∧ ((3 ≤ (M2 101 ((5 * l1)).toNat) → (rg l2 ∧ (MetI g mX9_in d [vL l2, vL 0, vL 2] M2 (fun z11 M10 => rg z11 → ((z11 = 0 → (Q (-102) M10)) ∧ (¬ z11 = 0 → (MetI g mX9_lettersBy d [vR 88, vI l1, vI l2] M10 (fun z15 M14 => rg z15 → (Q z15 M14))))))))) ∧ (¬ 3 ≤ (M2 101 ((5 * l1)).toNat) → (Q (-103) M2))))) ∧ (z3 = 0 → (Q (-101) M2)))))) : S_X9_letters_0 g (d + 1) l1 l2 M Q := by
  show Wa _ _ _ _ _ _ _ _
  refine Wa_aload_n 0 dX9_letters_0 rfl rfl ?_
  refine Wa_iload_n 1 dX9_letters_1 rfl rfl ?_
  obtain ⟨q1, h⟩ := h
  refine Wa_callV [vI l1] _ cf_X9 rfl k_88 lc_X9_225 cv_X9_isStep rfl rfl (Nat.le_refl _) (Nat.le_of_ble_eq_true rfl) dX9_letters_2 h ?_
  intro r M2 h
  obtain ⟨z3, rfl, r4, h⟩ := h
  have h := h r4
  refine Wa_if_ne (tgt := 11) dX9_letters_5 (by decide) r4 (fun c5 => ?_) (fun c5 => ?_)
  · have h := h.1 c5
    refine Wa_aload_n 0 dX9_letters_11 rfl rfl ?_
    refine Wa_getR cf_X9 lk_X9_46 k_88 (j := 21) rfl (by decide) dX9_letters_12 ?_
    refine Wa_iconst (z := 5) dX9_letters_15 ?_
    refine Wa_iload_n 1 dX9_letters_16 rfl rfl ?_
    refine Wa_imul dX9_letters_17 ?_
    obtain ⟨b6, h⟩ := h
    refine Wa_iald2 (v := (M2 101 ((5 * l1)).toNat)) k_101 b6 rfl dX9_letters_18 (fun r7 => ?_)
    refine Wa_iconst (z := 3) dX9_letters_19 ?_
    refine Wa_icmp_ge (tgt := 26) dX9_letters_20 (by decide) r7 ⟨by decide, by decide⟩ (fun c8 => ?_) (fun c8 => ?_)
    · have h := h.1 c8
      refine Wa_iload_n 2 dX9_letters_26 rfl rfl ?_
      obtain ⟨q9, h⟩ := h
      refine Wa_i2l dX9_letters_27 q9 ?_
      refine Wa_lconst (v := 0) dX9_letters_28 rfl ?_
      refine Wa_ldc2 (z := 2) dX9_letters_29 kc_X9_175 ?_
      refine Wa_callS [vL l2, vL 0, vL 2] _ lc_X9_73 cs_X9_in rfl rfl (Nat.le_refl _) (Nat.le_of_ble_eq_true rfl) dX9_letters_32 h ?_
      intro r M10 h
      obtain ⟨z11, rfl, r12, h⟩ := h
      have h := h r12
      refine Wa_if_eq (tgt := 47) dX9_letters_35 (by decide) r12 (fun c13 => ?_) (fun c13 => ?_)
      · have h := h.1 c13
        refine Wa_bipush (z := (-102)) dX9_letters_47 (by decide) ?_
        exact Wa_ireturn dX9_letters_49 rfl ⟨_, rfl, ⟨by decide, by decide⟩, h⟩
      · have h := h.2 c13
        refine Wa_aload_n 0 dX9_letters_38 rfl rfl ?_
        refine Wa_iload_n 1 dX9_letters_39 rfl rfl ?_
        refine Wa_iload_n 2 dX9_letters_40 rfl rfl ?_
        refine Wa_callV [vI l1, vI l2] _ cf_X9 rfl k_88 lc_X9_230 cv_X9_lettersBy rfl rfl (Nat.le_refl _) (Nat.le_of_ble_eq_true rfl) dX9_letters_41 h ?_
        intro r M14 h
        obtain ⟨z15, rfl, r16, h⟩ := h
        have h := h r16
        refine Wa_goto (tgt := 49) dX9_letters_44 (by decide) ?_
        exact Wa_ireturn dX9_letters_49 rfl ⟨_, rfl, r16, h⟩
    · have h := h.2 c8
      refine Wa_bipush (z := (-103)) dX9_letters_23 (by decide) ?_
      exact Wa_ireturn dX9_letters_25 rfl ⟨_, rfl, ⟨by decide, by decide⟩, h⟩
  · have h := h.2 c5
    refine Wa_bipush (z := (-101)) dX9_letters_8 (by decide) ?_
    exact Wa_ireturn dX9_letters_10 rfl ⟨_, rfl, ⟨by decide, by decide⟩, h⟩
theorem en_X9_letters {g : AG} {d : Nat} {l1 : Int} {l2 : Int} {M : AM} {Q : Int → AM → Prop} (h : S_X9_letters_0 g d l1 l2 M Q) : MetI g mX9_letters d [vR 88, vI l1, vI l2] M Q := MetA.of (by decide) (Nat.le_of_ble_eq_true rfl) h
def S_X9_tellLine_0 (g : AG) (d : Nat) (l1 : Int) (l2 : Int) (l3 : Int) (M : AM) (Q : Int → AM → Prop) : Prop := Wa g mX9_tellLine d 0 [(0, vR 88), (1, vI l1), (2, vI l2), (3, vI l3)] [] M (QI Q)
set_option maxRecDepth 100000 in
theorem sg_X9_tellLine_0 {g : AG} {d : Nat} {l1 : Int} {l2 : Int} {l3 : Int} {M : AM} {Q : Int → AM → Prop} 
  (h : (0 ≤ ((16 * l1) + l2) ∧ ((16 * l1) + l2) < 32) ∧ (rg l3 ∧ ((l3 < 0 ∨ 5 < l3 → (Q (-102) M)) ∧ (l3 = 0 → (MetI g mX9_lettersOf d [vI (M 92 (((16 * l1) + l2)).toNat)] M (fun z6 M5 => rg z6 → (Q z6 M5)))) ∧ (l3 = 1 → (MetI g mX9_lettersOf d [vI (M 92 (((16 * l1) + l2)).toNat)] M (fun z9 M8 => rg z9 → ((z9 < l3 → (Q (-1) M8)) ∧ (¬ z9 < l3 → (rg (l3 - 1) ∧ (MetI g mX9_letterOf d [vI (M 92 (((16 * l1) + l2)).toNat), vI (l3 - 1)] M8 (fun z14 M13 => rg z14 → (Q z14 M13))))))))) ∧ (l3 = 2 → (MetI g mX9_lettersOf d [vI (M 92 (((16 * l1) + l2)).toNat)] M (fun z17 M16 => rg z17 → ((z17 < l3 → (Q (-1) M16)) ∧ (¬ z17 < l3 → (rg (l3 - 1) ∧ (MetI g mX9_letterOf d [vI (M 92 (((16 * l1) + l2)).toNat), vI (l3 - 1)] M16 (fun z22 M21 => rg z22 → (Q z22 M21))))))))) ∧ (l3 = 3 → (MetI g mX9_lettersOf d [vI (M 92 (((16 * l1) + l2)).toNat)] M (fun z25 M24 => rg z25 → ((z25 < l3 → (Q (-1) M24)) ∧ (¬ z25 < l3 → (rg (l3 - 1) ∧ (MetI g mX9_letterOf d [vI (M 92 (((16 * l1) + l2)).toNat), vI (l3 - 1)] M24 (fun z30 M29 => rg z30 → (Q z30 M29))))))))) ∧ (l3 = 4 → ((¬ (M 94 (((16 * l1) + l2)).toNat) = (-1) → (Q (M 94 (((16 * l1) + l2)).toNat) M)) ∧ ((M 94 (((16 * l1) + l2)).toNat) = (-1) → (Q (M 102 (((16 * l1) + l2)).toNat) M)))) ∧ (l3 = 5 → ((¬ (M 94 (((16 * l1) + l2)).toNat) = (-1) → (Q 1 M)) ∧ ((M 94 (((16 * l1) + l2)).toNat) = (-1) → (Q 0 M))))))) : S_X9_tellLine_0 g (d + 1) l1 l2 l3 M Q := by
  show Wa _ _ _ _ _ _ _ _
  refine Wa_aload_n 0 dX9_tellLine_0 rfl rfl ?_
  refine Wa_getR cf_X9 lk_X9_19 k_88 (j := 7) rfl (by decide) dX9_tellLine_1 ?_
  refine Wa_bipush (z := 16) dX9_tellLine_4 (by decide) ?_
  refine Wa_iload_n 1 dX9_tellLine_6 rfl rfl ?_
  refine Wa_imul dX9_tellLine_7 ?_
  refine Wa_iload_n 2 dX9_tellLine_8 rfl rfl ?_
  refine Wa_iadd dX9_tellLine_9 ?_
  obtain ⟨b1, h⟩ := h
  refine Wa_iald2 (v := (M 92 (((16 * l1) + l2)).toNat)) k_92 b1 rfl dX9_tellLine_10 (fun r2 => ?_)
  refine Wa_istore (ls' := [(4, vI (M 92 (((16 * l1) + l2)).toNat)), (0, vR 88), (1, vI l1), (2, vI l2), (3, vI l3)]) dX9_tellLine_11 (by decide) rfl ?_
  refine Wa_iload_n 4 dX9_tellLine_13 rfl rfl ?_
  obtain ⟨q3, h⟩ := h
  by_cases c4 : l3 < 0 ∨ 5 < l3
  · have h := h.1 c4
    refine Wa_tabOut (tgt := 142) dX9_tellLine_14 q3 c4 (by decide) ?_
    refine Wa_bipush (z := (-102)) dX9_tellLine_142 (by decide) ?_
    exact Wa_ireturn dX9_tellLine_144 rfl ⟨_, rfl, ⟨by decide, by decide⟩, h⟩
  · have h := h.2
    rcases (show l3 = 0 ∨ l3 = 1 ∨ l3 = 2 ∨ l3 = 3 ∨ l3 = 4 ∨ l3 = 5 by omega) with c4 | c4 | c4 | c4 | c4 | c4
    · have h := h.1 c4
      refine Wa_tabIn (tgt := 52) dX9_tellLine_14 q3 (by omega) (by omega) (by rw [c4]; rfl) (by decide) ?_
      refine Wa_iload 0 dX9_tellLine_52 rfl ?_
      refine Wa_callS [vI (M 92 (((16 * l1) + l2)).toNat)] _ lc_X9_177 cs_X9_lettersOf rfl rfl (Nat.le_refl _) (Nat.le_of_ble_eq_true rfl) dX9_tellLine_54 h ?_
      intro r M5 h
      obtain ⟨z6, rfl, r7, h⟩ := h
      have h := h r7
      exact Wa_ireturn dX9_tellLine_57 rfl ⟨_, rfl, r7, h⟩
    · have h := h.2.1 c4
      refine Wa_tabIn (tgt := 58) dX9_tellLine_14 q3 (by omega) (by omega) (by rw [c4]; rfl) (by decide) ?_
      refine Wa_iload_n 4 dX9_tellLine_58 rfl rfl ?_
      refine Wa_iload 0 dX9_tellLine_59 rfl ?_
      refine Wa_callS [vI (M 92 (((16 * l1) + l2)).toNat)] _ lc_X9_177 cs_X9_lettersOf rfl rfl (Nat.le_refl _) (Nat.le_of_ble_eq_true rfl) dX9_tellLine_61 h ?_
      intro r M8 h
      obtain ⟨z9, rfl, r10, h⟩ := h
      have h := h r10
      refine Wa_icmp_gt (tgt := 78) dX9_tellLine_64 (by decide) q3 r10 (fun c11 => ?_) (fun c11 => ?_)
      · have h := h.1 c11
        refine Wa_iconst (z := (-1)) dX9_tellLine_78 ?_
        exact Wa_ireturn dX9_tellLine_79 rfl ⟨_, rfl, ⟨by decide, by decide⟩, h⟩
      · have h := h.2 c11
        refine Wa_iload 0 dX9_tellLine_67 rfl ?_
        refine Wa_iload_n 4 dX9_tellLine_69 rfl rfl ?_
        refine Wa_iconst (z := 1) dX9_tellLine_70 ?_
        refine Wa_isub dX9_tellLine_71 ?_
        obtain ⟨q12, h⟩ := h
        refine Wa_callS [vI (M 92 (((16 * l1) + l2)).toNat), vI (l3 - 1)] _ lc_X9_181 cs_X9_letterOf rfl rfl (Nat.le_refl _) (Nat.le_of_ble_eq_true rfl) dX9_tellLine_72 h ?_
        intro r M13 h
        obtain ⟨z14, rfl, r15, h⟩ := h
        have h := h r15
        refine Wa_goto (tgt := 79) dX9_tellLine_75 (by decide) ?_
        exact Wa_ireturn dX9_tellLine_79 rfl ⟨_, rfl, r15, h⟩
    · have h := h.2.2.1 c4
      refine Wa_tabIn (tgt := 58) dX9_tellLine_14 q3 (by omega) (by omega) (by rw [c4]; rfl) (by decide) ?_
      refine Wa_iload_n 4 dX9_tellLine_58 rfl rfl ?_
      refine Wa_iload 0 dX9_tellLine_59 rfl ?_
      refine Wa_callS [vI (M 92 (((16 * l1) + l2)).toNat)] _ lc_X9_177 cs_X9_lettersOf rfl rfl (Nat.le_refl _) (Nat.le_of_ble_eq_true rfl) dX9_tellLine_61 h ?_
      intro r M16 h
      obtain ⟨z17, rfl, r18, h⟩ := h
      have h := h r18
      refine Wa_icmp_gt (tgt := 78) dX9_tellLine_64 (by decide) q3 r18 (fun c19 => ?_) (fun c19 => ?_)
      · have h := h.1 c19
        refine Wa_iconst (z := (-1)) dX9_tellLine_78 ?_
        exact Wa_ireturn dX9_tellLine_79 rfl ⟨_, rfl, ⟨by decide, by decide⟩, h⟩
      · have h := h.2 c19
        refine Wa_iload 0 dX9_tellLine_67 rfl ?_
        refine Wa_iload_n 4 dX9_tellLine_69 rfl rfl ?_
        refine Wa_iconst (z := 1) dX9_tellLine_70 ?_
        refine Wa_isub dX9_tellLine_71 ?_
        obtain ⟨q20, h⟩ := h
        refine Wa_callS [vI (M 92 (((16 * l1) + l2)).toNat), vI (l3 - 1)] _ lc_X9_181 cs_X9_letterOf rfl rfl (Nat.le_refl _) (Nat.le_of_ble_eq_true rfl) dX9_tellLine_72 h ?_
        intro r M21 h
        obtain ⟨z22, rfl, r23, h⟩ := h
        have h := h r23
        refine Wa_goto (tgt := 79) dX9_tellLine_75 (by decide) ?_
        exact Wa_ireturn dX9_tellLine_79 rfl ⟨_, rfl, r23, h⟩
    · have h := h.2.2.2.1 c4
      refine Wa_tabIn (tgt := 58) dX9_tellLine_14 q3 (by omega) (by omega) (by rw [c4]; rfl) (by decide) ?_
      refine Wa_iload_n 4 dX9_tellLine_58 rfl rfl ?_
      refine Wa_iload 0 dX9_tellLine_59 rfl ?_
      refine Wa_callS [vI (M 92 (((16 * l1) + l2)).toNat)] _ lc_X9_177 cs_X9_lettersOf rfl rfl (Nat.le_refl _) (Nat.le_of_ble_eq_true rfl) dX9_tellLine_61 h ?_
      intro r M24 h
      obtain ⟨z25, rfl, r26, h⟩ := h
      have h := h r26
      refine Wa_icmp_gt (tgt := 78) dX9_tellLine_64 (by decide) q3 r26 (fun c27 => ?_) (fun c27 => ?_)
      · have h := h.1 c27
        refine Wa_iconst (z := (-1)) dX9_tellLine_78 ?_
        exact Wa_ireturn dX9_tellLine_79 rfl ⟨_, rfl, ⟨by decide, by decide⟩, h⟩
      · have h := h.2 c27
        refine Wa_iload 0 dX9_tellLine_67 rfl ?_
        refine Wa_iload_n 4 dX9_tellLine_69 rfl rfl ?_
        refine Wa_iconst (z := 1) dX9_tellLine_70 ?_
        refine Wa_isub dX9_tellLine_71 ?_
        obtain ⟨q28, h⟩ := h
        refine Wa_callS [vI (M 92 (((16 * l1) + l2)).toNat), vI (l3 - 1)] _ lc_X9_181 cs_X9_letterOf rfl rfl (Nat.le_refl _) (Nat.le_of_ble_eq_true rfl) dX9_tellLine_72 h ?_
        intro r M29 h
        obtain ⟨z30, rfl, r31, h⟩ := h
        have h := h r31
        refine Wa_goto (tgt := 79) dX9_tellLine_75 (by decide) ?_
        exact Wa_ireturn dX9_tellLine_79 rfl ⟨_, rfl, r31, h⟩
    · have h := h.2.2.2.2.1 c4
      refine Wa_tabIn (tgt := 80) dX9_tellLine_14 q3 (by omega) (by omega) (by rw [c4]; rfl) (by decide) ?_
      refine Wa_aload_n 1 dX9_tellLine_80 rfl rfl ?_
      refine Wa_getR cf_X9 lk_X9_25 k_88 (j := 11) rfl (by decide) dX9_tellLine_81 ?_
      refine Wa_bipush (z := 16) dX9_tellLine_84 (by decide) ?_
      refine Wa_iload_n 2 dX9_tellLine_86 rfl rfl ?_
      refine Wa_imul dX9_tellLine_87 ?_
      refine Wa_iload_n 3 dX9_tellLine_88 rfl rfl ?_
      refine Wa_iadd dX9_tellLine_89 ?_
      refine Wa_iald2 (v := (M 94 (((16 * l1) + l2)).toNat)) k_94 b1 rfl dX9_tellLine_90 (fun r32 => ?_)
      refine Wa_iconst (z := (-1)) dX9_tellLine_91 ?_
      refine Wa_icmp_ne (tgt := 109) dX9_tellLine_92 (by decide) r32 ⟨by decide, by decide⟩ (fun c33 => ?_) (fun c33 => ?_)
      · have h := h.1 c33
        refine Wa_aload_n 1 dX9_tellLine_109 rfl rfl ?_
        refine Wa_getR cf_X9 lk_X9_25 k_88 (j := 11) rfl (by decide) dX9_tellLine_110 ?_
        refine Wa_bipush (z := 16) dX9_tellLine_113 (by decide) ?_
        refine Wa_iload_n 2 dX9_tellLine_115 rfl rfl ?_
        refine Wa_imul dX9_tellLine_116 ?_
        refine Wa_iload_n 3 dX9_tellLine_117 rfl rfl ?_
        refine Wa_iadd dX9_tellLine_118 ?_
        refine Wa_iald2 (v := (M 94 (((16 * l1) + l2)).toNat)) k_94 b1 rfl dX9_tellLine_119 (fun r34 => ?_)
        exact Wa_ireturn dX9_tellLine_120 rfl ⟨_, rfl, r34, h⟩
      · have h := h.2 c33
        refine Wa_aload_n 1 dX9_tellLine_95 rfl rfl ?_
        refine Wa_getR cf_X9 lk_X9_49 k_88 (j := 24) rfl (by decide) dX9_tellLine_96 ?_
        refine Wa_bipush (z := 16) dX9_tellLine_99 (by decide) ?_
        refine Wa_iload_n 2 dX9_tellLine_101 rfl rfl ?_
        refine Wa_imul dX9_tellLine_102 ?_
        refine Wa_iload_n 3 dX9_tellLine_103 rfl rfl ?_
        refine Wa_iadd dX9_tellLine_104 ?_
        refine Wa_iald2 (v := (M 102 (((16 * l1) + l2)).toNat)) k_102 b1 rfl dX9_tellLine_105 (fun r35 => ?_)
        refine Wa_goto (tgt := 120) dX9_tellLine_106 (by decide) ?_
        exact Wa_ireturn dX9_tellLine_120 rfl ⟨_, rfl, r35, h⟩
    · have h := h.2.2.2.2.2 c4
      refine Wa_tabIn (tgt := 121) dX9_tellLine_14 q3 (by omega) (by omega) (by rw [c4]; rfl) (by decide) ?_
      refine Wa_aload_n 1 dX9_tellLine_121 rfl rfl ?_
      refine Wa_getR cf_X9 lk_X9_25 k_88 (j := 11) rfl (by decide) dX9_tellLine_122 ?_
      refine Wa_bipush (z := 16) dX9_tellLine_125 (by decide) ?_
      refine Wa_iload_n 2 dX9_tellLine_127 rfl rfl ?_
      refine Wa_imul dX9_tellLine_128 ?_
      refine Wa_iload_n 3 dX9_tellLine_129 rfl rfl ?_
      refine Wa_iadd dX9_tellLine_130 ?_
      refine Wa_iald2 (v := (M 94 (((16 * l1) + l2)).toNat)) k_94 b1 rfl dX9_tellLine_131 (fun r36 => ?_)
      refine Wa_iconst (z := (-1)) dX9_tellLine_132 ?_
      refine Wa_icmp_ne (tgt := 140) dX9_tellLine_133 (by decide) r36 ⟨by decide, by decide⟩ (fun c37 => ?_) (fun c37 => ?_)
      · have h := h.1 c37
        refine Wa_iconst (z := 1) dX9_tellLine_140 ?_
        exact Wa_ireturn dX9_tellLine_141 rfl ⟨_, rfl, ⟨by decide, by decide⟩, h⟩
      · have h := h.2 c37
        refine Wa_iconst (z := 0) dX9_tellLine_136 ?_
        refine Wa_goto (tgt := 141) dX9_tellLine_137 (by decide) ?_
        exact Wa_ireturn dX9_tellLine_141 rfl ⟨_, rfl, ⟨by decide, by decide⟩, h⟩
theorem en_X9_tellLine {g : AG} {d : Nat} {l1 : Int} {l2 : Int} {l3 : Int} {M : AM} {Q : Int → AM → Prop} (h : S_X9_tellLine_0 g d l1 l2 l3 M Q) : MetI g mX9_tellLine d [vR 88, vI l1, vI l2, vI l3] M Q := MetA.of (by decide) (Nat.le_of_ble_eq_true rfl) h
def S_X9_line_0 (g : AG) (d : Nat) (l1 : Int) (l2 : Int) (l3 : Int) (M : AM) (Q : Int → AM → Prop) : Prop := Wa g mX9_line d 0 [(0, vR 88), (1, vI l1), (2, vI l2), (3, vI l3)] [] M (QI Q)
set_option maxRecDepth 100000 in
theorem sg_X9_line_0 {g : AG} {d : Nat} {l1 : Int} {l2 : Int} {l3 : Int} {M : AM} {Q : Int → AM → Prop} 
  (h : rg l1 ∧ (rg l2 ∧ (MetI g mX9_isLine d [vR 88, vI l1, vI l2] M (fun z4 M3 => rg z4 → ((z4 = 0 → (Q (-101) M3)) ∧ (¬ z4 = 0 → (rg l3 ∧ (MetI g mX9_tellLine d [vR 88, vI l1, vI l2, vI l3] M3 (fun z9 M8 => rg z9 → (Q z9 M8)))))))))) : S_X9_line_0 g (d + 1) l1 l2 l3 M Q := by
  show Wa _ _ _ _ _ _ _ _
  refine Wa_aload_n 0 dX9_line_0 rfl rfl ?_
  refine Wa_iload_n 1 dX9_line_1 rfl rfl ?_
  refine Wa_iload_n 2 dX9_line_2 rfl rfl ?_
  obtain ⟨q1, h⟩ := h
  obtain ⟨q2, h⟩ := h
  refine Wa_callV [vI l1, vI l2] _ cf_X9 rfl k_88 lc_X9_191 cv_X9_isLine rfl rfl (Nat.le_refl _) (Nat.le_of_ble_eq_true rfl) dX9_line_3 h ?_
  intro r M3 h
  obtain ⟨z4, rfl, r5, h⟩ := h
  have h := h r5
  refine Wa_if_eq (tgt := 19) dX9_line_6 (by decide) r5 (fun c6 => ?_) (fun c6 => ?_)
  · have h := h.1 c6
    refine Wa_bipush (z := (-101)) dX9_line_19 (by decide) ?_
    exact Wa_ireturn dX9_line_21 rfl ⟨_, rfl, ⟨by decide, by decide⟩, h⟩
  · have h := h.2 c6
    refine Wa_aload_n 0 dX9_line_9 rfl rfl ?_
    refine Wa_iload_n 1 dX9_line_10 rfl rfl ?_
    refine Wa_iload_n 2 dX9_line_11 rfl rfl ?_
    refine Wa_iload_n 3 dX9_line_12 rfl rfl ?_
    obtain ⟨q7, h⟩ := h
    refine Wa_callV [vI l1, vI l2, vI l3] _ cf_X9 rfl k_88 lc_X9_233 cv_X9_tellLine rfl rfl (Nat.le_refl _) (Nat.le_of_ble_eq_true rfl) dX9_line_13 h ?_
    intro r M8 h
    obtain ⟨z9, rfl, r10, h⟩ := h
    have h := h r10
    refine Wa_goto (tgt := 21) dX9_line_16 (by decide) ?_
    exact Wa_ireturn dX9_line_21 rfl ⟨_, rfl, r10, h⟩
theorem en_X9_line {g : AG} {d : Nat} {l1 : Int} {l2 : Int} {l3 : Int} {M : AM} {Q : Int → AM → Prop} (h : S_X9_line_0 g d l1 l2 l3 M Q) : MetI g mX9_line d [vR 88, vI l1, vI l2, vI l3] M Q := MetA.of (by decide) (Nat.le_of_ble_eq_true rfl) h
def S_X9_rackedOf_0 (g : AG) (d : Nat) (l1 : Int) (M : AM) (Q : Int → AM → Prop) : Prop := Wa g mX9_rackedOf d 0 [(0, vR 88), (1, vI l1)] [] M (QI Q)
def S_X9_rackedOf_2 (g : AG) (d : Nat) (l1 : Int) (l2 : Int) (M : AM) (Q : Int → AM → Prop) : Prop := Wa g mX9_rackedOf d 2 [(0, vR 88), (1, vI l1), (2, vI l2)] [] M (QI Q)
set_option maxRecDepth 100000 in
theorem sg_X9_rackedOf_0 {g : AG} {d : Nat} {l1 : Int} {M : AM} {Q : Int → AM → Prop} 
  (h : S_X9_rackedOf_2 g (d + 1) l1 0 M Q) : S_X9_rackedOf_0 g (d + 1) l1 M Q := by
  show Wa _ _ _ _ _ _ _ _
  refine Wa_iconst (z := 0) dX9_rackedOf_0 ?_
  refine Wa_istore_n (ls' := [(2, vI 0), (0, vR 88), (1, vI l1)]) dX9_rackedOf_1 rfl (by decide) rfl ?_
  refine Wa_sub [1, 2, 0] rfl ?_
  exact h
set_option maxRecDepth 100000 in
theorem sg_X9_rackedOf_2 {g : AG} {d : Nat} {l1 : Int} {l2 : Int} {M : AM} {Q : Int → AM → Prop} 
  (h : rg l2 ∧ ((3 ≤ l2 → (Q l2 M)) ∧ (¬ 3 ≤ l2 → ((0 ≤ ((3 * l1) + l2) ∧ ((3 * l1) + l2) < 15) ∧ (((M 103 (((3 * l1) + l2)).toNat) = (-1) → (Q l2 M)) ∧ (¬ (M 103 (((3 * l1) + l2)).toNat) = (-1) → (S_X9_rackedOf_2 g (d + 1) l1 (l2 + 1) M Q))))))) : S_X9_rackedOf_2 g (d + 1) l1 l2 M Q := by
  show Wa _ _ _ _ _ _ _ _
  refine Wa_iload_n 2 dX9_rackedOf_2 rfl rfl ?_
  refine Wa_iconst (z := 3) dX9_rackedOf_3 ?_
  obtain ⟨q1, h⟩ := h
  refine Wa_icmp_ge (tgt := 27) dX9_rackedOf_4 (by decide) q1 ⟨by decide, by decide⟩ (fun c2 => ?_) (fun c2 => ?_)
  · have h := h.1 c2
    refine Wa_iload_n 2 dX9_rackedOf_27 rfl rfl ?_
    exact Wa_ireturn dX9_rackedOf_28 rfl ⟨_, rfl, q1, h⟩
  · have h := h.2 c2
    refine Wa_aload_n 0 dX9_rackedOf_7 rfl rfl ?_
    refine Wa_getR cf_X9 lk_X9_52 k_88 (j := 25) rfl (by decide) dX9_rackedOf_8 ?_
    refine Wa_iconst (z := 3) dX9_rackedOf_11 ?_
    refine Wa_iload_n 1 dX9_rackedOf_12 rfl rfl ?_
    refine Wa_imul dX9_rackedOf_13 ?_
    refine Wa_iload_n 2 dX9_rackedOf_14 rfl rfl ?_
    refine Wa_iadd dX9_rackedOf_15 ?_
    obtain ⟨b3, h⟩ := h
    refine Wa_iald2 (v := (M 103 (((3 * l1) + l2)).toNat)) k_103 b3 rfl dX9_rackedOf_16 (fun r4 => ?_)
    refine Wa_iconst (z := (-1)) dX9_rackedOf_17 ?_
    refine Wa_icmp_eq (tgt := 27) dX9_rackedOf_18 (by decide) r4 ⟨by decide, by decide⟩ (fun c5 => ?_) (fun c5 => ?_)
    · have h := h.1 c5
      refine Wa_iload_n 2 dX9_rackedOf_27 rfl rfl ?_
      exact Wa_ireturn dX9_rackedOf_28 rfl ⟨_, rfl, q1, h⟩
    · have h := h.2 c5
      refine Wa_iinc (ls' := [(2, vI (l2 + 1)), (0, vR 88), (1, vI l1)]) 2 dX9_rackedOf_21 rfl (by decide) rfl ?_
      refine Wa_goto (tgt := 2) dX9_rackedOf_24 (by decide) ?_
      refine Wa_sub [1, 2, 0] rfl ?_
      exact h
theorem en_X9_rackedOf {g : AG} {d : Nat} {l1 : Int} {M : AM} {Q : Int → AM → Prop} (h : S_X9_rackedOf_0 g d l1 M Q) : MetI g mX9_rackedOf d [vR 88, vI l1] M Q := MetA.of (by decide) (Nat.le_of_ble_eq_true rfl) h
def S_X9_isOf_0 (g : AG) (d : Nat) (l0 : Int) (l1 : Int) (M : AM) (Q : Int → AM → Prop) : Prop := Wa g mX9_isOf d 0 [(0, vI l0), (1, vI l1)] [] M (QI Q)
set_option maxRecDepth 100000 in
theorem sg_X9_isOf_0 {g : AG} {d : Nat} {l0 : Int} {l1 : Int} {M : AM} {Q : Int → AM → Prop} 
  (h : rg l1 ∧ ((l1 = 0 → (Q 1 M)) ∧ (¬ l1 = 0 → (rg l0 ∧ ((l0 = l1 → (Q 1 M)) ∧ (¬ l0 = l1 → ((¬ l1 = 2 → ((¬ l1 = 3 → (Q 0 M)) ∧ (l1 = 3 → ((¬ l0 = 4 → (Q 0 M)) ∧ (l0 = 4 → (Q 1 M)))))) ∧ (l1 = 2 → ((2 < l0 → (Q 1 M)) ∧ (¬ 2 < l0 → ((¬ l1 = 3 → (Q 0 M)) ∧ (l1 = 3 → ((¬ l0 = 4 → (Q 0 M)) ∧ (l0 = 4 → (Q 1 M))))))))))))))) : S_X9_isOf_0 g (d + 1) l0 l1 M Q := by
  show Wa _ _ _ _ _ _ _ _
  refine Wa_iload_n 1 dX9_isOf_0 rfl rfl ?_
  obtain ⟨q1, h⟩ := h
  refine Wa_if_eq (tgt := 29) dX9_isOf_1 (by decide) q1 (fun c2 => ?_) (fun c2 => ?_)
  · have h := h.1 c2
    refine Wa_iconst (z := 1) dX9_isOf_29 ?_
    refine Wa_goto (tgt := 34) dX9_isOf_30 (by decide) ?_
    exact Wa_zreturn dX9_isOf_34 rfl (by decide) ⟨_, rfl, rg_bool (by decide), h⟩
  · have h := h.2 c2
    refine Wa_iload_n 0 dX9_isOf_4 rfl rfl ?_
    refine Wa_iload_n 1 dX9_isOf_5 rfl rfl ?_
    obtain ⟨q3, h⟩ := h
    refine Wa_icmp_eq (tgt := 29) dX9_isOf_6 (by decide) q3 q1 (fun c4 => ?_) (fun c4 => ?_)
    · have h := h.1 c4
      refine Wa_iconst (z := 1) dX9_isOf_29 ?_
      refine Wa_goto (tgt := 34) dX9_isOf_30 (by decide) ?_
      exact Wa_zreturn dX9_isOf_34 rfl (by decide) ⟨_, rfl, rg_bool (by decide), h⟩
    · have h := h.2 c4
      refine Wa_iload_n 1 dX9_isOf_9 rfl rfl ?_
      refine Wa_iconst (z := 2) dX9_isOf_10 ?_
      refine Wa_icmp_ne (tgt := 19) dX9_isOf_11 (by decide) q1 ⟨by decide, by decide⟩ (fun c5 => ?_) (fun c5 => ?_)
      · have h := h.1 c5
        refine Wa_iload_n 1 dX9_isOf_19 rfl rfl ?_
        refine Wa_iconst (z := 3) dX9_isOf_20 ?_
        refine Wa_icmp_ne (tgt := 33) dX9_isOf_21 (by decide) q1 ⟨by decide, by decide⟩ (fun c6 => ?_) (fun c6 => ?_)
        · have h := h.1 c6
          refine Wa_iconst (z := 0) dX9_isOf_33 ?_
          exact Wa_zreturn dX9_isOf_34 rfl (by decide) ⟨_, rfl, rg_bool (by decide), h⟩
        · have h := h.2 c6
          refine Wa_iload_n 0 dX9_isOf_24 rfl rfl ?_
          refine Wa_iconst (z := 4) dX9_isOf_25 ?_
          refine Wa_icmp_ne (tgt := 33) dX9_isOf_26 (by decide) q3 ⟨by decide, by decide⟩ (fun c7 => ?_) (fun c7 => ?_)
          · have h := h.1 c7
            refine Wa_iconst (z := 0) dX9_isOf_33 ?_
            exact Wa_zreturn dX9_isOf_34 rfl (by decide) ⟨_, rfl, rg_bool (by decide), h⟩
          · have h := h.2 c7
            refine Wa_iconst (z := 1) dX9_isOf_29 ?_
            refine Wa_goto (tgt := 34) dX9_isOf_30 (by decide) ?_
            exact Wa_zreturn dX9_isOf_34 rfl (by decide) ⟨_, rfl, rg_bool (by decide), h⟩
      · have h := h.2 c5
        refine Wa_iload_n 0 dX9_isOf_14 rfl rfl ?_
        refine Wa_iconst (z := 2) dX9_isOf_15 ?_
        refine Wa_icmp_gt (tgt := 29) dX9_isOf_16 (by decide) q3 ⟨by decide, by decide⟩ (fun c8 => ?_) (fun c8 => ?_)
        · have h := h.1 c8
          refine Wa_iconst (z := 1) dX9_isOf_29 ?_
          refine Wa_goto (tgt := 34) dX9_isOf_30 (by decide) ?_
          exact Wa_zreturn dX9_isOf_34 rfl (by decide) ⟨_, rfl, rg_bool (by decide), h⟩
        · have h := h.2 c8
          refine Wa_iload_n 1 dX9_isOf_19 rfl rfl ?_
          refine Wa_iconst (z := 3) dX9_isOf_20 ?_
          refine Wa_icmp_ne (tgt := 33) dX9_isOf_21 (by decide) q1 ⟨by decide, by decide⟩ (fun c9 => ?_) (fun c9 => ?_)
          · have h := h.1 c9
            refine Wa_iconst (z := 0) dX9_isOf_33 ?_
            exact Wa_zreturn dX9_isOf_34 rfl (by decide) ⟨_, rfl, rg_bool (by decide), h⟩
          · have h := h.2 c9
            refine Wa_iload_n 0 dX9_isOf_24 rfl rfl ?_
            refine Wa_iconst (z := 4) dX9_isOf_25 ?_
            refine Wa_icmp_ne (tgt := 33) dX9_isOf_26 (by decide) q3 ⟨by decide, by decide⟩ (fun c10 => ?_) (fun c10 => ?_)
            · have h := h.1 c10
              refine Wa_iconst (z := 0) dX9_isOf_33 ?_
              exact Wa_zreturn dX9_isOf_34 rfl (by decide) ⟨_, rfl, rg_bool (by decide), h⟩
            · have h := h.2 c10
              refine Wa_iconst (z := 1) dX9_isOf_29 ?_
              refine Wa_goto (tgt := 34) dX9_isOf_30 (by decide) ?_
              exact Wa_zreturn dX9_isOf_34 rfl (by decide) ⟨_, rfl, rg_bool (by decide), h⟩
theorem en_X9_isOf {g : AG} {d : Nat} {l0 : Int} {l1 : Int} {M : AM} {Q : Int → AM → Prop} (h : S_X9_isOf_0 g d l0 l1 M Q) : MetI g mX9_isOf d [vI l0, vI l1] M Q := MetA.of (by decide) (Nat.le_of_ble_eq_true rfl) h
def S_X9_rack_0 (g : AG) (d : Nat) (l1 : Int) (l2 : Int) (M : AM) (Q : Int → AM → Prop) : Prop := Wa g mX9_rack d 0 [(0, vR 88), (1, vI l1), (2, vI l2)] [] M (QI Q)
set_option maxRecDepth 100000 in
theorem sg_X9_rack_0 {g : AG} {d : Nat} {l1 : Int} {l2 : Int} {M : AM} {Q : Int → AM → Prop} 
  (h : rg l1 ∧ (MetI g mX9_isStep d [vR 88, vI l1] M (fun z3 M2 => rg z3 → ((¬ z3 = 0 → (rg l2 ∧ (MetI g mX9_in d [vL l2, vL 0, vL 4] M2 (fun z8 M7 => rg z8 → ((¬ z8 = 0 → (MetI g mX9_rackedOf d [vR 88, vI l2] M7 (fun z12 M11 => rg z12 → ((¬ z12 = 3 → ((0 ≤ (5 * l1) ∧ (5 * l1) < 80) ∧ (MetI g mX9_isOf d [vI (M11 101 ((5 * l1)).toNat), vI l2] M11 (fun z18 M17 => rg z18 → ((¬ z18 = 0 → ((0 ≤ ((3 * l2) + z12) ∧ ((3 * l2) + z12) < 15) ∧ (rg (z12 + 1) ∧ (Q (z12 + 1) (mU M17 103 (((3 * l2) + z12)).toNat l1))))) ∧ (z18 = 0 → (Q (-1) M17))))))) ∧ (z12 = 3 → (Q (-104) M11)))))) ∧ (z8 = 0 → (Q (-102) M7))))))) ∧ (z3 = 0 → (Q (-101) M2)))))) : S_X9_rack_0 g (d + 1) l1 l2 M Q := by
  show Wa _ _ _ _ _ _ _ _
  refine Wa_aload_n 0 dX9_rack_0 rfl rfl ?_
  refine Wa_iload_n 1 dX9_rack_1 rfl rfl ?_
  obtain ⟨q1, h⟩ := h
  refine Wa_callV [vI l1] _ cf_X9 rfl k_88 lc_X9_225 cv_X9_isStep rfl rfl (Nat.le_refl _) (Nat.le_of_ble_eq_true rfl) dX9_rack_2 h ?_
  intro r M2 h
  obtain ⟨z3, rfl, r4, h⟩ := h
  have h := h r4
  refine Wa_if_ne (tgt := 11) dX9_rack_5 (by decide) r4 (fun c5 => ?_) (fun c5 => ?_)
  · have h := h.1 c5
    refine Wa_iload_n 2 dX9_rack_11 rfl rfl ?_
    obtain ⟨q6, h⟩ := h
    refine Wa_i2l dX9_rack_12 q6 ?_
    refine Wa_lconst (v := 0) dX9_rack_13 rfl ?_
    refine Wa_ldc2 (z := 4) dX9_rack_14 kc_X9_228 ?_
    refine Wa_callS [vL l2, vL 0, vL 4] _ lc_X9_73 cs_X9_in rfl rfl (Nat.le_refl _) (Nat.le_of_ble_eq_true rfl) dX9_rack_17 h ?_
    intro r M7 h
    obtain ⟨z8, rfl, r9, h⟩ := h
    have h := h r9
    refine Wa_if_ne (tgt := 26) dX9_rack_20 (by decide) r9 (fun c10 => ?_) (fun c10 => ?_)
    · have h := h.1 c10
      refine Wa_aload_n 0 dX9_rack_26 rfl rfl ?_
      refine Wa_iload_n 2 dX9_rack_27 rfl rfl ?_
      refine Wa_callV [vI l2] _ cf_X9 rfl k_88 lc_X9_236 cv_X9_rackedOf rfl rfl (Nat.le_refl _) (Nat.le_of_ble_eq_true rfl) dX9_rack_28 h ?_
      intro r M11 h
      obtain ⟨z12, rfl, r13, h⟩ := h
      have h := h r13
      refine Wa_istore_n (ls' := [(3, vI z12), (0, vR 88), (1, vI l1), (2, vI l2)]) dX9_rack_31 rfl (by decide) rfl ?_
      refine Wa_iload_n 0 dX9_rack_32 rfl rfl ?_
      refine Wa_iconst (z := 3) dX9_rack_33 ?_
      refine Wa_icmp_ne (tgt := 40) dX9_rack_34 (by decide) r13 ⟨by decide, by decide⟩ (fun c14 => ?_) (fun c14 => ?_)
      · have h := h.1 c14
        refine Wa_aload_n 1 dX9_rack_40 rfl rfl ?_
        refine Wa_getR cf_X9 lk_X9_46 k_88 (j := 21) rfl (by decide) dX9_rack_41 ?_
        refine Wa_iconst (z := 5) dX9_rack_44 ?_
        refine Wa_iload_n 2 dX9_rack_45 rfl rfl ?_
        refine Wa_imul dX9_rack_46 ?_
        obtain ⟨b15, h⟩ := h
        refine Wa_iald2 (v := (M11 101 ((5 * l1)).toNat)) k_101 b15 rfl dX9_rack_47 (fun r16 => ?_)
        refine Wa_iload_n 3 dX9_rack_48 rfl rfl ?_
        refine Wa_callS [vI (M11 101 ((5 * l1)).toNat), vI l2] _ lc_X9_239 cs_X9_isOf rfl rfl (Nat.le_refl _) (Nat.le_of_ble_eq_true rfl) dX9_rack_49 h ?_
        intro r M17 h
        obtain ⟨z18, rfl, r19, h⟩ := h
        have h := h r19
        refine Wa_if_ne (tgt := 57) dX9_rack_52 (by decide) r19 (fun c20 => ?_) (fun c20 => ?_)
        · have h := h.1 c20
          refine Wa_aload_n 1 dX9_rack_57 rfl rfl ?_
          refine Wa_getR cf_X9 lk_X9_52 k_88 (j := 25) rfl (by decide) dX9_rack_58 ?_
          refine Wa_iconst (z := 3) dX9_rack_61 ?_
          refine Wa_iload_n 3 dX9_rack_62 rfl rfl ?_
          refine Wa_imul dX9_rack_63 ?_
          refine Wa_iload_n 0 dX9_rack_64 rfl rfl ?_
          refine Wa_iadd dX9_rack_65 ?_
          refine Wa_iload_n 2 dX9_rack_66 rfl rfl ?_
          obtain ⟨b21, h⟩ := h
          refine Wa_iast k_103 b21 q1 dX9_rack_67 ?_
          refine Wa_iload_n 0 dX9_rack_68 rfl rfl ?_
          refine Wa_iconst (z := 1) dX9_rack_69 ?_
          refine Wa_iadd dX9_rack_70 ?_
          obtain ⟨q22, h⟩ := h
          exact Wa_ireturn dX9_rack_71 rfl ⟨_, rfl, q22, h⟩
        · have h := h.2 c20
          refine Wa_iconst (z := (-1)) dX9_rack_55 ?_
          exact Wa_ireturn dX9_rack_56 rfl ⟨_, rfl, ⟨by decide, by decide⟩, h⟩
      · have h := h.2 c14
        refine Wa_bipush (z := (-104)) dX9_rack_37 (by decide) ?_
        exact Wa_ireturn dX9_rack_39 rfl ⟨_, rfl, ⟨by decide, by decide⟩, h⟩
    · have h := h.2 c10
      refine Wa_bipush (z := (-102)) dX9_rack_23 (by decide) ?_
      exact Wa_ireturn dX9_rack_25 rfl ⟨_, rfl, ⟨by decide, by decide⟩, h⟩
  · have h := h.2 c5
    refine Wa_bipush (z := (-101)) dX9_rack_8 (by decide) ?_
    exact Wa_ireturn dX9_rack_10 rfl ⟨_, rfl, ⟨by decide, by decide⟩, h⟩
theorem en_X9_rack {g : AG} {d : Nat} {l1 : Int} {l2 : Int} {M : AM} {Q : Int → AM → Prop} (h : S_X9_rack_0 g d l1 l2 M Q) : MetI g mX9_rack d [vR 88, vI l1, vI l2] M Q := MetA.of (by decide) (Nat.le_of_ble_eq_true rfl) h
def S_X9_racked_0 (g : AG) (d : Nat) (l1 : Int) (l2 : Int) (M : AM) (Q : Int → AM → Prop) : Prop := Wa g mX9_racked d 0 [(0, vR 88), (1, vI l1), (2, vI l2)] [] M (QI Q)
set_option maxRecDepth 100000 in
theorem sg_X9_racked_0 {g : AG} {d : Nat} {l1 : Int} {l2 : Int} {M : AM} {Q : Int → AM → Prop} 
  (h : rg l1 ∧ (MetI g mX9_in d [vL l1, vL 0, vL 4] M (fun z3 M2 => rg z3 → ((z3 = 0 → (Q (-102) M2)) ∧ (¬ z3 = 0 → (rg l2 ∧ (MetI g mX9_in d [vL l2, vL 0, vL 2] M2 (fun z8 M7 => rg z8 → ((z8 = 0 → (Q (-102) M7)) ∧ (¬ z8 = 0 → ((0 ≤ ((3 * l1) + l2) ∧ ((3 * l1) + l2) < 15) ∧ (Q (M7 103 (((3 * l1) + l2)).toNat) M7)))))))))))) : S_X9_racked_0 g (d + 1) l1 l2 M Q := by
  show Wa _ _ _ _ _ _ _ _
  refine Wa_iload_n 1 dX9_racked_0 rfl rfl ?_
  obtain ⟨q1, h⟩ := h
  refine Wa_i2l dX9_racked_1 q1 ?_
  refine Wa_lconst (v := 0) dX9_racked_2 rfl ?_
  refine Wa_ldc2 (z := 4) dX9_racked_3 kc_X9_228 ?_
  refine Wa_callS [vL l1, vL 0, vL 4] _ lc_X9_73 cs_X9_in rfl rfl (Nat.le_refl _) (Nat.le_of_ble_eq_true rfl) dX9_racked_6 h ?_
  intro r M2 h
  obtain ⟨z3, rfl, r4, h⟩ := h
  have h := h r4
  refine Wa_if_eq (tgt := 37) dX9_racked_9 (by decide) r4 (fun c5 => ?_) (fun c5 => ?_)
  · have h := h.1 c5
    refine Wa_bipush (z := (-102)) dX9_racked_37 (by decide) ?_
    exact Wa_ireturn dX9_racked_39 rfl ⟨_, rfl, ⟨by decide, by decide⟩, h⟩
  · have h := h.2 c5
    refine Wa_iload_n 2 dX9_racked_12 rfl rfl ?_
    obtain ⟨q6, h⟩ := h
    refine Wa_i2l dX9_racked_13 q6 ?_
    refine Wa_lconst (v := 0) dX9_racked_14 rfl ?_
    refine Wa_ldc2 (z := 2) dX9_racked_15 kc_X9_175 ?_
    refine Wa_callS [vL l2, vL 0, vL 2] _ lc_X9_73 cs_X9_in rfl rfl (Nat.le_refl _) (Nat.le_of_ble_eq_true rfl) dX9_racked_18 h ?_
    intro r M7 h
    obtain ⟨z8, rfl, r9, h⟩ := h
    have h := h r9
    refine Wa_if_eq (tgt := 37) dX9_racked_21 (by decide) r9 (fun c10 => ?_) (fun c10 => ?_)
    · have h := h.1 c10
      refine Wa_bipush (z := (-102)) dX9_racked_37 (by decide) ?_
      exact Wa_ireturn dX9_racked_39 rfl ⟨_, rfl, ⟨by decide, by decide⟩, h⟩
    · have h := h.2 c10
      refine Wa_aload_n 0 dX9_racked_24 rfl rfl ?_
      refine Wa_getR cf_X9 lk_X9_52 k_88 (j := 25) rfl (by decide) dX9_racked_25 ?_
      refine Wa_iconst (z := 3) dX9_racked_28 ?_
      refine Wa_iload_n 1 dX9_racked_29 rfl rfl ?_
      refine Wa_imul dX9_racked_30 ?_
      refine Wa_iload_n 2 dX9_racked_31 rfl rfl ?_
      refine Wa_iadd dX9_racked_32 ?_
      obtain ⟨b11, h⟩ := h
      refine Wa_iald2 (v := (M7 103 (((3 * l1) + l2)).toNat)) k_103 b11 rfl dX9_racked_33 (fun r12 => ?_)
      refine Wa_goto (tgt := 39) dX9_racked_34 (by decide) ?_
      exact Wa_ireturn dX9_racked_39 rfl ⟨_, rfl, r12, h⟩
theorem en_X9_racked {g : AG} {d : Nat} {l1 : Int} {l2 : Int} {M : AM} {Q : Int → AM → Prop} (h : S_X9_racked_0 g d l1 l2 M Q) : MetI g mX9_racked d [vR 88, vI l1, vI l2] M Q := MetA.of (by decide) (Nat.le_of_ble_eq_true rfl) h
def S_X9_isLetters_0 (g : AG) (d : Nat) (l0 : Int) (M : AM) (Q : Int → AM → Prop) : Prop := Wa g mX9_isLetters d 0 [(0, vI l0)] [] M (QI Q)
def S_X9_isLetters_18 (g : AG) (d : Nat) (l1 : Int) (l2 : Int) (M : AM) (Q : Int → AM → Prop) : Prop := Wa g mX9_isLetters d 18 [(1, vI l1), (2, vI l2)] [] M (QI Q)
set_option maxRecDepth 100000 in
theorem sg_X9_isLetters_0 {g : AG} {d : Nat} {l0 : Int} {M : AM} {Q : Int → AM → Prop} 
  (h : rg l0 ∧ ((l0 ≤ 0 → (S_X9_isLetters_18 g (d + 1) 0 l0 M Q)) ∧ (¬ l0 ≤ 0 → ((2097152 ≤ l0 → (S_X9_isLetters_18 g (d + 1) 0 l0 M Q)) ∧ (¬ 2097152 ≤ l0 → (S_X9_isLetters_18 g (d + 1) 1 l0 M Q)))))) : S_X9_isLetters_0 g (d + 1) l0 M Q := by
  show Wa _ _ _ _ _ _ _ _
  refine Wa_iload_n 0 dX9_isLetters_0 rfl rfl ?_
  obtain ⟨q1, h⟩ := h
  refine Wa_if_le (tgt := 14) dX9_isLetters_1 (by decide) q1 (fun c2 => ?_) (fun c2 => ?_)
  · have h := h.1 c2
    refine Wa_iconst (z := 0) dX9_isLetters_14 ?_
    refine Wa_istore_n (ls' := [(1, vI 0), (0, vI l0)]) dX9_isLetters_15 rfl (by decide) rfl ?_
    refine Wa_iload_n 1 dX9_isLetters_16 rfl rfl ?_
    refine Wa_istore_n (ls' := [(2, vI l0), (1, vI 0), (0, vI l0)]) dX9_isLetters_17 rfl (by decide) rfl ?_
    refine Wa_sub [1, 0] rfl ?_
    exact h
  · have h := h.2 c2
    refine Wa_iload_n 0 dX9_isLetters_4 rfl rfl ?_
    refine Wa_ldc (z := 2097152) dX9_isLetters_5 kc_X9_242 ?_
    refine Wa_icmp_ge (tgt := 14) dX9_isLetters_7 (by decide) q1 ⟨by decide, by decide⟩ (fun c3 => ?_) (fun c3 => ?_)
    · have h := h.1 c3
      refine Wa_iconst (z := 0) dX9_isLetters_14 ?_
      refine Wa_istore_n (ls' := [(1, vI 0), (0, vI l0)]) dX9_isLetters_15 rfl (by decide) rfl ?_
      refine Wa_iload_n 1 dX9_isLetters_16 rfl rfl ?_
      refine Wa_istore_n (ls' := [(2, vI l0), (1, vI 0), (0, vI l0)]) dX9_isLetters_17 rfl (by decide) rfl ?_
      refine Wa_sub [1, 0] rfl ?_
      exact h
    · have h := h.2 c3
      refine Wa_iconst (z := 1) dX9_isLetters_10 ?_
      refine Wa_goto (tgt := 15) dX9_isLetters_11 (by decide) ?_
      refine Wa_istore_n (ls' := [(1, vI 1), (0, vI l0)]) dX9_isLetters_15 rfl (by decide) rfl ?_
      refine Wa_iload_n 1 dX9_isLetters_16 rfl rfl ?_
      refine Wa_istore_n (ls' := [(2, vI l0), (1, vI 1), (0, vI l0)]) dX9_isLetters_17 rfl (by decide) rfl ?_
      refine Wa_sub [1, 0] rfl ?_
      exact h
set_option maxRecDepth 100000 in
theorem sg_X9_isLetters_18 {g : AG} {d : Nat} {l1 : Int} {l2 : Int} {M : AM} {Q : Int → AM → Prop} 
  (h : rg l1 ∧ ((l1 = 0 → ((l1 = 0 ∨ l1 = 1) ∧ (Q l1 M))) ∧ (¬ l1 = 0 → (rg l2 ∧ ((l2 ≤ 0 → ((l1 = 0 ∨ l1 = 1) ∧ (Q l1 M))) ∧ (¬ l2 ≤ 0 → (MetI g mX9_in d [vL (iRem l2 128), vL 97, vL 101] M (fun z8 M7 => rg z8 → (S_X9_isLetters_18 g (d + 1) z8 (iDiv l2 128) M7 Q))))))))) : S_X9_isLetters_18 g (d + 1) l1 l2 M Q := by
  show Wa _ _ _ _ _ _ _ _
  refine Wa_iload_n 0 dX9_isLetters_18 rfl rfl ?_
  obtain ⟨q1, h⟩ := h
  refine Wa_if_eq (tgt := 51) dX9_isLetters_19 (by decide) q1 (fun c2 => ?_) (fun c2 => ?_)
  · have h := h.1 c2
    refine Wa_iload_n 0 dX9_isLetters_51 rfl rfl ?_
    obtain ⟨z3, h⟩ := h
    exact Wa_zreturn dX9_isLetters_52 rfl z3 ⟨_, rfl, rg_bool z3, h⟩
  · have h := h.2 c2
    refine Wa_iload_n 1 dX9_isLetters_22 rfl rfl ?_
    obtain ⟨q4, h⟩ := h
    refine Wa_if_le (tgt := 51) dX9_isLetters_23 (by decide) q4 (fun c5 => ?_) (fun c5 => ?_)
    · have h := h.1 c5
      refine Wa_iload_n 0 dX9_isLetters_51 rfl rfl ?_
      obtain ⟨z6, h⟩ := h
      exact Wa_zreturn dX9_isLetters_52 rfl z6 ⟨_, rfl, rg_bool z6, h⟩
    · have h := h.2 c5
      refine Wa_iload_n 1 dX9_isLetters_26 rfl rfl ?_
      refine Wa_sipush (z := 128) dX9_isLetters_27 (by decide) ?_
      refine Wa_irem dX9_isLetters_30 (by decide) ?_
      refine Wa_i2l dX9_isLetters_31 (rg_toInt _) ?_
      refine Wa_ldc2 (z := 97) dX9_isLetters_32 kc_X9_80 ?_
      refine Wa_ldc2 (z := 101) dX9_isLetters_35 kc_X9_82 ?_
      refine Wa_callS [vL (iRem l2 128), vL 97, vL 101] _ lc_X9_73 cs_X9_in rfl rfl (Nat.le_refl _) (Nat.le_of_ble_eq_true rfl) dX9_isLetters_38 h ?_
      intro r M7 h
      obtain ⟨z8, rfl, r9, h⟩ := h
      have h := h r9
      refine Wa_istore_n (ls' := [(1, vI z8), (2, vI l2)]) dX9_isLetters_41 rfl (by decide) rfl ?_
      refine Wa_iload_n 1 dX9_isLetters_42 rfl rfl ?_
      refine Wa_sipush (z := 128) dX9_isLetters_43 (by decide) ?_
      refine Wa_idiv dX9_isLetters_46 (by decide) ?_
      refine Wa_istore_n (ls' := [(2, vI (iDiv l2 128)), (1, vI z8)]) dX9_isLetters_47 rfl (by decide) rfl ?_
      refine Wa_goto (tgt := 18) dX9_isLetters_48 (by decide) ?_
      refine Wa_sub [1, 0] rfl ?_
      exact h
theorem en_X9_isLetters {g : AG} {d : Nat} {l0 : Int} {M : AM} {Q : Int → AM → Prop} (h : S_X9_isLetters_0 g d l0 M Q) : MetI g mX9_isLetters d [vI l0] M Q := MetA.of (by decide) (Nat.le_of_ble_eq_true rfl) h
def S_X9_insert_0 (g : AG) (d : Nat) (l1 : Int) (l2 : Int) (l3 : Int) (M : AM) (Q : AM → Prop) : Prop := Wa g mX9_insert d 0 [(0, vR 88), (1, vI l1), (2, vI l2), (3, vI l3)] [] M (QV Q)
def S_X9_insert_8 (g : AG) (d : Nat) (l1 : Int) (l2 : Int) (l3 : Int) (l4 : Int) (M : AM) (Q : AM → Prop) : Prop := Wa g mX9_insert d 8 [(0, vR 88), (1, vI l1), (2, vI l2), (3, vI l3), (4, vI l4)] [] M (QV Q)
set_option maxRecDepth 100000 in
theorem sg_X9_insert_0 {g : AG} {d : Nat} {l1 : Int} {l2 : Int} {l3 : Int} {M : AM} {Q : AM → Prop} 
  (h : (0 ≤ l1 ∧ l1 < 2) ∧ (S_X9_insert_8 g (d + 1) l1 l2 l3 (M 93 (l1).toNat) M Q)) : S_X9_insert_0 g (d + 1) l1 l2 l3 M Q := by
  show Wa _ _ _ _ _ _ _ _
  refine Wa_aload_n 0 dX9_insert_0 rfl rfl ?_
  refine Wa_getR cf_X9 lk_X9_22 k_88 (j := 8) rfl (by decide) dX9_insert_1 ?_
  refine Wa_iload_n 1 dX9_insert_4 rfl rfl ?_
  obtain ⟨b1, h⟩ := h
  refine Wa_iald2 (v := (M 93 (l1).toNat)) k_93 b1 rfl dX9_insert_5 (fun r2 => ?_)
  refine Wa_istore (ls' := [(4, vI (M 93 (l1).toNat)), (0, vR 88), (1, vI l1), (2, vI l2), (3, vI l3)]) dX9_insert_6 (by decide) rfl ?_
  refine Wa_sub [1, 2, 3, 4, 0] rfl ?_
  exact h
set_option maxRecDepth 100000 in
theorem sg_X9_insert_8 {g : AG} {d : Nat} {l1 : Int} {l2 : Int} {l3 : Int} {l4 : Int} {M : AM} {Q : AM → Prop} 
  (h : rg l4 ∧ (rg l2 ∧ ((l4 ≤ l2 → ((0 ≤ ((16 * l1) + l2) ∧ ((16 * l1) + l2) < 32) ∧ (rg l3 ∧ ((0 ≤ l1 ∧ l1 < 2) ∧ (rg ((M 93 (l1).toNat) + 1) ∧ (Q (mU (mU M 92 (((16 * l1) + l2)).toNat l3) 93 (l1).toNat ((M 93 (l1).toNat) + 1)))))))) ∧ (¬ l4 ≤ l2 → ((0 ≤ (((16 * l1) + l4) - 1) ∧ (((16 * l1) + l4) - 1) < 32) ∧ ((0 ≤ ((16 * l1) + l4) ∧ ((16 * l1) + l4) < 32) ∧ (S_X9_insert_8 g (d + 1) l1 l2 l3 (l4 + (-1)) (mU M 92 (((16 * l1) + l4)).toNat (M 92 ((((16 * l1) + l4) - 1)).toNat)) Q))))))) : S_X9_insert_8 g (d + 1) l1 l2 l3 l4 M Q := by
  show Wa _ _ _ _ _ _ _ _
  refine Wa_iload 4 dX9_insert_8 rfl ?_
  refine Wa_iload_n 2 dX9_insert_10 rfl rfl ?_
  obtain ⟨q1, h⟩ := h
  obtain ⟨q2, h⟩ := h
  refine Wa_icmp_le (tgt := 46) dX9_insert_11 (by decide) q1 q2 (fun c3 => ?_) (fun c3 => ?_)
  · have h := h.1 c3
    refine Wa_aload_n 0 dX9_insert_46 rfl rfl ?_
    refine Wa_getR cf_X9 lk_X9_19 k_88 (j := 7) rfl (by decide) dX9_insert_47 ?_
    refine Wa_bipush (z := 16) dX9_insert_50 (by decide) ?_
    refine Wa_iload_n 1 dX9_insert_52 rfl rfl ?_
    refine Wa_imul dX9_insert_53 ?_
    refine Wa_iload_n 2 dX9_insert_54 rfl rfl ?_
    refine Wa_iadd dX9_insert_55 ?_
    refine Wa_iload_n 3 dX9_insert_56 rfl rfl ?_
    obtain ⟨b4, h⟩ := h
    obtain ⟨q5, h⟩ := h
    refine Wa_iast k_92 b4 q5 dX9_insert_57 ?_
    refine Wa_aload_n 0 dX9_insert_58 rfl rfl ?_
    refine Wa_getR cf_X9 lk_X9_22 k_88 (j := 8) rfl (by decide) dX9_insert_59 ?_
    refine Wa_iload_n 1 dX9_insert_62 rfl rfl ?_
    refine Wa_dup2 dX9_insert_63 rfl rfl ?_
    obtain ⟨b6, h⟩ := h
    refine Wa_iald2 (v := (M 93 (l1).toNat)) k_93 b6 (mU_rd (by decide)) dX9_insert_64 (fun r7 => ?_)
    refine Wa_iconst (z := 1) dX9_insert_65 ?_
    refine Wa_iadd dX9_insert_66 ?_
    obtain ⟨q8, h⟩ := h
    refine Wa_iast k_93 b6 q8 dX9_insert_67 ?_
    exact Wa_return dX9_insert_68 rfl ⟨rfl, h⟩
  · have h := h.2 c3
    refine Wa_aload_n 0 dX9_insert_14 rfl rfl ?_
    refine Wa_getR cf_X9 lk_X9_19 k_88 (j := 7) rfl (by decide) dX9_insert_15 ?_
    refine Wa_bipush (z := 16) dX9_insert_18 (by decide) ?_
    refine Wa_iload_n 1 dX9_insert_20 rfl rfl ?_
    refine Wa_imul dX9_insert_21 ?_
    refine Wa_iload 4 dX9_insert_22 rfl ?_
    refine Wa_iadd dX9_insert_24 ?_
    refine Wa_aload_n 0 dX9_insert_25 rfl rfl ?_
    refine Wa_getR cf_X9 lk_X9_19 k_88 (j := 7) rfl (by decide) dX9_insert_26 ?_
    refine Wa_bipush (z := 16) dX9_insert_29 (by decide) ?_
    refine Wa_iload_n 1 dX9_insert_31 rfl rfl ?_
    refine Wa_imul dX9_insert_32 ?_
    refine Wa_iload 4 dX9_insert_33 rfl ?_
    refine Wa_iadd dX9_insert_35 ?_
    refine Wa_iconst (z := 1) dX9_insert_36 ?_
    refine Wa_isub dX9_insert_37 ?_
    obtain ⟨b9, h⟩ := h
    refine Wa_iald2 (v := (M 92 ((((16 * l1) + l4) - 1)).toNat)) k_92 b9 rfl dX9_insert_38 (fun r10 => ?_)
    obtain ⟨b11, h⟩ := h
    refine Wa_iast k_92 b11 r10 dX9_insert_39 ?_
    refine Wa_iinc (ls' := [(4, vI (l4 + (-1))), (0, vR 88), (1, vI l1), (2, vI l2), (3, vI l3)]) 4 dX9_insert_40 rfl (by decide) rfl ?_
    refine Wa_goto (tgt := 8) dX9_insert_43 (by decide) ?_
    refine Wa_sub [1, 2, 3, 4, 0] rfl ?_
    exact h
theorem en_X9_insert {g : AG} {d : Nat} {l1 : Int} {l2 : Int} {l3 : Int} {M : AM} {Q : AM → Prop} (h : S_X9_insert_0 g d l1 l2 l3 M Q) : MetV g mX9_insert d [vR 88, vI l1, vI l2, vI l3] M Q := MetA.of (by decide) (Nat.le_of_ble_eq_true rfl) h
def S_X9_remove_0 (g : AG) (d : Nat) (l1 : Int) (l2 : Int) (M : AM) (Q : AM → Prop) : Prop := Wa g mX9_remove d 0 [(0, vR 88), (1, vI l1), (2, vI l2)] [] M (QV Q)
def S_X9_remove_2 (g : AG) (d : Nat) (l1 : Int) (l3 : Int) (M : AM) (Q : AM → Prop) : Prop := Wa g mX9_remove d 2 [(0, vR 88), (1, vI l1), (3, vI l3)] [] M (QV Q)
set_option maxRecDepth 100000 in
theorem sg_X9_remove_0 {g : AG} {d : Nat} {l1 : Int} {l2 : Int} {M : AM} {Q : AM → Prop} 
  (h : S_X9_remove_2 g (d + 1) l1 l2 M Q) : S_X9_remove_0 g (d + 1) l1 l2 M Q := by
  show Wa _ _ _ _ _ _ _ _
  refine Wa_iload_n 2 dX9_remove_0 rfl rfl ?_
  refine Wa_istore_n (ls' := [(3, vI l2), (0, vR 88), (1, vI l1), (2, vI l2)]) dX9_remove_1 rfl (by decide) rfl ?_
  refine Wa_sub [1, 2, 0] rfl ?_
  exact h
set_option maxRecDepth 100000 in
theorem sg_X9_remove_2 {g : AG} {d : Nat} {l1 : Int} {l3 : Int} {M : AM} {Q : AM → Prop} 
  (h : (0 ≤ l1 ∧ l1 < 2) ∧ (rg l3 ∧ (rg ((M 93 (l1).toNat) - 1) ∧ ((((M 93 (l1).toNat) - 1) ≤ l3 → (Q (mU M 93 (l1).toNat ((M 93 (l1).toNat) - 1)))) ∧ (¬ ((M 93 (l1).toNat) - 1) ≤ l3 → ((0 ≤ (((16 * l1) + l3) + 1) ∧ (((16 * l1) + l3) + 1) < 32) ∧ ((0 ≤ ((16 * l1) + l3) ∧ ((16 * l1) + l3) < 32) ∧ (S_X9_remove_2 g (d + 1) l1 (l3 + 1) (mU M 92 (((16 * l1) + l3)).toNat (M 92 ((((16 * l1) + l3) + 1)).toNat)) Q)))))))) : S_X9_remove_2 g (d + 1) l1 l3 M Q := by
  show Wa _ _ _ _ _ _ _ _
  refine Wa_iload_n 2 dX9_remove_2 rfl rfl ?_
  refine Wa_aload_n 0 dX9_remove_3 rfl rfl ?_
  refine Wa_getR cf_X9 lk_X9_22 k_88 (j := 8) rfl (by decide) dX9_remove_4 ?_
  refine Wa_iload_n 1 dX9_remove_7 rfl rfl ?_
  obtain ⟨b1, h⟩ := h
  refine Wa_iald2 (v := (M 93 (l1).toNat)) k_93 b1 rfl dX9_remove_8 (fun r2 => ?_)
  refine Wa_iconst (z := 1) dX9_remove_9 ?_
  refine Wa_isub dX9_remove_10 ?_
  obtain ⟨q3, h⟩ := h
  obtain ⟨q4, h⟩ := h
  refine Wa_icmp_ge (tgt := 44) dX9_remove_11 (by decide) q3 q4 (fun c5 => ?_) (fun c5 => ?_)
  · have h := h.1 c5
    refine Wa_aload_n 0 dX9_remove_44 rfl rfl ?_
    refine Wa_getR cf_X9 lk_X9_22 k_88 (j := 8) rfl (by decide) dX9_remove_45 ?_
    refine Wa_iload_n 1 dX9_remove_48 rfl rfl ?_
    refine Wa_dup2 dX9_remove_49 rfl rfl ?_
    refine Wa_iald2 (v := (M 93 (l1).toNat)) k_93 b1 rfl dX9_remove_50 (fun r6 => ?_)
    refine Wa_iconst (z := 1) dX9_remove_51 ?_
    refine Wa_isub dX9_remove_52 ?_
    refine Wa_iast k_93 b1 q4 dX9_remove_53 ?_
    exact Wa_return dX9_remove_54 rfl ⟨rfl, h⟩
  · have h := h.2 c5
    refine Wa_aload_n 0 dX9_remove_14 rfl rfl ?_
    refine Wa_getR cf_X9 lk_X9_19 k_88 (j := 7) rfl (by decide) dX9_remove_15 ?_
    refine Wa_bipush (z := 16) dX9_remove_18 (by decide) ?_
    refine Wa_iload_n 1 dX9_remove_20 rfl rfl ?_
    refine Wa_imul dX9_remove_21 ?_
    refine Wa_iload_n 2 dX9_remove_22 rfl rfl ?_
    refine Wa_iadd dX9_remove_23 ?_
    refine Wa_aload_n 0 dX9_remove_24 rfl rfl ?_
    refine Wa_getR cf_X9 lk_X9_19 k_88 (j := 7) rfl (by decide) dX9_remove_25 ?_
    refine Wa_bipush (z := 16) dX9_remove_28 (by decide) ?_
    refine Wa_iload_n 1 dX9_remove_30 rfl rfl ?_
    refine Wa_imul dX9_remove_31 ?_
    refine Wa_iload_n 2 dX9_remove_32 rfl rfl ?_
    refine Wa_iadd dX9_remove_33 ?_
    refine Wa_iconst (z := 1) dX9_remove_34 ?_
    refine Wa_iadd dX9_remove_35 ?_
    obtain ⟨b7, h⟩ := h
    refine Wa_iald2 (v := (M 92 ((((16 * l1) + l3) + 1)).toNat)) k_92 b7 rfl dX9_remove_36 (fun r8 => ?_)
    obtain ⟨b9, h⟩ := h
    refine Wa_iast k_92 b9 r8 dX9_remove_37 ?_
    refine Wa_iinc (ls' := [(3, vI (l3 + 1)), (0, vR 88), (1, vI l1)]) 2 dX9_remove_38 rfl (by decide) rfl ?_
    refine Wa_goto (tgt := 2) dX9_remove_41 (by decide) ?_
    refine Wa_sub [1, 2, 0] rfl ?_
    exact h
theorem en_X9_remove {g : AG} {d : Nat} {l1 : Int} {l2 : Int} {M : AM} {Q : AM → Prop} (h : S_X9_remove_0 g d l1 l2 M Q) : MetV g mX9_remove d [vR 88, vI l1, vI l2] M Q := MetA.of (by decide) (Nat.le_of_ble_eq_true rfl) h
def S_X9_put_0 (g : AG) (d : Nat) (l1 : Int) (l2 : Int) (l3 : Int) (M : AM) (Q : Int → AM → Prop) : Prop := Wa g mX9_put d 0 [(0, vR 88), (1, vI l1), (2, vI l2), (3, vI l3)] [] M (QI Q)
set_option maxRecDepth 100000 in
theorem sg_X9_put_0 {g : AG} {d : Nat} {l1 : Int} {l2 : Int} {l3 : Int} {M : AM} {Q : Int → AM → Prop} 
  (h : rg l1 ∧ (MetI g mX9_isSide d [vI l1] M (fun z3 M2 => rg z3 → ((z3 = 0 → (Q (-101) M2)) ∧ (¬ z3 = 0 → (rg l2 ∧ ((0 ≤ l1 ∧ l1 < 2) ∧ (MetI g mX9_in d [vL l2, vL 0, vL (M2 93 (l1).toNat)] M2 (fun z10 M9 => rg z10 → ((¬ z10 = 0 → (rg l3 ∧ (MetI g mX9_isLetters d [vI l3] M9 (fun z15 M14 => rg z15 → ((¬ z15 = 0 → ((¬ (M14 88 9) = 0 → ((¬ (M14 93 (l1).toNat) = 8 → (MetV g mX9_insert d [vR 88, vI l1, vI l2, vI l3] M14 (fun M22 => MetV g mX9_layScript d [vR 88] M22 (fun M25 => Q (M25 88 22) M25)))) ∧ ((M14 93 (l1).toNat) = 8 → (Q (-104) M14)))) ∧ ((M14 88 9) = 0 → (Q (-103) M14)))) ∧ (z15 = 0 → (Q (-102) M14))))))) ∧ (z10 = 0 → (Q (-101) M9)))))))))))) : S_X9_put_0 g (d + 1) l1 l2 l3 M Q := by
  show Wa _ _ _ _ _ _ _ _
  refine Wa_iload_n 1 dX9_put_0 rfl rfl ?_
  obtain ⟨q1, h⟩ := h
  refine Wa_callS [vI l1] _ lc_X9_115 cs_X9_isSide rfl rfl (Nat.le_refl _) (Nat.le_of_ble_eq_true rfl) dX9_put_1 h ?_
  intro r M2 h
  obtain ⟨z3, rfl, r4, h⟩ := h
  have h := h r4
  refine Wa_if_eq (tgt := 23) dX9_put_4 (by decide) r4 (fun c5 => ?_) (fun c5 => ?_)
  · have h := h.1 c5
    refine Wa_bipush (z := (-101)) dX9_put_23 (by decide) ?_
    exact Wa_ireturn dX9_put_25 rfl ⟨_, rfl, ⟨by decide, by decide⟩, h⟩
  · have h := h.2 c5
    refine Wa_iload_n 2 dX9_put_7 rfl rfl ?_
    obtain ⟨q6, h⟩ := h
    refine Wa_i2l dX9_put_8 q6 ?_
    refine Wa_lconst (v := 0) dX9_put_9 rfl ?_
    refine Wa_aload_n 0 dX9_put_10 rfl rfl ?_
    refine Wa_getR cf_X9 lk_X9_22 k_88 (j := 8) rfl (by decide) dX9_put_11 ?_
    refine Wa_iload_n 1 dX9_put_14 rfl rfl ?_
    obtain ⟨b7, h⟩ := h
    refine Wa_iald2 (v := (M2 93 (l1).toNat)) k_93 b7 rfl dX9_put_15 (fun r8 => ?_)
    refine Wa_i2l dX9_put_16 r8 ?_
    refine Wa_callS [vL l2, vL 0, vL (M2 93 (l1).toNat)] _ lc_X9_73 cs_X9_in rfl rfl (Nat.le_refl _) (Nat.le_of_ble_eq_true rfl) dX9_put_17 h ?_
    intro r M9 h
    obtain ⟨z10, rfl, r11, h⟩ := h
    have h := h r11
    refine Wa_if_ne (tgt := 26) dX9_put_20 (by decide) r11 (fun c12 => ?_) (fun c12 => ?_)
    · have h := h.1 c12
      refine Wa_iload_n 3 dX9_put_26 rfl rfl ?_
      obtain ⟨q13, h⟩ := h
      refine Wa_callS [vI l3] _ lc_X9_243 cs_X9_isLetters rfl rfl (Nat.le_refl _) (Nat.le_of_ble_eq_true rfl) dX9_put_27 h ?_
      intro r M14 h
      obtain ⟨z15, rfl, r16, h⟩ := h
      have h := h r16
      refine Wa_if_ne (tgt := 36) dX9_put_30 (by decide) r16 (fun c17 => ?_) (fun c17 => ?_)
      · have h := h.1 c17
        refine Wa_aload_n 0 dX9_put_36 rfl rfl ?_
        refine Wa_getI2 (v := (M14 88 9)) cf_X9 lk_X9_106 k_88 (j := 9) rfl (by decide) rfl dX9_put_37 (fun r18 => ?_)
        refine Wa_if_ne (tgt := 46) dX9_put_40 (by decide) r18 (fun c19 => ?_) (fun c19 => ?_)
        · have h := h.1 c19
          refine Wa_aload_n 0 dX9_put_46 rfl rfl ?_
          refine Wa_getR cf_X9 lk_X9_22 k_88 (j := 8) rfl (by decide) dX9_put_47 ?_
          refine Wa_iload_n 1 dX9_put_50 rfl rfl ?_
          refine Wa_iald2 (v := (M14 93 (l1).toNat)) k_93 b7 rfl dX9_put_51 (fun r20 => ?_)
          refine Wa_bipush (z := 8) dX9_put_52 (by decide) ?_
          refine Wa_icmp_ne (tgt := 60) dX9_put_54 (by decide) r20 ⟨by decide, by decide⟩ (fun c21 => ?_) (fun c21 => ?_)
          · have h := h.1 c21
            refine Wa_aload_n 0 dX9_put_60 rfl rfl ?_
            refine Wa_iload_n 1 dX9_put_61 rfl rfl ?_
            refine Wa_iload_n 2 dX9_put_62 rfl rfl ?_
            refine Wa_iload_n 3 dX9_put_63 rfl rfl ?_
            refine Wa_callV [vI l1, vI l2, vI l3] _ cf_X9 rfl k_88 lc_X9_246 cv_X9_insert rfl rfl (Nat.le_refl _) (Nat.le_of_ble_eq_true rfl) dX9_put_64 h ?_
            intro r M22 h
            obtain ⟨rfl, h⟩ := h
            refine Wa_aload_n 0 dX9_put_67 rfl rfl ?_
            refine Wa_callV [] _ cf_X9 rfl k_88 lc_X9_112 cv_X9_layScript rfl rfl (Nat.le_refl _) (Nat.le_of_ble_eq_true rfl) dX9_put_68 h ?_
            intro r M25 h
            obtain ⟨rfl, h⟩ := h
            refine Wa_aload_n 0 dX9_put_71 rfl rfl ?_
            refine Wa_getI2 (v := (M25 88 22)) cf_X9 lk_X9_197 k_88 (j := 22) rfl (by decide) rfl dX9_put_72 (fun r28 => ?_)
            exact Wa_ireturn dX9_put_75 rfl ⟨_, rfl, r28, h⟩
          · have h := h.2 c21
            refine Wa_bipush (z := (-104)) dX9_put_57 (by decide) ?_
            exact Wa_ireturn dX9_put_59 rfl ⟨_, rfl, ⟨by decide, by decide⟩, h⟩
        · have h := h.2 c19
          refine Wa_bipush (z := (-103)) dX9_put_43 (by decide) ?_
          exact Wa_ireturn dX9_put_45 rfl ⟨_, rfl, ⟨by decide, by decide⟩, h⟩
      · have h := h.2 c17
        refine Wa_bipush (z := (-102)) dX9_put_33 (by decide) ?_
        exact Wa_ireturn dX9_put_35 rfl ⟨_, rfl, ⟨by decide, by decide⟩, h⟩
    · have h := h.2 c12
      refine Wa_bipush (z := (-101)) dX9_put_23 (by decide) ?_
      exact Wa_ireturn dX9_put_25 rfl ⟨_, rfl, ⟨by decide, by decide⟩, h⟩
theorem en_X9_put {g : AG} {d : Nat} {l1 : Int} {l2 : Int} {l3 : Int} {M : AM} {Q : Int → AM → Prop} (h : S_X9_put_0 g d l1 l2 l3 M Q) : MetI g mX9_put d [vR 88, vI l1, vI l2, vI l3] M Q := MetA.of (by decide) (Nat.le_of_ble_eq_true rfl) h
def S_X9_take_0 (g : AG) (d : Nat) (l1 : Int) (l2 : Int) (M : AM) (Q : Int → AM → Prop) : Prop := Wa g mX9_take d 0 [(0, vR 88), (1, vI l1), (2, vI l2)] [] M (QI Q)
set_option maxRecDepth 100000 in
theorem sg_X9_take_0 {g : AG} {d : Nat} {l1 : Int} {l2 : Int} {M : AM} {Q : Int → AM → Prop} 
  (h : rg l1 ∧ (rg l2 ∧ (MetI g mX9_isLine d [vR 88, vI l1, vI l2] M (fun z4 M3 => rg z4 → ((¬ z4 = 0 → (MetV g mX9_remove d [vR 88, vI l1, vI l2] M3 (fun M7 => MetV g mX9_layScript d [vR 88] M7 (fun M10 => Q (M10 88 22) M10)))) ∧ (z4 = 0 → (Q (-101) M3))))))) : S_X9_take_0 g (d + 1) l1 l2 M Q := by
  show Wa _ _ _ _ _ _ _ _
  refine Wa_aload_n 0 dX9_take_0 rfl rfl ?_
  refine Wa_iload_n 1 dX9_take_1 rfl rfl ?_
  refine Wa_iload_n 2 dX9_take_2 rfl rfl ?_
  obtain ⟨q1, h⟩ := h
  obtain ⟨q2, h⟩ := h
  refine Wa_callV [vI l1, vI l2] _ cf_X9 rfl k_88 lc_X9_191 cv_X9_isLine rfl rfl (Nat.le_refl _) (Nat.le_of_ble_eq_true rfl) dX9_take_3 h ?_
  intro r M3 h
  obtain ⟨z4, rfl, r5, h⟩ := h
  have h := h r5
  refine Wa_if_ne (tgt := 12) dX9_take_6 (by decide) r5 (fun c6 => ?_) (fun c6 => ?_)
  · have h := h.1 c6
    refine Wa_aload_n 0 dX9_take_12 rfl rfl ?_
    refine Wa_iload_n 1 dX9_take_13 rfl rfl ?_
    refine Wa_iload_n 2 dX9_take_14 rfl rfl ?_
    refine Wa_callV [vI l1, vI l2] _ cf_X9 rfl k_88 lc_X9_249 cv_X9_remove rfl rfl (Nat.le_refl _) (Nat.le_of_ble_eq_true rfl) dX9_take_15 h ?_
    intro r M7 h
    obtain ⟨rfl, h⟩ := h
    refine Wa_aload_n 0 dX9_take_18 rfl rfl ?_
    refine Wa_callV [] _ cf_X9 rfl k_88 lc_X9_112 cv_X9_layScript rfl rfl (Nat.le_refl _) (Nat.le_of_ble_eq_true rfl) dX9_take_19 h ?_
    intro r M10 h
    obtain ⟨rfl, h⟩ := h
    refine Wa_aload_n 0 dX9_take_22 rfl rfl ?_
    refine Wa_getI2 (v := (M10 88 22)) cf_X9 lk_X9_197 k_88 (j := 22) rfl (by decide) rfl dX9_take_23 (fun r13 => ?_)
    exact Wa_ireturn dX9_take_26 rfl ⟨_, rfl, r13, h⟩
  · have h := h.2 c6
    refine Wa_bipush (z := (-101)) dX9_take_9 (by decide) ?_
    exact Wa_ireturn dX9_take_11 rfl ⟨_, rfl, ⟨by decide, by decide⟩, h⟩
theorem en_X9_take {g : AG} {d : Nat} {l1 : Int} {l2 : Int} {M : AM} {Q : Int → AM → Prop} (h : S_X9_take_0 g d l1 l2 M Q) : MetI g mX9_take d [vR 88, vI l1, vI l2] M Q := MetA.of (by decide) (Nat.le_of_ble_eq_true rfl) h
def S_X9_swap_0 (g : AG) (d : Nat) (l1 : Int) (l2 : Int) (l3 : Int) (M : AM) (Q : Int → AM → Prop) : Prop := Wa g mX9_swap d 0 [(0, vR 88), (1, vI l1), (2, vI l2), (3, vI l3)] [] M (QI Q)
set_option maxRecDepth 100000 in
theorem sg_X9_swap_0 {g : AG} {d : Nat} {l1 : Int} {l2 : Int} {l3 : Int} {M : AM} {Q : Int → AM → Prop} 
  (h : rg l1 ∧ (rg l2 ∧ (MetI g mX9_isLine d [vR 88, vI l1, vI l2] M (fun z4 M3 => rg z4 → ((z4 = 0 → (Q (-101) M3)) ∧ (¬ z4 = 0 → (rg l3 ∧ (MetI g mX9_isLine d [vR 88, vI l1, vI l3] M3 (fun z9 M8 => rg z9 → ((z9 = 0 → (Q (-101) M8)) ∧ (¬ z9 = 0 → ((¬ l2 = l3 → ((0 ≤ ((16 * l1) + l2) ∧ ((16 * l1) + l2) < 32) ∧ ((0 ≤ ((16 * l1) + l3) ∧ ((16 * l1) + l3) < 32) ∧ (MetV g mX9_layScript d [vR 88] (mU (mU M8 92 (((16 * l1) + l2)).toNat (M8 92 (((16 * l1) + l3)).toNat)) 92 (((16 * l1) + l3)).toNat (M8 92 (((16 * l1) + l2)).toNat)) (fun M17 => Q (M17 88 22) M17))))) ∧ (l2 = l3 → (Q (-101) M8)))))))))))))) : S_X9_swap_0 g (d + 1) l1 l2 l3 M Q := by
  show Wa _ _ _ _ _ _ _ _
  refine Wa_aload_n 0 dX9_swap_0 rfl rfl ?_
  refine Wa_iload_n 1 dX9_swap_1 rfl rfl ?_
  refine Wa_iload_n 2 dX9_swap_2 rfl rfl ?_
  obtain ⟨q1, h⟩ := h
  obtain ⟨q2, h⟩ := h
  refine Wa_callV [vI l1, vI l2] _ cf_X9 rfl k_88 lc_X9_191 cv_X9_isLine rfl rfl (Nat.le_refl _) (Nat.le_of_ble_eq_true rfl) dX9_swap_3 h ?_
  intro r M3 h
  obtain ⟨z4, rfl, r5, h⟩ := h
  have h := h r5
  refine Wa_if_eq (tgt := 23) dX9_swap_6 (by decide) r5 (fun c6 => ?_) (fun c6 => ?_)
  · have h := h.1 c6
    refine Wa_bipush (z := (-101)) dX9_swap_23 (by decide) ?_
    exact Wa_ireturn dX9_swap_25 rfl ⟨_, rfl, ⟨by decide, by decide⟩, h⟩
  · have h := h.2 c6
    refine Wa_aload_n 0 dX9_swap_9 rfl rfl ?_
    refine Wa_iload_n 1 dX9_swap_10 rfl rfl ?_
    refine Wa_iload_n 3 dX9_swap_11 rfl rfl ?_
    obtain ⟨q7, h⟩ := h
    refine Wa_callV [vI l1, vI l3] _ cf_X9 rfl k_88 lc_X9_191 cv_X9_isLine rfl rfl (Nat.le_refl _) (Nat.le_of_ble_eq_true rfl) dX9_swap_12 h ?_
    intro r M8 h
    obtain ⟨z9, rfl, r10, h⟩ := h
    have h := h r10
    refine Wa_if_eq (tgt := 23) dX9_swap_15 (by decide) r10 (fun c11 => ?_) (fun c11 => ?_)
    · have h := h.1 c11
      refine Wa_bipush (z := (-101)) dX9_swap_23 (by decide) ?_
      exact Wa_ireturn dX9_swap_25 rfl ⟨_, rfl, ⟨by decide, by decide⟩, h⟩
    · have h := h.2 c11
      refine Wa_iload_n 2 dX9_swap_18 rfl rfl ?_
      refine Wa_iload_n 3 dX9_swap_19 rfl rfl ?_
      refine Wa_icmp_ne (tgt := 26) dX9_swap_20 (by decide) q2 q7 (fun c12 => ?_) (fun c12 => ?_)
      · have h := h.1 c12
        refine Wa_aload_n 0 dX9_swap_26 rfl rfl ?_
        refine Wa_getR cf_X9 lk_X9_19 k_88 (j := 7) rfl (by decide) dX9_swap_27 ?_
        refine Wa_bipush (z := 16) dX9_swap_30 (by decide) ?_
        refine Wa_iload_n 1 dX9_swap_32 rfl rfl ?_
        refine Wa_imul dX9_swap_33 ?_
        refine Wa_iload_n 2 dX9_swap_34 rfl rfl ?_
        refine Wa_iadd dX9_swap_35 ?_
        obtain ⟨b13, h⟩ := h
        refine Wa_iald2 (v := (M8 92 (((16 * l1) + l2)).toNat)) k_92 b13 rfl dX9_swap_36 (fun r14 => ?_)
        refine Wa_istore (ls' := [(4, vI (M8 92 (((16 * l1) + l2)).toNat)), (0, vR 88), (1, vI l1), (2, vI l2), (3, vI l3)]) dX9_swap_37 (by decide) rfl ?_
        refine Wa_aload_n 1 dX9_swap_39 rfl rfl ?_
        refine Wa_getR cf_X9 lk_X9_19 k_88 (j := 7) rfl (by decide) dX9_swap_40 ?_
        refine Wa_bipush (z := 16) dX9_swap_43 (by decide) ?_
        refine Wa_iload_n 2 dX9_swap_45 rfl rfl ?_
        refine Wa_imul dX9_swap_46 ?_
        refine Wa_iload_n 3 dX9_swap_47 rfl rfl ?_
        refine Wa_iadd dX9_swap_48 ?_
        refine Wa_aload_n 1 dX9_swap_49 rfl rfl ?_
        refine Wa_getR cf_X9 lk_X9_19 k_88 (j := 7) rfl (by decide) dX9_swap_50 ?_
        refine Wa_bipush (z := 16) dX9_swap_53 (by decide) ?_
        refine Wa_iload_n 2 dX9_swap_55 rfl rfl ?_
        refine Wa_imul dX9_swap_56 ?_
        refine Wa_iload_n 4 dX9_swap_57 rfl rfl ?_
        refine Wa_iadd dX9_swap_58 ?_
        obtain ⟨b15, h⟩ := h
        refine Wa_iald2 (v := (M8 92 (((16 * l1) + l3)).toNat)) k_92 b15 rfl dX9_swap_59 (fun r16 => ?_)
        refine Wa_iast k_92 b13 r16 dX9_swap_60 ?_
        refine Wa_aload_n 1 dX9_swap_61 rfl rfl ?_
        refine Wa_getR cf_X9 lk_X9_19 k_88 (j := 7) rfl (by decide) dX9_swap_62 ?_
        refine Wa_bipush (z := 16) dX9_swap_65 (by decide) ?_
        refine Wa_iload_n 2 dX9_swap_67 rfl rfl ?_
        refine Wa_imul dX9_swap_68 ?_
        refine Wa_iload_n 4 dX9_swap_69 rfl rfl ?_
        refine Wa_iadd dX9_swap_70 ?_
        refine Wa_iload 0 dX9_swap_71 rfl ?_
        refine Wa_iast k_92 b15 r14 dX9_swap_73 ?_
        refine Wa_aload_n 1 dX9_swap_74 rfl rfl ?_
        refine Wa_callV [] _ cf_X9 rfl k_88 lc_X9_112 cv_X9_layScript rfl rfl (Nat.le_refl _) (Nat.le_of_ble_eq_true rfl) dX9_swap_75 h ?_
        intro r M17 h
        obtain ⟨rfl, h⟩ := h
        refine Wa_aload_n 1 dX9_swap_78 rfl rfl ?_
        refine Wa_getI2 (v := (M17 88 22)) cf_X9 lk_X9_197 k_88 (j := 22) rfl (by decide) rfl dX9_swap_79 (fun r20 => ?_)
        exact Wa_ireturn dX9_swap_82 rfl ⟨_, rfl, r20, h⟩
      · have h := h.2 c12
        refine Wa_bipush (z := (-101)) dX9_swap_23 (by decide) ?_
        exact Wa_ireturn dX9_swap_25 rfl ⟨_, rfl, ⟨by decide, by decide⟩, h⟩
theorem en_X9_swap {g : AG} {d : Nat} {l1 : Int} {l2 : Int} {l3 : Int} {M : AM} {Q : Int → AM → Prop} (h : S_X9_swap_0 g d l1 l2 l3 M Q) : MetI g mX9_swap d [vR 88, vI l1, vI l2, vI l3] M Q := MetA.of (by decide) (Nat.le_of_ble_eq_true rfl) h
def S_X9_turn_0 (g : AG) (d : Nat) (M : AM) (Q : Int → AM → Prop) : Prop := Wa g mX9_turn d 0 [(0, vR 88)] [] M (QI Q)
def S_X9_turn_12 (g : AG) (d : Nat) (l1 : Int) (M : AM) (Q : Int → AM → Prop) : Prop := Wa g mX9_turn d 12 [(0, vR 88), (1, vI l1)] [] M (QI Q)
set_option maxRecDepth 100000 in
theorem sg_X9_turn_0 {g : AG} {d : Nat} {M : AM} {Q : Int → AM → Prop} 
  (h : (¬ (M 88 9) = 0 → (S_X9_turn_12 g (d + 1) 0 M Q)) ∧ ((M 88 9) = 0 → (Q (-103) M))) : S_X9_turn_0 g (d + 1) M Q := by
  show Wa _ _ _ _ _ _ _ _
  refine Wa_aload_n 0 dX9_turn_0 rfl rfl ?_
  refine Wa_getI2 (v := (M 88 9)) cf_X9 lk_X9_106 k_88 (j := 9) rfl (by decide) rfl dX9_turn_1 (fun r1 => ?_)
  refine Wa_if_ne (tgt := 10) dX9_turn_4 (by decide) r1 (fun c2 => ?_) (fun c2 => ?_)
  · have h := h.1 c2
    refine Wa_iconst (z := 0) dX9_turn_10 ?_
    refine Wa_istore_n (ls' := [(1, vI 0), (0, vR 88)]) dX9_turn_11 rfl (by decide) rfl ?_
    refine Wa_sub [1, 0] rfl ?_
    exact h
  · have h := h.2 c2
    refine Wa_bipush (z := (-103)) dX9_turn_7 (by decide) ?_
    exact Wa_ireturn dX9_turn_9 rfl ⟨_, rfl, ⟨by decide, by decide⟩, h⟩
set_option maxRecDepth 100000 in
theorem sg_X9_turn_12 {g : AG} {d : Nat} {l1 : Int} {M : AM} {Q : Int → AM → Prop} 
  (h : rg l1 ∧ ((8 ≤ l1 → (MetV g mX9_layScript d [vR 88] (mU (mU M 93 0 (M 93 1)) 93 1 (M 93 0)) (fun M5 => Q (M5 88 22) M5))) ∧ (¬ 8 ≤ l1 → ((0 ≤ l1 ∧ l1 < 32) ∧ ((0 ≤ (16 + l1) ∧ (16 + l1) < 32) ∧ (S_X9_turn_12 g (d + 1) (l1 + 1) (mU (mU M 92 (l1).toNat (M 92 ((16 + l1)).toNat)) 92 ((16 + l1)).toNat (M 92 (l1).toNat)) Q)))))) : S_X9_turn_12 g (d + 1) l1 M Q := by
  show Wa _ _ _ _ _ _ _ _
  refine Wa_iload_n 1 dX9_turn_12 rfl rfl ?_
  refine Wa_bipush (z := 8) dX9_turn_13 (by decide) ?_
  obtain ⟨q1, h⟩ := h
  refine Wa_icmp_ge (tgt := 56) dX9_turn_15 (by decide) q1 ⟨by decide, by decide⟩ (fun c2 => ?_) (fun c2 => ?_)
  · have h := h.1 c2
    refine Wa_aload_n 0 dX9_turn_56 rfl rfl ?_
    refine Wa_getR cf_X9 lk_X9_22 k_88 (j := 8) rfl (by decide) dX9_turn_57 ?_
    refine Wa_iconst (z := 0) dX9_turn_60 ?_
    refine Wa_iald2 (v := (M 93 0)) k_93 ⟨by decide, by decide⟩ rfl dX9_turn_61 (fun r3 => ?_)
    refine Wa_istore_n (ls' := [(1, vI (M 93 0)), (0, vR 88)]) dX9_turn_62 rfl (by decide) rfl ?_
    refine Wa_aload_n 1 dX9_turn_63 rfl rfl ?_
    refine Wa_getR cf_X9 lk_X9_22 k_88 (j := 8) rfl (by decide) dX9_turn_64 ?_
    refine Wa_iconst (z := 0) dX9_turn_67 ?_
    refine Wa_aload_n 1 dX9_turn_68 rfl rfl ?_
    refine Wa_getR cf_X9 lk_X9_22 k_88 (j := 8) rfl (by decide) dX9_turn_69 ?_
    refine Wa_iconst (z := 1) dX9_turn_72 ?_
    refine Wa_iald2 (v := (M 93 1)) k_93 ⟨by decide, by decide⟩ rfl dX9_turn_73 (fun r4 => ?_)
    refine Wa_iast k_93 ⟨by decide, by decide⟩ r4 dX9_turn_74 ?_
    refine Wa_aload_n 1 dX9_turn_75 rfl rfl ?_
    refine Wa_getR cf_X9 lk_X9_22 k_88 (j := 8) rfl (by decide) dX9_turn_76 ?_
    refine Wa_iconst (z := 1) dX9_turn_79 ?_
    refine Wa_iload_n 0 dX9_turn_80 rfl rfl ?_
    refine Wa_iast k_93 ⟨by decide, by decide⟩ r3 dX9_turn_81 ?_
    refine Wa_aload_n 1 dX9_turn_82 rfl rfl ?_
    refine Wa_callV [] _ cf_X9 rfl k_88 lc_X9_112 cv_X9_layScript rfl rfl (Nat.le_refl _) (Nat.le_of_ble_eq_true rfl) dX9_turn_83 h ?_
    intro r M5 h
    obtain ⟨rfl, h⟩ := h
    refine Wa_aload_n 1 dX9_turn_86 rfl rfl ?_
    refine Wa_getI2 (v := (M5 88 22)) cf_X9 lk_X9_197 k_88 (j := 22) rfl (by decide) rfl dX9_turn_87 (fun r8 => ?_)
    exact Wa_ireturn dX9_turn_90 rfl ⟨_, rfl, r8, h⟩
  · have h := h.2 c2
    refine Wa_aload_n 0 dX9_turn_18 rfl rfl ?_
    refine Wa_getR cf_X9 lk_X9_19 k_88 (j := 7) rfl (by decide) dX9_turn_19 ?_
    refine Wa_iload_n 1 dX9_turn_22 rfl rfl ?_
    obtain ⟨b9, h⟩ := h
    refine Wa_iald2 (v := (M 92 (l1).toNat)) k_92 b9 rfl dX9_turn_23 (fun r10 => ?_)
    refine Wa_istore_n (ls' := [(2, vI (M 92 (l1).toNat)), (0, vR 88), (1, vI l1)]) dX9_turn_24 rfl (by decide) rfl ?_
    refine Wa_aload_n 1 dX9_turn_25 rfl rfl ?_
    refine Wa_getR cf_X9 lk_X9_19 k_88 (j := 7) rfl (by decide) dX9_turn_26 ?_
    refine Wa_iload_n 2 dX9_turn_29 rfl rfl ?_
    refine Wa_aload_n 1 dX9_turn_30 rfl rfl ?_
    refine Wa_getR cf_X9 lk_X9_19 k_88 (j := 7) rfl (by decide) dX9_turn_31 ?_
    refine Wa_bipush (z := 16) dX9_turn_34 (by decide) ?_
    refine Wa_iload_n 2 dX9_turn_36 rfl rfl ?_
    refine Wa_iadd dX9_turn_37 ?_
    obtain ⟨b11, h⟩ := h
    refine Wa_iald2 (v := (M 92 ((16 + l1)).toNat)) k_92 b11 rfl dX9_turn_38 (fun r12 => ?_)
    refine Wa_iast k_92 b9 r12 dX9_turn_39 ?_
    refine Wa_aload_n 1 dX9_turn_40 rfl rfl ?_
    refine Wa_getR cf_X9 lk_X9_19 k_88 (j := 7) rfl (by decide) dX9_turn_41 ?_
    refine Wa_bipush (z := 16) dX9_turn_44 (by decide) ?_
    refine Wa_iload_n 2 dX9_turn_46 rfl rfl ?_
    refine Wa_iadd dX9_turn_47 ?_
    refine Wa_iload_n 0 dX9_turn_48 rfl rfl ?_
    refine Wa_iast k_92 b11 r10 dX9_turn_49 ?_
    refine Wa_iinc (ls' := [(1, vI (l1 + 1)), (2, vI (M 92 (l1).toNat)), (0, vR 88)]) 2 dX9_turn_50 rfl (by decide) rfl ?_
    refine Wa_goto (tgt := 12) dX9_turn_53 (by decide) ?_
    refine Wa_sub [2, 0] rfl ?_
    exact h
theorem en_X9_turn {g : AG} {d : Nat} {M : AM} {Q : Int → AM → Prop} (h : S_X9_turn_0 g d M Q) : MetI g mX9_turn d [vR 88] M Q := MetA.of (by decide) (Nat.le_of_ble_eq_true rfl) h
def S_X9_keptMany_0 (g : AG) (d : Nat) (M : AM) (Q : Int → AM → Prop) : Prop := Wa g mX9_keptMany d 0 [(0, vR 88)] [] M (QI Q)
def S_X9_keptMany_4 (g : AG) (d : Nat) (l1 : Int) (l2 : Int) (M : AM) (Q : Int → AM → Prop) : Prop := Wa g mX9_keptMany d 4 [(0, vR 88), (1, vI l1), (2, vI l2)] [] M (QI Q)
set_option maxRecDepth 100000 in
theorem sg_X9_keptMany_0 {g : AG} {d : Nat} {M : AM} {Q : Int → AM → Prop} 
  (h : S_X9_keptMany_4 g (d + 1) 0 0 M Q) : S_X9_keptMany_0 g (d + 1) M Q := by
  show Wa _ _ _ _ _ _ _ _
  refine Wa_iconst (z := 0) dX9_keptMany_0 ?_
  refine Wa_istore_n (ls' := [(1, vI 0), (0, vR 88)]) dX9_keptMany_1 rfl (by decide) rfl ?_
  refine Wa_iconst (z := 0) dX9_keptMany_2 ?_
  refine Wa_istore_n (ls' := [(2, vI 0), (1, vI 0), (0, vR 88)]) dX9_keptMany_3 rfl (by decide) rfl ?_
  refine Wa_sub [2, 1, 0] rfl ?_
  exact h
set_option maxRecDepth 100000 in
theorem sg_X9_keptMany_4 {g : AG} {d : Nat} {l1 : Int} {l2 : Int} {M : AM} {Q : Int → AM → Prop} 
  (h : rg l2 ∧ (((M 93 0) ≤ l2 → (rg l1 ∧ (Q l1 M))) ∧ (¬ (M 93 0) ≤ l2 → ((0 ≤ l2 ∧ l2 < 32) ∧ ((¬ (M 94 (l2).toNat) = (-1) → (S_X9_keptMany_4 g (d + 1) (l1 + 1) (l2 + 1) M Q)) ∧ ((M 94 (l2).toNat) = (-1) → (S_X9_keptMany_4 g (d + 1) (l1 + 0) (l2 + 1) M Q))))))) : S_X9_keptMany_4 g (d + 1) l1 l2 M Q := by
  show Wa _ _ _ _ _ _ _ _
  refine Wa_iload_n 2 dX9_keptMany_4 rfl rfl ?_
  refine Wa_aload_n 0 dX9_keptMany_5 rfl rfl ?_
  refine Wa_getR cf_X9 lk_X9_22 k_88 (j := 8) rfl (by decide) dX9_keptMany_6 ?_
  refine Wa_iconst (z := 0) dX9_keptMany_9 ?_
  refine Wa_iald2 (v := (M 93 0)) k_93 ⟨by decide, by decide⟩ rfl dX9_keptMany_10 (fun r1 => ?_)
  obtain ⟨q2, h⟩ := h
  refine Wa_icmp_ge (tgt := 38) dX9_keptMany_11 (by decide) q2 r1 (fun c3 => ?_) (fun c3 => ?_)
  · have h := h.1 c3
    refine Wa_iload_n 1 dX9_keptMany_38 rfl rfl ?_
    obtain ⟨q4, h⟩ := h
    exact Wa_ireturn dX9_keptMany_39 rfl ⟨_, rfl, q4, h⟩
  · have h := h.2 c3
    refine Wa_iload_n 1 dX9_keptMany_14 rfl rfl ?_
    refine Wa_aload_n 0 dX9_keptMany_15 rfl rfl ?_
    refine Wa_getR cf_X9 lk_X9_25 k_88 (j := 11) rfl (by decide) dX9_keptMany_16 ?_
    refine Wa_iload_n 2 dX9_keptMany_19 rfl rfl ?_
    obtain ⟨b5, h⟩ := h
    refine Wa_iald2 (v := (M 94 (l2).toNat)) k_94 b5 rfl dX9_keptMany_20 (fun r6 => ?_)
    refine Wa_iconst (z := (-1)) dX9_keptMany_21 ?_
    refine Wa_icmp_ne (tgt := 29) dX9_keptMany_22 (by decide) r6 ⟨by decide, by decide⟩ (fun c7 => ?_) (fun c7 => ?_)
    · have h := h.1 c7
      refine Wa_iconst (z := 1) dX9_keptMany_29 ?_
      refine Wa_iadd dX9_keptMany_30 ?_
      refine Wa_istore_n (ls' := [(1, vI (l1 + 1)), (0, vR 88), (2, vI l2)]) dX9_keptMany_31 rfl (by decide) rfl ?_
      refine Wa_iinc (ls' := [(2, vI (l2 + 1)), (1, vI (l1 + 1)), (0, vR 88)]) 2 dX9_keptMany_32 rfl (by decide) rfl ?_
      refine Wa_goto (tgt := 4) dX9_keptMany_35 (by decide) ?_
      refine Wa_sub [2, 1, 0] rfl ?_
      exact h
    · have h := h.2 c7
      refine Wa_iconst (z := 0) dX9_keptMany_25 ?_
      refine Wa_goto (tgt := 30) dX9_keptMany_26 (by decide) ?_
      refine Wa_iadd dX9_keptMany_30 ?_
      refine Wa_istore_n (ls' := [(1, vI (l1 + 0)), (0, vR 88), (2, vI l2)]) dX9_keptMany_31 rfl (by decide) rfl ?_
      refine Wa_iinc (ls' := [(2, vI (l2 + 1)), (1, vI (l1 + 0)), (0, vR 88)]) 2 dX9_keptMany_32 rfl (by decide) rfl ?_
      refine Wa_goto (tgt := 4) dX9_keptMany_35 (by decide) ?_
      refine Wa_sub [2, 1, 0] rfl ?_
      exact h
theorem en_X9_keptMany {g : AG} {d : Nat} {M : AM} {Q : Int → AM → Prop} (h : S_X9_keptMany_0 g d M Q) : MetI g mX9_keptMany d [vR 88] M Q := MetA.of (by decide) (Nat.le_of_ble_eq_true rfl) h
def S_X9_costNow_0 (g : AG) (d : Nat) (M : AM) (Q : Int → AM → Prop) : Prop := Wa g mX9_costNow d 0 [(0, vR 88)] [] M (QI Q)
set_option maxRecDepth 100000 in
theorem sg_X9_costNow_0 {g : AG} {d : Nat} {M : AM} {Q : Int → AM → Prop} 
  (h : MetI g mX9_keptMany d [vR 88] M (fun z4 M3 => rg z4 → (rg (((M 93 0) + (M 93 1)) - (2 * z4)) ∧ (Q (((M 93 0) + (M 93 1)) - (2 * z4)) M3)))) : S_X9_costNow_0 g (d + 1) M Q := by
  show Wa _ _ _ _ _ _ _ _
  refine Wa_aload_n 0 dX9_costNow_0 rfl rfl ?_
  refine Wa_getR cf_X9 lk_X9_22 k_88 (j := 8) rfl (by decide) dX9_costNow_1 ?_
  refine Wa_iconst (z := 0) dX9_costNow_4 ?_
  refine Wa_iald2 (v := (M 93 0)) k_93 ⟨by decide, by decide⟩ rfl dX9_costNow_5 (fun r1 => ?_)
  refine Wa_aload_n 0 dX9_costNow_6 rfl rfl ?_
  refine Wa_getR cf_X9 lk_X9_22 k_88 (j := 8) rfl (by decide) dX9_costNow_7 ?_
  refine Wa_iconst (z := 1) dX9_costNow_10 ?_
  refine Wa_iald2 (v := (M 93 1)) k_93 ⟨by decide, by decide⟩ rfl dX9_costNow_11 (fun r2 => ?_)
  refine Wa_iadd dX9_costNow_12 ?_
  refine Wa_iconst (z := 2) dX9_costNow_13 ?_
  refine Wa_aload_n 0 dX9_costNow_14 rfl rfl ?_
  refine Wa_callV [] _ cf_X9 rfl k_88 lc_X9_252 cv_X9_keptMany rfl rfl (Nat.le_refl _) (Nat.le_of_ble_eq_true rfl) dX9_costNow_15 h ?_
  intro r M3 h
  obtain ⟨z4, rfl, r5, h⟩ := h
  have h := h r5
  refine Wa_imul dX9_costNow_18 ?_
  refine Wa_isub dX9_costNow_19 ?_
  obtain ⟨q6, h⟩ := h
  exact Wa_ireturn dX9_costNow_20 rfl ⟨_, rfl, q6, h⟩
theorem en_X9_costNow {g : AG} {d : Nat} {M : AM} {Q : Int → AM → Prop} (h : S_X9_costNow_0 g d M Q) : MetI g mX9_costNow d [vR 88] M Q := MetA.of (by decide) (Nat.le_of_ble_eq_true rfl) h
def S_X9_costOf_0 (g : AG) (d : Nat) (l1 : Int) (M : AM) (Q : Int → AM → Prop) : Prop := Wa g mX9_costOf d 0 [(0, vR 88), (1, vI l1)] [] M (QI Q)
set_option maxRecDepth 100000 in
theorem sg_X9_costOf_0 {g : AG} {d : Nat} {l1 : Int} {M : AM} {Q : Int → AM → Prop} 
  (h : rg l1 ∧ ((l1 < 0 ∨ 3 < l1 → (Q (M 88 23) M)) ∧ (l1 = 0 → (MetI g mX9_costNow d [vR 88] M (fun z5 M4 => rg z5 → (Q z5 M4)))) ∧ (l1 = 1 → (MetV g mX9_layCan d [vR 88, vI 0, vI (M 93 0), vI 0, vI (M 93 1)] M (fun M9 => rg (((M9 93 0) + (M9 93 1)) - (2 * (M9 99 0))) ∧ (Q (((M9 93 0) + (M9 93 1)) - (2 * (M9 99 0))) M9)))) ∧ (l1 = 2 → (Q (M 88 13) M)) ∧ (l1 = 3 → (Q (M 88 12) M)))) : S_X9_costOf_0 g (d + 1) l1 M Q := by
  show Wa _ _ _ _ _ _ _ _
  refine Wa_iload_n 1 dX9_costOf_0 rfl rfl ?_
  obtain ⟨q1, h⟩ := h
  by_cases c2 : l1 < 0 ∨ 3 < l1
  · have h := h.1 c2
    refine Wa_tabOut (tgt := 88) dX9_costOf_1 q1 c2 (by decide) ?_
    refine Wa_aload_n 0 dX9_costOf_88 rfl rfl ?_
    refine Wa_getI2 (v := (M 88 23)) cf_X9 lk_X9_203 k_88 (j := 23) rfl (by decide) rfl dX9_costOf_89 (fun r3 => ?_)
    exact Wa_ireturn dX9_costOf_92 rfl ⟨_, rfl, r3, h⟩
  · have h := h.2
    rcases (show l1 = 0 ∨ l1 = 1 ∨ l1 = 2 ∨ l1 = 3 by omega) with c2 | c2 | c2 | c2
    · have h := h.1 c2
      refine Wa_tabIn (tgt := 32) dX9_costOf_1 q1 (by omega) (by omega) (by rw [c2]; rfl) (by decide) ?_
      refine Wa_aload_n 0 dX9_costOf_32 rfl rfl ?_
      refine Wa_callV [] _ cf_X9 rfl k_88 lc_X9_255 cv_X9_costNow rfl rfl (Nat.le_refl _) (Nat.le_of_ble_eq_true rfl) dX9_costOf_33 h ?_
      intro r M4 h
      obtain ⟨z5, rfl, r6, h⟩ := h
      have h := h r6
      exact Wa_ireturn dX9_costOf_36 rfl ⟨_, rfl, r6, h⟩
    · have h := h.2.1 c2
      refine Wa_tabIn (tgt := 37) dX9_costOf_1 q1 (by omega) (by omega) (by rw [c2]; rfl) (by decide) ?_
      refine Wa_aload_n 0 dX9_costOf_37 rfl rfl ?_
      refine Wa_iconst (z := 0) dX9_costOf_38 ?_
      refine Wa_aload_n 0 dX9_costOf_39 rfl rfl ?_
      refine Wa_getR cf_X9 lk_X9_22 k_88 (j := 8) rfl (by decide) dX9_costOf_40 ?_
      refine Wa_iconst (z := 0) dX9_costOf_43 ?_
      refine Wa_iald2 (v := (M 93 0)) k_93 ⟨by decide, by decide⟩ rfl dX9_costOf_44 (fun r7 => ?_)
      refine Wa_iconst (z := 0) dX9_costOf_45 ?_
      refine Wa_aload_n 0 dX9_costOf_46 rfl rfl ?_
      refine Wa_getR cf_X9 lk_X9_22 k_88 (j := 8) rfl (by decide) dX9_costOf_47 ?_
      refine Wa_iconst (z := 1) dX9_costOf_50 ?_
      refine Wa_iald2 (v := (M 93 1)) k_93 ⟨by decide, by decide⟩ rfl dX9_costOf_51 (fun r8 => ?_)
      refine Wa_callV [vI 0, vI (M 93 0), vI 0, vI (M 93 1)] _ cf_X9 rfl k_88 lc_X9_140 cv_X9_layCan rfl rfl (Nat.le_refl _) (Nat.le_of_ble_eq_true rfl) dX9_costOf_52 h ?_
      intro r M9 h
      obtain ⟨rfl, h⟩ := h
      refine Wa_aload_n 0 dX9_costOf_55 rfl rfl ?_
      refine Wa_getR cf_X9 lk_X9_22 k_88 (j := 8) rfl (by decide) dX9_costOf_56 ?_
      refine Wa_iconst (z := 0) dX9_costOf_59 ?_
      refine Wa_iald2 (v := (M9 93 0)) k_93 ⟨by decide, by decide⟩ rfl dX9_costOf_60 (fun r12 => ?_)
      refine Wa_aload_n 0 dX9_costOf_61 rfl rfl ?_
      refine Wa_getR cf_X9 lk_X9_22 k_88 (j := 8) rfl (by decide) dX9_costOf_62 ?_
      refine Wa_iconst (z := 1) dX9_costOf_65 ?_
      refine Wa_iald2 (v := (M9 93 1)) k_93 ⟨by decide, by decide⟩ rfl dX9_costOf_66 (fun r13 => ?_)
      refine Wa_iadd dX9_costOf_67 ?_
      refine Wa_iconst (z := 2) dX9_costOf_68 ?_
      refine Wa_aload_n 0 dX9_costOf_69 rfl rfl ?_
      refine Wa_getR cf_X9 lk_X9_40 k_88 (j := 19) rfl (by decide) dX9_costOf_70 ?_
      refine Wa_iconst (z := 0) dX9_costOf_73 ?_
      refine Wa_iald2 (v := (M9 99 0)) k_99 ⟨by decide, by decide⟩ rfl dX9_costOf_74 (fun r14 => ?_)
      refine Wa_imul dX9_costOf_75 ?_
      refine Wa_isub dX9_costOf_76 ?_
      obtain ⟨q15, h⟩ := h
      exact Wa_ireturn dX9_costOf_77 rfl ⟨_, rfl, q15, h⟩
    · have h := h.2.2.1 c2
      refine Wa_tabIn (tgt := 78) dX9_costOf_1 q1 (by omega) (by omega) (by rw [c2]; rfl) (by decide) ?_
      refine Wa_aload_n 0 dX9_costOf_78 rfl rfl ?_
      refine Wa_getI2 (v := (M 88 13)) cf_X9 lk_X9_157 k_88 (j := 13) rfl (by decide) rfl dX9_costOf_79 (fun r16 => ?_)
      exact Wa_ireturn dX9_costOf_82 rfl ⟨_, rfl, r16, h⟩
    · have h := h.2.2.2 c2
      refine Wa_tabIn (tgt := 83) dX9_costOf_1 q1 (by omega) (by omega) (by rw [c2]; rfl) (by decide) ?_
      refine Wa_aload_n 0 dX9_costOf_83 rfl rfl ?_
      refine Wa_getI2 (v := (M 88 12)) cf_X9 lk_X9_133 k_88 (j := 12) rfl (by decide) rfl dX9_costOf_84 (fun r17 => ?_)
      exact Wa_ireturn dX9_costOf_87 rfl ⟨_, rfl, r17, h⟩
theorem en_X9_costOf {g : AG} {d : Nat} {l1 : Int} {M : AM} {Q : Int → AM → Prop} (h : S_X9_costOf_0 g d l1 M Q) : MetI g mX9_costOf d [vR 88, vI l1] M Q := MetA.of (by decide) (Nat.le_of_ble_eq_true rfl) h
def S_X9_cost_0 (g : AG) (d : Nat) (l1 : Int) (M : AM) (Q : Int → AM → Prop) : Prop := Wa g mX9_cost d 0 [(0, vR 88), (1, vI l1)] [] M (QI Q)
set_option maxRecDepth 100000 in
theorem sg_X9_cost_0 {g : AG} {d : Nat} {l1 : Int} {M : AM} {Q : Int → AM → Prop} 
  (h : rg l1 ∧ (MetI g mX9_in d [vL l1, vL 0, vL 4] M (fun z3 M2 => rg z3 → ((¬ z3 = 0 → (((M2 88 9) = 0 → (Q (-103) M2)) ∧ (¬ (M2 88 9) = 0 → (MetI g mX9_costOf d [vR 88, vI l1] M2 (fun z9 M8 => rg z9 → (Q z9 M8)))))) ∧ (z3 = 0 → (Q (-102) M2)))))) : S_X9_cost_0 g (d + 1) l1 M Q := by
  show Wa _ _ _ _ _ _ _ _
  refine Wa_iload_n 1 dX9_cost_0 rfl rfl ?_
  obtain ⟨q1, h⟩ := h
  refine Wa_i2l dX9_cost_1 q1 ?_
  refine Wa_lconst (v := 0) dX9_cost_2 rfl ?_
  refine Wa_ldc2 (z := 4) dX9_cost_3 kc_X9_228 ?_
  refine Wa_callS [vL l1, vL 0, vL 4] _ lc_X9_73 cs_X9_in rfl rfl (Nat.le_refl _) (Nat.le_of_ble_eq_true rfl) dX9_cost_6 h ?_
  intro r M2 h
  obtain ⟨z3, rfl, r4, h⟩ := h
  have h := h r4
  refine Wa_if_ne (tgt := 15) dX9_cost_9 (by decide) r4 (fun c5 => ?_) (fun c5 => ?_)
  · have h := h.1 c5
    refine Wa_aload_n 0 dX9_cost_15 rfl rfl ?_
    refine Wa_getI2 (v := (M2 88 9)) cf_X9 lk_X9_106 k_88 (j := 9) rfl (by decide) rfl dX9_cost_16 (fun r6 => ?_)
    refine Wa_if_eq (tgt := 30) dX9_cost_19 (by decide) r6 (fun c7 => ?_) (fun c7 => ?_)
    · have h := h.1 c7
      refine Wa_bipush (z := (-103)) dX9_cost_30 (by decide) ?_
      exact Wa_ireturn dX9_cost_32 rfl ⟨_, rfl, ⟨by decide, by decide⟩, h⟩
    · have h := h.2 c7
      refine Wa_aload_n 0 dX9_cost_22 rfl rfl ?_
      refine Wa_iload_n 1 dX9_cost_23 rfl rfl ?_
      refine Wa_callV [vI l1] _ cf_X9 rfl k_88 lc_X9_258 cv_X9_costOf rfl rfl (Nat.le_refl _) (Nat.le_of_ble_eq_true rfl) dX9_cost_24 h ?_
      intro r M8 h
      obtain ⟨z9, rfl, r10, h⟩ := h
      have h := h r10
      refine Wa_goto (tgt := 32) dX9_cost_27 (by decide) ?_
      exact Wa_ireturn dX9_cost_32 rfl ⟨_, rfl, r10, h⟩
  · have h := h.2 c5
    refine Wa_bipush (z := (-102)) dX9_cost_12 (by decide) ?_
    exact Wa_ireturn dX9_cost_14 rfl ⟨_, rfl, ⟨by decide, by decide⟩, h⟩
theorem en_X9_cost {g : AG} {d : Nat} {l1 : Int} {M : AM} {Q : Int → AM → Prop} (h : S_X9_cost_0 g d l1 M Q) : MetI g mX9_cost d [vR 88, vI l1] M Q := MetA.of (by decide) (Nat.le_of_ble_eq_true rfl) h
def S_X9_bestOf_0 (g : AG) (d : Nat) (l1 : Int) (M : AM) (Q : Int → AM → Prop) : Prop := Wa g mX9_bestOf d 0 [(0, vR 88), (1, vI l1)] [] M (QI Q)
def S_X9_bestOf_16 (g : AG) (d : Nat) (l1 : Int) (l2 : Int) (l3 : Int) (l4 : Int) (l5 : Int) (M : AM) (Q : Int → AM → Prop) : Prop := Wa g mX9_bestOf d 16 [(0, vR 88), (1, vI l1), (2, vI l2), (3, vI l3), (4, vI l4), (5, vI l5)] [] M (QI Q)
set_option maxRecDepth 100000 in
theorem sg_X9_bestOf_0 {g : AG} {d : Nat} {l1 : Int} {M : AM} {Q : Int → AM → Prop} 
  (h : S_X9_bestOf_16 g (d + 1) l1 (-1) 99 (M 93 1) 0 M Q) : S_X9_bestOf_0 g (d + 1) l1 M Q := by
  show Wa _ _ _ _ _ _ _ _
  refine Wa_iconst (z := (-1)) dX9_bestOf_0 ?_
  refine Wa_istore_n (ls' := [(2, vI (-1)), (0, vR 88), (1, vI l1)]) dX9_bestOf_1 rfl (by decide) rfl ?_
  refine Wa_bipush (z := 99) dX9_bestOf_2 (by decide) ?_
  refine Wa_istore_n (ls' := [(3, vI 99), (2, vI (-1)), (0, vR 88), (1, vI l1)]) dX9_bestOf_4 rfl (by decide) rfl ?_
  refine Wa_aload_n 2 dX9_bestOf_5 rfl rfl ?_
  refine Wa_getR cf_X9 lk_X9_22 k_88 (j := 8) rfl (by decide) dX9_bestOf_6 ?_
  refine Wa_iconst (z := 1) dX9_bestOf_9 ?_
  refine Wa_iald2 (v := (M 93 1)) k_93 ⟨by decide, by decide⟩ rfl dX9_bestOf_10 (fun r1 => ?_)
  refine Wa_istore (ls' := [(4, vI (M 93 1)), (3, vI 99), (2, vI (-1)), (0, vR 88), (1, vI l1)]) dX9_bestOf_11 (by decide) rfl ?_
  refine Wa_iconst (z := 0) dX9_bestOf_13 ?_
  refine Wa_istore (ls' := [(5, vI 0), (4, vI (M 93 1)), (3, vI 99), (2, vI (-1)), (0, vR 88), (1, vI l1)]) dX9_bestOf_14 (by decide) rfl ?_
  refine Wa_sub [4, 5, 3, 2, 1, 0] rfl ?_
  exact h
set_option maxRecDepth 100000 in
theorem sg_X9_bestOf_16 {g : AG} {d : Nat} {l1 : Int} {l2 : Int} {l3 : Int} {l4 : Int} {l5 : Int} {M : AM} {Q : Int → AM → Prop} 
  (h : rg l5 ∧ (rg l4 ∧ ((l4 < l5 → (MetV g mX9_layKept d [vR 88] M (fun M4 => rg l2 ∧ (Q l2 M4)))) ∧ (¬ l4 < l5 → (rg l1 ∧ (MetV g mX9_insert d [vR 88, vI 1, vI l5, vI l1] M (fun M9 => MetV g mX9_layKept d [vR 88] M9 (fun M12 => MetI g mX9_costNow d [vR 88] M12 (fun z16 M15 => rg z16 → (rg l3 ∧ ((l3 ≤ z16 → (MetI g mX9_costNow d [vR 88] M15 (fun z21 M20 => rg z21 → ((l3 ≤ z21 → (MetV g mX9_remove d [vR 88, vI 1, vI l5] M20 (fun M24 => S_X9_bestOf_16 g (d + 1) l1 l2 l3 l4 (l5 + 1) M24 Q))) ∧ (¬ l3 ≤ z21 → (MetI g mX9_costNow d [vR 88] M20 (fun z28 M27 => rg z28 → (MetV g mX9_remove d [vR 88, vI 1, vI l5] M27 (fun M30 => S_X9_bestOf_16 g (d + 1) l1 l2 z28 l4 (l5 + 1) M30 Q))))))))) ∧ (¬ l3 ≤ z16 → (MetI g mX9_costNow d [vR 88] M15 (fun z34 M33 => rg z34 → ((l3 ≤ z34 → (MetV g mX9_remove d [vR 88, vI 1, vI l5] M33 (fun M37 => S_X9_bestOf_16 g (d + 1) l1 l5 l3 l4 (l5 + 1) M37 Q))) ∧ (¬ l3 ≤ z34 → (MetI g mX9_costNow d [vR 88] M33 (fun z41 M40 => rg z41 → (MetV g mX9_remove d [vR 88, vI 1, vI l5] M40 (fun M43 => S_X9_bestOf_16 g (d + 1) l1 l5 z41 l4 (l5 + 1) M43 Q)))))))))))))))))))) : S_X9_bestOf_16 g (d + 1) l1 l2 l3 l4 l5 M Q := by
  show Wa _ _ _ _ _ _ _ _
  refine Wa_iload 5 dX9_bestOf_16 rfl ?_
  refine Wa_iload 4 dX9_bestOf_18 rfl ?_
  obtain ⟨q1, h⟩ := h
  obtain ⟨q2, h⟩ := h
  refine Wa_icmp_gt (tgt := 80) dX9_bestOf_20 (by decide) q1 q2 (fun c3 => ?_) (fun c3 => ?_)
  · have h := h.1 c3
    refine Wa_aload_n 0 dX9_bestOf_80 rfl rfl ?_
    refine Wa_callV [] _ cf_X9 rfl k_88 lc_X9_209 cv_X9_layKept rfl rfl (Nat.le_refl _) (Nat.le_of_ble_eq_true rfl) dX9_bestOf_81 h ?_
    intro r M4 h
    obtain ⟨rfl, h⟩ := h
    refine Wa_iload_n 2 dX9_bestOf_84 rfl rfl ?_
    obtain ⟨q7, h⟩ := h
    exact Wa_ireturn dX9_bestOf_85 rfl ⟨_, rfl, q7, h⟩
  · have h := h.2 c3
    refine Wa_aload_n 0 dX9_bestOf_23 rfl rfl ?_
    refine Wa_iconst (z := 1) dX9_bestOf_24 ?_
    refine Wa_iload 5 dX9_bestOf_25 rfl ?_
    refine Wa_iload_n 1 dX9_bestOf_27 rfl rfl ?_
    obtain ⟨q8, h⟩ := h
    refine Wa_callV [vI 1, vI l5, vI l1] _ cf_X9 rfl k_88 lc_X9_246 cv_X9_insert rfl rfl (Nat.le_refl _) (Nat.le_of_ble_eq_true rfl) dX9_bestOf_28 h ?_
    intro r M9 h
    obtain ⟨rfl, h⟩ := h
    refine Wa_aload_n 0 dX9_bestOf_31 rfl rfl ?_
    refine Wa_callV [] _ cf_X9 rfl k_88 lc_X9_209 cv_X9_layKept rfl rfl (Nat.le_refl _) (Nat.le_of_ble_eq_true rfl) dX9_bestOf_32 h ?_
    intro r M12 h
    obtain ⟨rfl, h⟩ := h
    refine Wa_aload_n 0 dX9_bestOf_35 rfl rfl ?_
    refine Wa_callV [] _ cf_X9 rfl k_88 lc_X9_255 cv_X9_costNow rfl rfl (Nat.le_refl _) (Nat.le_of_ble_eq_true rfl) dX9_bestOf_36 h ?_
    intro r M15 h
    obtain ⟨z16, rfl, r17, h⟩ := h
    have h := h r17
    refine Wa_iload_n 3 dX9_bestOf_39 rfl rfl ?_
    obtain ⟨q18, h⟩ := h
    refine Wa_icmp_ge (tgt := 48) dX9_bestOf_40 (by decide) r17 q18 (fun c19 => ?_) (fun c19 => ?_)
    · have h := h.1 c19
      refine Wa_iload_n 2 dX9_bestOf_48 rfl rfl ?_
      refine Wa_istore_n (ls' := [(2, vI l2), (0, vR 88), (1, vI l1), (3, vI l3), (4, vI l4), (5, vI l5)]) dX9_bestOf_49 rfl (by decide) rfl ?_
      refine Wa_aload_n 1 dX9_bestOf_50 rfl rfl ?_
      refine Wa_callV [] _ cf_X9 rfl k_88 lc_X9_255 cv_X9_costNow rfl rfl (Nat.le_refl _) (Nat.le_of_ble_eq_true rfl) dX9_bestOf_51 h ?_
      intro r M20 h
      obtain ⟨z21, rfl, r22, h⟩ := h
      have h := h r22
      refine Wa_iload_n 3 dX9_bestOf_54 rfl rfl ?_
      refine Wa_icmp_ge (tgt := 65) dX9_bestOf_55 (by decide) r22 q18 (fun c23 => ?_) (fun c23 => ?_)
      · have h := h.1 c23
        refine Wa_iload_n 3 dX9_bestOf_65 rfl rfl ?_
        refine Wa_istore_n (ls' := [(3, vI l3), (2, vI l2), (0, vR 88), (1, vI l1), (4, vI l4), (5, vI l5)]) dX9_bestOf_66 rfl (by decide) rfl ?_
        refine Wa_aload_n 2 dX9_bestOf_67 rfl rfl ?_
        refine Wa_iconst (z := 1) dX9_bestOf_68 ?_
        refine Wa_iload 5 dX9_bestOf_69 rfl ?_
        refine Wa_callV [vI 1, vI l5] _ cf_X9 rfl k_88 lc_X9_249 cv_X9_remove rfl rfl (Nat.le_refl _) (Nat.le_of_ble_eq_true rfl) dX9_bestOf_71 h ?_
        intro r M24 h
        obtain ⟨rfl, h⟩ := h
        refine Wa_iinc (ls' := [(5, vI (l5 + 1)), (3, vI l3), (2, vI l2), (0, vR 88), (1, vI l1), (4, vI l4)]) 5 dX9_bestOf_74 rfl (by decide) rfl ?_
        refine Wa_goto (tgt := 16) dX9_bestOf_77 (by decide) ?_
        refine Wa_sub [3, 4, 2, 1, 5, 0] rfl ?_
        exact h
      · have h := h.2 c23
        refine Wa_aload_n 1 dX9_bestOf_58 rfl rfl ?_
        refine Wa_callV [] _ cf_X9 rfl k_88 lc_X9_255 cv_X9_costNow rfl rfl (Nat.le_refl _) (Nat.le_of_ble_eq_true rfl) dX9_bestOf_59 h ?_
        intro r M27 h
        obtain ⟨z28, rfl, r29, h⟩ := h
        have h := h r29
        refine Wa_goto (tgt := 66) dX9_bestOf_62 (by decide) ?_
        refine Wa_istore_n (ls' := [(3, vI z28), (2, vI l2), (0, vR 88), (1, vI l1), (4, vI l4), (5, vI l5)]) dX9_bestOf_66 rfl (by decide) rfl ?_
        refine Wa_aload_n 2 dX9_bestOf_67 rfl rfl ?_
        refine Wa_iconst (z := 1) dX9_bestOf_68 ?_
        refine Wa_iload 5 dX9_bestOf_69 rfl ?_
        refine Wa_callV [vI 1, vI l5] _ cf_X9 rfl k_88 lc_X9_249 cv_X9_remove rfl rfl (Nat.le_refl _) (Nat.le_of_ble_eq_true rfl) dX9_bestOf_71 h ?_
        intro r M30 h
        obtain ⟨rfl, h⟩ := h
        refine Wa_iinc (ls' := [(5, vI (l5 + 1)), (3, vI z28), (2, vI l2), (0, vR 88), (1, vI l1), (4, vI l4)]) 5 dX9_bestOf_74 rfl (by decide) rfl ?_
        refine Wa_goto (tgt := 16) dX9_bestOf_77 (by decide) ?_
        refine Wa_sub [3, 4, 2, 1, 5, 0] rfl ?_
        exact h
    · have h := h.2 c19
      refine Wa_iload 5 dX9_bestOf_43 rfl ?_
      refine Wa_goto (tgt := 49) dX9_bestOf_45 (by decide) ?_
      refine Wa_istore_n (ls' := [(2, vI l5), (0, vR 88), (1, vI l1), (3, vI l3), (4, vI l4), (5, vI l5)]) dX9_bestOf_49 rfl (by decide) rfl ?_
      refine Wa_aload_n 1 dX9_bestOf_50 rfl rfl ?_
      refine Wa_callV [] _ cf_X9 rfl k_88 lc_X9_255 cv_X9_costNow rfl rfl (Nat.le_refl _) (Nat.le_of_ble_eq_true rfl) dX9_bestOf_51 h ?_
      intro r M33 h
      obtain ⟨z34, rfl, r35, h⟩ := h
      have h := h r35
      refine Wa_iload_n 3 dX9_bestOf_54 rfl rfl ?_
      refine Wa_icmp_ge (tgt := 65) dX9_bestOf_55 (by decide) r35 q18 (fun c36 => ?_) (fun c36 => ?_)
      · have h := h.1 c36
        refine Wa_iload_n 3 dX9_bestOf_65 rfl rfl ?_
        refine Wa_istore_n (ls' := [(3, vI l3), (2, vI l5), (0, vR 88), (1, vI l1), (4, vI l4), (5, vI l5)]) dX9_bestOf_66 rfl (by decide) rfl ?_
        refine Wa_aload_n 2 dX9_bestOf_67 rfl rfl ?_
        refine Wa_iconst (z := 1) dX9_bestOf_68 ?_
        refine Wa_iload 5 dX9_bestOf_69 rfl ?_
        refine Wa_callV [vI 1, vI l5] _ cf_X9 rfl k_88 lc_X9_249 cv_X9_remove rfl rfl (Nat.le_refl _) (Nat.le_of_ble_eq_true rfl) dX9_bestOf_71 h ?_
        intro r M37 h
        obtain ⟨rfl, h⟩ := h
        refine Wa_iinc (ls' := [(5, vI (l5 + 1)), (3, vI l3), (2, vI l5), (0, vR 88), (1, vI l1), (4, vI l4)]) 5 dX9_bestOf_74 rfl (by decide) rfl ?_
        refine Wa_goto (tgt := 16) dX9_bestOf_77 (by decide) ?_
        refine Wa_sub [3, 4, 2, 1, 5, 0] rfl ?_
        exact h
      · have h := h.2 c36
        refine Wa_aload_n 1 dX9_bestOf_58 rfl rfl ?_
        refine Wa_callV [] _ cf_X9 rfl k_88 lc_X9_255 cv_X9_costNow rfl rfl (Nat.le_refl _) (Nat.le_of_ble_eq_true rfl) dX9_bestOf_59 h ?_
        intro r M40 h
        obtain ⟨z41, rfl, r42, h⟩ := h
        have h := h r42
        refine Wa_goto (tgt := 66) dX9_bestOf_62 (by decide) ?_
        refine Wa_istore_n (ls' := [(3, vI z41), (2, vI l5), (0, vR 88), (1, vI l1), (4, vI l4), (5, vI l5)]) dX9_bestOf_66 rfl (by decide) rfl ?_
        refine Wa_aload_n 2 dX9_bestOf_67 rfl rfl ?_
        refine Wa_iconst (z := 1) dX9_bestOf_68 ?_
        refine Wa_iload 5 dX9_bestOf_69 rfl ?_
        refine Wa_callV [vI 1, vI l5] _ cf_X9 rfl k_88 lc_X9_249 cv_X9_remove rfl rfl (Nat.le_refl _) (Nat.le_of_ble_eq_true rfl) dX9_bestOf_71 h ?_
        intro r M43 h
        obtain ⟨rfl, h⟩ := h
        refine Wa_iinc (ls' := [(5, vI (l5 + 1)), (3, vI z41), (2, vI l5), (0, vR 88), (1, vI l1), (4, vI l4)]) 5 dX9_bestOf_74 rfl (by decide) rfl ?_
        refine Wa_goto (tgt := 16) dX9_bestOf_77 (by decide) ?_
        refine Wa_sub [3, 4, 2, 1, 5, 0] rfl ?_
        exact h
theorem en_X9_bestOf {g : AG} {d : Nat} {l1 : Int} {M : AM} {Q : Int → AM → Prop} (h : S_X9_bestOf_0 g d l1 M Q) : MetI g mX9_bestOf d [vR 88, vI l1] M Q := MetA.of (by decide) (Nat.le_of_ble_eq_true rfl) h
def S_X9_best_0 (g : AG) (d : Nat) (l1 : Int) (M : AM) (Q : Int → AM → Prop) : Prop := Wa g mX9_best d 0 [(0, vR 88), (1, vI l1)] [] M (QI Q)
set_option maxRecDepth 100000 in
theorem sg_X9_best_0 {g : AG} {d : Nat} {l1 : Int} {M : AM} {Q : Int → AM → Prop} 
  (h : rg l1 ∧ (MetI g mX9_isLetters d [vI l1] M (fun z3 M2 => rg z3 → ((¬ z3 = 0 → ((¬ (M2 88 9) = 0 → ((¬ (M2 93 1) = 8 → (MetI g mX9_bestOf d [vR 88, vI l1] M2 (fun z11 M10 => rg z11 → (Q z11 M10)))) ∧ ((M2 93 1) = 8 → (Q (-104) M2)))) ∧ ((M2 88 9) = 0 → (Q (-103) M2)))) ∧ (z3 = 0 → (Q (-102) M2)))))) : S_X9_best_0 g (d + 1) l1 M Q := by
  show Wa _ _ _ _ _ _ _ _
  refine Wa_iload_n 1 dX9_best_0 rfl rfl ?_
  obtain ⟨q1, h⟩ := h
  refine Wa_callS [vI l1] _ lc_X9_243 cs_X9_isLetters rfl rfl (Nat.le_refl _) (Nat.le_of_ble_eq_true rfl) dX9_best_1 h ?_
  intro r M2 h
  obtain ⟨z3, rfl, r4, h⟩ := h
  have h := h r4
  refine Wa_if_ne (tgt := 10) dX9_best_4 (by decide) r4 (fun c5 => ?_) (fun c5 => ?_)
  · have h := h.1 c5
    refine Wa_aload_n 0 dX9_best_10 rfl rfl ?_
    refine Wa_getI2 (v := (M2 88 9)) cf_X9 lk_X9_106 k_88 (j := 9) rfl (by decide) rfl dX9_best_11 (fun r6 => ?_)
    refine Wa_if_ne (tgt := 20) dX9_best_14 (by decide) r6 (fun c7 => ?_) (fun c7 => ?_)
    · have h := h.1 c7
      refine Wa_aload_n 0 dX9_best_20 rfl rfl ?_
      refine Wa_getR cf_X9 lk_X9_22 k_88 (j := 8) rfl (by decide) dX9_best_21 ?_
      refine Wa_iconst (z := 1) dX9_best_24 ?_
      refine Wa_iald2 (v := (M2 93 1)) k_93 ⟨by decide, by decide⟩ rfl dX9_best_25 (fun r8 => ?_)
      refine Wa_bipush (z := 8) dX9_best_26 (by decide) ?_
      refine Wa_icmp_ne (tgt := 36) dX9_best_28 (by decide) r8 ⟨by decide, by decide⟩ (fun c9 => ?_) (fun c9 => ?_)
      · have h := h.1 c9
        refine Wa_aload_n 0 dX9_best_36 rfl rfl ?_
        refine Wa_iload_n 1 dX9_best_37 rfl rfl ?_
        refine Wa_callV [vI l1] _ cf_X9 rfl k_88 lc_X9_261 cv_X9_bestOf rfl rfl (Nat.le_refl _) (Nat.le_of_ble_eq_true rfl) dX9_best_38 h ?_
        intro r M10 h
        obtain ⟨z11, rfl, r12, h⟩ := h
        have h := h r12
        exact Wa_ireturn dX9_best_41 rfl ⟨_, rfl, r12, h⟩
      · have h := h.2 c9
        refine Wa_bipush (z := (-104)) dX9_best_31 (by decide) ?_
        refine Wa_goto (tgt := 41) dX9_best_33 (by decide) ?_
        exact Wa_ireturn dX9_best_41 rfl ⟨_, rfl, ⟨by decide, by decide⟩, h⟩
    · have h := h.2 c7
      refine Wa_bipush (z := (-103)) dX9_best_17 (by decide) ?_
      exact Wa_ireturn dX9_best_19 rfl ⟨_, rfl, ⟨by decide, by decide⟩, h⟩
  · have h := h.2 c5
    refine Wa_bipush (z := (-102)) dX9_best_7 (by decide) ?_
    exact Wa_ireturn dX9_best_9 rfl ⟨_, rfl, ⟨by decide, by decide⟩, h⟩
theorem en_X9_best {g : AG} {d : Nat} {l1 : Int} {M : AM} {Q : Int → AM → Prop} (h : S_X9_best_0 g d l1 M Q) : MetI g mX9_best d [vR 88, vI l1] M Q := MetA.of (by decide) (Nat.le_of_ble_eq_true rfl) h
def S_X9_allOf_0 (g : AG) (d : Nat) (M : AM) (Q : Int → AM → Prop) : Prop := Wa g mX9_allOf d 0 [(0, vR 88)] [] M (QL Q)
set_option maxRecDepth 100000 in
theorem sg_X9_allOf_0 {g : AG} {d : Nat} {M : AM} {Q : Int → AM → Prop} 
  (h : rg ((M 93 0) + (M 93 1)) ∧ ((¬ ((M 93 0) + (M 93 1)) = 0 → (MetI g mX9_keptMany d [vR 88] M (fun z6 M5 => rg z6 → (MetL g mX9_bitsOf d [vL (2 * z6), vL ((M 93 0) + (M 93 1)), vI 52, vI 1023] M5 (fun z9 M8 => Q z9 M8))))) ∧ (((M 93 0) + (M 93 1)) = 0 → (MetL g mX9_bitsOf d [vL 1, vL 1, vI 52, vI 1023] M (fun z12 M11 => Q z12 M11))))) : S_X9_allOf_0 g (d + 1) M Q := by
  show Wa _ _ _ _ _ _ _ _
  refine Wa_aload_n 0 dX9_allOf_0 rfl rfl ?_
  refine Wa_getR cf_X9 lk_X9_22 k_88 (j := 8) rfl (by decide) dX9_allOf_1 ?_
  refine Wa_iconst (z := 0) dX9_allOf_4 ?_
  refine Wa_iald2 (v := (M 93 0)) k_93 ⟨by decide, by decide⟩ rfl dX9_allOf_5 (fun r1 => ?_)
  refine Wa_aload_n 0 dX9_allOf_6 rfl rfl ?_
  refine Wa_getR cf_X9 lk_X9_22 k_88 (j := 8) rfl (by decide) dX9_allOf_7 ?_
  refine Wa_iconst (z := 1) dX9_allOf_10 ?_
  refine Wa_iald2 (v := (M 93 1)) k_93 ⟨by decide, by decide⟩ rfl dX9_allOf_11 (fun r2 => ?_)
  refine Wa_iadd dX9_allOf_12 ?_
  refine Wa_istore_n (ls' := [(1, vI ((M 93 0) + (M 93 1))), (0, vR 88)]) dX9_allOf_13 rfl (by decide) rfl ?_
  refine Wa_iload_n 0 dX9_allOf_14 rfl rfl ?_
  obtain ⟨q3, h⟩ := h
  refine Wa_if_ne (tgt := 31) dX9_allOf_15 (by decide) q3 (fun c4 => ?_) (fun c4 => ?_)
  · have h := h.1 c4
    refine Wa_ldc2 (z := 2) dX9_allOf_31 kc_X9_175 ?_
    refine Wa_aload_n 1 dX9_allOf_34 rfl rfl ?_
    refine Wa_callV [] _ cf_X9 rfl k_88 lc_X9_252 cv_X9_keptMany rfl rfl (Nat.le_refl _) (Nat.le_of_ble_eq_true rfl) dX9_allOf_35 h ?_
    intro r M5 h
    obtain ⟨z6, rfl, r7, h⟩ := h
    have h := h r7
    refine Wa_i2l dX9_allOf_38 r7 ?_
    refine Wa_lmul dX9_allOf_39 ?_
    refine Wa_iload_n 0 dX9_allOf_40 rfl rfl ?_
    refine Wa_i2l dX9_allOf_41 q3 ?_
    refine Wa_bipush (z := 52) dX9_allOf_42 (by decide) ?_
    refine Wa_sipush (z := 1023) dX9_allOf_44 (by decide) ?_
    refine Wa_callS [vL (2 * z6), vL ((M 93 0) + (M 93 1)), vI 52, vI 1023] _ lc_X9_187 cs_X9_bitsOf rfl rfl (Nat.le_refl _) (Nat.le_of_ble_eq_true rfl) dX9_allOf_47 h ?_
    intro r M8 h
    obtain ⟨z9, rfl, h⟩ := h
    exact Wa_lreturn dX9_allOf_50 rfl ⟨_, rfl, h⟩
  · have h := h.2 c4
    refine Wa_lconst (v := 1) dX9_allOf_18 rfl ?_
    refine Wa_lconst (v := 1) dX9_allOf_19 rfl ?_
    refine Wa_bipush (z := 52) dX9_allOf_20 (by decide) ?_
    refine Wa_sipush (z := 1023) dX9_allOf_22 (by decide) ?_
    refine Wa_callS [vL 1, vL 1, vI 52, vI 1023] _ lc_X9_187 cs_X9_bitsOf rfl rfl (Nat.le_refl _) (Nat.le_of_ble_eq_true rfl) dX9_allOf_25 h ?_
    intro r M11 h
    obtain ⟨z12, rfl, h⟩ := h
    refine Wa_goto (tgt := 50) dX9_allOf_28 (by decide) ?_
    exact Wa_lreturn dX9_allOf_50 rfl ⟨_, rfl, h⟩
theorem en_X9_allOf {g : AG} {d : Nat} {M : AM} {Q : Int → AM → Prop} (h : S_X9_allOf_0 g d M Q) : MetL g mX9_allOf d [vR 88] M Q := MetA.of (by decide) (Nat.le_of_ble_eq_true rfl) h
def S_X9_all_0 (g : AG) (d : Nat) (M : AM) (Q : Int → AM → Prop) : Prop := Wa g mX9_all d 0 [(0, vR 88)] [] M (QL Q)
set_option maxRecDepth 100000 in
theorem sg_X9_all_0 {g : AG} {d : Nat} {M : AM} {Q : Int → AM → Prop} 
  (h : ((M 88 9) = 0 → (Q (-103) M)) ∧ (¬ (M 88 9) = 0 → (MetL g mX9_allOf d [vR 88] M (fun z4 M3 => Q z4 M3)))) : S_X9_all_0 g (d + 1) M Q := by
  show Wa _ _ _ _ _ _ _ _
  refine Wa_aload_n 0 dX9_all_0 rfl rfl ?_
  refine Wa_getI2 (v := (M 88 9)) cf_X9 lk_X9_106 k_88 (j := 9) rfl (by decide) rfl dX9_all_1 (fun r1 => ?_)
  refine Wa_if_eq (tgt := 14) dX9_all_4 (by decide) r1 (fun c2 => ?_) (fun c2 => ?_)
  · have h := h.1 c2
    refine Wa_ldc2 (z := (-103)) dX9_all_14 kc_X9_268 ?_
    exact Wa_lreturn dX9_all_17 rfl ⟨_, rfl, h⟩
  · have h := h.2 c2
    refine Wa_aload_n 0 dX9_all_7 rfl rfl ?_
    refine Wa_callV [] _ cf_X9 rfl k_88 lc_X9_264 cv_X9_allOf rfl rfl (Nat.le_refl _) (Nat.le_of_ble_eq_true rfl) dX9_all_8 h ?_
    intro r M3 h
    obtain ⟨z4, rfl, h⟩ := h
    refine Wa_goto (tgt := 17) dX9_all_11 (by decide) ?_
    exact Wa_lreturn dX9_all_17 rfl ⟨_, rfl, h⟩
theorem en_X9_all {g : AG} {d : Nat} {M : AM} {Q : Int → AM → Prop} (h : S_X9_all_0 g d M Q) : MetL g mX9_all d [vR 88] M Q := MetA.of (by decide) (Nat.le_of_ble_eq_true rfl) h
def S_X9_draw_0 (g : AG) (d : Nat) (l1 : Int) (M : AM) (Q : Int → AM → Prop) : Prop := Wa g mX9_draw d 0 [(0, vR 88), (1, vI l1)] [] M (QI Q)
set_option maxRecDepth 100000 in
theorem sg_X9_draw_0 {g : AG} {d : Nat} {l1 : Int} {M : AM} {Q : Int → AM → Prop} 
  (h : (¬ Int32.ofInt l1 = 0) ∧ (Q (iRem (iDiv (l2I (lAnd ((1103515245 * (M 88 26)) + 12345) 2147483647)) 65536) l1) (mU M 88 26 (l2I (lAnd ((1103515245 * (M 88 26)) + 12345) 2147483647))))) : S_X9_draw_0 g (d + 1) l1 M Q := by
  show Wa _ _ _ _ _ _ _ _
  refine Wa_aload_n 0 dX9_draw_0 rfl rfl ?_
  refine Wa_ldc2 (z := 1103515245) dX9_draw_1 kc_X9_270 ?_
  refine Wa_aload_n 0 dX9_draw_4 rfl rfl ?_
  refine Wa_getI2 (v := (M 88 26)) cf_X9 lk_X9_272 k_88 (j := 26) rfl (by decide) rfl dX9_draw_5 (fun r1 => ?_)
  refine Wa_i2l dX9_draw_8 r1 ?_
  refine Wa_lmul dX9_draw_9 ?_
  refine Wa_ldc2 (z := 12345) dX9_draw_10 kc_X9_275 ?_
  refine Wa_ladd dX9_draw_13 ?_
  refine Wa_ldc2 (z := 2147483647) dX9_draw_14 kc_X9_277 ?_
  refine Wa_land dX9_draw_17 ?_
  refine Wa_l2i dX9_draw_18 ?_
  refine Wa_putI cf_X9 lk_X9_272 k_88 (j := 26) rfl (by decide) rfl rfl (rg_toInt _) dX9_draw_19 ?_
  refine Wa_aload_n 0 dX9_draw_22 rfl rfl ?_
  refine Wa_getI2 (v := (l2I (lAnd ((1103515245 * (M 88 26)) + 12345) 2147483647))) cf_X9 lk_X9_272 k_88 (j := 26) rfl (by decide) mU_at dX9_draw_23 (fun r2 => ?_)
  refine Wa_ldcw (z := 65536) dX9_draw_26 kc_X9_279 ?_
  refine Wa_idiv dX9_draw_29 (by decide) ?_
  refine Wa_iload_n 1 dX9_draw_30 rfl rfl ?_
  obtain ⟨n3, h⟩ := h
  refine Wa_irem dX9_draw_31 n3 ?_
  exact Wa_ireturn dX9_draw_32 rfl ⟨_, rfl, (rg_toInt _), h⟩
theorem en_X9_draw {g : AG} {d : Nat} {l1 : Int} {M : AM} {Q : Int → AM → Prop} (h : S_X9_draw_0 g d l1 M Q) : MetI g mX9_draw d [vR 88, vI l1] M Q := MetA.of (by decide) (Nat.le_of_ble_eq_true rfl) h
