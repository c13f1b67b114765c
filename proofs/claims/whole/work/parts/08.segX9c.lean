def S_X9_drawn_0 (g : AG) (d : Nat) (l1 : Int) (l2 : Int) (l3 : Int) (M : AM) (Q : Int → AM → Prop) : Prop := Wa g mX9_drawn d 0 [(0, vR 88), (1, vI l1), (2, vI l2), (3, vI l3)] [] M (QI Q)
def S_X9_drawn_67 (g : AG) (d : Nat) (l1 : Int) (l3 : Int) (l4 : Int) (l5 : Int) (l6 : Int) (M : AM) (Q : Int → AM → Prop) : Prop := Wa g mX9_drawn d 67 [(0, vR 88), (1, vI l1), (3, vI l3), (4, vI l4), (5, vI l5), (6, vI l6)] [] M (QI Q)
def S_X9_drawn_76 (g : AG) (d : Nat) (l1 : Int) (l3 : Int) (l4 : Int) (l5 : Int) (l6 : Int) (l7 : Int) (M : AM) (Q : Int → AM → Prop) : Prop := Wa g mX9_drawn d 76 [(0, vR 88), (1, vI l1), (3, vI l3), (4, vI l4), (5, vI l5), (6, vI l6), (7, vI l7)] [] M (QI Q)
set_option maxRecDepth 100000 in
theorem sg_X9_drawn_0 {g : AG} {d : Nat} {l1 : Int} {l2 : Int} {l3 : Int} {M : AM} {Q : Int → AM → Prop} 
  (h : rg l1 ∧ (MetI g mX9_in d [vL l1, vL 1, vL 30] M (fun z3 M2 => rg z3 → ((z3 = 0 → (Q (-102) M2)) ∧ (¬ z3 = 0 → (rg l2 ∧ ((l2 < 0 → (Q (-102) M2)) ∧ (¬ l2 < 0 → (rg l3 ∧ (MetI g mX9_in d [vL l3, vL 0, vL 2] M2 (fun z10 M9 => rg z10 → ((¬ z10 = 0 → (MetV g mX9_copy d [vR 92, vR 104] M9 (fun M13 => MetV g mX9_copy d [vR 93, vR 105] M13 (fun M16 => S_X9_drawn_67 g (d + 1) l1 l3 0 0 0 (mU M16 88 26 l2) Q)))) ∧ (z10 = 0 → (Q (-102) M9)))))))))))))) : S_X9_drawn_0 g (d + 1) l1 l2 l3 M Q := by
  show Wa _ _ _ _ _ _ _ _
  refine Wa_iload_n 1 dX9_drawn_0 rfl rfl ?_
  obtain ⟨q1, h⟩ := h
  refine Wa_i2l dX9_drawn_1 q1 ?_
  refine Wa_lconst (v := 1) dX9_drawn_2 rfl ?_
  refine Wa_ldc2 (z := 30) dX9_drawn_3 kc_X9_280 ?_
  refine Wa_callS [vL l1, vL 1, vL 30] _ lc_X9_73 cs_X9_in rfl rfl (Nat.le_refl _) (Nat.le_of_ble_eq_true rfl) dX9_drawn_6 h ?_
  intro r M2 h
  obtain ⟨z3, rfl, r4, h⟩ := h
  have h := h r4
  refine Wa_if_eq (tgt := 28) dX9_drawn_9 (by decide) r4 (fun c5 => ?_) (fun c5 => ?_)
  · have h := h.1 c5
    refine Wa_bipush (z := (-102)) dX9_drawn_28 (by decide) ?_
    exact Wa_ireturn dX9_drawn_30 rfl ⟨_, rfl, ⟨by decide, by decide⟩, h⟩
  · have h := h.2 c5
    refine Wa_iload_n 2 dX9_drawn_12 rfl rfl ?_
    obtain ⟨q6, h⟩ := h
    refine Wa_if_lt (tgt := 28) dX9_drawn_13 (by decide) q6 (fun c7 => ?_) (fun c7 => ?_)
    · have h := h.1 c7
      refine Wa_bipush (z := (-102)) dX9_drawn_28 (by decide) ?_
      exact Wa_ireturn dX9_drawn_30 rfl ⟨_, rfl, ⟨by decide, by decide⟩, h⟩
    · have h := h.2 c7
      refine Wa_iload_n 3 dX9_drawn_16 rfl rfl ?_
      obtain ⟨q8, h⟩ := h
      refine Wa_i2l dX9_drawn_17 q8 ?_
      refine Wa_lconst (v := 0) dX9_drawn_18 rfl ?_
      refine Wa_ldc2 (z := 2) dX9_drawn_19 kc_X9_175 ?_
      refine Wa_callS [vL l3, vL 0, vL 2] _ lc_X9_73 cs_X9_in rfl rfl (Nat.le_refl _) (Nat.le_of_ble_eq_true rfl) dX9_drawn_22 h ?_
      intro r M9 h
      obtain ⟨z10, rfl, r11, h⟩ := h
      have h := h r11
      refine Wa_if_ne (tgt := 31) dX9_drawn_25 (by decide) r11 (fun c12 => ?_) (fun c12 => ?_)
      · have h := h.1 c12
        refine Wa_aload_n 0 dX9_drawn_31 rfl rfl ?_
        refine Wa_getR cf_X9 lk_X9_19 k_88 (j := 7) rfl (by decide) dX9_drawn_32 ?_
        refine Wa_aload_n 0 dX9_drawn_35 rfl rfl ?_
        refine Wa_getR cf_X9 lk_X9_55 k_88 (j := 27) rfl (by decide) dX9_drawn_36 ?_
        refine Wa_callS [vR 92, vR 104] _ lc_X9_102 cs_X9_copy rfl rfl (Nat.le_refl _) (Nat.le_of_ble_eq_true rfl) dX9_drawn_39 h ?_
        intro r M13 h
        obtain ⟨rfl, h⟩ := h
        refine Wa_aload_n 0 dX9_drawn_42 rfl rfl ?_
        refine Wa_getR cf_X9 lk_X9_22 k_88 (j := 8) rfl (by decide) dX9_drawn_43 ?_
        refine Wa_aload_n 0 dX9_drawn_46 rfl rfl ?_
        refine Wa_getR cf_X9 lk_X9_58 k_88 (j := 28) rfl (by decide) dX9_drawn_47 ?_
        refine Wa_callS [vR 93, vR 105] _ lc_X9_102 cs_X9_copy rfl rfl (Nat.le_refl _) (Nat.le_of_ble_eq_true rfl) dX9_drawn_50 h ?_
        intro r M16 h
        obtain ⟨rfl, h⟩ := h
        refine Wa_aload_n 0 dX9_drawn_53 rfl rfl ?_
        refine Wa_iload_n 2 dX9_drawn_54 rfl rfl ?_
        refine Wa_putI cf_X9 lk_X9_272 k_88 (j := 26) rfl (by decide) rfl rfl q6 dX9_drawn_55 ?_
        refine Wa_iconst (z := 0) dX9_drawn_58 ?_
        refine Wa_istore (ls' := [(4, vI 0), (0, vR 88), (1, vI l1), (2, vI l2), (3, vI l3)]) dX9_drawn_59 (by decide) rfl ?_
        refine Wa_iconst (z := 0) dX9_drawn_61 ?_
        refine Wa_istore (ls' := [(5, vI 0), (4, vI 0), (0, vR 88), (1, vI l1), (2, vI l2), (3, vI l3)]) dX9_drawn_62 (by decide) rfl ?_
        refine Wa_iconst (z := 0) dX9_drawn_64 ?_
        refine Wa_istore (ls' := [(6, vI 0), (5, vI 0), (4, vI 0), (0, vR 88), (1, vI l1), (2, vI l2), (3, vI l3)]) dX9_drawn_65 (by decide) rfl ?_
        refine Wa_sub [3, 4, 6, 2, 1, 0] rfl ?_
        exact h
      · have h := h.2 c12
        refine Wa_bipush (z := (-102)) dX9_drawn_28 (by decide) ?_
        exact Wa_ireturn dX9_drawn_30 rfl ⟨_, rfl, ⟨by decide, by decide⟩, h⟩
set_option maxRecDepth 100000 in
theorem sg_X9_drawn_67 {g : AG} {d : Nat} {l1 : Int} {l3 : Int} {l4 : Int} {l5 : Int} {l6 : Int} {M : AM} {Q : Int → AM → Prop} 
  (h : rg l6 ∧ (rg l1 ∧ ((l1 ≤ l6 → (MetV g mX9_copy d [vR 104, vR 92] M (fun M4 => MetV g mX9_copy d [vR 105, vR 93] M4 (fun M7 => MetV g mX9_layKept d [vR 88] M7 (fun M10 => rg l3 ∧ ((¬ l3 = 0 → ((¬ l3 = 1 → (Q (M10 88 26) M10)) ∧ (l3 = 1 → (rg l5 ∧ (Q l5 M10))))) ∧ (l3 = 0 → (rg l4 ∧ (Q l4 M10))))))))) ∧ (¬ l1 ≤ l6 → (S_X9_drawn_76 g (d + 1) l1 l3 l4 l5 l6 0 M Q))))) : S_X9_drawn_67 g (d + 1) l1 l3 l4 l5 l6 M Q := by
  show Wa _ _ _ _ _ _ _ _
  refine Wa_iload 5 dX9_drawn_67 rfl ?_
  refine Wa_iload_n 1 dX9_drawn_69 rfl rfl ?_
  obtain ⟨q1, h⟩ := h
  obtain ⟨q2, h⟩ := h
  refine Wa_icmp_ge (tgt := 156) dX9_drawn_70 (by decide) q1 q2 (fun c3 => ?_) (fun c3 => ?_)
  · have h := h.1 c3
    refine Wa_aload_n 0 dX9_drawn_156 rfl rfl ?_
    refine Wa_getR cf_X9 lk_X9_55 k_88 (j := 27) rfl (by decide) dX9_drawn_157 ?_
    refine Wa_aload_n 0 dX9_drawn_160 rfl rfl ?_
    refine Wa_getR cf_X9 lk_X9_19 k_88 (j := 7) rfl (by decide) dX9_drawn_161 ?_
    refine Wa_callS [vR 104, vR 92] _ lc_X9_102 cs_X9_copy rfl rfl (Nat.le_refl _) (Nat.le_of_ble_eq_true rfl) dX9_drawn_164 h ?_
    intro r M4 h
    obtain ⟨rfl, h⟩ := h
    refine Wa_aload_n 0 dX9_drawn_167 rfl rfl ?_
    refine Wa_getR cf_X9 lk_X9_58 k_88 (j := 28) rfl (by decide) dX9_drawn_168 ?_
    refine Wa_aload_n 0 dX9_drawn_171 rfl rfl ?_
    refine Wa_getR cf_X9 lk_X9_22 k_88 (j := 8) rfl (by decide) dX9_drawn_172 ?_
    refine Wa_callS [vR 105, vR 93] _ lc_X9_102 cs_X9_copy rfl rfl (Nat.le_refl _) (Nat.le_of_ble_eq_true rfl) dX9_drawn_175 h ?_
    intro r M7 h
    obtain ⟨rfl, h⟩ := h
    refine Wa_aload_n 0 dX9_drawn_178 rfl rfl ?_
    refine Wa_callV [] _ cf_X9 rfl k_88 lc_X9_209 cv_X9_layKept rfl rfl (Nat.le_refl _) (Nat.le_of_ble_eq_true rfl) dX9_drawn_179 h ?_
    intro r M10 h
    obtain ⟨rfl, h⟩ := h
    refine Wa_iload_n 2 dX9_drawn_182 rfl rfl ?_
    obtain ⟨q13, h⟩ := h
    refine Wa_if_ne (tgt := 191) dX9_drawn_183 (by decide) q13 (fun c14 => ?_) (fun c14 => ?_)
    · have h := h.1 c14
      refine Wa_iload_n 2 dX9_drawn_191 rfl rfl ?_
      refine Wa_iconst (z := 1) dX9_drawn_192 ?_
      refine Wa_icmp_ne (tgt := 201) dX9_drawn_193 (by decide) q13 ⟨by decide, by decide⟩ (fun c15 => ?_) (fun c15 => ?_)
      · have h := h.1 c15
        refine Wa_aload_n 0 dX9_drawn_201 rfl rfl ?_
        refine Wa_getI2 (v := (M10 88 26)) cf_X9 lk_X9_272 k_88 (j := 26) rfl (by decide) rfl dX9_drawn_202 (fun r16 => ?_)
        exact Wa_ireturn dX9_drawn_205 rfl ⟨_, rfl, r16, h⟩
      · have h := h.2 c15
        refine Wa_iload 4 dX9_drawn_196 rfl ?_
        refine Wa_goto (tgt := 205) dX9_drawn_198 (by decide) ?_
        obtain ⟨q17, h⟩ := h
        exact Wa_ireturn dX9_drawn_205 rfl ⟨_, rfl, q17, h⟩
    · have h := h.2 c14
      refine Wa_iload 3 dX9_drawn_186 rfl ?_
      refine Wa_goto (tgt := 205) dX9_drawn_188 (by decide) ?_
      obtain ⟨q18, h⟩ := h
      exact Wa_ireturn dX9_drawn_205 rfl ⟨_, rfl, q18, h⟩
  · have h := h.2 c3
    refine Wa_iconst (z := 0) dX9_drawn_73 ?_
    refine Wa_istore (ls' := [(7, vI 0), (0, vR 88), (1, vI l1), (3, vI l3), (4, vI l4), (5, vI l5), (6, vI l6)]) dX9_drawn_74 (by decide) rfl ?_
    refine Wa_sub [1, 2, 3, 4, 5, 6, 0] rfl ?_
    exact h
set_option maxRecDepth 100000 in
theorem sg_X9_drawn_76 {g : AG} {d : Nat} {l1 : Int} {l3 : Int} {l4 : Int} {l5 : Int} {l6 : Int} {l7 : Int} {M : AM} {Q : Int → AM → Prop} 
  (h : rg l7 ∧ ((8 ≤ l7 → (MetV g mX9_layKept d [vR 88] (mU (mU M 93 0 4) 93 1 4) (fun M3 => MetI g mX9_costNow d [vR 88] M3 (fun z7 M6 => rg z7 → (S_X9_drawn_67 g (d + 1) l1 l3 (l4 + z7) (l5 + (M6 88 13)) (l6 + 1) M6 Q))))) ∧ (¬ 8 ≤ l7 → (MetI g mX9_draw d [vR 88, vI 5] M (fun z11 M10 => rg z11 → ((0 ≤ ((16 * (iDiv l7 4)) + (iRem l7 4)) ∧ ((16 * (iDiv l7 4)) + (iRem l7 4)) < 32) ∧ (rg (97 + z11) ∧ (S_X9_drawn_76 g (d + 1) l1 l3 l4 l5 l6 (l7 + 1) (mU M10 92 (((16 * (iDiv l7 4)) + (iRem l7 4))).toNat (97 + z11)) Q)))))))) : S_X9_drawn_76 g (d + 1) l1 l3 l4 l5 l6 l7 M Q := by
  show Wa _ _ _ _ _ _ _ _
  refine Wa_iload 6 dX9_drawn_76 rfl ?_
  refine Wa_bipush (z := 8) dX9_drawn_78 (by decide) ?_
  obtain ⟨q1, h⟩ := h
  refine Wa_icmp_ge (tgt := 114) dX9_drawn_80 (by decide) q1 ⟨by decide, by decide⟩ (fun c2 => ?_) (fun c2 => ?_)
  · have h := h.1 c2
    refine Wa_aload_n 0 dX9_drawn_114 rfl rfl ?_
    refine Wa_getR cf_X9 lk_X9_22 k_88 (j := 8) rfl (by decide) dX9_drawn_115 ?_
    refine Wa_iconst (z := 0) dX9_drawn_118 ?_
    refine Wa_iconst (z := 4) dX9_drawn_119 ?_
    refine Wa_iast k_93 ⟨by decide, by decide⟩ ⟨by decide, by decide⟩ dX9_drawn_120 ?_
    refine Wa_aload_n 0 dX9_drawn_121 rfl rfl ?_
    refine Wa_getR cf_X9 lk_X9_22 k_88 (j := 8) rfl (by decide) dX9_drawn_122 ?_
    refine Wa_iconst (z := 1) dX9_drawn_125 ?_
    refine Wa_iconst (z := 4) dX9_drawn_126 ?_
    refine Wa_iast k_93 ⟨by decide, by decide⟩ ⟨by decide, by decide⟩ dX9_drawn_127 ?_
    refine Wa_aload_n 0 dX9_drawn_128 rfl rfl ?_
    refine Wa_callV [] _ cf_X9 rfl k_88 lc_X9_209 cv_X9_layKept rfl rfl (Nat.le_refl _) (Nat.le_of_ble_eq_true rfl) dX9_drawn_129 h ?_
    intro r M3 h
    obtain ⟨rfl, h⟩ := h
    refine Wa_iload 3 dX9_drawn_132 rfl ?_
    refine Wa_aload_n 0 dX9_drawn_134 rfl rfl ?_
    refine Wa_callV [] _ cf_X9 rfl k_88 lc_X9_255 cv_X9_costNow rfl rfl (Nat.le_refl _) (Nat.le_of_ble_eq_true rfl) dX9_drawn_135 h ?_
    intro r M6 h
    obtain ⟨z7, rfl, r8, h⟩ := h
    have h := h r8
    refine Wa_iadd dX9_drawn_138 ?_
    refine Wa_istore (ls' := [(4, vI (l4 + z7)), (0, vR 88), (1, vI l1), (3, vI l3), (5, vI l5), (6, vI l6), (7, vI l7)]) dX9_drawn_139 (by decide) rfl ?_
    refine Wa_iload 4 dX9_drawn_141 rfl ?_
    refine Wa_aload_n 1 dX9_drawn_143 rfl rfl ?_
    refine Wa_getI2 (v := (M6 88 13)) cf_X9 lk_X9_157 k_88 (j := 13) rfl (by decide) rfl dX9_drawn_144 (fun r9 => ?_)
    refine Wa_iadd dX9_drawn_147 ?_
    refine Wa_istore (ls' := [(5, vI (l5 + (M6 88 13))), (4, vI (l4 + z7)), (0, vR 88), (1, vI l1), (3, vI l3), (6, vI l6), (7, vI l7)]) dX9_drawn_148 (by decide) rfl ?_
    refine Wa_iinc (ls' := [(6, vI (l6 + 1)), (5, vI (l5 + (M6 88 13))), (4, vI (l4 + z7)), (0, vR 88), (1, vI l1), (3, vI l3), (7, vI l7)]) 5 dX9_drawn_150 rfl (by decide) rfl ?_
    refine Wa_goto (tgt := 67) dX9_drawn_153 (by decide) ?_
    refine Wa_sub [3, 4, 5, 2, 1, 0] rfl ?_
    exact h
  · have h := h.2 c2
    refine Wa_aload_n 0 dX9_drawn_83 rfl rfl ?_
    refine Wa_getR cf_X9 lk_X9_19 k_88 (j := 7) rfl (by decide) dX9_drawn_84 ?_
    refine Wa_bipush (z := 16) dX9_drawn_87 (by decide) ?_
    refine Wa_iload 6 dX9_drawn_89 rfl ?_
    refine Wa_iconst (z := 4) dX9_drawn_91 ?_
    refine Wa_idiv dX9_drawn_92 (by decide) ?_
    refine Wa_imul dX9_drawn_93 ?_
    refine Wa_iload 6 dX9_drawn_94 rfl ?_
    refine Wa_iconst (z := 4) dX9_drawn_96 ?_
    refine Wa_irem dX9_drawn_97 (by decide) ?_
    refine Wa_iadd dX9_drawn_98 ?_
    refine Wa_bipush (z := 97) dX9_drawn_99 (by decide) ?_
    refine Wa_aload_n 0 dX9_drawn_101 rfl rfl ?_
    refine Wa_iconst (z := 5) dX9_drawn_102 ?_
    refine Wa_callV [vI 5] _ cf_X9 rfl k_88 lc_X9_282 cv_X9_draw rfl rfl (Nat.le_refl _) (Nat.le_of_ble_eq_true rfl) dX9_drawn_103 h ?_
    intro r M10 h
    obtain ⟨z11, rfl, r12, h⟩ := h
    have h := h r12
    refine Wa_iadd dX9_drawn_106 ?_
    obtain ⟨b13, h⟩ := h
    obtain ⟨q14, h⟩ := h
    refine Wa_iast k_92 b13 q14 dX9_drawn_107 ?_
    refine Wa_iinc (ls' := [(7, vI (l7 + 1)), (0, vR 88), (1, vI l1), (3, vI l3), (4, vI l4), (5, vI l5), (6, vI l6)]) 6 dX9_drawn_108 rfl (by decide) rfl ?_
    refine Wa_goto (tgt := 76) dX9_drawn_111 (by decide) ?_
    refine Wa_sub [1, 2, 3, 4, 5, 6, 0] rfl ?_
    exact h
theorem en_X9_drawn {g : AG} {d : Nat} {l1 : Int} {l2 : Int} {l3 : Int} {M : AM} {Q : Int → AM → Prop} (h : S_X9_drawn_0 g d l1 l2 l3 M Q) : MetI g mX9_drawn d [vR 88, vI l1, vI l2, vI l3] M Q := MetA.of (by decide) (Nat.le_of_ble_eq_true rfl) h
def S_X9_image_0 (g : AG) (d : Nat) (M : AM) (Q : Int → AM → Prop) : Prop := Wa g mX9_image d 0 [(0, vR 88)] [] M (QI Q)
set_option maxRecDepth 100000 in
theorem sg_X9_image_0 {g : AG} {d : Nat} {M : AM} {Q : Int → AM → Prop} 
  (h : (¬ (M 88 9) = 0 → (MetV g mX9_copy d [vR 92, vR 106] M (fun M3 => MetV g mX9_copy d [vR 93, vR 107] M3 (fun M6 => rg ((M6 93 0) + (M6 93 1)) ∧ (Q ((M6 93 0) + (M6 93 1)) (mU M6 88 29 (M6 88 10))))))) ∧ ((M 88 9) = 0 → (Q (-103) M))) : S_X9_image_0 g (d + 1) M Q := by
  show Wa _ _ _ _ _ _ _ _
  refine Wa_aload_n 0 dX9_image_0 rfl rfl ?_
  refine Wa_getI2 (v := (M 88 9)) cf_X9 lk_X9_106 k_88 (j := 9) rfl (by decide) rfl dX9_image_1 (fun r1 => ?_)
  refine Wa_if_ne (tgt := 10) dX9_image_4 (by decide) r1 (fun c2 => ?_) (fun c2 => ?_)
  · have h := h.1 c2
    refine Wa_aload_n 0 dX9_image_10 rfl rfl ?_
    refine Wa_getR cf_X9 lk_X9_19 k_88 (j := 7) rfl (by decide) dX9_image_11 ?_
    refine Wa_aload_n 0 dX9_image_14 rfl rfl ?_
    refine Wa_getR cf_X9 lk_X9_61 k_88 (j := 30) rfl (by decide) dX9_image_15 ?_
    refine Wa_callS [vR 92, vR 106] _ lc_X9_102 cs_X9_copy rfl rfl (Nat.le_refl _) (Nat.le_of_ble_eq_true rfl) dX9_image_18 h ?_
    intro r M3 h
    obtain ⟨rfl, h⟩ := h
    refine Wa_aload_n 0 dX9_image_21 rfl rfl ?_
    refine Wa_getR cf_X9 lk_X9_22 k_88 (j := 8) rfl (by decide) dX9_image_22 ?_
    refine Wa_aload_n 0 dX9_image_25 rfl rfl ?_
    refine Wa_getR cf_X9 lk_X9_64 k_88 (j := 31) rfl (by decide) dX9_image_26 ?_
    refine Wa_callS [vR 93, vR 107] _ lc_X9_102 cs_X9_copy rfl rfl (Nat.le_refl _) (Nat.le_of_ble_eq_true rfl) dX9_image_29 h ?_
    intro r M6 h
    obtain ⟨rfl, h⟩ := h
    refine Wa_aload_n 0 dX9_image_32 rfl rfl ?_
    refine Wa_aload_n 0 dX9_image_33 rfl rfl ?_
    refine Wa_getI2 (v := (M6 88 10)) cf_X9 lk_X9_109 k_88 (j := 10) rfl (by decide) rfl dX9_image_34 (fun r9 => ?_)
    refine Wa_putI cf_X9 lk_X9_67 k_88 (j := 29) rfl (by decide) rfl rfl r9 dX9_image_37 ?_
    refine Wa_aload_n 0 dX9_image_40 rfl rfl ?_
    refine Wa_getR cf_X9 lk_X9_22 k_88 (j := 8) rfl (by decide) dX9_image_41 ?_
    refine Wa_iconst (z := 0) dX9_image_44 ?_
    refine Wa_iald2 (v := (M6 93 0)) k_93 ⟨by decide, by decide⟩ (mU_rd (by decide)) dX9_image_45 (fun r10 => ?_)
    refine Wa_aload_n 0 dX9_image_46 rfl rfl ?_
    refine Wa_getR cf_X9 lk_X9_22 k_88 (j := 8) rfl (by decide) dX9_image_47 ?_
    refine Wa_iconst (z := 1) dX9_image_50 ?_
    refine Wa_iald2 (v := (M6 93 1)) k_93 ⟨by decide, by decide⟩ (mU_rd (by decide)) dX9_image_51 (fun r11 => ?_)
    refine Wa_iadd dX9_image_52 ?_
    obtain ⟨q12, h⟩ := h
    exact Wa_ireturn dX9_image_53 rfl ⟨_, rfl, q12, h⟩
  · have h := h.2 c2
    refine Wa_bipush (z := (-103)) dX9_image_7 (by decide) ?_
    exact Wa_ireturn dX9_image_9 rfl ⟨_, rfl, ⟨by decide, by decide⟩, h⟩
theorem en_X9_image {g : AG} {d : Nat} {M : AM} {Q : Int → AM → Prop} (h : S_X9_image_0 g d M Q) : MetI g mX9_image d [vR 88] M Q := MetA.of (by decide) (Nat.le_of_ble_eq_true rfl) h
def S_X9_restore_0 (g : AG) (d : Nat) (M : AM) (Q : Int → AM → Prop) : Prop := Wa g mX9_restore d 0 [(0, vR 88)] [] M (QI Q)
set_option maxRecDepth 100000 in
theorem sg_X9_restore_0 {g : AG} {d : Nat} {M : AM} {Q : Int → AM → Prop} 
  (h : ((M 88 29) = (M 88 10) → (MetV g mX9_copy d [vR 106, vR 92] M (fun M4 => MetV g mX9_copy d [vR 107, vR 93] M4 (fun M7 => MetV g mX9_layScript d [vR 88] M7 (fun M10 => rg ((M10 93 0) + (M10 93 1)) ∧ (Q ((M10 93 0) + (M10 93 1)) M10)))))) ∧ (¬ (M 88 29) = (M 88 10) → (Q (-103) M))) : S_X9_restore_0 g (d + 1) M Q := by
  show Wa _ _ _ _ _ _ _ _
  refine Wa_aload_n 0 dX9_restore_0 rfl rfl ?_
  refine Wa_getI2 (v := (M 88 29)) cf_X9 lk_X9_67 k_88 (j := 29) rfl (by decide) rfl dX9_restore_1 (fun r1 => ?_)
  refine Wa_aload_n 0 dX9_restore_4 rfl rfl ?_
  refine Wa_getI2 (v := (M 88 10)) cf_X9 lk_X9_109 k_88 (j := 10) rfl (by decide) rfl dX9_restore_5 (fun r2 => ?_)
  refine Wa_icmp_eq (tgt := 14) dX9_restore_8 (by decide) r1 r2 (fun c3 => ?_) (fun c3 => ?_)
  · have h := h.1 c3
    refine Wa_aload_n 0 dX9_restore_14 rfl rfl ?_
    refine Wa_getR cf_X9 lk_X9_61 k_88 (j := 30) rfl (by decide) dX9_restore_15 ?_
    refine Wa_aload_n 0 dX9_restore_18 rfl rfl ?_
    refine Wa_getR cf_X9 lk_X9_19 k_88 (j := 7) rfl (by decide) dX9_restore_19 ?_
    refine Wa_callS [vR 106, vR 92] _ lc_X9_102 cs_X9_copy rfl rfl (Nat.le_refl _) (Nat.le_of_ble_eq_true rfl) dX9_restore_22 h ?_
    intro r M4 h
    obtain ⟨rfl, h⟩ := h
    refine Wa_aload_n 0 dX9_restore_25 rfl rfl ?_
    refine Wa_getR cf_X9 lk_X9_64 k_88 (j := 31) rfl (by decide) dX9_restore_26 ?_
    refine Wa_aload_n 0 dX9_restore_29 rfl rfl ?_
    refine Wa_getR cf_X9 lk_X9_22 k_88 (j := 8) rfl (by decide) dX9_restore_30 ?_
    refine Wa_callS [vR 107, vR 93] _ lc_X9_102 cs_X9_copy rfl rfl (Nat.le_refl _) (Nat.le_of_ble_eq_true rfl) dX9_restore_33 h ?_
    intro r M7 h
    obtain ⟨rfl, h⟩ := h
    refine Wa_aload_n 0 dX9_restore_36 rfl rfl ?_
    refine Wa_callV [] _ cf_X9 rfl k_88 lc_X9_112 cv_X9_layScript rfl rfl (Nat.le_refl _) (Nat.le_of_ble_eq_true rfl) dX9_restore_37 h ?_
    intro r M10 h
    obtain ⟨rfl, h⟩ := h
    refine Wa_aload_n 0 dX9_restore_40 rfl rfl ?_
    refine Wa_getR cf_X9 lk_X9_22 k_88 (j := 8) rfl (by decide) dX9_restore_41 ?_
    refine Wa_iconst (z := 0) dX9_restore_44 ?_
    refine Wa_iald2 (v := (M10 93 0)) k_93 ⟨by decide, by decide⟩ rfl dX9_restore_45 (fun r13 => ?_)
    refine Wa_aload_n 0 dX9_restore_46 rfl rfl ?_
    refine Wa_getR cf_X9 lk_X9_22 k_88 (j := 8) rfl (by decide) dX9_restore_47 ?_
    refine Wa_iconst (z := 1) dX9_restore_50 ?_
    refine Wa_iald2 (v := (M10 93 1)) k_93 ⟨by decide, by decide⟩ rfl dX9_restore_51 (fun r14 => ?_)
    refine Wa_iadd dX9_restore_52 ?_
    obtain ⟨q15, h⟩ := h
    exact Wa_ireturn dX9_restore_53 rfl ⟨_, rfl, q15, h⟩
  · have h := h.2 c3
    refine Wa_bipush (z := (-103)) dX9_restore_11 (by decide) ?_
    exact Wa_ireturn dX9_restore_13 rfl ⟨_, rfl, ⟨by decide, by decide⟩, h⟩
theorem en_X9_restore {g : AG} {d : Nat} {M : AM} {Q : Int → AM → Prop} (h : S_X9_restore_0 g d M Q) : MetI g mX9_restore d [vR 88] M Q := MetA.of (by decide) (Nat.le_of_ble_eq_true rfl) h
def S_X9_stepsOf_0 (g : AG) (d : Nat) (l1 : Int) (M : AM) (Q : Int → AM → Prop) : Prop := Wa g mX9_stepsOf d 0 [(0, vR 88), (1, vI l1)] [] M (QI Q)
def S_X9_stepsOf_4 (g : AG) (d : Nat) (l1 : Int) (l2 : Int) (l3 : Int) (M : AM) (Q : Int → AM → Prop) : Prop := Wa g mX9_stepsOf d 4 [(0, vR 88), (1, vI l1), (2, vI l2), (3, vI l3)] [] M (QI Q)
set_option maxRecDepth 100000 in
theorem sg_X9_stepsOf_0 {g : AG} {d : Nat} {l1 : Int} {M : AM} {Q : Int → AM → Prop} 
  (h : S_X9_stepsOf_4 g (d + 1) l1 0 0 M Q) : S_X9_stepsOf_0 g (d + 1) l1 M Q := by
  show Wa _ _ _ _ _ _ _ _
  refine Wa_iconst (z := 0) dX9_stepsOf_0 ?_
  refine Wa_istore_n (ls' := [(2, vI 0), (0, vR 88), (1, vI l1)]) dX9_stepsOf_1 rfl (by decide) rfl ?_
  refine Wa_iconst (z := 0) dX9_stepsOf_2 ?_
  refine Wa_istore_n (ls' := [(3, vI 0), (2, vI 0), (0, vR 88), (1, vI l1)]) dX9_stepsOf_3 rfl (by decide) rfl ?_
  refine Wa_sub [2, 3, 1, 0] rfl ?_
  exact h
set_option maxRecDepth 100000 in
theorem sg_X9_stepsOf_4 {g : AG} {d : Nat} {l1 : Int} {l2 : Int} {l3 : Int} {M : AM} {Q : Int → AM → Prop} 
  (h : rg l3 ∧ (((M 88 22) ≤ l3 → (rg l2 ∧ (Q l2 M))) ∧ (¬ (M 88 22) ≤ l3 → ((0 ≤ (5 * l3) ∧ (5 * l3) < 80) ∧ (rg l1 ∧ ((¬ (M 101 ((5 * l3)).toNat) = l1 → (S_X9_stepsOf_4 g (d + 1) l1 (l2 + 0) (l3 + 1) M Q)) ∧ ((M 101 ((5 * l3)).toNat) = l1 → (S_X9_stepsOf_4 g (d + 1) l1 (l2 + 1) (l3 + 1) M Q)))))))) : S_X9_stepsOf_4 g (d + 1) l1 l2 l3 M Q := by
  show Wa _ _ _ _ _ _ _ _
  refine Wa_iload_n 3 dX9_stepsOf_4 rfl rfl ?_
  refine Wa_aload_n 0 dX9_stepsOf_5 rfl rfl ?_
  refine Wa_getI2 (v := (M 88 22)) cf_X9 lk_X9_197 k_88 (j := 22) rfl (by decide) rfl dX9_stepsOf_6 (fun r1 => ?_)
  obtain ⟨q2, h⟩ := h
  refine Wa_icmp_ge (tgt := 38) dX9_stepsOf_9 (by decide) q2 r1 (fun c3 => ?_) (fun c3 => ?_)
  · have h := h.1 c3
    refine Wa_iload_n 2 dX9_stepsOf_38 rfl rfl ?_
    obtain ⟨q4, h⟩ := h
    exact Wa_ireturn dX9_stepsOf_39 rfl ⟨_, rfl, q4, h⟩
  · have h := h.2 c3
    refine Wa_iload_n 2 dX9_stepsOf_12 rfl rfl ?_
    refine Wa_aload_n 0 dX9_stepsOf_13 rfl rfl ?_
    refine Wa_getR cf_X9 lk_X9_46 k_88 (j := 21) rfl (by decide) dX9_stepsOf_14 ?_
    refine Wa_iconst (z := 5) dX9_stepsOf_17 ?_
    refine Wa_iload_n 3 dX9_stepsOf_18 rfl rfl ?_
    refine Wa_imul dX9_stepsOf_19 ?_
    obtain ⟨b5, h⟩ := h
    refine Wa_iald2 (v := (M 101 ((5 * l3)).toNat)) k_101 b5 rfl dX9_stepsOf_20 (fun r6 => ?_)
    refine Wa_iload_n 1 dX9_stepsOf_21 rfl rfl ?_
    obtain ⟨q7, h⟩ := h
    refine Wa_icmp_ne (tgt := 29) dX9_stepsOf_22 (by decide) r6 q7 (fun c8 => ?_) (fun c8 => ?_)
    · have h := h.1 c8
      refine Wa_iconst (z := 0) dX9_stepsOf_29 ?_
      refine Wa_iadd dX9_stepsOf_30 ?_
      refine Wa_istore_n (ls' := [(2, vI (l2 + 0)), (0, vR 88), (1, vI l1), (3, vI l3)]) dX9_stepsOf_31 rfl (by decide) rfl ?_
      refine Wa_iinc (ls' := [(3, vI (l3 + 1)), (2, vI (l2 + 0)), (0, vR 88), (1, vI l1)]) 3 dX9_stepsOf_32 rfl (by decide) rfl ?_
      refine Wa_goto (tgt := 4) dX9_stepsOf_35 (by decide) ?_
      refine Wa_sub [2, 3, 1, 0] rfl ?_
      exact h
    · have h := h.2 c8
      refine Wa_iconst (z := 1) dX9_stepsOf_25 ?_
      refine Wa_goto (tgt := 30) dX9_stepsOf_26 (by decide) ?_
      refine Wa_iadd dX9_stepsOf_30 ?_
      refine Wa_istore_n (ls' := [(2, vI (l2 + 1)), (0, vR 88), (1, vI l1), (3, vI l3)]) dX9_stepsOf_31 rfl (by decide) rfl ?_
      refine Wa_iinc (ls' := [(3, vI (l3 + 1)), (2, vI (l2 + 1)), (0, vR 88), (1, vI l1)]) 3 dX9_stepsOf_32 rfl (by decide) rfl ?_
      refine Wa_goto (tgt := 4) dX9_stepsOf_35 (by decide) ?_
      refine Wa_sub [2, 3, 1, 0] rfl ?_
      exact h
theorem en_X9_stepsOf {g : AG} {d : Nat} {l1 : Int} {M : AM} {Q : Int → AM → Prop} (h : S_X9_stepsOf_0 g d l1 M Q) : MetI g mX9_stepsOf d [vR 88, vI l1] M Q := MetA.of (by decide) (Nat.le_of_ble_eq_true rfl) h
def S_X9_rackedAll_0 (g : AG) (d : Nat) (M : AM) (Q : Int → AM → Prop) : Prop := Wa g mX9_rackedAll d 0 [(0, vR 88)] [] M (QI Q)
def S_X9_rackedAll_4 (g : AG) (d : Nat) (l1 : Int) (l2 : Int) (M : AM) (Q : Int → AM → Prop) : Prop := Wa g mX9_rackedAll d 4 [(0, vR 88), (1, vI l1), (2, vI l2)] [] M (QI Q)
set_option maxRecDepth 100000 in
theorem sg_X9_rackedAll_0 {g : AG} {d : Nat} {M : AM} {Q : Int → AM → Prop} 
  (h : S_X9_rackedAll_4 g (d + 1) 0 0 M Q) : S_X9_rackedAll_0 g (d + 1) M Q := by
  show Wa _ _ _ _ _ _ _ _
  refine Wa_iconst (z := 0) dX9_rackedAll_0 ?_
  refine Wa_istore_n (ls' := [(1, vI 0), (0, vR 88)]) dX9_rackedAll_1 rfl (by decide) rfl ?_
  refine Wa_iconst (z := 0) dX9_rackedAll_2 ?_
  refine Wa_istore_n (ls' := [(2, vI 0), (1, vI 0), (0, vR 88)]) dX9_rackedAll_3 rfl (by decide) rfl ?_
  refine Wa_sub [2, 1, 0] rfl ?_
  exact h
set_option maxRecDepth 100000 in
theorem sg_X9_rackedAll_4 {g : AG} {d : Nat} {l1 : Int} {l2 : Int} {M : AM} {Q : Int → AM → Prop} 
  (h : rg l2 ∧ ((5 ≤ l2 → (rg l1 ∧ (Q l1 M))) ∧ (¬ 5 ≤ l2 → (MetI g mX9_rackedOf d [vR 88, vI l2] M (fun z5 M4 => rg z5 → (S_X9_rackedAll_4 g (d + 1) (l1 + z5) (l2 + 1) M4 Q)))))) : S_X9_rackedAll_4 g (d + 1) l1 l2 M Q := by
  show Wa _ _ _ _ _ _ _ _
  refine Wa_iload_n 2 dX9_rackedAll_4 rfl rfl ?_
  refine Wa_iconst (z := 5) dX9_rackedAll_5 ?_
  obtain ⟨q1, h⟩ := h
  refine Wa_icmp_ge (tgt := 23) dX9_rackedAll_6 (by decide) q1 ⟨by decide, by decide⟩ (fun c2 => ?_) (fun c2 => ?_)
  · have h := h.1 c2
    refine Wa_iload_n 1 dX9_rackedAll_23 rfl rfl ?_
    obtain ⟨q3, h⟩ := h
    exact Wa_ireturn dX9_rackedAll_24 rfl ⟨_, rfl, q3, h⟩
  · have h := h.2 c2
    refine Wa_iload_n 1 dX9_rackedAll_9 rfl rfl ?_
    refine Wa_aload_n 0 dX9_rackedAll_10 rfl rfl ?_
    refine Wa_iload_n 2 dX9_rackedAll_11 rfl rfl ?_
    refine Wa_callV [vI l2] _ cf_X9 rfl k_88 lc_X9_236 cv_X9_rackedOf rfl rfl (Nat.le_refl _) (Nat.le_of_ble_eq_true rfl) dX9_rackedAll_12 h ?_
    intro r M4 h
    obtain ⟨z5, rfl, r6, h⟩ := h
    have h := h r6
    refine Wa_iadd dX9_rackedAll_15 ?_
    refine Wa_istore_n (ls' := [(1, vI (l1 + z5)), (0, vR 88), (2, vI l2)]) dX9_rackedAll_16 rfl (by decide) rfl ?_
    refine Wa_iinc (ls' := [(2, vI (l2 + 1)), (1, vI (l1 + z5)), (0, vR 88)]) 2 dX9_rackedAll_17 rfl (by decide) rfl ?_
    refine Wa_goto (tgt := 4) dX9_rackedAll_20 (by decide) ?_
    refine Wa_sub [2, 1, 0] rfl ?_
    exact h
theorem en_X9_rackedAll {g : AG} {d : Nat} {M : AM} {Q : Int → AM → Prop} (h : S_X9_rackedAll_0 g d M Q) : MetI g mX9_rackedAll d [vR 88] M Q := MetA.of (by decide) (Nat.le_of_ble_eq_true rfl) h
def S_X9_countOf_0 (g : AG) (d : Nat) (l1 : Int) (M : AM) (Q : Int → AM → Prop) : Prop := Wa g mX9_countOf d 0 [(0, vR 88), (1, vI l1)] [] M (QI Q)
set_option maxRecDepth 100000 in
theorem sg_X9_countOf_0 {g : AG} {d : Nat} {l1 : Int} {M : AM} {Q : Int → AM → Prop} 
  (h : rg l1 ∧ ((l1 < 0 ∨ 10 < l1 → (Q (-102) M)) ∧ (l1 = 0 → ((0 ≤ l1 ∧ l1 < 2) ∧ (Q (M 93 (l1).toNat) M))) ∧ (l1 = 1 → ((0 ≤ l1 ∧ l1 < 2) ∧ (Q (M 93 (l1).toNat) M))) ∧ (l1 = 2 → (Q (M 88 22) M)) ∧ (l1 = 3 → (rg (l1 - 3) ∧ (MetI g mX9_stepsOf d [vR 88, vI (l1 - 3)] M (fun z10 M9 => rg z10 → (Q z10 M9))))) ∧ (l1 = 4 → (rg (l1 - 3) ∧ (MetI g mX9_stepsOf d [vR 88, vI (l1 - 3)] M (fun z14 M13 => rg z14 → (Q z14 M13))))) ∧ (l1 = 5 → (rg (l1 - 3) ∧ (MetI g mX9_stepsOf d [vR 88, vI (l1 - 3)] M (fun z18 M17 => rg z18 → (Q z18 M17))))) ∧ (l1 = 6 → (rg (l1 - 3) ∧ (MetI g mX9_stepsOf d [vR 88, vI (l1 - 3)] M (fun z22 M21 => rg z22 → (Q z22 M21))))) ∧ (l1 = 7 → (rg (l1 - 3) ∧ (MetI g mX9_stepsOf d [vR 88, vI (l1 - 3)] M (fun z26 M25 => rg z26 → (Q z26 M25))))) ∧ (l1 = 8 → (MetI g mX9_rackedAll d [vR 88] M (fun z29 M28 => rg z29 → (Q z29 M28)))) ∧ (l1 = 9 → (Q (M 88 1) M)) ∧ (l1 = 10 → (Q (M 88 10) M)))) : S_X9_countOf_0 g (d + 1) l1 M Q := by
  show Wa _ _ _ _ _ _ _ _
  refine Wa_iload_n 1 dX9_countOf_0 rfl rfl ?_
  obtain ⟨q1, h⟩ := h
  by_cases c2 : l1 < 0 ∨ 10 < l1
  · have h := h.1 c2
    refine Wa_tabOut (tgt := 95) dX9_countOf_1 q1 c2 (by decide) ?_
    refine Wa_bipush (z := (-102)) dX9_countOf_95 (by decide) ?_
    exact Wa_ireturn dX9_countOf_97 rfl ⟨_, rfl, ⟨by decide, by decide⟩, h⟩
  · have h := h.2
    rcases (show l1 = 0 ∨ l1 = 1 ∨ l1 = 2 ∨ l1 = 3 ∨ l1 = 4 ∨ l1 = 5 ∨ l1 = 6 ∨ l1 = 7 ∨ l1 = 8 ∨ l1 = 9 ∨ l1 = 10 by omega) with c2 | c2 | c2 | c2 | c2 | c2 | c2 | c2 | c2 | c2 | c2
    · have h := h.1 c2
      refine Wa_tabIn (tgt := 60) dX9_countOf_1 q1 (by omega) (by omega) (by rw [c2]; rfl) (by decide) ?_
      refine Wa_aload_n 0 dX9_countOf_60 rfl rfl ?_
      refine Wa_getR cf_X9 lk_X9_22 k_88 (j := 8) rfl (by decide) dX9_countOf_61 ?_
      refine Wa_iload_n 1 dX9_countOf_64 rfl rfl ?_
      obtain ⟨b3, h⟩ := h
      refine Wa_iald2 (v := (M 93 (l1).toNat)) k_93 b3 rfl dX9_countOf_65 (fun r4 => ?_)
      exact Wa_ireturn dX9_countOf_66 rfl ⟨_, rfl, r4, h⟩
    · have h := h.2.1 c2
      refine Wa_tabIn (tgt := 60) dX9_countOf_1 q1 (by omega) (by omega) (by rw [c2]; rfl) (by decide) ?_
      refine Wa_aload_n 0 dX9_countOf_60 rfl rfl ?_
      refine Wa_getR cf_X9 lk_X9_22 k_88 (j := 8) rfl (by decide) dX9_countOf_61 ?_
      refine Wa_iload_n 1 dX9_countOf_64 rfl rfl ?_
      obtain ⟨b5, h⟩ := h
      refine Wa_iald2 (v := (M 93 (l1).toNat)) k_93 b5 rfl dX9_countOf_65 (fun r6 => ?_)
      exact Wa_ireturn dX9_countOf_66 rfl ⟨_, rfl, r6, h⟩
    · have h := h.2.2.1 c2
      refine Wa_tabIn (tgt := 67) dX9_countOf_1 q1 (by omega) (by omega) (by rw [c2]; rfl) (by decide) ?_
      refine Wa_aload_n 0 dX9_countOf_67 rfl rfl ?_
      refine Wa_getI2 (v := (M 88 22)) cf_X9 lk_X9_197 k_88 (j := 22) rfl (by decide) rfl dX9_countOf_68 (fun r7 => ?_)
      exact Wa_ireturn dX9_countOf_71 rfl ⟨_, rfl, r7, h⟩
    · have h := h.2.2.2.1 c2
      refine Wa_tabIn (tgt := 72) dX9_countOf_1 q1 (by omega) (by omega) (by rw [c2]; rfl) (by decide) ?_
      refine Wa_aload_n 0 dX9_countOf_72 rfl rfl ?_
      refine Wa_iload_n 1 dX9_countOf_73 rfl rfl ?_
      refine Wa_iconst (z := 3) dX9_countOf_74 ?_
      refine Wa_isub dX9_countOf_75 ?_
      obtain ⟨q8, h⟩ := h
      refine Wa_callV [vI (l1 - 3)] _ cf_X9 rfl k_88 lc_X9_285 cv_X9_stepsOf rfl rfl (Nat.le_refl _) (Nat.le_of_ble_eq_true rfl) dX9_countOf_76 h ?_
      intro r M9 h
      obtain ⟨z10, rfl, r11, h⟩ := h
      have h := h r11
      exact Wa_ireturn dX9_countOf_79 rfl ⟨_, rfl, r11, h⟩
    · have h := h.2.2.2.2.1 c2
      refine Wa_tabIn (tgt := 72) dX9_countOf_1 q1 (by omega) (by omega) (by rw [c2]; rfl) (by decide) ?_
      refine Wa_aload_n 0 dX9_countOf_72 rfl rfl ?_
      refine Wa_iload_n 1 dX9_countOf_73 rfl rfl ?_
      refine Wa_iconst (z := 3) dX9_countOf_74 ?_
      refine Wa_isub dX9_countOf_75 ?_
      obtain ⟨q12, h⟩ := h
      refine Wa_callV [vI (l1 - 3)] _ cf_X9 rfl k_88 lc_X9_285 cv_X9_stepsOf rfl rfl (Nat.le_refl _) (Nat.le_of_ble_eq_true rfl) dX9_countOf_76 h ?_
      intro r M13 h
      obtain ⟨z14, rfl, r15, h⟩ := h
      have h := h r15
      exact Wa_ireturn dX9_countOf_79 rfl ⟨_, rfl, r15, h⟩
    · have h := h.2.2.2.2.2.1 c2
      refine Wa_tabIn (tgt := 72) dX9_countOf_1 q1 (by omega) (by omega) (by rw [c2]; rfl) (by decide) ?_
      refine Wa_aload_n 0 dX9_countOf_72 rfl rfl ?_
      refine Wa_iload_n 1 dX9_countOf_73 rfl rfl ?_
      refine Wa_iconst (z := 3) dX9_countOf_74 ?_
      refine Wa_isub dX9_countOf_75 ?_
      obtain ⟨q16, h⟩ := h
      refine Wa_callV [vI (l1 - 3)] _ cf_X9 rfl k_88 lc_X9_285 cv_X9_stepsOf rfl rfl (Nat.le_refl _) (Nat.le_of_ble_eq_true rfl) dX9_countOf_76 h ?_
      intro r M17 h
      obtain ⟨z18, rfl, r19, h⟩ := h
      have h := h r19
      exact Wa_ireturn dX9_countOf_79 rfl ⟨_, rfl, r19, h⟩
    · have h := h.2.2.2.2.2.2.1 c2
      refine Wa_tabIn (tgt := 72) dX9_countOf_1 q1 (by omega) (by omega) (by rw [c2]; rfl) (by decide) ?_
      refine Wa_aload_n 0 dX9_countOf_72 rfl rfl ?_
      refine Wa_iload_n 1 dX9_countOf_73 rfl rfl ?_
      refine Wa_iconst (z := 3) dX9_countOf_74 ?_
      refine Wa_isub dX9_countOf_75 ?_
      obtain ⟨q20, h⟩ := h
      refine Wa_callV [vI (l1 - 3)] _ cf_X9 rfl k_88 lc_X9_285 cv_X9_stepsOf rfl rfl (Nat.le_refl _) (Nat.le_of_ble_eq_true rfl) dX9_countOf_76 h ?_
      intro r M21 h
      obtain ⟨z22, rfl, r23, h⟩ := h
      have h := h r23
      exact Wa_ireturn dX9_countOf_79 rfl ⟨_, rfl, r23, h⟩
    · have h := h.2.2.2.2.2.2.2.1 c2
      refine Wa_tabIn (tgt := 72) dX9_countOf_1 q1 (by omega) (by omega) (by rw [c2]; rfl) (by decide) ?_
      refine Wa_aload_n 0 dX9_countOf_72 rfl rfl ?_
      refine Wa_iload_n 1 dX9_countOf_73 rfl rfl ?_
      refine Wa_iconst (z := 3) dX9_countOf_74 ?_
      refine Wa_isub dX9_countOf_75 ?_
      obtain ⟨q24, h⟩ := h
      refine Wa_callV [vI (l1 - 3)] _ cf_X9 rfl k_88 lc_X9_285 cv_X9_stepsOf rfl rfl (Nat.le_refl _) (Nat.le_of_ble_eq_true rfl) dX9_countOf_76 h ?_
      intro r M25 h
      obtain ⟨z26, rfl, r27, h⟩ := h
      have h := h r27
      exact Wa_ireturn dX9_countOf_79 rfl ⟨_, rfl, r27, h⟩
    · have h := h.2.2.2.2.2.2.2.2.1 c2
      refine Wa_tabIn (tgt := 80) dX9_countOf_1 q1 (by omega) (by omega) (by rw [c2]; rfl) (by decide) ?_
      refine Wa_aload_n 0 dX9_countOf_80 rfl rfl ?_
      refine Wa_callV [] _ cf_X9 rfl k_88 lc_X9_288 cv_X9_rackedAll rfl rfl (Nat.le_refl _) (Nat.le_of_ble_eq_true rfl) dX9_countOf_81 h ?_
      intro r M28 h
      obtain ⟨z29, rfl, r30, h⟩ := h
      have h := h r30
      exact Wa_ireturn dX9_countOf_84 rfl ⟨_, rfl, r30, h⟩
    · have h := h.2.2.2.2.2.2.2.2.2.1 c2
      refine Wa_tabIn (tgt := 85) dX9_countOf_1 q1 (by omega) (by omega) (by rw [c2]; rfl) (by decide) ?_
      refine Wa_aload_n 0 dX9_countOf_85 rfl rfl ?_
      refine Wa_getI2 (v := (M 88 1)) cf_X9 lk_X9_77 k_88 (j := 1) rfl (by decide) rfl dX9_countOf_86 (fun r31 => ?_)
      exact Wa_ireturn dX9_countOf_89 rfl ⟨_, rfl, r31, h⟩
    · have h := h.2.2.2.2.2.2.2.2.2.2 c2
      refine Wa_tabIn (tgt := 90) dX9_countOf_1 q1 (by omega) (by omega) (by rw [c2]; rfl) (by decide) ?_
      refine Wa_aload_n 0 dX9_countOf_90 rfl rfl ?_
      refine Wa_getI2 (v := (M 88 10)) cf_X9 lk_X9_109 k_88 (j := 10) rfl (by decide) rfl dX9_countOf_91 (fun r32 => ?_)
      exact Wa_ireturn dX9_countOf_94 rfl ⟨_, rfl, r32, h⟩
theorem en_X9_countOf {g : AG} {d : Nat} {l1 : Int} {M : AM} {Q : Int → AM → Prop} (h : S_X9_countOf_0 g d l1 M Q) : MetI g mX9_countOf d [vR 88, vI l1] M Q := MetA.of (by decide) (Nat.le_of_ble_eq_true rfl) h
def S_X9_count_0 (g : AG) (d : Nat) (l1 : Int) (M : AM) (Q : Int → AM → Prop) : Prop := Wa g mX9_count d 0 [(0, vR 88), (1, vI l1)] [] M (QI Q)
set_option maxRecDepth 100000 in
theorem sg_X9_count_0 {g : AG} {d : Nat} {l1 : Int} {M : AM} {Q : Int → AM → Prop} 
  (h : rg l1 ∧ (MetI g mX9_countOf d [vR 88, vI l1] M (fun z3 M2 => rg z3 → (Q z3 M2)))) : S_X9_count_0 g (d + 1) l1 M Q := by
  show Wa _ _ _ _ _ _ _ _
  refine Wa_aload_n 0 dX9_count_0 rfl rfl ?_
  refine Wa_iload_n 1 dX9_count_1 rfl rfl ?_
  obtain ⟨q1, h⟩ := h
  refine Wa_callV [vI l1] _ cf_X9 rfl k_88 lc_X9_291 cv_X9_countOf rfl rfl (Nat.le_refl _) (Nat.le_of_ble_eq_true rfl) dX9_count_2 h ?_
  intro r M2 h
  obtain ⟨z3, rfl, r4, h⟩ := h
  have h := h r4
  exact Wa_ireturn dX9_count_5 rfl ⟨_, rfl, r4, h⟩
theorem en_X9_count {g : AG} {d : Nat} {l1 : Int} {M : AM} {Q : Int → AM → Prop} (h : S_X9_count_0 g d l1 M Q) : MetI g mX9_count d [vR 88, vI l1] M Q := MetA.of (by decide) (Nat.le_of_ble_eq_true rfl) h
def S_X9_say_0 (g : AG) (d : Nat) (l1 : Int) (M : AM) (Q : AM → Prop) : Prop := Wa g mX9_say d 0 [(0, vR 88), (1, vL l1)] [] M (QV Q)
set_option maxRecDepth 100000 in
theorem sg_X9_say_0 {g : AG} {d : Nat} {l1 : Int} {M : AM} {Q : AM → Prop} 
  (h : Q (mU M 88 32 ((31 * (M 88 32)) + l1))) : S_X9_say_0 g (d + 1) l1 M Q := by
  show Wa _ _ _ _ _ _ _ _
  refine Wa_aload_n 0 dX9_say_0 rfl rfl ?_
  refine Wa_ldc2 (z := 31) dX9_say_1 kc_X9_294 ?_
  refine Wa_aload_n 0 dX9_say_4 rfl rfl ?_
  refine Wa_getL cf_X9 lk_X9_296 k_88 (j := 32) rfl (by decide) dX9_say_5 ?_
  refine Wa_lmul dX9_say_8 ?_
  refine Wa_lload_n 1 dX9_say_9 rfl rfl ?_
  refine Wa_ladd dX9_say_10 ?_
  refine Wa_putL cf_X9 lk_X9_296 (by decide) rfl rfl dX9_say_11 ?_
  exact Wa_return dX9_say_14 rfl ⟨rfl, h⟩
theorem en_X9_say {g : AG} {d : Nat} {l1 : Int} {M : AM} {Q : AM → Prop} (h : S_X9_say_0 g d l1 M Q) : MetV g mX9_say d [vR 88, vL l1] M Q := MetA.of (by decide) (Nat.le_of_ble_eq_true rfl) h
def S_X9_sayText_0 (g : AG) (d : Nat) (M : AM) (Q : AM → Prop) : Prop := Wa g mX9_sayText d 0 [(0, vR 88)] [] M (QV Q)
def S_X9_sayText_2 (g : AG) (d : Nat) (l1 : Int) (M : AM) (Q : AM → Prop) : Prop := Wa g mX9_sayText d 2 [(0, vR 88), (1, vI l1)] [] M (QV Q)
set_option maxRecDepth 100000 in
theorem sg_X9_sayText_0 {g : AG} {d : Nat} {M : AM} {Q : AM → Prop} 
  (h : S_X9_sayText_2 g (d + 1) 0 M Q) : S_X9_sayText_0 g (d + 1) M Q := by
  show Wa _ _ _ _ _ _ _ _
  refine Wa_iconst (z := 0) dX9_sayText_0 ?_
  refine Wa_istore_n (ls' := [(1, vI 0), (0, vR 88)]) dX9_sayText_1 rfl (by decide) rfl ?_
  refine Wa_sub [1, 0] rfl ?_
  exact h
set_option maxRecDepth 100000 in
theorem sg_X9_sayText_2 {g : AG} {d : Nat} {l1 : Int} {M : AM} {Q : AM → Prop} 
  (h : rg l1 ∧ ((5 ≤ l1 → (MetL g mX9_allOf d [vR 88] M (fun z4 M3 => MetV g mX9_say d [vR 88, vL z4] M3 (fun M6 => Q M6)))) ∧ (¬ 5 ≤ l1 → (MetI g mX9_costOf d [vR 88, vI l1] M (fun z10 M9 => rg z10 → (MetV g mX9_say d [vR 88, vL z10] M9 (fun M12 => S_X9_sayText_2 g (d + 1) (l1 + 1) M12 Q))))))) : S_X9_sayText_2 g (d + 1) l1 M Q := by
  show Wa _ _ _ _ _ _ _ _
  refine Wa_iload_n 1 dX9_sayText_2 rfl rfl ?_
  refine Wa_iconst (z := 5) dX9_sayText_3 ?_
  obtain ⟨q1, h⟩ := h
  refine Wa_icmp_ge (tgt := 23) dX9_sayText_4 (by decide) q1 ⟨by decide, by decide⟩ (fun c2 => ?_) (fun c2 => ?_)
  · have h := h.1 c2
    refine Wa_aload_n 0 dX9_sayText_23 rfl rfl ?_
    refine Wa_aload_n 0 dX9_sayText_24 rfl rfl ?_
    refine Wa_callV [] _ cf_X9 rfl k_88 lc_X9_264 cv_X9_allOf rfl rfl (Nat.le_refl _) (Nat.le_of_ble_eq_true rfl) dX9_sayText_25 h ?_
    intro r M3 h
    obtain ⟨z4, rfl, h⟩ := h
    refine Wa_callV [vL z4] _ cf_X9 rfl k_88 lc_X9_300 cv_X9_say rfl rfl (Nat.le_refl _) (Nat.le_of_ble_eq_true rfl) dX9_sayText_28 h ?_
    intro r M6 h
    obtain ⟨rfl, h⟩ := h
    exact Wa_return dX9_sayText_31 rfl ⟨rfl, h⟩
  · have h := h.2 c2
    refine Wa_aload_n 0 dX9_sayText_7 rfl rfl ?_
    refine Wa_aload_n 0 dX9_sayText_8 rfl rfl ?_
    refine Wa_iload_n 1 dX9_sayText_9 rfl rfl ?_
    refine Wa_callV [vI l1] _ cf_X9 rfl k_88 lc_X9_258 cv_X9_costOf rfl rfl (Nat.le_refl _) (Nat.le_of_ble_eq_true rfl) dX9_sayText_10 h ?_
    intro r M9 h
    obtain ⟨z10, rfl, r11, h⟩ := h
    have h := h r11
    refine Wa_i2l dX9_sayText_13 r11 ?_
    refine Wa_callV [vL z10] _ cf_X9 rfl k_88 lc_X9_300 cv_X9_say rfl rfl (Nat.le_refl _) (Nat.le_of_ble_eq_true rfl) dX9_sayText_14 h ?_
    intro r M12 h
    obtain ⟨rfl, h⟩ := h
    refine Wa_iinc (ls' := [(1, vI (l1 + 1)), (0, vR 88)]) 1 dX9_sayText_17 rfl (by decide) rfl ?_
    refine Wa_goto (tgt := 2) dX9_sayText_20 (by decide) ?_
    refine Wa_sub [1, 0] rfl ?_
    exact h
theorem en_X9_sayText {g : AG} {d : Nat} {M : AM} {Q : AM → Prop} (h : S_X9_sayText_0 g d M Q) : MetV g mX9_sayText d [vR 88] M Q := MetA.of (by decide) (Nat.le_of_ble_eq_true rfl) h
def S_X9_digest_0 (g : AG) (d : Nat) (M : AM) (Q : Int → AM → Prop) : Prop := Wa g mX9_digest d 0 [(0, vR 88)] [] M (QL Q)
def S_X9_digest_9 (g : AG) (d : Nat) (l1 : Int) (M : AM) (Q : Int → AM → Prop) : Prop := Wa g mX9_digest d 9 [(0, vR 88), (1, vI l1)] [] M (QL Q)
def S_X9_digest_66 (g : AG) (d : Nat) (l1 : Int) (M : AM) (Q : Int → AM → Prop) : Prop := Wa g mX9_digest d 66 [(0, vR 88), (1, vI l1)] [] M (QL Q)
def S_X9_digest_16 (g : AG) (d : Nat) (l1 : Int) (l2 : Int) (M : AM) (Q : Int → AM → Prop) : Prop := Wa g mX9_digest d 16 [(0, vR 88), (1, vI l1), (2, vI l2)] [] M (QL Q)
def S_X9_digest_106 (g : AG) (d : Nat) (l1 : Int) (M : AM) (Q : Int → AM → Prop) : Prop := Wa g mX9_digest d 106 [(0, vR 88), (1, vI l1)] [] M (QL Q)
def S_X9_digest_28 (g : AG) (d : Nat) (l1 : Int) (l2 : Int) (l3 : Int) (M : AM) (Q : Int → AM → Prop) : Prop := Wa g mX9_digest d 28 [(0, vR 88), (1, vI l1), (2, vI l2), (3, vI l3)] [] M (QL Q)
def S_X9_digest_131 (g : AG) (d : Nat) (l1 : Int) (M : AM) (Q : Int → AM → Prop) : Prop := Wa g mX9_digest d 131 [(0, vR 88), (1, vI l1)] [] M (QL Q)
def S_X9_digest_158 (g : AG) (d : Nat) (l1 : Int) (M : AM) (Q : Int → AM → Prop) : Prop := Wa g mX9_digest d 158 [(0, vR 88), (1, vI l1)] [] M (QL Q)
set_option maxRecDepth 100000 in
theorem sg_X9_digest_0 {g : AG} {d : Nat} {M : AM} {Q : Int → AM → Prop} 
  (h : S_X9_digest_9 g (d + 1) 0 (mU M 88 32 1409) Q) : S_X9_digest_0 g (d + 1) M Q := by
  show Wa _ _ _ _ _ _ _ _
  refine Wa_aload_n 0 dX9_digest_0 rfl rfl ?_
  refine Wa_ldc2 (z := 1409) dX9_digest_1 kc_X9_304 ?_
  refine Wa_putL cf_X9 lk_X9_296 (by decide) rfl rfl dX9_digest_4 ?_
  refine Wa_iconst (z := 0) dX9_digest_7 ?_
  refine Wa_istore_n (ls' := [(1, vI 0), (0, vR 88)]) dX9_digest_8 rfl (by decide) rfl ?_
  refine Wa_sub [1, 0] rfl ?_
  exact h
set_option maxRecDepth 100000 in
theorem sg_X9_digest_9 {g : AG} {d : Nat} {l1 : Int} {M : AM} {Q : Int → AM → Prop} 
  (h : rg l1 ∧ ((2 ≤ l1 → (S_X9_digest_66 g (d + 1) 0 M Q)) ∧ (¬ 2 ≤ l1 → (S_X9_digest_16 g (d + 1) l1 0 M Q)))) : S_X9_digest_9 g (d + 1) l1 M Q := by
  show Wa _ _ _ _ _ _ _ _
  refine Wa_iload_n 1 dX9_digest_9 rfl rfl ?_
  refine Wa_iconst (z := 2) dX9_digest_10 ?_
  obtain ⟨q1, h⟩ := h
  refine Wa_icmp_ge (tgt := 64) dX9_digest_11 (by decide) q1 ⟨by decide, by decide⟩ (fun c2 => ?_) (fun c2 => ?_)
  · have h := h.1 c2
    refine Wa_iconst (z := 0) dX9_digest_64 ?_
    refine Wa_istore_n (ls' := [(1, vI 0), (0, vR 88)]) dX9_digest_65 rfl (by decide) rfl ?_
    refine Wa_sub [1, 0] rfl ?_
    exact h
  · have h := h.2 c2
    refine Wa_iconst (z := 0) dX9_digest_14 ?_
    refine Wa_istore_n (ls' := [(2, vI 0), (0, vR 88), (1, vI l1)]) dX9_digest_15 rfl (by decide) rfl ?_
    refine Wa_sub [1, 2, 0] rfl ?_
    exact h
set_option maxRecDepth 100000 in
theorem sg_X9_digest_66 {g : AG} {d : Nat} {l1 : Int} {M : AM} {Q : Int → AM → Prop} 
  (h : rg l1 ∧ (rg (5 * (M 88 22)) ∧ (((5 * (M 88 22)) ≤ l1 → (((M 88 9) = 0 → (S_X9_digest_106 g (d + 1) 0 M Q)) ∧ (¬ (M 88 9) = 0 → (MetV g mX9_sayText d [vR 88] M (fun M7 => S_X9_digest_106 g (d + 1) 0 M7 Q))))) ∧ (¬ (5 * (M 88 22)) ≤ l1 → ((0 ≤ l1 ∧ l1 < 80) ∧ (MetV g mX9_say d [vR 88, vL (M 101 (l1).toNat)] M (fun M12 => S_X9_digest_66 g (d + 1) (l1 + 1) M12 Q))))))) : S_X9_digest_66 g (d + 1) l1 M Q := by
  show Wa _ _ _ _ _ _ _ _
  refine Wa_iload_n 1 dX9_digest_66 rfl rfl ?_
  refine Wa_iconst (z := 5) dX9_digest_67 ?_
  refine Wa_aload_n 0 dX9_digest_68 rfl rfl ?_
  refine Wa_getI2 (v := (M 88 22)) cf_X9 lk_X9_197 k_88 (j := 22) rfl (by decide) rfl dX9_digest_69 (fun r1 => ?_)
  refine Wa_imul dX9_digest_72 ?_
  obtain ⟨q2, h⟩ := h
  obtain ⟨q3, h⟩ := h
  refine Wa_icmp_ge (tgt := 93) dX9_digest_73 (by decide) q2 q3 (fun c4 => ?_) (fun c4 => ?_)
  · have h := h.1 c4
    refine Wa_aload_n 0 dX9_digest_93 rfl rfl ?_
    refine Wa_getI2 (v := (M 88 9)) cf_X9 lk_X9_106 k_88 (j := 9) rfl (by decide) rfl dX9_digest_94 (fun r5 => ?_)
    refine Wa_if_eq (tgt := 104) dX9_digest_97 (by decide) r5 (fun c6 => ?_) (fun c6 => ?_)
    · have h := h.1 c6
      refine Wa_iconst (z := 0) dX9_digest_104 ?_
      refine Wa_istore_n (ls' := [(1, vI 0), (0, vR 88)]) dX9_digest_105 rfl (by decide) rfl ?_
      refine Wa_sub [1, 0] rfl ?_
      exact h
    · have h := h.2 c6
      refine Wa_aload_n 0 dX9_digest_100 rfl rfl ?_
      refine Wa_callV [] _ cf_X9 rfl k_88 lc_X9_306 cv_X9_sayText rfl rfl (Nat.le_refl _) (Nat.le_of_ble_eq_true rfl) dX9_digest_101 h ?_
      intro r M7 h
      obtain ⟨rfl, h⟩ := h
      refine Wa_iconst (z := 0) dX9_digest_104 ?_
      refine Wa_istore_n (ls' := [(1, vI 0), (0, vR 88)]) dX9_digest_105 rfl (by decide) rfl ?_
      refine Wa_sub [1, 0] rfl ?_
      exact h
  · have h := h.2 c4
    refine Wa_aload_n 0 dX9_digest_76 rfl rfl ?_
    refine Wa_aload_n 0 dX9_digest_77 rfl rfl ?_
    refine Wa_getR cf_X9 lk_X9_46 k_88 (j := 21) rfl (by decide) dX9_digest_78 ?_
    refine Wa_iload_n 1 dX9_digest_81 rfl rfl ?_
    obtain ⟨b10, h⟩ := h
    refine Wa_iald2 (v := (M 101 (l1).toNat)) k_101 b10 rfl dX9_digest_82 (fun r11 => ?_)
    refine Wa_i2l dX9_digest_83 r11 ?_
    refine Wa_callV [vL (M 101 (l1).toNat)] _ cf_X9 rfl k_88 lc_X9_300 cv_X9_say rfl rfl (Nat.le_refl _) (Nat.le_of_ble_eq_true rfl) dX9_digest_84 h ?_
    intro r M12 h
    obtain ⟨rfl, h⟩ := h
    refine Wa_iinc (ls' := [(1, vI (l1 + 1)), (0, vR 88)]) 1 dX9_digest_87 rfl (by decide) rfl ?_
    refine Wa_goto (tgt := 66) dX9_digest_90 (by decide) ?_
    refine Wa_sub [1, 0] rfl ?_
    exact h
set_option maxRecDepth 100000 in
theorem sg_X9_digest_16 {g : AG} {d : Nat} {l1 : Int} {l2 : Int} {M : AM} {Q : Int → AM → Prop} 
  (h : (0 ≤ l1 ∧ l1 < 2) ∧ (rg l2 ∧ (((M 93 (l1).toNat) ≤ l2 → (S_X9_digest_9 g (d + 1) (l1 + 1) M Q)) ∧ (¬ (M 93 (l1).toNat) ≤ l2 → (S_X9_digest_28 g (d + 1) l1 l2 0 M Q))))) : S_X9_digest_16 g (d + 1) l1 l2 M Q := by
  show Wa _ _ _ _ _ _ _ _
  refine Wa_iload_n 2 dX9_digest_16 rfl rfl ?_
  refine Wa_aload_n 0 dX9_digest_17 rfl rfl ?_
  refine Wa_getR cf_X9 lk_X9_22 k_88 (j := 8) rfl (by decide) dX9_digest_18 ?_
  refine Wa_iload_n 1 dX9_digest_21 rfl rfl ?_
  obtain ⟨b1, h⟩ := h
  refine Wa_iald2 (v := (M 93 (l1).toNat)) k_93 b1 rfl dX9_digest_22 (fun r2 => ?_)
  obtain ⟨q3, h⟩ := h
  refine Wa_icmp_ge (tgt := 58) dX9_digest_23 (by decide) q3 r2 (fun c4 => ?_) (fun c4 => ?_)
  · have h := h.1 c4
    refine Wa_iinc (ls' := [(1, vI (l1 + 1)), (0, vR 88), (2, vI l2)]) 1 dX9_digest_58 rfl (by decide) rfl ?_
    refine Wa_goto (tgt := 9) dX9_digest_61 (by decide) ?_
    refine Wa_sub [1, 0] rfl ?_
    exact h
  · have h := h.2 c4
    refine Wa_iconst (z := 0) dX9_digest_26 ?_
    refine Wa_istore_n (ls' := [(3, vI 0), (0, vR 88), (1, vI l1), (2, vI l2)]) dX9_digest_27 rfl (by decide) rfl ?_
    refine Wa_sub [1, 2, 3, 0] rfl ?_
    exact h
set_option maxRecDepth 100000 in
theorem sg_X9_digest_106 {g : AG} {d : Nat} {l1 : Int} {M : AM} {Q : Int → AM → Prop} 
  (h : rg l1 ∧ ((15 ≤ l1 → (S_X9_digest_131 g (d + 1) 0 M Q)) ∧ (¬ 15 ≤ l1 → ((0 ≤ l1 ∧ l1 < 15) ∧ (MetV g mX9_say d [vR 88, vL (M 103 (l1).toNat)] M (fun M5 => S_X9_digest_106 g (d + 1) (l1 + 1) M5 Q)))))) : S_X9_digest_106 g (d + 1) l1 M Q := by
  show Wa _ _ _ _ _ _ _ _
  refine Wa_iload_n 1 dX9_digest_106 rfl rfl ?_
  refine Wa_bipush (z := 15) dX9_digest_107 (by decide) ?_
  obtain ⟨q1, h⟩ := h
  refine Wa_icmp_ge (tgt := 129) dX9_digest_109 (by decide) q1 ⟨by decide, by decide⟩ (fun c2 => ?_) (fun c2 => ?_)
  · have h := h.1 c2
    refine Wa_iconst (z := 0) dX9_digest_129 ?_
    refine Wa_istore_n (ls' := [(1, vI 0), (0, vR 88)]) dX9_digest_130 rfl (by decide) rfl ?_
    refine Wa_sub [1, 0] rfl ?_
    exact h
  · have h := h.2 c2
    refine Wa_aload_n 0 dX9_digest_112 rfl rfl ?_
    refine Wa_aload_n 0 dX9_digest_113 rfl rfl ?_
    refine Wa_getR cf_X9 lk_X9_52 k_88 (j := 25) rfl (by decide) dX9_digest_114 ?_
    refine Wa_iload_n 1 dX9_digest_117 rfl rfl ?_
    obtain ⟨b3, h⟩ := h
    refine Wa_iald2 (v := (M 103 (l1).toNat)) k_103 b3 rfl dX9_digest_118 (fun r4 => ?_)
    refine Wa_i2l dX9_digest_119 r4 ?_
    refine Wa_callV [vL (M 103 (l1).toNat)] _ cf_X9 rfl k_88 lc_X9_300 cv_X9_say rfl rfl (Nat.le_refl _) (Nat.le_of_ble_eq_true rfl) dX9_digest_120 h ?_
    intro r M5 h
    obtain ⟨rfl, h⟩ := h
    refine Wa_iinc (ls' := [(1, vI (l1 + 1)), (0, vR 88)]) 1 dX9_digest_123 rfl (by decide) rfl ?_
    refine Wa_goto (tgt := 106) dX9_digest_126 (by decide) ?_
    refine Wa_sub [1, 0] rfl ?_
    exact h
set_option maxRecDepth 100000 in
theorem sg_X9_digest_28 {g : AG} {d : Nat} {l1 : Int} {l2 : Int} {l3 : Int} {M : AM} {Q : Int → AM → Prop} 
  (h : rg l3 ∧ ((6 ≤ l3 → (S_X9_digest_16 g (d + 1) l1 (l2 + 1) M Q)) ∧ (¬ 6 ≤ l3 → (rg l1 ∧ (rg l2 ∧ (MetI g mX9_tellLine d [vR 88, vI l1, vI l2, vI l3] M (fun z6 M5 => rg z6 → (MetV g mX9_say d [vR 88, vL z6] M5 (fun M8 => S_X9_digest_28 g (d + 1) l1 l2 (l3 + 1) M8 Q))))))))) : S_X9_digest_28 g (d + 1) l1 l2 l3 M Q := by
  show Wa _ _ _ _ _ _ _ _
  refine Wa_iload_n 3 dX9_digest_28 rfl rfl ?_
  refine Wa_bipush (z := 6) dX9_digest_29 (by decide) ?_
  obtain ⟨q1, h⟩ := h
  refine Wa_icmp_ge (tgt := 52) dX9_digest_31 (by decide) q1 ⟨by decide, by decide⟩ (fun c2 => ?_) (fun c2 => ?_)
  · have h := h.1 c2
    refine Wa_iinc (ls' := [(2, vI (l2 + 1)), (0, vR 88), (1, vI l1), (3, vI l3)]) 2 dX9_digest_52 rfl (by decide) rfl ?_
    refine Wa_goto (tgt := 16) dX9_digest_55 (by decide) ?_
    refine Wa_sub [1, 2, 0] rfl ?_
    exact h
  · have h := h.2 c2
    refine Wa_aload_n 0 dX9_digest_34 rfl rfl ?_
    refine Wa_aload_n 0 dX9_digest_35 rfl rfl ?_
    refine Wa_iload_n 1 dX9_digest_36 rfl rfl ?_
    refine Wa_iload_n 2 dX9_digest_37 rfl rfl ?_
    refine Wa_iload_n 3 dX9_digest_38 rfl rfl ?_
    obtain ⟨q3, h⟩ := h
    obtain ⟨q4, h⟩ := h
    refine Wa_callV [vI l1, vI l2, vI l3] _ cf_X9 rfl k_88 lc_X9_233 cv_X9_tellLine rfl rfl (Nat.le_refl _) (Nat.le_of_ble_eq_true rfl) dX9_digest_39 h ?_
    intro r M5 h
    obtain ⟨z6, rfl, r7, h⟩ := h
    have h := h r7
    refine Wa_i2l dX9_digest_42 r7 ?_
    refine Wa_callV [vL z6] _ cf_X9 rfl k_88 lc_X9_300 cv_X9_say rfl rfl (Nat.le_refl _) (Nat.le_of_ble_eq_true rfl) dX9_digest_43 h ?_
    intro r M8 h
    obtain ⟨rfl, h⟩ := h
    refine Wa_iinc (ls' := [(3, vI (l3 + 1)), (0, vR 88), (1, vI l1), (2, vI l2)]) 3 dX9_digest_46 rfl (by decide) rfl ?_
    refine Wa_goto (tgt := 28) dX9_digest_49 (by decide) ?_
    refine Wa_sub [1, 2, 3, 0] rfl ?_
    exact h
set_option maxRecDepth 100000 in
theorem sg_X9_digest_131 {g : AG} {d : Nat} {l1 : Int} {M : AM} {Q : Int → AM → Prop} 
  (h : rg l1 ∧ (((M 88 1) ≤ l1 → (S_X9_digest_158 g (d + 1) 0 M Q)) ∧ (¬ (M 88 1) ≤ l1 → ((0 ≤ l1 ∧ l1 < 64) ∧ (MetV g mX9_say d [vR 88, vL (M 89 (l1).toNat)] M (fun M6 => S_X9_digest_131 g (d + 1) (l1 + 1) M6 Q)))))) : S_X9_digest_131 g (d + 1) l1 M Q := by
  show Wa _ _ _ _ _ _ _ _
  refine Wa_iload_n 1 dX9_digest_131 rfl rfl ?_
  refine Wa_aload_n 0 dX9_digest_132 rfl rfl ?_
  refine Wa_getI2 (v := (M 88 1)) cf_X9 lk_X9_77 k_88 (j := 1) rfl (by decide) rfl dX9_digest_133 (fun r1 => ?_)
  obtain ⟨q2, h⟩ := h
  refine Wa_icmp_ge (tgt := 156) dX9_digest_136 (by decide) q2 r1 (fun c3 => ?_) (fun c3 => ?_)
  · have h := h.1 c3
    refine Wa_iconst (z := 0) dX9_digest_156 ?_
    refine Wa_istore_n (ls' := [(1, vI 0), (0, vR 88)]) dX9_digest_157 rfl (by decide) rfl ?_
    refine Wa_sub [1, 0] rfl ?_
    exact h
  · have h := h.2 c3
    refine Wa_aload_n 0 dX9_digest_139 rfl rfl ?_
    refine Wa_aload_n 0 dX9_digest_140 rfl rfl ?_
    refine Wa_getR cf_X9 lk_X9_7 k_88 (j := 0) rfl (by decide) dX9_digest_141 ?_
    refine Wa_iload_n 1 dX9_digest_144 rfl rfl ?_
    obtain ⟨b4, h⟩ := h
    refine Wa_iald2 (v := (M 89 (l1).toNat)) k_89 b4 rfl dX9_digest_145 (fun r5 => ?_)
    refine Wa_i2l dX9_digest_146 r5 ?_
    refine Wa_callV [vL (M 89 (l1).toNat)] _ cf_X9 rfl k_88 lc_X9_300 cv_X9_say rfl rfl (Nat.le_refl _) (Nat.le_of_ble_eq_true rfl) dX9_digest_147 h ?_
    intro r M6 h
    obtain ⟨rfl, h⟩ := h
    refine Wa_iinc (ls' := [(1, vI (l1 + 1)), (0, vR 88)]) 1 dX9_digest_150 rfl (by decide) rfl ?_
    refine Wa_goto (tgt := 131) dX9_digest_153 (by decide) ?_
    refine Wa_sub [1, 0] rfl ?_
    exact h
set_option maxRecDepth 100000 in
theorem sg_X9_digest_158 {g : AG} {d : Nat} {l1 : Int} {M : AM} {Q : Int → AM → Prop} 
  (h : rg l1 ∧ ((11 ≤ l1 → (Q (M 88 32) M)) ∧ (¬ 11 ≤ l1 → (MetI g mX9_countOf d [vR 88, vI l1] M (fun z4 M3 => rg z4 → (MetV g mX9_say d [vR 88, vL z4] M3 (fun M6 => S_X9_digest_158 g (d + 1) (l1 + 1) M6 Q))))))) : S_X9_digest_158 g (d + 1) l1 M Q := by
  show Wa _ _ _ _ _ _ _ _
  refine Wa_iload_n 1 dX9_digest_158 rfl rfl ?_
  refine Wa_bipush (z := 11) dX9_digest_159 (by decide) ?_
  obtain ⟨q1, h⟩ := h
  refine Wa_icmp_ge (tgt := 180) dX9_digest_161 (by decide) q1 ⟨by decide, by decide⟩ (fun c2 => ?_) (fun c2 => ?_)
  · have h := h.1 c2
    refine Wa_aload_n 0 dX9_digest_180 rfl rfl ?_
    refine Wa_getL cf_X9 lk_X9_296 k_88 (j := 32) rfl (by decide) dX9_digest_181 ?_
    exact Wa_lreturn dX9_digest_184 rfl ⟨_, rfl, h⟩
  · have h := h.2 c2
    refine Wa_aload_n 0 dX9_digest_164 rfl rfl ?_
    refine Wa_aload_n 0 dX9_digest_165 rfl rfl ?_
    refine Wa_iload_n 1 dX9_digest_166 rfl rfl ?_
    refine Wa_callV [vI l1] _ cf_X9 rfl k_88 lc_X9_291 cv_X9_countOf rfl rfl (Nat.le_refl _) (Nat.le_of_ble_eq_true rfl) dX9_digest_167 h ?_
    intro r M3 h
    obtain ⟨z4, rfl, r5, h⟩ := h
    have h := h r5
    refine Wa_i2l dX9_digest_170 r5 ?_
    refine Wa_callV [vL z4] _ cf_X9 rfl k_88 lc_X9_300 cv_X9_say rfl rfl (Nat.le_refl _) (Nat.le_of_ble_eq_true rfl) dX9_digest_171 h ?_
    intro r M6 h
    obtain ⟨rfl, h⟩ := h
    refine Wa_iinc (ls' := [(1, vI (l1 + 1)), (0, vR 88)]) 1 dX9_digest_174 rfl (by decide) rfl ?_
    refine Wa_goto (tgt := 158) dX9_digest_177 (by decide) ?_
    refine Wa_sub [1, 0] rfl ?_
    exact h
theorem en_X9_digest {g : AG} {d : Nat} {M : AM} {Q : Int → AM → Prop} (h : S_X9_digest_0 g d M Q) : MetL g mX9_digest d [vR 88] M Q := MetA.of (by decide) (Nat.le_of_ble_eq_true rfl) h
