def S_X9_in_0 (g : AG) (d : Nat) (l0 : Int) (l2 : Int) (l4 : Int) (M : AM) (Q : Int → AM → Prop) : Prop := Wa g mX9_in d 0 [(0, vL l0), (2, vL l2), (4, vL l4)] [] M (QI Q)
set_option maxRecDepth 100000 in
theorem sg_X9_in_0 {g : AG} {d : Nat} {l0 : Int} {l2 : Int} {l4 : Int} {M : AM} {Q : Int → AM → Prop} 
  (h : ((lCmp l0 l2) < 0 → (Q 0 M)) ∧ (¬ (lCmp l0 l2) < 0 → ((0 < (lCmp l0 l4) → (Q 0 M)) ∧ (¬ 0 < (lCmp l0 l4) → (Q 1 M))))) : S_X9_in_0 g (d + 1) l0 l2 l4 M Q := by
  show Wa _ _ _ _ _ _ _ _
  refine Wa_lload_n 0 dX9_in_0 rfl rfl ?_
  refine Wa_lload_n 1 dX9_in_1 rfl rfl ?_
  refine Wa_lcmp dX9_in_2 ?_
  refine Wa_if_lt (tgt := 17) dX9_in_3 (by decide) (rg_toInt _) (fun c1 => ?_) (fun c1 => ?_)
  · have h := h.1 c1
    refine Wa_iconst (z := 0) dX9_in_17 ?_
    exact Wa_zreturn dX9_in_18 rfl (by decide) ⟨_, rfl, rg_bool (by decide), h⟩
  · have h := h.2 c1
    refine Wa_lload_n 0 dX9_in_6 rfl rfl ?_
    refine Wa_lload 2 dX9_in_7 rfl ?_
    refine Wa_lcmp dX9_in_9 ?_
    refine Wa_if_gt (tgt := 17) dX9_in_10 (by decide) (rg_toInt _) (fun c2 => ?_) (fun c2 => ?_)
    · have h := h.1 c2
      refine Wa_iconst (z := 0) dX9_in_17 ?_
      exact Wa_zreturn dX9_in_18 rfl (by decide) ⟨_, rfl, rg_bool (by decide), h⟩
    · have h := h.2 c2
      refine Wa_iconst (z := 1) dX9_in_13 ?_
      refine Wa_goto (tgt := 18) dX9_in_14 (by decide) ?_
      exact Wa_zreturn dX9_in_18 rfl (by decide) ⟨_, rfl, rg_bool (by decide), h⟩
theorem en_X9_in {g : AG} {d : Nat} {l0 : Int} {l2 : Int} {l4 : Int} {M : AM} {Q : Int → AM → Prop} (h : S_X9_in_0 g d l0 l2 l4 M Q) : MetI g mX9_in d [vL l0, vL l2, vL l4] M Q := MetA.of (by decide) (Nat.le_of_ble_eq_true rfl) h
def S_X9_copy_0 (g : AG) (d : Nat) (a1 : Nat) (n1 : Nat) (a2 : Nat) (n2 : Nat) (M : AM) (Q : AM → Prop) : Prop := Wa g mX9_copy d 0 [(0, vR a1), (1, vR a2)] [] M (QV Q)
def S_X9_copy_2 (g : AG) (d : Nat) (a1 : Nat) (n1 : Nat) (a2 : Nat) (n2 : Nat) (l2 : Int) (M : AM) (Q : AM → Prop) : Prop := Wa g mX9_copy d 2 [(0, vR a1), (1, vR a2), (2, vI l2)] [] M (QV Q)
set_option maxRecDepth 100000 in
theorem sg_X9_copy_0 {g : AG} {d : Nat} {a1 : Nat} {n1 : Nat} {a2 : Nat} {n2 : Nat} {M : AM} {Q : AM → Prop} (ha1 : KD[a1]? = some (.inr (.inl n1))) (ha2 : KD[a2]? = some (.inr (.inl n2)))
  (h : S_X9_copy_2 g (d + 1) a1 n1 a2 n2 0 M Q) : S_X9_copy_0 g (d + 1) a1 n1 a2 n2 M Q := by
  show Wa _ _ _ _ _ _ _ _
  refine Wa_iconst (z := 0) dX9_copy_0 ?_
  refine Wa_istore_n (ls' := [(2, vI 0), (0, vR a1), (1, vR a2)]) dX9_copy_1 rfl (by decide) rfl ?_
  refine Wa_sub [1, 2, 0] rfl ?_
  exact h
set_option maxRecDepth 100000 in
theorem sg_X9_copy_2 {g : AG} {d : Nat} {a1 : Nat} {n1 : Nat} {a2 : Nat} {n2 : Nat} {l2 : Int} {M : AM} {Q : AM → Prop} (ha1 : KD[a1]? = some (.inr (.inl n1))) (ha2 : KD[a2]? = some (.inr (.inl n2)))
  (h : rg l2 ∧ (rg (n1 : Int) ∧ (((n1 : Int) ≤ l2 → (Q M)) ∧ (¬ (n1 : Int) ≤ l2 → ((0 ≤ l2 ∧ l2 < n1) ∧ ((0 ≤ l2 ∧ l2 < n2) ∧ (S_X9_copy_2 g (d + 1) a1 n1 a2 n2 (l2 + 1) (mU M a2 (l2).toNat (M a1 (l2).toNat)) Q))))))) : S_X9_copy_2 g (d + 1) a1 n1 a2 n2 l2 M Q := by
  show Wa _ _ _ _ _ _ _ _
  refine Wa_iload_n 2 dX9_copy_2 rfl rfl ?_
  refine Wa_aload_n 0 dX9_copy_3 rfl rfl ?_
  refine Wa_alen ha1 dX9_copy_4 ?_
  obtain ⟨q1, h⟩ := h
  obtain ⟨q2, h⟩ := h
  refine Wa_icmp_ge (tgt := 20) dX9_copy_5 (by decide) q1 q2 (fun c3 => ?_) (fun c3 => ?_)
  · have h := h.1 c3
    exact Wa_return dX9_copy_20 rfl ⟨rfl, h⟩
  · have h := h.2 c3
    refine Wa_aload_n 1 dX9_copy_8 rfl rfl ?_
    refine Wa_iload_n 2 dX9_copy_9 rfl rfl ?_
    refine Wa_aload_n 0 dX9_copy_10 rfl rfl ?_
    refine Wa_iload_n 2 dX9_copy_11 rfl rfl ?_
    obtain ⟨b4, h⟩ := h
    refine Wa_iald2 (v := (M a1 (l2).toNat)) ha1 b4 rfl dX9_copy_12 (fun r5 => ?_)
    obtain ⟨b6, h⟩ := h
    refine Wa_iast ha2 b6 r5 dX9_copy_13 ?_
    refine Wa_iinc (ls' := [(2, vI (l2 + 1)), (0, vR a1), (1, vR a2)]) 2 dX9_copy_14 rfl (by decide) rfl ?_
    refine Wa_goto (tgt := 2) dX9_copy_17 (by decide) ?_
    refine Wa_sub [1, 2, 0] rfl ?_
    exact h
theorem en_X9_copy {g : AG} {d : Nat} {a1 : Nat} {n1 : Nat} {a2 : Nat} {n2 : Nat} {M : AM} {Q : AM → Prop} (h : S_X9_copy_0 g d a1 n1 a2 n2 M Q) : MetV g mX9_copy d [vR a1, vR a2] M Q := MetA.of (by decide) (Nat.le_of_ble_eq_true rfl) h
def S_X9_letter_0 (g : AG) (d : Nat) (l1 : Int) (M : AM) (Q : Int → AM → Prop) : Prop := Wa g mX9_letter d 0 [(0, vR 88), (1, vI l1)] [] M (QI Q)
set_option maxRecDepth 100000 in
theorem sg_X9_letter_0 {g : AG} {d : Nat} {l1 : Int} {M : AM} {Q : Int → AM → Prop} 
  (h : rg l1 ∧ (MetI g mX9_in d [vL l1, vL 1, vL 126] M (fun z3 M2 => rg z3 → ((¬ z3 = 0 → ((¬ (M2 88 1) = 64 → ((0 ≤ (M2 88 1) ∧ (M2 88 1) < 64) ∧ (rg ((M2 88 1) + 1) ∧ (Q ((M2 88 1) + 1) (mU (mU M2 89 ((M2 88 1)).toNat l1) 88 1 ((M2 88 1) + 1)))))) ∧ ((M2 88 1) = 64 → (Q (-104) M2)))) ∧ (z3 = 0 → (Q (-102) M2)))))) : S_X9_letter_0 g (d + 1) l1 M Q := by
  show Wa _ _ _ _ _ _ _ _
  refine Wa_iload_n 1 dX9_letter_0 rfl rfl ?_
  obtain ⟨q1, h⟩ := h
  refine Wa_i2l dX9_letter_1 q1 ?_
  refine Wa_lconst (v := 1) dX9_letter_2 rfl ?_
  refine Wa_ldc2 (z := 126) dX9_letter_3 kc_X9_71 ?_
  refine Wa_callS [vL l1, vL 1, vL 126] _ lc_X9_73 cs_X9_in rfl rfl (Nat.le_refl _) (Nat.le_of_ble_eq_true rfl) dX9_letter_6 h ?_
  intro r M2 h
  obtain ⟨z3, rfl, r4, h⟩ := h
  have h := h r4
  refine Wa_if_ne (tgt := 15) dX9_letter_9 (by decide) r4 (fun c5 => ?_) (fun c5 => ?_)
  · have h := h.1 c5
    refine Wa_aload_n 0 dX9_letter_15 rfl rfl ?_
    refine Wa_getI2 (v := (M2 88 1)) cf_X9 lk_X9_77 k_88 (j := 1) rfl (by decide) rfl dX9_letter_16 (fun r6 => ?_)
    refine Wa_bipush (z := 64) dX9_letter_19 (by decide) ?_
    refine Wa_icmp_ne (tgt := 27) dX9_letter_21 (by decide) r6 ⟨by decide, by decide⟩ (fun c7 => ?_) (fun c7 => ?_)
    · have h := h.1 c7
      refine Wa_aload_n 0 dX9_letter_27 rfl rfl ?_
      refine Wa_getR cf_X9 lk_X9_7 k_88 (j := 0) rfl (by decide) dX9_letter_28 ?_
      refine Wa_aload_n 0 dX9_letter_31 rfl rfl ?_
      refine Wa_getI2 (v := (M2 88 1)) cf_X9 lk_X9_77 k_88 (j := 1) rfl (by decide) rfl dX9_letter_32 (fun r8 => ?_)
      refine Wa_iload_n 1 dX9_letter_35 rfl rfl ?_
      obtain ⟨b9, h⟩ := h
      refine Wa_iast k_89 b9 q1 dX9_letter_36 ?_
      refine Wa_aload_n 0 dX9_letter_37 rfl rfl ?_
      refine Wa_dup dX9_letter_38 rfl ?_
      refine Wa_getI2 (v := (M2 88 1)) cf_X9 lk_X9_77 k_88 (j := 1) rfl (by decide) (mU_rd (by decide)) dX9_letter_39 (fun r10 => ?_)
      refine Wa_iconst (z := 1) dX9_letter_42 ?_
      refine Wa_iadd dX9_letter_43 ?_
      obtain ⟨q11, h⟩ := h
      refine Wa_putI cf_X9 lk_X9_77 k_88 (j := 1) rfl (by decide) rfl rfl q11 dX9_letter_44 ?_
      refine Wa_aload_n 0 dX9_letter_47 rfl rfl ?_
      refine Wa_getI2 (v := ((M2 88 1) + 1)) cf_X9 lk_X9_77 k_88 (j := 1) rfl (by decide) mU_at dX9_letter_48 (fun r12 => ?_)
      exact Wa_ireturn dX9_letter_51 rfl ⟨_, rfl, r12, h⟩
    · have h := h.2 c7
      refine Wa_bipush (z := (-104)) dX9_letter_24 (by decide) ?_
      exact Wa_ireturn dX9_letter_26 rfl ⟨_, rfl, ⟨by decide, by decide⟩, h⟩
  · have h := h.2 c5
    refine Wa_bipush (z := (-102)) dX9_letter_12 (by decide) ?_
    exact Wa_ireturn dX9_letter_14 rfl ⟨_, rfl, ⟨by decide, by decide⟩, h⟩
theorem en_X9_letter {g : AG} {d : Nat} {l1 : Int} {M : AM} {Q : Int → AM → Prop} (h : S_X9_letter_0 g d l1 M Q) : MetI g mX9_letter d [vR 88, vI l1] M Q := MetA.of (by decide) (Nat.le_of_ble_eq_true rfl) h
def S_X9_blank_0 (g : AG) (d : Nat) (M : AM) (Q : Int → AM → Prop) : Prop := Wa g mX9_blank d 0 [(0, vR 88)] [] M (QI Q)
set_option maxRecDepth 100000 in
theorem sg_X9_blank_0 {g : AG} {d : Nat} {M : AM} {Q : Int → AM → Prop} 
  (h : Q (M 88 1) (mU M 88 1 0)) : S_X9_blank_0 g (d + 1) M Q := by
  show Wa _ _ _ _ _ _ _ _
  refine Wa_aload_n 0 dX9_blank_0 rfl rfl ?_
  refine Wa_getI2 (v := (M 88 1)) cf_X9 lk_X9_77 k_88 (j := 1) rfl (by decide) rfl dX9_blank_1 (fun r1 => ?_)
  refine Wa_istore_n (ls' := [(1, vI (M 88 1)), (0, vR 88)]) dX9_blank_4 rfl (by decide) rfl ?_
  refine Wa_aload_n 1 dX9_blank_5 rfl rfl ?_
  refine Wa_iconst (z := 0) dX9_blank_6 ?_
  refine Wa_putI cf_X9 lk_X9_77 k_88 (j := 1) rfl (by decide) rfl rfl ⟨by decide, by decide⟩ dX9_blank_7 ?_
  refine Wa_iload_n 0 dX9_blank_10 rfl rfl ?_
  exact Wa_ireturn dX9_blank_11 rfl ⟨_, rfl, r1, h⟩
theorem en_X9_blank {g : AG} {d : Nat} {M : AM} {Q : Int → AM → Prop} (h : S_X9_blank_0 g d M Q) : MetI g mX9_blank d [vR 88] M Q := MetA.of (by decide) (Nat.le_of_ble_eq_true rfl) h
def S_X9_isGood_0 (g : AG) (d : Nat) (l1 : Int) (M : AM) (Q : Int → AM → Prop) : Prop := Wa g mX9_isGood d 0 [(0, vR 88), (1, vI l1)] [] M (QI Q)
def S_X9_isGood_57 (g : AG) (d : Nat) (l1 : Int) (M : AM) (Q : Int → AM → Prop) : Prop := Wa g mX9_isGood d 57 [(0, vR 88), (1, vI l1)] [] M (QI Q)
set_option maxRecDepth 100000 in
theorem sg_X9_isGood_0 {g : AG} {d : Nat} {l1 : Int} {M : AM} {Q : Int → AM → Prop} 
  (h : rg l1 ∧ (MetI g mX9_in d [vL l1, vL 97, vL 101] M (fun z3 M2 => rg z3 → ((z3 = 0 → ((¬ l1 = 44 → ((¬ l1 = 59 → (Q 0 (mU (mU M2 88 2 1) 88 3 0))) ∧ (l1 = 59 → ((¬ (M2 88 2) = 0 → (Q 0 (mU (mU M2 88 2 1) 88 3 0))) ∧ ((M2 88 2) = 0 → ((0 < (M2 88 3) → (Q 1 (mU (mU M2 88 2 1) 88 3 0))) ∧ (¬ 0 < (M2 88 3) → ((¬ (M2 90 0) = 0 → (Q 0 (mU (mU M2 88 2 1) 88 3 0))) ∧ ((M2 90 0) = 0 → (Q 1 (mU (mU M2 88 2 1) 88 3 0))))))))))) ∧ (l1 = 44 → (((M2 88 3) ≤ 0 → (Q 0 (mU (mU M2 88 3 0) 88 6 1))) ∧ (¬ (M2 88 3) ≤ 0 → ((0 ≤ (M2 88 2) ∧ (M2 88 2) < 2) ∧ ((8 ≤ (M2 90 ((M2 88 2)).toNat) → (Q 0 (mU (mU M2 88 3 0) 88 6 1))) ∧ (¬ 8 ≤ (M2 90 ((M2 88 2)).toNat) → (Q 1 (mU (mU M2 88 3 0) 88 6 1)))))))))) ∧ (¬ z3 = 0 → ((¬ (M2 88 3) = 0 → (S_X9_isGood_57 g (d + 1) l1 M2 Q)) ∧ ((M2 88 3) = 0 → ((0 ≤ (M2 88 2) ∧ (M2 88 2) < 2) ∧ ((0 ≤ ((16 * (M2 88 2)) + (M2 90 ((M2 88 2)).toNat)) ∧ ((16 * (M2 88 2)) + (M2 90 ((M2 88 2)).toNat)) < 32) ∧ (rg ((M2 90 ((M2 88 2)).toNat) + 1) ∧ (S_X9_isGood_57 g (d + 1) l1 (mU (mU M2 91 (((16 * (M2 88 2)) + (M2 90 ((M2 88 2)).toNat))).toNat 0) 90 ((M2 88 2)).toNat ((M2 90 ((M2 88 2)).toNat) + 1)) Q))))))))))) : S_X9_isGood_0 g (d + 1) l1 M Q := by
  show Wa _ _ _ _ _ _ _ _
  refine Wa_iload_n 1 dX9_isGood_0 rfl rfl ?_
  obtain ⟨q1, h⟩ := h
  refine Wa_i2l dX9_isGood_1 q1 ?_
  refine Wa_ldc2 (z := 97) dX9_isGood_2 kc_X9_80 ?_
  refine Wa_ldc2 (z := 101) dX9_isGood_5 kc_X9_82 ?_
  refine Wa_callS [vL l1, vL 97, vL 101] _ lc_X9_73 cs_X9_in rfl rfl (Nat.le_refl _) (Nat.le_of_ble_eq_true rfl) dX9_isGood_8 h ?_
  intro r M2 h
  obtain ⟨z3, rfl, r4, h⟩ := h
  have h := h r4
  refine Wa_if_eq (tgt := 119) dX9_isGood_11 (by decide) r4 (fun c5 => ?_) (fun c5 => ?_)
  · have h := h.1 c5
    refine Wa_iload_n 1 dX9_isGood_119 rfl rfl ?_
    refine Wa_bipush (z := 44) dX9_isGood_120 (by decide) ?_
    refine Wa_icmp_ne (tgt := 164) dX9_isGood_122 (by decide) q1 ⟨by decide, by decide⟩ (fun c6 => ?_) (fun c6 => ?_)
    · have h := h.1 c6
      refine Wa_iload_n 1 dX9_isGood_164 rfl rfl ?_
      refine Wa_bipush (z := 59) dX9_isGood_165 (by decide) ?_
      refine Wa_icmp_ne (tgt := 197) dX9_isGood_167 (by decide) q1 ⟨by decide, by decide⟩ (fun c7 => ?_) (fun c7 => ?_)
      · have h := h.1 c7
        refine Wa_iconst (z := 0) dX9_isGood_197 ?_
        refine Wa_istore_n (ls' := [(2, vI 0), (0, vR 88), (1, vI l1)]) dX9_isGood_198 rfl (by decide) rfl ?_
        refine Wa_aload_n 1 dX9_isGood_199 rfl rfl ?_
        refine Wa_iconst (z := 1) dX9_isGood_200 ?_
        refine Wa_putI cf_X9 lk_X9_87 k_88 (j := 2) rfl (by decide) rfl rfl ⟨by decide, by decide⟩ dX9_isGood_201 ?_
        refine Wa_aload_n 1 dX9_isGood_204 rfl rfl ?_
        refine Wa_iconst (z := 0) dX9_isGood_205 ?_
        refine Wa_putI cf_X9 lk_X9_84 k_88 (j := 3) rfl (by decide) rfl rfl ⟨by decide, by decide⟩ dX9_isGood_206 ?_
        refine Wa_iload_n 0 dX9_isGood_209 rfl rfl ?_
        exact Wa_zreturn dX9_isGood_210 rfl (by decide) ⟨_, rfl, rg_bool (by decide), h⟩
      · have h := h.2 c7
        refine Wa_aload_n 0 dX9_isGood_170 rfl rfl ?_
        refine Wa_getI2 (v := (M2 88 2)) cf_X9 lk_X9_87 k_88 (j := 2) rfl (by decide) rfl dX9_isGood_171 (fun r8 => ?_)
        refine Wa_if_ne (tgt := 197) dX9_isGood_174 (by decide) r8 (fun c9 => ?_) (fun c9 => ?_)
        · have h := h.1 c9
          refine Wa_iconst (z := 0) dX9_isGood_197 ?_
          refine Wa_istore_n (ls' := [(2, vI 0), (0, vR 88), (1, vI l1)]) dX9_isGood_198 rfl (by decide) rfl ?_
          refine Wa_aload_n 1 dX9_isGood_199 rfl rfl ?_
          refine Wa_iconst (z := 1) dX9_isGood_200 ?_
          refine Wa_putI cf_X9 lk_X9_87 k_88 (j := 2) rfl (by decide) rfl rfl ⟨by decide, by decide⟩ dX9_isGood_201 ?_
          refine Wa_aload_n 1 dX9_isGood_204 rfl rfl ?_
          refine Wa_iconst (z := 0) dX9_isGood_205 ?_
          refine Wa_putI cf_X9 lk_X9_84 k_88 (j := 3) rfl (by decide) rfl rfl ⟨by decide, by decide⟩ dX9_isGood_206 ?_
          refine Wa_iload_n 0 dX9_isGood_209 rfl rfl ?_
          exact Wa_zreturn dX9_isGood_210 rfl (by decide) ⟨_, rfl, rg_bool (by decide), h⟩
        · have h := h.2 c9
          refine Wa_aload_n 0 dX9_isGood_177 rfl rfl ?_
          refine Wa_getI2 (v := (M2 88 3)) cf_X9 lk_X9_84 k_88 (j := 3) rfl (by decide) rfl dX9_isGood_178 (fun r10 => ?_)
          refine Wa_if_gt (tgt := 193) dX9_isGood_181 (by decide) r10 (fun c11 => ?_) (fun c11 => ?_)
          · have h := h.1 c11
            refine Wa_iconst (z := 1) dX9_isGood_193 ?_
            refine Wa_goto (tgt := 198) dX9_isGood_194 (by decide) ?_
            refine Wa_istore_n (ls' := [(2, vI 1), (0, vR 88), (1, vI l1)]) dX9_isGood_198 rfl (by decide) rfl ?_
            refine Wa_aload_n 1 dX9_isGood_199 rfl rfl ?_
            refine Wa_iconst (z := 1) dX9_isGood_200 ?_
            refine Wa_putI cf_X9 lk_X9_87 k_88 (j := 2) rfl (by decide) rfl rfl ⟨by decide, by decide⟩ dX9_isGood_201 ?_
            refine Wa_aload_n 1 dX9_isGood_204 rfl rfl ?_
            refine Wa_iconst (z := 0) dX9_isGood_205 ?_
            refine Wa_putI cf_X9 lk_X9_84 k_88 (j := 3) rfl (by decide) rfl rfl ⟨by decide, by decide⟩ dX9_isGood_206 ?_
            refine Wa_iload_n 0 dX9_isGood_209 rfl rfl ?_
            exact Wa_zreturn dX9_isGood_210 rfl (by decide) ⟨_, rfl, rg_bool (by decide), h⟩
          · have h := h.2 c11
            refine Wa_aload_n 0 dX9_isGood_184 rfl rfl ?_
            refine Wa_getR cf_X9 lk_X9_13 k_88 (j := 4) rfl (by decide) dX9_isGood_185 ?_
            refine Wa_iconst (z := 0) dX9_isGood_188 ?_
            refine Wa_iald2 (v := (M2 90 0)) k_90 ⟨by decide, by decide⟩ rfl dX9_isGood_189 (fun r12 => ?_)
            refine Wa_if_ne (tgt := 197) dX9_isGood_190 (by decide) r12 (fun c13 => ?_) (fun c13 => ?_)
            · have h := h.1 c13
              refine Wa_iconst (z := 0) dX9_isGood_197 ?_
              refine Wa_istore_n (ls' := [(2, vI 0), (0, vR 88), (1, vI l1)]) dX9_isGood_198 rfl (by decide) rfl ?_
              refine Wa_aload_n 1 dX9_isGood_199 rfl rfl ?_
              refine Wa_iconst (z := 1) dX9_isGood_200 ?_
              refine Wa_putI cf_X9 lk_X9_87 k_88 (j := 2) rfl (by decide) rfl rfl ⟨by decide, by decide⟩ dX9_isGood_201 ?_
              refine Wa_aload_n 1 dX9_isGood_204 rfl rfl ?_
              refine Wa_iconst (z := 0) dX9_isGood_205 ?_
              refine Wa_putI cf_X9 lk_X9_84 k_88 (j := 3) rfl (by decide) rfl rfl ⟨by decide, by decide⟩ dX9_isGood_206 ?_
              refine Wa_iload_n 0 dX9_isGood_209 rfl rfl ?_
              exact Wa_zreturn dX9_isGood_210 rfl (by decide) ⟨_, rfl, rg_bool (by decide), h⟩
            · have h := h.2 c13
              refine Wa_iconst (z := 1) dX9_isGood_193 ?_
              refine Wa_goto (tgt := 198) dX9_isGood_194 (by decide) ?_
              refine Wa_istore_n (ls' := [(2, vI 1), (0, vR 88), (1, vI l1)]) dX9_isGood_198 rfl (by decide) rfl ?_
              refine Wa_aload_n 1 dX9_isGood_199 rfl rfl ?_
              refine Wa_iconst (z := 1) dX9_isGood_200 ?_
              refine Wa_putI cf_X9 lk_X9_87 k_88 (j := 2) rfl (by decide) rfl rfl ⟨by decide, by decide⟩ dX9_isGood_201 ?_
              refine Wa_aload_n 1 dX9_isGood_204 rfl rfl ?_
              refine Wa_iconst (z := 0) dX9_isGood_205 ?_
              refine Wa_putI cf_X9 lk_X9_84 k_88 (j := 3) rfl (by decide) rfl rfl ⟨by decide, by decide⟩ dX9_isGood_206 ?_
              refine Wa_iload_n 0 dX9_isGood_209 rfl rfl ?_
              exact Wa_zreturn dX9_isGood_210 rfl (by decide) ⟨_, rfl, rg_bool (by decide), h⟩
    · have h := h.2 c6
      refine Wa_aload_n 0 dX9_isGood_125 rfl rfl ?_
      refine Wa_getI2 (v := (M2 88 3)) cf_X9 lk_X9_84 k_88 (j := 3) rfl (by decide) rfl dX9_isGood_126 (fun r14 => ?_)
      refine Wa_if_le (tgt := 150) dX9_isGood_129 (by decide) r14 (fun c15 => ?_) (fun c15 => ?_)
      · have h := h.1 c15
        refine Wa_iconst (z := 0) dX9_isGood_150 ?_
        refine Wa_istore_n (ls' := [(2, vI 0), (0, vR 88), (1, vI l1)]) dX9_isGood_151 rfl (by decide) rfl ?_
        refine Wa_aload_n 1 dX9_isGood_152 rfl rfl ?_
        refine Wa_iconst (z := 0) dX9_isGood_153 ?_
        refine Wa_putI cf_X9 lk_X9_84 k_88 (j := 3) rfl (by decide) rfl rfl ⟨by decide, by decide⟩ dX9_isGood_154 ?_
        refine Wa_aload_n 1 dX9_isGood_157 rfl rfl ?_
        refine Wa_iconst (z := 1) dX9_isGood_158 ?_
        refine Wa_putZ cf_X9 lk_X9_90 k_88 (j := 6) rfl (by decide) rfl rfl (by decide) dX9_isGood_159 ?_
        refine Wa_iload_n 0 dX9_isGood_162 rfl rfl ?_
        exact Wa_zreturn dX9_isGood_163 rfl (by decide) ⟨_, rfl, rg_bool (by decide), h⟩
      · have h := h.2 c15
        refine Wa_aload_n 0 dX9_isGood_132 rfl rfl ?_
        refine Wa_getR cf_X9 lk_X9_13 k_88 (j := 4) rfl (by decide) dX9_isGood_133 ?_
        refine Wa_aload_n 0 dX9_isGood_136 rfl rfl ?_
        refine Wa_getI2 (v := (M2 88 2)) cf_X9 lk_X9_87 k_88 (j := 2) rfl (by decide) rfl dX9_isGood_137 (fun r16 => ?_)
        obtain ⟨b17, h⟩ := h
        refine Wa_iald2 (v := (M2 90 ((M2 88 2)).toNat)) k_90 b17 rfl dX9_isGood_140 (fun r18 => ?_)
        refine Wa_bipush (z := 8) dX9_isGood_141 (by decide) ?_
        refine Wa_icmp_ge (tgt := 150) dX9_isGood_143 (by decide) r18 ⟨by decide, by decide⟩ (fun c19 => ?_) (fun c19 => ?_)
        · have h := h.1 c19
          refine Wa_iconst (z := 0) dX9_isGood_150 ?_
          refine Wa_istore_n (ls' := [(2, vI 0), (0, vR 88), (1, vI l1)]) dX9_isGood_151 rfl (by decide) rfl ?_
          refine Wa_aload_n 1 dX9_isGood_152 rfl rfl ?_
          refine Wa_iconst (z := 0) dX9_isGood_153 ?_
          refine Wa_putI cf_X9 lk_X9_84 k_88 (j := 3) rfl (by decide) rfl rfl ⟨by decide, by decide⟩ dX9_isGood_154 ?_
          refine Wa_aload_n 1 dX9_isGood_157 rfl rfl ?_
          refine Wa_iconst (z := 1) dX9_isGood_158 ?_
          refine Wa_putZ cf_X9 lk_X9_90 k_88 (j := 6) rfl (by decide) rfl rfl (by decide) dX9_isGood_159 ?_
          refine Wa_iload_n 0 dX9_isGood_162 rfl rfl ?_
          exact Wa_zreturn dX9_isGood_163 rfl (by decide) ⟨_, rfl, rg_bool (by decide), h⟩
        · have h := h.2 c19
          refine Wa_iconst (z := 1) dX9_isGood_146 ?_
          refine Wa_goto (tgt := 151) dX9_isGood_147 (by decide) ?_
          refine Wa_istore_n (ls' := [(2, vI 1), (0, vR 88), (1, vI l1)]) dX9_isGood_151 rfl (by decide) rfl ?_
          refine Wa_aload_n 1 dX9_isGood_152 rfl rfl ?_
          refine Wa_iconst (z := 0) dX9_isGood_153 ?_
          refine Wa_putI cf_X9 lk_X9_84 k_88 (j := 3) rfl (by decide) rfl rfl ⟨by decide, by decide⟩ dX9_isGood_154 ?_
          refine Wa_aload_n 1 dX9_isGood_157 rfl rfl ?_
          refine Wa_iconst (z := 1) dX9_isGood_158 ?_
          refine Wa_putZ cf_X9 lk_X9_90 k_88 (j := 6) rfl (by decide) rfl rfl (by decide) dX9_isGood_159 ?_
          refine Wa_iload_n 0 dX9_isGood_162 rfl rfl ?_
          exact Wa_zreturn dX9_isGood_163 rfl (by decide) ⟨_, rfl, rg_bool (by decide), h⟩
  · have h := h.2 c5
    refine Wa_aload_n 0 dX9_isGood_14 rfl rfl ?_
    refine Wa_getI2 (v := (M2 88 3)) cf_X9 lk_X9_84 k_88 (j := 3) rfl (by decide) rfl dX9_isGood_15 (fun r20 => ?_)
    refine Wa_if_ne (tgt := 57) dX9_isGood_18 (by decide) r20 (fun c21 => ?_) (fun c21 => ?_)
    · have h := h.1 c21
      refine Wa_sub [0, 1] rfl ?_
      exact h
    · have h := h.2 c21
      refine Wa_aload_n 0 dX9_isGood_21 rfl rfl ?_
      refine Wa_getR cf_X9 lk_X9_16 k_88 (j := 5) rfl (by decide) dX9_isGood_22 ?_
      refine Wa_bipush (z := 16) dX9_isGood_25 (by decide) ?_
      refine Wa_aload_n 0 dX9_isGood_27 rfl rfl ?_
      refine Wa_getI2 (v := (M2 88 2)) cf_X9 lk_X9_87 k_88 (j := 2) rfl (by decide) rfl dX9_isGood_28 (fun r22 => ?_)
      refine Wa_imul dX9_isGood_31 ?_
      refine Wa_aload_n 0 dX9_isGood_32 rfl rfl ?_
      refine Wa_getR cf_X9 lk_X9_13 k_88 (j := 4) rfl (by decide) dX9_isGood_33 ?_
      refine Wa_aload_n 0 dX9_isGood_36 rfl rfl ?_
      refine Wa_getI2 (v := (M2 88 2)) cf_X9 lk_X9_87 k_88 (j := 2) rfl (by decide) rfl dX9_isGood_37 (fun r23 => ?_)
      obtain ⟨b24, h⟩ := h
      refine Wa_iald2 (v := (M2 90 ((M2 88 2)).toNat)) k_90 b24 rfl dX9_isGood_40 (fun r25 => ?_)
      refine Wa_iadd dX9_isGood_41 ?_
      refine Wa_iconst (z := 0) dX9_isGood_42 ?_
      obtain ⟨b26, h⟩ := h
      refine Wa_iast k_91 b26 ⟨by decide, by decide⟩ dX9_isGood_43 ?_
      refine Wa_aload_n 0 dX9_isGood_44 rfl rfl ?_
      refine Wa_getR cf_X9 lk_X9_13 k_88 (j := 4) rfl (by decide) dX9_isGood_45 ?_
      refine Wa_aload_n 0 dX9_isGood_48 rfl rfl ?_
      refine Wa_getI2 (v := (M2 88 2)) cf_X9 lk_X9_87 k_88 (j := 2) rfl (by decide) (mU_rd (by decide)) dX9_isGood_49 (fun r27 => ?_)
      refine Wa_dup2 dX9_isGood_52 rfl rfl ?_
      refine Wa_iald2 (v := (M2 90 ((M2 88 2)).toNat)) k_90 b24 (mU_rd (by decide)) dX9_isGood_53 (fun r28 => ?_)
      refine Wa_iconst (z := 1) dX9_isGood_54 ?_
      refine Wa_iadd dX9_isGood_55 ?_
      obtain ⟨q29, h⟩ := h
      refine Wa_iast k_90 b24 q29 dX9_isGood_56 ?_
      refine Wa_sub [0, 1] rfl ?_
      exact h
set_option maxRecDepth 100000 in
theorem sg_X9_isGood_57 {g : AG} {d : Nat} {l1 : Int} {M : AM} {Q : Int → AM → Prop} 
  (h : (0 ≤ (M 88 2) ∧ (M 88 2) < 2) ∧ ((0 ≤ (((16 * (M 88 2)) + (M 90 ((M 88 2)).toNat)) - 1) ∧ (((16 * (M 88 2)) + (M 90 ((M 88 2)).toNat)) - 1) < 32) ∧ (rg ((128 * (M 91 ((((16 * (M 88 2)) + (M 90 ((M 88 2)).toNat)) - 1)).toNat)) + l1) ∧ (rg ((M 88 3) + 1) ∧ ((3 < ((M 88 3) + 1) → (Q 0 (mU (mU M 91 ((((16 * (M 88 2)) + (M 90 ((M 88 2)).toNat)) - 1)).toNat ((128 * (M 91 ((((16 * (M 88 2)) + (M 90 ((M 88 2)).toNat)) - 1)).toNat)) + l1)) 88 3 ((M 88 3) + 1)))) ∧ (¬ 3 < ((M 88 3) + 1) → (Q 1 (mU (mU M 91 ((((16 * (M 88 2)) + (M 90 ((M 88 2)).toNat)) - 1)).toNat ((128 * (M 91 ((((16 * (M 88 2)) + (M 90 ((M 88 2)).toNat)) - 1)).toNat)) + l1)) 88 3 ((M 88 3) + 1))))))))) : S_X9_isGood_57 g (d + 1) l1 M Q := by
  show Wa _ _ _ _ _ _ _ _
  refine Wa_bipush (z := 16) dX9_isGood_57 (by decide) ?_
  refine Wa_aload_n 0 dX9_isGood_59 rfl rfl ?_
  refine Wa_getI2 (v := (M 88 2)) cf_X9 lk_X9_87 k_88 (j := 2) rfl (by decide) rfl dX9_isGood_60 (fun r1 => ?_)
  refine Wa_imul dX9_isGood_63 ?_
  refine Wa_aload_n 0 dX9_isGood_64 rfl rfl ?_
  refine Wa_getR cf_X9 lk_X9_13 k_88 (j := 4) rfl (by decide) dX9_isGood_65 ?_
  refine Wa_aload_n 0 dX9_isGood_68 rfl rfl ?_
  refine Wa_getI2 (v := (M 88 2)) cf_X9 lk_X9_87 k_88 (j := 2) rfl (by decide) rfl dX9_isGood_69 (fun r2 => ?_)
  obtain ⟨b3, h⟩ := h
  refine Wa_iald2 (v := (M 90 ((M 88 2)).toNat)) k_90 b3 rfl dX9_isGood_72 (fun r4 => ?_)
  refine Wa_iadd dX9_isGood_73 ?_
  refine Wa_iconst (z := 1) dX9_isGood_74 ?_
  refine Wa_isub dX9_isGood_75 ?_
  refine Wa_istore_n (ls' := [(2, vI (((16 * (M 88 2)) + (M 90 ((M 88 2)).toNat)) - 1)), (0, vR 88), (1, vI l1)]) dX9_isGood_76 rfl (by decide) rfl ?_
  refine Wa_aload_n 1 dX9_isGood_77 rfl rfl ?_
  refine Wa_getR cf_X9 lk_X9_16 k_88 (j := 5) rfl (by decide) dX9_isGood_78 ?_
  refine Wa_iload_n 0 dX9_isGood_81 rfl rfl ?_
  refine Wa_sipush (z := 128) dX9_isGood_82 (by decide) ?_
  refine Wa_aload_n 1 dX9_isGood_85 rfl rfl ?_
  refine Wa_getR cf_X9 lk_X9_16 k_88 (j := 5) rfl (by decide) dX9_isGood_86 ?_
  refine Wa_iload_n 0 dX9_isGood_89 rfl rfl ?_
  obtain ⟨b5, h⟩ := h
  refine Wa_iald2 (v := (M 91 ((((16 * (M 88 2)) + (M 90 ((M 88 2)).toNat)) - 1)).toNat)) k_91 b5 rfl dX9_isGood_90 (fun r6 => ?_)
  refine Wa_imul dX9_isGood_91 ?_
  refine Wa_iload_n 2 dX9_isGood_92 rfl rfl ?_
  refine Wa_iadd dX9_isGood_93 ?_
  obtain ⟨q7, h⟩ := h
  refine Wa_iast k_91 b5 q7 dX9_isGood_94 ?_
  refine Wa_aload_n 1 dX9_isGood_95 rfl rfl ?_
  refine Wa_dup dX9_isGood_96 rfl ?_
  refine Wa_getI2 (v := (M 88 3)) cf_X9 lk_X9_84 k_88 (j := 3) rfl (by decide) (mU_rd (by decide)) dX9_isGood_97 (fun r8 => ?_)
  refine Wa_iconst (z := 1) dX9_isGood_100 ?_
  refine Wa_iadd dX9_isGood_101 ?_
  obtain ⟨q9, h⟩ := h
  refine Wa_putI cf_X9 lk_X9_84 k_88 (j := 3) rfl (by decide) rfl rfl q9 dX9_isGood_102 ?_
  refine Wa_aload_n 1 dX9_isGood_105 rfl rfl ?_
  refine Wa_getI2 (v := ((M 88 3) + 1)) cf_X9 lk_X9_84 k_88 (j := 3) rfl (by decide) mU_at dX9_isGood_106 (fun r10 => ?_)
  refine Wa_iconst (z := 3) dX9_isGood_109 ?_
  refine Wa_icmp_gt (tgt := 117) dX9_isGood_110 (by decide) r10 ⟨by decide, by decide⟩ (fun c11 => ?_) (fun c11 => ?_)
  · have h := h.1 c11
    refine Wa_iconst (z := 0) dX9_isGood_117 ?_
    exact Wa_zreturn dX9_isGood_118 rfl (by decide) ⟨_, rfl, rg_bool (by decide), h⟩
  · have h := h.2 c11
    refine Wa_iconst (z := 1) dX9_isGood_113 ?_
    refine Wa_goto (tgt := 118) dX9_isGood_114 (by decide) ?_
    exact Wa_zreturn dX9_isGood_118 rfl (by decide) ⟨_, rfl, rg_bool (by decide), h⟩
theorem en_X9_isGood {g : AG} {d : Nat} {l1 : Int} {M : AM} {Q : Int → AM → Prop} (h : S_X9_isGood_0 g d l1 M Q) : MetI g mX9_isGood d [vR 88, vI l1] M Q := MetA.of (by decide) (Nat.le_of_ble_eq_true rfl) h
def S_X9_faultOf_0 (g : AG) (d : Nat) (M : AM) (Q : Int → AM → Prop) : Prop := Wa g mX9_faultOf d 0 [(0, vR 88)] [] M (QI Q)
def S_X9_faultOf_28 (g : AG) (d : Nat) (l1 : Int) (l2 : Int) (M : AM) (Q : Int → AM → Prop) : Prop := Wa g mX9_faultOf d 28 [(0, vR 88), (1, vI l1), (2, vI l2)] [] M (QI Q)
set_option maxRecDepth 100000 in
theorem sg_X9_faultOf_0 {g : AG} {d : Nat} {M : AM} {Q : Int → AM → Prop} 
  (h : S_X9_faultOf_28 g (d + 1) 0 1 (mU (mU (mU (mU M 88 2 0) 88 3 0) 90 0 0) 90 1 0) Q) : S_X9_faultOf_0 g (d + 1) M Q := by
  show Wa _ _ _ _ _ _ _ _
  refine Wa_aload_n 0 dX9_faultOf_0 rfl rfl ?_
  refine Wa_iconst (z := 0) dX9_faultOf_1 ?_
  refine Wa_putI cf_X9 lk_X9_87 k_88 (j := 2) rfl (by decide) rfl rfl ⟨by decide, by decide⟩ dX9_faultOf_2 ?_
  refine Wa_aload_n 0 dX9_faultOf_5 rfl rfl ?_
  refine Wa_iconst (z := 0) dX9_faultOf_6 ?_
  refine Wa_putI cf_X9 lk_X9_84 k_88 (j := 3) rfl (by decide) rfl rfl ⟨by decide, by decide⟩ dX9_faultOf_7 ?_
  refine Wa_aload_n 0 dX9_faultOf_10 rfl rfl ?_
  refine Wa_getR cf_X9 lk_X9_13 k_88 (j := 4) rfl (by decide) dX9_faultOf_11 ?_
  refine Wa_iconst (z := 0) dX9_faultOf_14 ?_
  refine Wa_iconst (z := 0) dX9_faultOf_15 ?_
  refine Wa_iast k_90 ⟨by decide, by decide⟩ ⟨by decide, by decide⟩ dX9_faultOf_16 ?_
  refine Wa_aload_n 0 dX9_faultOf_17 rfl rfl ?_
  refine Wa_getR cf_X9 lk_X9_13 k_88 (j := 4) rfl (by decide) dX9_faultOf_18 ?_
  refine Wa_iconst (z := 1) dX9_faultOf_21 ?_
  refine Wa_iconst (z := 0) dX9_faultOf_22 ?_
  refine Wa_iast k_90 ⟨by decide, by decide⟩ ⟨by decide, by decide⟩ dX9_faultOf_23 ?_
  refine Wa_iconst (z := 0) dX9_faultOf_24 ?_
  refine Wa_istore_n (ls' := [(1, vI 0), (0, vR 88)]) dX9_faultOf_25 rfl (by decide) rfl ?_
  refine Wa_iconst (z := 1) dX9_faultOf_26 ?_
  refine Wa_istore_n (ls' := [(2, vI 1), (1, vI 0), (0, vR 88)]) dX9_faultOf_27 rfl (by decide) rfl ?_
  refine Wa_sub [2, 1, 0] rfl ?_
  exact h
set_option maxRecDepth 100000 in
theorem sg_X9_faultOf_28 {g : AG} {d : Nat} {l1 : Int} {l2 : Int} {M : AM} {Q : Int → AM → Prop} 
  (h : rg l1 ∧ (((M 88 1) ≤ l1 → (Q l1 M)) ∧ (¬ (M 88 1) ≤ l1 → (rg l2 ∧ ((l2 = 0 → (Q l1 M)) ∧ (¬ l2 = 0 → ((0 ≤ l1 ∧ l1 < 64) ∧ (MetI g mX9_isGood d [vR 88, vI (M 89 (l1).toNat)] (mU M 88 6 0) (fun z9 M8 => rg z9 → ((z9 = 0 → (S_X9_faultOf_28 g (d + 1) (l1 + 0) z9 M8 Q)) ∧ (¬ z9 = 0 → (S_X9_faultOf_28 g (d + 1) (l1 + 1) z9 M8 Q)))))))))))) : S_X9_faultOf_28 g (d + 1) l1 l2 M Q := by
  show Wa _ _ _ _ _ _ _ _
  refine Wa_iload_n 1 dX9_faultOf_28 rfl rfl ?_
  refine Wa_aload_n 0 dX9_faultOf_29 rfl rfl ?_
  refine Wa_getI2 (v := (M 88 1)) cf_X9 lk_X9_77 k_88 (j := 1) rfl (by decide) rfl dX9_faultOf_30 (fun r1 => ?_)
  obtain ⟨q2, h⟩ := h
  refine Wa_icmp_ge (tgt := 71) dX9_faultOf_33 (by decide) q2 r1 (fun c3 => ?_) (fun c3 => ?_)
  · have h := h.1 c3
    refine Wa_iload_n 1 dX9_faultOf_71 rfl rfl ?_
    exact Wa_ireturn dX9_faultOf_72 rfl ⟨_, rfl, q2, h⟩
  · have h := h.2 c3
    refine Wa_iload_n 2 dX9_faultOf_36 rfl rfl ?_
    obtain ⟨q4, h⟩ := h
    refine Wa_if_eq (tgt := 71) dX9_faultOf_37 (by decide) q4 (fun c5 => ?_) (fun c5 => ?_)
    · have h := h.1 c5
      refine Wa_iload_n 1 dX9_faultOf_71 rfl rfl ?_
      exact Wa_ireturn dX9_faultOf_72 rfl ⟨_, rfl, q2, h⟩
    · have h := h.2 c5
      refine Wa_aload_n 0 dX9_faultOf_40 rfl rfl ?_
      refine Wa_iconst (z := 0) dX9_faultOf_41 ?_
      refine Wa_putZ cf_X9 lk_X9_90 k_88 (j := 6) rfl (by decide) rfl rfl (by decide) dX9_faultOf_42 ?_
      refine Wa_aload_n 0 dX9_faultOf_45 rfl rfl ?_
      refine Wa_aload_n 0 dX9_faultOf_46 rfl rfl ?_
      refine Wa_getR cf_X9 lk_X9_7 k_88 (j := 0) rfl (by decide) dX9_faultOf_47 ?_
      refine Wa_iload_n 1 dX9_faultOf_50 rfl rfl ?_
      obtain ⟨b6, h⟩ := h
      refine Wa_iald2 (v := (M 89 (l1).toNat)) k_89 b6 (mU_rd (by decide)) dX9_faultOf_51 (fun r7 => ?_)
      refine Wa_callV [vI (M 89 (l1).toNat)] _ cf_X9 rfl k_88 lc_X9_94 cv_X9_isGood rfl rfl (Nat.le_refl _) (Nat.le_of_ble_eq_true rfl) dX9_faultOf_52 h ?_
      intro r M8 h
      obtain ⟨z9, rfl, r10, h⟩ := h
      have h := h r10
      refine Wa_istore_n (ls' := [(2, vI z9), (0, vR 88), (1, vI l1)]) dX9_faultOf_55 rfl (by decide) rfl ?_
      refine Wa_iload_n 2 dX9_faultOf_56 rfl rfl ?_
      refine Wa_iload_n 0 dX9_faultOf_57 rfl rfl ?_
      refine Wa_if_eq (tgt := 65) dX9_faultOf_58 (by decide) r10 (fun c11 => ?_) (fun c11 => ?_)
      · have h := h.1 c11
        refine Wa_iconst (z := 0) dX9_faultOf_65 ?_
        refine Wa_iadd dX9_faultOf_66 ?_
        refine Wa_istore_n (ls' := [(1, vI (l1 + 0)), (2, vI z9), (0, vR 88)]) dX9_faultOf_67 rfl (by decide) rfl ?_
        refine Wa_goto (tgt := 28) dX9_faultOf_68 (by decide) ?_
        refine Wa_sub [2, 0, 1] rfl ?_
        exact h
      · have h := h.2 c11
        refine Wa_iconst (z := 1) dX9_faultOf_61 ?_
        refine Wa_goto (tgt := 66) dX9_faultOf_62 (by decide) ?_
        refine Wa_iadd dX9_faultOf_66 ?_
        refine Wa_istore_n (ls' := [(1, vI (l1 + 1)), (2, vI z9), (0, vR 88)]) dX9_faultOf_67 rfl (by decide) rfl ?_
        refine Wa_goto (tgt := 28) dX9_faultOf_68 (by decide) ?_
        refine Wa_sub [2, 0, 1] rfl ?_
        exact h
theorem en_X9_faultOf {g : AG} {d : Nat} {M : AM} {Q : Int → AM → Prop} (h : S_X9_faultOf_0 g d M Q) : MetI g mX9_faultOf d [vR 88] M Q := MetA.of (by decide) (Nat.le_of_ble_eq_true rfl) h
def S_X9_fault_0 (g : AG) (d : Nat) (M : AM) (Q : Int → AM → Prop) : Prop := Wa g mX9_fault d 0 [(0, vR 88)] [] M (QI Q)
set_option maxRecDepth 100000 in
theorem sg_X9_fault_0 {g : AG} {d : Nat} {M : AM} {Q : Int → AM → Prop} 
  (h : MetI g mX9_faultOf d [vR 88] M (fun z2 M1 => rg z2 → (Q z2 M1))) : S_X9_fault_0 g (d + 1) M Q := by
  show Wa _ _ _ _ _ _ _ _
  refine Wa_aload_n 0 dX9_fault_0 rfl rfl ?_
  refine Wa_callV [] _ cf_X9 rfl k_88 lc_X9_98 cv_X9_faultOf rfl rfl (Nat.le_refl _) (Nat.le_of_ble_eq_true rfl) dX9_fault_1 h ?_
  intro r M1 h
  obtain ⟨z2, rfl, r3, h⟩ := h
  have h := h r3
  exact Wa_ireturn dX9_fault_4 rfl ⟨_, rfl, r3, h⟩
theorem en_X9_fault {g : AG} {d : Nat} {M : AM} {Q : Int → AM → Prop} (h : S_X9_fault_0 g d M Q) : MetI g mX9_fault d [vR 88] M Q := MetA.of (by decide) (Nat.le_of_ble_eq_true rfl) h
def S_X9_text_0 (g : AG) (d : Nat) (M : AM) (Q : Int → AM → Prop) : Prop := Wa g mX9_text d 0 [(0, vR 88)] [] M (QI Q)
set_option maxRecDepth 100000 in
theorem sg_X9_text_0 {g : AG} {d : Nat} {M : AM} {Q : Int → AM → Prop} 
  (h : MetI g mX9_faultOf d [vR 88] M (fun z2 M1 => rg z2 → ((z2 < (M1 88 1) → (Q (-103) M1)) ∧ (¬ z2 < (M1 88 1) → (((M1 88 2) = 0 → (Q (-103) M1)) ∧ (¬ (M1 88 2) = 0 → (((M1 88 1) ≤ 0 → (MetV g mX9_copy d [vR 91, vR 92] M1 (fun M10 => MetV g mX9_copy d [vR 90, vR 93] M10 (fun M13 => rg ((M13 88 10) + 1) ∧ (MetV g mX9_layScript d [vR 88] (mU (mU (mU M13 88 9 1) 88 10 ((M13 88 10) + 1)) 88 1 0) (fun M18 => rg ((M18 93 0) + (M18 93 1)) ∧ (Q ((M18 93 0) + (M18 93 1)) M18))))))) ∧ (¬ (M1 88 1) ≤ 0 → (((M1 88 6) = 0 → (MetV g mX9_copy d [vR 91, vR 92] M1 (fun M26 => MetV g mX9_copy d [vR 90, vR 93] M26 (fun M29 => rg ((M29 88 10) + 1) ∧ (MetV g mX9_layScript d [vR 88] (mU (mU (mU M29 88 9 1) 88 10 ((M29 88 10) + 1)) 88 1 0) (fun M34 => rg ((M34 93 0) + (M34 93 1)) ∧ (Q ((M34 93 0) + (M34 93 1)) M34))))))) ∧ (¬ (M1 88 6) = 0 → (Q (-103) M1))))))))))) : S_X9_text_0 g (d + 1) M Q := by
  show Wa _ _ _ _ _ _ _ _
  refine Wa_aload_n 0 dX9_text_0 rfl rfl ?_
  refine Wa_callV [] _ cf_X9 rfl k_88 lc_X9_98 cv_X9_faultOf rfl rfl (Nat.le_refl _) (Nat.le_of_ble_eq_true rfl) dX9_text_1 h ?_
  intro r M1 h
  obtain ⟨z2, rfl, r3, h⟩ := h
  have h := h r3
  refine Wa_aload_n 0 dX9_text_4 rfl rfl ?_
  refine Wa_getI2 (v := (M1 88 1)) cf_X9 lk_X9_77 k_88 (j := 1) rfl (by decide) rfl dX9_text_5 (fun r4 => ?_)
  refine Wa_icmp_lt (tgt := 32) dX9_text_8 (by decide) r3 r4 (fun c5 => ?_) (fun c5 => ?_)
  · have h := h.1 c5
    refine Wa_bipush (z := (-103)) dX9_text_32 (by decide) ?_
    exact Wa_ireturn dX9_text_34 rfl ⟨_, rfl, ⟨by decide, by decide⟩, h⟩
  · have h := h.2 c5
    refine Wa_aload_n 0 dX9_text_11 rfl rfl ?_
    refine Wa_getI2 (v := (M1 88 2)) cf_X9 lk_X9_87 k_88 (j := 2) rfl (by decide) rfl dX9_text_12 (fun r6 => ?_)
    refine Wa_if_eq (tgt := 32) dX9_text_15 (by decide) r6 (fun c7 => ?_) (fun c7 => ?_)
    · have h := h.1 c7
      refine Wa_bipush (z := (-103)) dX9_text_32 (by decide) ?_
      exact Wa_ireturn dX9_text_34 rfl ⟨_, rfl, ⟨by decide, by decide⟩, h⟩
    · have h := h.2 c7
      refine Wa_aload_n 0 dX9_text_18 rfl rfl ?_
      refine Wa_getI2 (v := (M1 88 1)) cf_X9 lk_X9_77 k_88 (j := 1) rfl (by decide) rfl dX9_text_19 (fun r8 => ?_)
      refine Wa_if_le (tgt := 35) dX9_text_22 (by decide) r8 (fun c9 => ?_) (fun c9 => ?_)
      · have h := h.1 c9
        refine Wa_aload_n 0 dX9_text_35 rfl rfl ?_
        refine Wa_getR cf_X9 lk_X9_16 k_88 (j := 5) rfl (by decide) dX9_text_36 ?_
        refine Wa_aload_n 0 dX9_text_39 rfl rfl ?_
        refine Wa_getR cf_X9 lk_X9_19 k_88 (j := 7) rfl (by decide) dX9_text_40 ?_
        refine Wa_callS [vR 91, vR 92] _ lc_X9_102 cs_X9_copy rfl rfl (Nat.le_refl _) (Nat.le_of_ble_eq_true rfl) dX9_text_43 h ?_
        intro r M10 h
        obtain ⟨rfl, h⟩ := h
        refine Wa_aload_n 0 dX9_text_46 rfl rfl ?_
        refine Wa_getR cf_X9 lk_X9_13 k_88 (j := 4) rfl (by decide) dX9_text_47 ?_
        refine Wa_aload_n 0 dX9_text_50 rfl rfl ?_
        refine Wa_getR cf_X9 lk_X9_22 k_88 (j := 8) rfl (by decide) dX9_text_51 ?_
        refine Wa_callS [vR 90, vR 93] _ lc_X9_102 cs_X9_copy rfl rfl (Nat.le_refl _) (Nat.le_of_ble_eq_true rfl) dX9_text_54 h ?_
        intro r M13 h
        obtain ⟨rfl, h⟩ := h
        refine Wa_aload_n 0 dX9_text_57 rfl rfl ?_
        refine Wa_iconst (z := 1) dX9_text_58 ?_
        refine Wa_putZ cf_X9 lk_X9_106 k_88 (j := 9) rfl (by decide) rfl rfl (by decide) dX9_text_59 ?_
        refine Wa_aload_n 0 dX9_text_62 rfl rfl ?_
        refine Wa_dup dX9_text_63 rfl ?_
        refine Wa_getI2 (v := (M13 88 10)) cf_X9 lk_X9_109 k_88 (j := 10) rfl (by decide) (mU_nej (by decide)) dX9_text_64 (fun r16 => ?_)
        refine Wa_iconst (z := 1) dX9_text_67 ?_
        refine Wa_iadd dX9_text_68 ?_
        obtain ⟨q17, h⟩ := h
        refine Wa_putI cf_X9 lk_X9_109 k_88 (j := 10) rfl (by decide) rfl rfl q17 dX9_text_69 ?_
        refine Wa_aload_n 0 dX9_text_72 rfl rfl ?_
        refine Wa_iconst (z := 0) dX9_text_73 ?_
        refine Wa_putI cf_X9 lk_X9_77 k_88 (j := 1) rfl (by decide) rfl rfl ⟨by decide, by decide⟩ dX9_text_74 ?_
        refine Wa_aload_n 0 dX9_text_77 rfl rfl ?_
        refine Wa_callV [] _ cf_X9 rfl k_88 lc_X9_112 cv_X9_layScript rfl rfl (Nat.le_refl _) (Nat.le_of_ble_eq_true rfl) dX9_text_78 h ?_
        intro r M18 h
        obtain ⟨rfl, h⟩ := h
        refine Wa_aload_n 0 dX9_text_81 rfl rfl ?_
        refine Wa_getR cf_X9 lk_X9_22 k_88 (j := 8) rfl (by decide) dX9_text_82 ?_
        refine Wa_iconst (z := 0) dX9_text_85 ?_
        refine Wa_iald2 (v := (M18 93 0)) k_93 ⟨by decide, by decide⟩ rfl dX9_text_86 (fun r21 => ?_)
        refine Wa_aload_n 0 dX9_text_87 rfl rfl ?_
        refine Wa_getR cf_X9 lk_X9_22 k_88 (j := 8) rfl (by decide) dX9_text_88 ?_
        refine Wa_iconst (z := 1) dX9_text_91 ?_
        refine Wa_iald2 (v := (M18 93 1)) k_93 ⟨by decide, by decide⟩ rfl dX9_text_92 (fun r22 => ?_)
        refine Wa_iadd dX9_text_93 ?_
        obtain ⟨q23, h⟩ := h
        exact Wa_ireturn dX9_text_94 rfl ⟨_, rfl, q23, h⟩
      · have h := h.2 c9
        refine Wa_aload_n 0 dX9_text_25 rfl rfl ?_
        refine Wa_getI2 (v := (M1 88 6)) cf_X9 lk_X9_90 k_88 (j := 6) rfl (by decide) rfl dX9_text_26 (fun r24 => ?_)
        refine Wa_if_eq (tgt := 35) dX9_text_29 (by decide) r24 (fun c25 => ?_) (fun c25 => ?_)
        · have h := h.1 c25
          refine Wa_aload_n 0 dX9_text_35 rfl rfl ?_
          refine Wa_getR cf_X9 lk_X9_16 k_88 (j := 5) rfl (by decide) dX9_text_36 ?_
          refine Wa_aload_n 0 dX9_text_39 rfl rfl ?_
          refine Wa_getR cf_X9 lk_X9_19 k_88 (j := 7) rfl (by decide) dX9_text_40 ?_
          refine Wa_callS [vR 91, vR 92] _ lc_X9_102 cs_X9_copy rfl rfl (Nat.le_refl _) (Nat.le_of_ble_eq_true rfl) dX9_text_43 h ?_
          intro r M26 h
          obtain ⟨rfl, h⟩ := h
          refine Wa_aload_n 0 dX9_text_46 rfl rfl ?_
          refine Wa_getR cf_X9 lk_X9_13 k_88 (j := 4) rfl (by decide) dX9_text_47 ?_
          refine Wa_aload_n 0 dX9_text_50 rfl rfl ?_
          refine Wa_getR cf_X9 lk_X9_22 k_88 (j := 8) rfl (by decide) dX9_text_51 ?_
          refine Wa_callS [vR 90, vR 93] _ lc_X9_102 cs_X9_copy rfl rfl (Nat.le_refl _) (Nat.le_of_ble_eq_true rfl) dX9_text_54 h ?_
          intro r M29 h
          obtain ⟨rfl, h⟩ := h
          refine Wa_aload_n 0 dX9_text_57 rfl rfl ?_
          refine Wa_iconst (z := 1) dX9_text_58 ?_
          refine Wa_putZ cf_X9 lk_X9_106 k_88 (j := 9) rfl (by decide) rfl rfl (by decide) dX9_text_59 ?_
          refine Wa_aload_n 0 dX9_text_62 rfl rfl ?_
          refine Wa_dup dX9_text_63 rfl ?_
          refine Wa_getI2 (v := (M29 88 10)) cf_X9 lk_X9_109 k_88 (j := 10) rfl (by decide) (mU_nej (by decide)) dX9_text_64 (fun r32 => ?_)
          refine Wa_iconst (z := 1) dX9_text_67 ?_
          refine Wa_iadd dX9_text_68 ?_
          obtain ⟨q33, h⟩ := h
          refine Wa_putI cf_X9 lk_X9_109 k_88 (j := 10) rfl (by decide) rfl rfl q33 dX9_text_69 ?_
          refine Wa_aload_n 0 dX9_text_72 rfl rfl ?_
          refine Wa_iconst (z := 0) dX9_text_73 ?_
          refine Wa_putI cf_X9 lk_X9_77 k_88 (j := 1) rfl (by decide) rfl rfl ⟨by decide, by decide⟩ dX9_text_74 ?_
          refine Wa_aload_n 0 dX9_text_77 rfl rfl ?_
          refine Wa_callV [] _ cf_X9 rfl k_88 lc_X9_112 cv_X9_layScript rfl rfl (Nat.le_refl _) (Nat.le_of_ble_eq_true rfl) dX9_text_78 h ?_
          intro r M34 h
          obtain ⟨rfl, h⟩ := h
          refine Wa_aload_n 0 dX9_text_81 rfl rfl ?_
          refine Wa_getR cf_X9 lk_X9_22 k_88 (j := 8) rfl (by decide) dX9_text_82 ?_
          refine Wa_iconst (z := 0) dX9_text_85 ?_
          refine Wa_iald2 (v := (M34 93 0)) k_93 ⟨by decide, by decide⟩ rfl dX9_text_86 (fun r37 => ?_)
          refine Wa_aload_n 0 dX9_text_87 rfl rfl ?_
          refine Wa_getR cf_X9 lk_X9_22 k_88 (j := 8) rfl (by decide) dX9_text_88 ?_
          refine Wa_iconst (z := 1) dX9_text_91 ?_
          refine Wa_iald2 (v := (M34 93 1)) k_93 ⟨by decide, by decide⟩ rfl dX9_text_92 (fun r38 => ?_)
          refine Wa_iadd dX9_text_93 ?_
          obtain ⟨q39, h⟩ := h
          exact Wa_ireturn dX9_text_94 rfl ⟨_, rfl, q39, h⟩
        · have h := h.2 c25
          refine Wa_bipush (z := (-103)) dX9_text_32 (by decide) ?_
          exact Wa_ireturn dX9_text_34 rfl ⟨_, rfl, ⟨by decide, by decide⟩, h⟩
theorem en_X9_text {g : AG} {d : Nat} {M : AM} {Q : Int → AM → Prop} (h : S_X9_text_0 g d M Q) : MetI g mX9_text d [vR 88] M Q := MetA.of (by decide) (Nat.le_of_ble_eq_true rfl) h
def S_X9_isSide_0 (g : AG) (d : Nat) (l0 : Int) (M : AM) (Q : Int → AM → Prop) : Prop := Wa g mX9_isSide d 0 [(0, vI l0)] [] M (QI Q)
set_option maxRecDepth 100000 in
theorem sg_X9_isSide_0 {g : AG} {d : Nat} {l0 : Int} {M : AM} {Q : Int → AM → Prop} 
  (h : rg l0 ∧ ((l0 = 0 → (Q 1 M)) ∧ (¬ l0 = 0 → ((¬ l0 = 1 → (Q 0 M)) ∧ (l0 = 1 → (Q 1 M)))))) : S_X9_isSide_0 g (d + 1) l0 M Q := by
  show Wa _ _ _ _ _ _ _ _
  refine Wa_iload_n 0 dX9_isSide_0 rfl rfl ?_
  obtain ⟨q1, h⟩ := h
  refine Wa_if_eq (tgt := 9) dX9_isSide_1 (by decide) q1 (fun c2 => ?_) (fun c2 => ?_)
  · have h := h.1 c2
    refine Wa_iconst (z := 1) dX9_isSide_9 ?_
    refine Wa_goto (tgt := 14) dX9_isSide_10 (by decide) ?_
    exact Wa_zreturn dX9_isSide_14 rfl (by decide) ⟨_, rfl, rg_bool (by decide), h⟩
  · have h := h.2 c2
    refine Wa_iload_n 0 dX9_isSide_4 rfl rfl ?_
    refine Wa_iconst (z := 1) dX9_isSide_5 ?_
    refine Wa_icmp_ne (tgt := 13) dX9_isSide_6 (by decide) q1 ⟨by decide, by decide⟩ (fun c3 => ?_) (fun c3 => ?_)
    · have h := h.1 c3
      refine Wa_iconst (z := 0) dX9_isSide_13 ?_
      exact Wa_zreturn dX9_isSide_14 rfl (by decide) ⟨_, rfl, rg_bool (by decide), h⟩
    · have h := h.2 c3
      refine Wa_iconst (z := 1) dX9_isSide_9 ?_
      refine Wa_goto (tgt := 14) dX9_isSide_10 (by decide) ?_
      exact Wa_zreturn dX9_isSide_14 rfl (by decide) ⟨_, rfl, rg_bool (by decide), h⟩
theorem en_X9_isSide {g : AG} {d : Nat} {l0 : Int} {M : AM} {Q : Int → AM → Prop} (h : S_X9_isSide_0 g d l0 M Q) : MetI g mX9_isSide d [vI l0] M Q := MetA.of (by decide) (Nat.le_of_ble_eq_true rfl) h
def S_X9_isLine_0 (g : AG) (d : Nat) (l1 : Int) (l2 : Int) (M : AM) (Q : Int → AM → Prop) : Prop := Wa g mX9_isLine d 0 [(0, vR 88), (1, vI l1), (2, vI l2)] [] M (QI Q)
set_option maxRecDepth 100000 in
theorem sg_X9_isLine_0 {g : AG} {d : Nat} {l1 : Int} {l2 : Int} {M : AM} {Q : Int → AM → Prop} 
  (h : rg l1 ∧ (MetI g mX9_isSide d [vI l1] M (fun z3 M2 => rg z3 → ((z3 = 0 → (Q 0 M2)) ∧ (¬ z3 = 0 → (rg l2 ∧ ((0 ≤ l1 ∧ l1 < 2) ∧ (rg ((M2 93 (l1).toNat) - 1) ∧ (MetI g mX9_in d [vL l2, vL 0, vL ((M2 93 (l1).toNat) - 1)] M2 (fun z11 M10 => rg z11 → ((z11 = 0 → (Q 0 M10)) ∧ (¬ z11 = 0 → (Q 1 M10))))))))))))) : S_X9_isLine_0 g (d + 1) l1 l2 M Q := by
  show Wa _ _ _ _ _ _ _ _
  refine Wa_iload_n 1 dX9_isLine_0 rfl rfl ?_
  obtain ⟨q1, h⟩ := h
  refine Wa_callS [vI l1] _ lc_X9_115 cs_X9_isSide rfl rfl (Nat.le_refl _) (Nat.le_of_ble_eq_true rfl) dX9_isLine_1 h ?_
  intro r M2 h
  obtain ⟨z3, rfl, r4, h⟩ := h
  have h := h r4
  refine Wa_if_eq (tgt := 29) dX9_isLine_4 (by decide) r4 (fun c5 => ?_) (fun c5 => ?_)
  · have h := h.1 c5
    refine Wa_iconst (z := 0) dX9_isLine_29 ?_
    exact Wa_zreturn dX9_isLine_30 rfl (by decide) ⟨_, rfl, rg_bool (by decide), h⟩
  · have h := h.2 c5
    refine Wa_iload_n 2 dX9_isLine_7 rfl rfl ?_
    obtain ⟨q6, h⟩ := h
    refine Wa_i2l dX9_isLine_8 q6 ?_
    refine Wa_lconst (v := 0) dX9_isLine_9 rfl ?_
    refine Wa_aload_n 0 dX9_isLine_10 rfl rfl ?_
    refine Wa_getR cf_X9 lk_X9_22 k_88 (j := 8) rfl (by decide) dX9_isLine_11 ?_
    refine Wa_iload_n 1 dX9_isLine_14 rfl rfl ?_
    obtain ⟨b7, h⟩ := h
    refine Wa_iald2 (v := (M2 93 (l1).toNat)) k_93 b7 rfl dX9_isLine_15 (fun r8 => ?_)
    refine Wa_iconst (z := 1) dX9_isLine_16 ?_
    refine Wa_isub dX9_isLine_17 ?_
    obtain ⟨q9, h⟩ := h
    refine Wa_i2l dX9_isLine_18 q9 ?_
    refine Wa_callS [vL l2, vL 0, vL ((M2 93 (l1).toNat) - 1)] _ lc_X9_73 cs_X9_in rfl rfl (Nat.le_refl _) (Nat.le_of_ble_eq_true rfl) dX9_isLine_19 h ?_
    intro r M10 h
    obtain ⟨z11, rfl, r12, h⟩ := h
    have h := h r12
    refine Wa_if_eq (tgt := 29) dX9_isLine_22 (by decide) r12 (fun c13 => ?_) (fun c13 => ?_)
    · have h := h.1 c13
      refine Wa_iconst (z := 0) dX9_isLine_29 ?_
      exact Wa_zreturn dX9_isLine_30 rfl (by decide) ⟨_, rfl, rg_bool (by decide), h⟩
    · have h := h.2 c13
      refine Wa_iconst (z := 1) dX9_isLine_25 ?_
      refine Wa_goto (tgt := 30) dX9_isLine_26 (by decide) ?_
      exact Wa_zreturn dX9_isLine_30 rfl (by decide) ⟨_, rfl, rg_bool (by decide), h⟩
theorem en_X9_isLine {g : AG} {d : Nat} {l1 : Int} {l2 : Int} {M : AM} {Q : Int → AM → Prop} (h : S_X9_isLine_0 g d l1 l2 M Q) : MetI g mX9_isLine d [vR 88, vI l1, vI l2] M Q := MetA.of (by decide) (Nat.le_of_ble_eq_true rfl) h
def S_X9_isSame_0 (g : AG) (d : Nat) (l1 : Int) (l2 : Int) (M : AM) (Q : Int → AM → Prop) : Prop := Wa g mX9_isSame d 0 [(0, vR 88), (1, vI l1), (2, vI l2)] [] M (QI Q)
set_option maxRecDepth 100000 in
theorem sg_X9_isSame_0 {g : AG} {d : Nat} {l1 : Int} {l2 : Int} {M : AM} {Q : Int → AM → Prop} 
  (h : (0 ≤ l1 ∧ l1 < 32) ∧ ((0 ≤ (16 + l2) ∧ (16 + l2) < 32) ∧ ((¬ (M 92 (l1).toNat) = (M 92 ((16 + l2)).toNat) → (Q 0 M)) ∧ ((M 92 (l1).toNat) = (M 92 ((16 + l2)).toNat) → (Q 1 M))))) : S_X9_isSame_0 g (d + 1) l1 l2 M Q := by
  show Wa _ _ _ _ _ _ _ _
  refine Wa_aload_n 0 dX9_isSame_0 rfl rfl ?_
  refine Wa_getR cf_X9 lk_X9_19 k_88 (j := 7) rfl (by decide) dX9_isSame_1 ?_
  refine Wa_iload_n 1 dX9_isSame_4 rfl rfl ?_
  obtain ⟨b1, h⟩ := h
  refine Wa_iald2 (v := (M 92 (l1).toNat)) k_92 b1 rfl dX9_isSame_5 (fun r2 => ?_)
  refine Wa_aload_n 0 dX9_isSame_6 rfl rfl ?_
  refine Wa_getR cf_X9 lk_X9_19 k_88 (j := 7) rfl (by decide) dX9_isSame_7 ?_
  refine Wa_bipush (z := 16) dX9_isSame_10 (by decide) ?_
  refine Wa_iload_n 2 dX9_isSame_12 rfl rfl ?_
  refine Wa_iadd dX9_isSame_13 ?_
  obtain ⟨b3, h⟩ := h
  refine Wa_iald2 (v := (M 92 ((16 + l2)).toNat)) k_92 b3 rfl dX9_isSame_14 (fun r4 => ?_)
  refine Wa_icmp_ne (tgt := 22) dX9_isSame_15 (by decide) r2 r4 (fun c5 => ?_) (fun c5 => ?_)
  · have h := h.1 c5
    refine Wa_iconst (z := 0) dX9_isSame_22 ?_
    exact Wa_zreturn dX9_isSame_23 rfl (by decide) ⟨_, rfl, rg_bool (by decide), h⟩
  · have h := h.2 c5
    refine Wa_iconst (z := 1) dX9_isSame_18 ?_
    refine Wa_goto (tgt := 23) dX9_isSame_19 (by decide) ?_
    exact Wa_zreturn dX9_isSame_23 rfl (by decide) ⟨_, rfl, rg_bool (by decide), h⟩
theorem en_X9_isSame {g : AG} {d : Nat} {l1 : Int} {l2 : Int} {M : AM} {Q : Int → AM → Prop} (h : S_X9_isSame_0 g d l1 l2 M Q) : MetI g mX9_isSame d [vR 88, vI l1, vI l2] M Q := MetA.of (by decide) (Nat.le_of_ble_eq_true rfl) h
def S_X9_addPart_0 (g : AG) (d : Nat) (l1 : Int) (l2 : Int) (l3 : Int) (l4 : Int) (M : AM) (Q : AM → Prop) : Prop := Wa g mX9_addPart d 0 [(0, vR 88), (1, vI l1), (2, vI l2), (3, vI l3), (4, vI l4)] [] M (QV Q)
set_option maxRecDepth 100000 in
theorem sg_X9_addPart_0 {g : AG} {d : Nat} {l1 : Int} {l2 : Int} {l3 : Int} {l4 : Int} {M : AM} {Q : AM → Prop} 
  (h : (0 ≤ (4 * (M 88 15)) ∧ (4 * (M 88 15)) < 200) ∧ (rg l1 ∧ ((0 ≤ ((4 * (M 88 15)) + 1) ∧ ((4 * (M 88 15)) + 1) < 200) ∧ (rg l2 ∧ ((0 ≤ ((4 * (M 88 15)) + 2) ∧ ((4 * (M 88 15)) + 2) < 200) ∧ (rg l3 ∧ ((0 ≤ ((4 * (M 88 15)) + 3) ∧ ((4 * (M 88 15)) + 3) < 200) ∧ (rg l4 ∧ (rg ((M 88 15) + 1) ∧ (Q (mU (mU (mU (mU (mU M 95 ((4 * (M 88 15))).toNat l1) 95 (((4 * (M 88 15)) + 1)).toNat l2) 95 (((4 * (M 88 15)) + 2)).toNat l3) 95 (((4 * (M 88 15)) + 3)).toNat l4) 88 15 ((M 88 15) + 1)))))))))))) : S_X9_addPart_0 g (d + 1) l1 l2 l3 l4 M Q := by
  show Wa _ _ _ _ _ _ _ _
  refine Wa_aload_n 0 dX9_addPart_0 rfl rfl ?_
  refine Wa_getR cf_X9 lk_X9_28 k_88 (j := 14) rfl (by decide) dX9_addPart_1 ?_
  refine Wa_iconst (z := 4) dX9_addPart_4 ?_
  refine Wa_aload_n 0 dX9_addPart_5 rfl rfl ?_
  refine Wa_getI2 (v := (M 88 15)) cf_X9 lk_X9_118 k_88 (j := 15) rfl (by decide) rfl dX9_addPart_6 (fun r1 => ?_)
  refine Wa_imul dX9_addPart_9 ?_
  refine Wa_iload_n 1 dX9_addPart_10 rfl rfl ?_
  obtain ⟨b2, h⟩ := h
  obtain ⟨q3, h⟩ := h
  refine Wa_iast k_95 b2 q3 dX9_addPart_11 ?_
  refine Wa_aload_n 0 dX9_addPart_12 rfl rfl ?_
  refine Wa_getR cf_X9 lk_X9_28 k_88 (j := 14) rfl (by decide) dX9_addPart_13 ?_
  refine Wa_iconst (z := 4) dX9_addPart_16 ?_
  refine Wa_aload_n 0 dX9_addPart_17 rfl rfl ?_
  refine Wa_getI2 (v := (M 88 15)) cf_X9 lk_X9_118 k_88 (j := 15) rfl (by decide) (mU_rd (by decide)) dX9_addPart_18 (fun r4 => ?_)
  refine Wa_imul dX9_addPart_21 ?_
  refine Wa_iconst (z := 1) dX9_addPart_22 ?_
  refine Wa_iadd dX9_addPart_23 ?_
  refine Wa_iload_n 2 dX9_addPart_24 rfl rfl ?_
  obtain ⟨b5, h⟩ := h
  obtain ⟨q6, h⟩ := h
  refine Wa_iast k_95 b5 q6 dX9_addPart_25 ?_
  refine Wa_aload_n 0 dX9_addPart_26 rfl rfl ?_
  refine Wa_getR cf_X9 lk_X9_28 k_88 (j := 14) rfl (by decide) dX9_addPart_27 ?_
  refine Wa_iconst (z := 4) dX9_addPart_30 ?_
  refine Wa_aload_n 0 dX9_addPart_31 rfl rfl ?_
  refine Wa_getI2 (v := (M 88 15)) cf_X9 lk_X9_118 k_88 (j := 15) rfl (by decide) ((mU_rd (by decide)).trans (mU_rd (by decide))) dX9_addPart_32 (fun r7 => ?_)
  refine Wa_imul dX9_addPart_35 ?_
  refine Wa_iconst (z := 2) dX9_addPart_36 ?_
  refine Wa_iadd dX9_addPart_37 ?_
  refine Wa_iload_n 3 dX9_addPart_38 rfl rfl ?_
  obtain ⟨b8, h⟩ := h
  obtain ⟨q9, h⟩ := h
  refine Wa_iast k_95 b8 q9 dX9_addPart_39 ?_
  refine Wa_aload_n 0 dX9_addPart_40 rfl rfl ?_
  refine Wa_getR cf_X9 lk_X9_28 k_88 (j := 14) rfl (by decide) dX9_addPart_41 ?_
  refine Wa_iconst (z := 4) dX9_addPart_44 ?_
  refine Wa_aload_n 0 dX9_addPart_45 rfl rfl ?_
  refine Wa_getI2 (v := (M 88 15)) cf_X9 lk_X9_118 k_88 (j := 15) rfl (by decide) ((mU_rd (by decide)).trans ((mU_rd (by decide)).trans (mU_rd (by decide)))) dX9_addPart_46 (fun r10 => ?_)
  refine Wa_imul dX9_addPart_49 ?_
  refine Wa_iconst (z := 3) dX9_addPart_50 ?_
  refine Wa_iadd dX9_addPart_51 ?_
  refine Wa_iload 4 dX9_addPart_52 rfl ?_
  obtain ⟨b11, h⟩ := h
  obtain ⟨q12, h⟩ := h
  refine Wa_iast k_95 b11 q12 dX9_addPart_54 ?_
  refine Wa_aload_n 0 dX9_addPart_55 rfl rfl ?_
  refine Wa_dup dX9_addPart_56 rfl ?_
  refine Wa_getI2 (v := (M 88 15)) cf_X9 lk_X9_118 k_88 (j := 15) rfl (by decide) ((mU_rd (by decide)).trans ((mU_rd (by decide)).trans ((mU_rd (by decide)).trans (mU_rd (by decide))))) dX9_addPart_57 (fun r13 => ?_)
  refine Wa_iconst (z := 1) dX9_addPart_60 ?_
  refine Wa_iadd dX9_addPart_61 ?_
  obtain ⟨q14, h⟩ := h
  refine Wa_putI cf_X9 lk_X9_118 k_88 (j := 15) rfl (by decide) rfl rfl q14 dX9_addPart_62 ?_
  exact Wa_return dX9_addPart_65 rfl ⟨rfl, h⟩
theorem en_X9_addPart {g : AG} {d : Nat} {l1 : Int} {l2 : Int} {l3 : Int} {l4 : Int} {M : AM} {Q : AM → Prop} (h : S_X9_addPart_0 g d l1 l2 l3 l4 M Q) : MetV g mX9_addPart d [vR 88, vI l1, vI l2, vI l3, vI l4] M Q := MetA.of (by decide) (Nat.le_of_ble_eq_true rfl) h
def S_X9_keep_0 (g : AG) (d : Nat) (l1 : Int) (l2 : Int) (M : AM) (Q : AM → Prop) : Prop := Wa g mX9_keep d 0 [(0, vR 88), (1, vI l1), (2, vI l2)] [] M (QV Q)
set_option maxRecDepth 100000 in
theorem sg_X9_keep_0 {g : AG} {d : Nat} {l1 : Int} {l2 : Int} {M : AM} {Q : AM → Prop} 
  (h : (0 ≤ l1 ∧ l1 < 32) ∧ (rg l2 ∧ ((0 ≤ (16 + l2) ∧ (16 + l2) < 32) ∧ (rg l1 ∧ (Q (mU (mU M 94 (l1).toNat l2) 94 ((16 + l2)).toNat l1)))))) : S_X9_keep_0 g (d + 1) l1 l2 M Q := by
  show Wa _ _ _ _ _ _ _ _
  refine Wa_aload_n 0 dX9_keep_0 rfl rfl ?_
  refine Wa_getR cf_X9 lk_X9_25 k_88 (j := 11) rfl (by decide) dX9_keep_1 ?_
  refine Wa_iload_n 1 dX9_keep_4 rfl rfl ?_
  refine Wa_iload_n 2 dX9_keep_5 rfl rfl ?_
  obtain ⟨b1, h⟩ := h
  obtain ⟨q2, h⟩ := h
  refine Wa_iast k_94 b1 q2 dX9_keep_6 ?_
  refine Wa_aload_n 0 dX9_keep_7 rfl rfl ?_
  refine Wa_getR cf_X9 lk_X9_25 k_88 (j := 11) rfl (by decide) dX9_keep_8 ?_
  refine Wa_bipush (z := 16) dX9_keep_11 (by decide) ?_
  refine Wa_iload_n 2 dX9_keep_13 rfl rfl ?_
  refine Wa_iadd dX9_keep_14 ?_
  refine Wa_iload_n 1 dX9_keep_15 rfl rfl ?_
  obtain ⟨b3, h⟩ := h
  obtain ⟨q4, h⟩ := h
  refine Wa_iast k_94 b3 q4 dX9_keep_16 ?_
  exact Wa_return dX9_keep_17 rfl ⟨rfl, h⟩
theorem en_X9_keep {g : AG} {d : Nat} {l1 : Int} {l2 : Int} {M : AM} {Q : AM → Prop} (h : S_X9_keep_0 g d l1 l2 M Q) : MetV g mX9_keep d [vR 88, vI l1, vI l2] M Q := MetA.of (by decide) (Nat.le_of_ble_eq_true rfl) h
def S_X9_timesIn_0 (g : AG) (d : Nat) (l1 : Int) (l2 : Int) (l3 : Int) (M : AM) (Q : Int → AM → Prop) : Prop := Wa g mX9_timesIn d 0 [(0, vR 88), (1, vI l1), (2, vI l2), (3, vI l3)] [] M (QI Q)
def S_X9_timesIn_6 (g : AG) (d : Nat) (l1 : Int) (l3 : Int) (l4 : Int) (l5 : Int) (M : AM) (Q : Int → AM → Prop) : Prop := Wa g mX9_timesIn d 6 [(0, vR 88), (1, vI l1), (3, vI l3), (4, vI l4), (5, vI l5)] [] M (QI Q)
set_option maxRecDepth 100000 in
theorem sg_X9_timesIn_0 {g : AG} {d : Nat} {l1 : Int} {l2 : Int} {l3 : Int} {M : AM} {Q : Int → AM → Prop} 
  (h : S_X9_timesIn_6 g (d + 1) l1 l3 0 l2 M Q) : S_X9_timesIn_0 g (d + 1) l1 l2 l3 M Q := by
  show Wa _ _ _ _ _ _ _ _
  refine Wa_iconst (z := 0) dX9_timesIn_0 ?_
  refine Wa_istore (ls' := [(4, vI 0), (0, vR 88), (1, vI l1), (2, vI l2), (3, vI l3)]) dX9_timesIn_1 (by decide) rfl ?_
  refine Wa_iload_n 3 dX9_timesIn_3 rfl rfl ?_
  refine Wa_istore (ls' := [(5, vI l2), (4, vI 0), (0, vR 88), (1, vI l1), (2, vI l2), (3, vI l3)]) dX9_timesIn_4 (by decide) rfl ?_
  refine Wa_sub [2, 3, 5, 1, 0] rfl ?_
  exact h
set_option maxRecDepth 100000 in
theorem sg_X9_timesIn_6 {g : AG} {d : Nat} {l1 : Int} {l3 : Int} {l4 : Int} {l5 : Int} {M : AM} {Q : Int → AM → Prop} 
  (h : rg l5 ∧ (rg l3 ∧ ((l3 ≤ l5 → (rg l4 ∧ (Q l4 M))) ∧ (¬ l3 ≤ l5 → ((0 ≤ l5 ∧ l5 < 32) ∧ (rg l1 ∧ ((¬ (M 92 (l5).toNat) = l1 → (S_X9_timesIn_6 g (d + 1) l1 l3 (l4 + 0) (l5 + 1) M Q)) ∧ ((M 92 (l5).toNat) = l1 → (S_X9_timesIn_6 g (d + 1) l1 l3 (l4 + 1) (l5 + 1) M Q))))))))) : S_X9_timesIn_6 g (d + 1) l1 l3 l4 l5 M Q := by
  show Wa _ _ _ _ _ _ _ _
  refine Wa_iload 4 dX9_timesIn_6 rfl ?_
  refine Wa_iload_n 2 dX9_timesIn_8 rfl rfl ?_
  obtain ⟨q1, h⟩ := h
  obtain ⟨q2, h⟩ := h
  refine Wa_icmp_ge (tgt := 39) dX9_timesIn_9 (by decide) q1 q2 (fun c3 => ?_) (fun c3 => ?_)
  · have h := h.1 c3
    refine Wa_iload 3 dX9_timesIn_39 rfl ?_
    obtain ⟨q4, h⟩ := h
    exact Wa_ireturn dX9_timesIn_41 rfl ⟨_, rfl, q4, h⟩
  · have h := h.2 c3
    refine Wa_iload 3 dX9_timesIn_12 rfl ?_
    refine Wa_aload_n 0 dX9_timesIn_14 rfl rfl ?_
    refine Wa_getR cf_X9 lk_X9_19 k_88 (j := 7) rfl (by decide) dX9_timesIn_15 ?_
    refine Wa_iload 4 dX9_timesIn_18 rfl ?_
    obtain ⟨b5, h⟩ := h
    refine Wa_iald2 (v := (M 92 (l5).toNat)) k_92 b5 rfl dX9_timesIn_20 (fun r6 => ?_)
    refine Wa_iload_n 1 dX9_timesIn_21 rfl rfl ?_
    obtain ⟨q7, h⟩ := h
    refine Wa_icmp_ne (tgt := 29) dX9_timesIn_22 (by decide) r6 q7 (fun c8 => ?_) (fun c8 => ?_)
    · have h := h.1 c8
      refine Wa_iconst (z := 0) dX9_timesIn_29 ?_
      refine Wa_iadd dX9_timesIn_30 ?_
      refine Wa_istore (ls' := [(4, vI (l4 + 0)), (0, vR 88), (1, vI l1), (3, vI l3), (5, vI l5)]) dX9_timesIn_31 (by decide) rfl ?_
      refine Wa_iinc (ls' := [(5, vI (l5 + 1)), (4, vI (l4 + 0)), (0, vR 88), (1, vI l1), (3, vI l3)]) 4 dX9_timesIn_33 rfl (by decide) rfl ?_
      refine Wa_goto (tgt := 6) dX9_timesIn_36 (by decide) ?_
      refine Wa_sub [2, 3, 4, 1, 0] rfl ?_
      exact h
    · have h := h.2 c8
      refine Wa_iconst (z := 1) dX9_timesIn_25 ?_
      refine Wa_goto (tgt := 30) dX9_timesIn_26 (by decide) ?_
      refine Wa_iadd dX9_timesIn_30 ?_
      refine Wa_istore (ls' := [(4, vI (l4 + 1)), (0, vR 88), (1, vI l1), (3, vI l3), (5, vI l5)]) dX9_timesIn_31 (by decide) rfl ?_
      refine Wa_iinc (ls' := [(5, vI (l5 + 1)), (4, vI (l4 + 1)), (0, vR 88), (1, vI l1), (3, vI l3)]) 4 dX9_timesIn_33 rfl (by decide) rfl ?_
      refine Wa_goto (tgt := 6) dX9_timesIn_36 (by decide) ?_
      refine Wa_sub [2, 3, 4, 1, 0] rfl ?_
      exact h
theorem en_X9_timesIn {g : AG} {d : Nat} {l1 : Int} {l2 : Int} {l3 : Int} {M : AM} {Q : Int → AM → Prop} (h : S_X9_timesIn_0 g d l1 l2 l3 M Q) : MetI g mX9_timesIn d [vR 88, vI l1, vI l2, vI l3] M Q := MetA.of (by decide) (Nat.le_of_ble_eq_true rfl) h
def S_X9_layAnchors_0 (g : AG) (d : Nat) (l1 : Int) (l2 : Int) (l3 : Int) (l4 : Int) (M : AM) (Q : Int → AM → Prop) : Prop := Wa g mX9_layAnchors d 0 [(0, vR 88), (1, vI l1), (2, vI l2), (3, vI l3), (4, vI l4)] [] M (QI Q)
def S_X9_layAnchors_6 (g : AG) (d : Nat) (l1 : Int) (l2 : Int) (l3 : Int) (l4 : Int) (l5 : Int) (l6 : Int) (M : AM) (Q : Int → AM → Prop) : Prop := Wa g mX9_layAnchors d 6 [(0, vR 88), (1, vI l1), (2, vI l2), (3, vI l3), (4, vI l4), (5, vI l5), (6, vI l6)] [] M (QI Q)
def S_X9_layAnchors_106 (g : AG) (d : Nat) (l5 : Int) (l6 : Int) (M : AM) (Q : Int → AM → Prop) : Prop := Wa g mX9_layAnchors d 106 [(0, vR 88), (5, vI l5), (6, vI l6)] [] M (QI Q)
def S_X9_layAnchors_56 (g : AG) (d : Nat) (l1 : Int) (l2 : Int) (l3 : Int) (l4 : Int) (l5 : Int) (l6 : Int) (l7 : Int) (M : AM) (Q : Int → AM → Prop) : Prop := Wa g mX9_layAnchors d 56 [(0, vR 88), (1, vI l1), (2, vI l2), (3, vI l3), (4, vI l4), (5, vI l5), (6, vI l6), (7, vI l7)] [] M (QI Q)
def S_X9_layAnchors_125 (g : AG) (d : Nat) (l5 : Int) (l6 : Int) (l7 : Int) (M : AM) (Q : Int → AM → Prop) : Prop := Wa g mX9_layAnchors d 125 [(0, vR 88), (5, vI l5), (6, vI l6), (7, vI l7)] [] M (QI Q)
set_option maxRecDepth 100000 in
theorem sg_X9_layAnchors_0 {g : AG} {d : Nat} {l1 : Int} {l2 : Int} {l3 : Int} {l4 : Int} {M : AM} {Q : Int → AM → Prop} 
  (h : S_X9_layAnchors_6 g (d + 1) l1 l2 l3 l4 0 l1 M Q) : S_X9_layAnchors_0 g (d + 1) l1 l2 l3 l4 M Q := by
  show Wa _ _ _ _ _ _ _ _
  refine Wa_iconst (z := 0) dX9_layAnchors_0 ?_
  refine Wa_istore (ls' := [(5, vI 0), (0, vR 88), (1, vI l1), (2, vI l2), (3, vI l3), (4, vI l4)]) dX9_layAnchors_1 (by decide) rfl ?_
  refine Wa_iload_n 2 dX9_layAnchors_3 rfl rfl ?_
  refine Wa_istore (ls' := [(6, vI l1), (5, vI 0), (0, vR 88), (1, vI l1), (2, vI l2), (3, vI l3), (4, vI l4)]) dX9_layAnchors_4 (by decide) rfl ?_
  refine Wa_sub [2, 3, 4, 5, 6, 1, 0] rfl ?_
  exact h
set_option maxRecDepth 100000 in
theorem sg_X9_layAnchors_6 {g : AG} {d : Nat} {l1 : Int} {l2 : Int} {l3 : Int} {l4 : Int} {l5 : Int} {l6 : Int} {M : AM} {Q : Int → AM → Prop} 
  (h : rg l6 ∧ (rg l2 ∧ ((l2 ≤ l6 → (S_X9_layAnchors_106 g (d + 1) l5 (l5 - 1) M Q)) ∧ (¬ l2 ≤ l6 → ((0 ≤ l6 ∧ l6 < 32) ∧ (rg l1 ∧ (MetI g mX9_timesIn d [vR 88, vI (M 92 (l6).toNat), vI l1, vI l2] M (fun z8 M7 => rg z8 → ((¬ z8 = 1 → (S_X9_layAnchors_6 g (d + 1) l1 l2 l3 l4 l5 (l6 + 1) M7 Q)) ∧ (z8 = 1 → (rg (16 + l3) ∧ (rg (16 + l4) ∧ (MetI g mX9_timesIn d [vR 88, vI (M7 92 (l6).toNat), vI (16 + l3), vI (16 + l4)] M7 (fun z15 M14 => rg z15 → ((¬ z15 = 1 → (S_X9_layAnchors_6 g (d + 1) l1 l2 l3 l4 l5 (l6 + 1) M14 Q)) ∧ (z15 = 1 → (S_X9_layAnchors_56 g (d + 1) l1 l2 l3 l4 l5 l6 l3 M14 Q))))))))))))))))) : S_X9_layAnchors_6 g (d + 1) l1 l2 l3 l4 l5 l6 M Q := by
  show Wa _ _ _ _ _ _ _ _
  refine Wa_iload 6 dX9_layAnchors_6 rfl ?_
  refine Wa_iload_n 2 dX9_layAnchors_8 rfl rfl ?_
  obtain ⟨q1, h⟩ := h
  obtain ⟨q2, h⟩ := h
  refine Wa_icmp_ge (tgt := 100) dX9_layAnchors_9 (by decide) q1 q2 (fun c3 => ?_) (fun c3 => ?_)
  · have h := h.1 c3
    refine Wa_iload 5 dX9_layAnchors_100 rfl ?_
    refine Wa_iconst (z := 1) dX9_layAnchors_102 ?_
    refine Wa_isub dX9_layAnchors_103 ?_
    refine Wa_istore (ls' := [(6, vI (l5 - 1)), (0, vR 88), (1, vI l1), (2, vI l2), (3, vI l3), (4, vI l4), (5, vI l5)]) dX9_layAnchors_104 (by decide) rfl ?_
    refine Wa_sub [1, 6, 0] rfl ?_
    exact h
  · have h := h.2 c3
    refine Wa_aload_n 0 dX9_layAnchors_12 rfl rfl ?_
    refine Wa_aload_n 0 dX9_layAnchors_13 rfl rfl ?_
    refine Wa_getR cf_X9 lk_X9_19 k_88 (j := 7) rfl (by decide) dX9_layAnchors_14 ?_
    refine Wa_iload 6 dX9_layAnchors_17 rfl ?_
    obtain ⟨b4, h⟩ := h
    refine Wa_iald2 (v := (M 92 (l6).toNat)) k_92 b4 rfl dX9_layAnchors_19 (fun r5 => ?_)
    refine Wa_iload_n 1 dX9_layAnchors_20 rfl rfl ?_
    refine Wa_iload_n 2 dX9_layAnchors_21 rfl rfl ?_
    obtain ⟨q6, h⟩ := h
    refine Wa_callV [vI (M 92 (l6).toNat), vI l1, vI l2] _ cf_X9 rfl k_88 lc_X9_121 cv_X9_timesIn rfl rfl (Nat.le_refl _) (Nat.le_of_ble_eq_true rfl) dX9_layAnchors_22 h ?_
    intro r M7 h
    obtain ⟨z8, rfl, r9, h⟩ := h
    have h := h r9
    refine Wa_iconst (z := 1) dX9_layAnchors_25 ?_
    refine Wa_icmp_ne (tgt := 94) dX9_layAnchors_26 (by decide) r9 ⟨by decide, by decide⟩ (fun c10 => ?_) (fun c10 => ?_)
    · have h := h.1 c10
      refine Wa_iinc (ls' := [(6, vI (l6 + 1)), (0, vR 88), (1, vI l1), (2, vI l2), (3, vI l3), (4, vI l4), (5, vI l5)]) 6 dX9_layAnchors_94 rfl (by decide) rfl ?_
      refine Wa_goto (tgt := 6) dX9_layAnchors_97 (by decide) ?_
      refine Wa_sub [1, 2, 3, 4, 5, 6, 0] rfl ?_
      exact h
    · have h := h.2 c10
      refine Wa_aload_n 0 dX9_layAnchors_29 rfl rfl ?_
      refine Wa_aload_n 0 dX9_layAnchors_30 rfl rfl ?_
      refine Wa_getR cf_X9 lk_X9_19 k_88 (j := 7) rfl (by decide) dX9_layAnchors_31 ?_
      refine Wa_iload 6 dX9_layAnchors_34 rfl ?_
      refine Wa_iald2 (v := (M7 92 (l6).toNat)) k_92 b4 rfl dX9_layAnchors_36 (fun r11 => ?_)
      refine Wa_bipush (z := 16) dX9_layAnchors_37 (by decide) ?_
      refine Wa_iload_n 3 dX9_layAnchors_39 rfl rfl ?_
      refine Wa_iadd dX9_layAnchors_40 ?_
      refine Wa_bipush (z := 16) dX9_layAnchors_41 (by decide) ?_
      refine Wa_iload 4 dX9_layAnchors_43 rfl ?_
      refine Wa_iadd dX9_layAnchors_45 ?_
      obtain ⟨q12, h⟩ := h
      obtain ⟨q13, h⟩ := h
      refine Wa_callV [vI (M7 92 (l6).toNat), vI (16 + l3), vI (16 + l4)] _ cf_X9 rfl k_88 lc_X9_121 cv_X9_timesIn rfl rfl (Nat.le_refl _) (Nat.le_of_ble_eq_true rfl) dX9_layAnchors_46 h ?_
      intro r M14 h
      obtain ⟨z15, rfl, r16, h⟩ := h
      have h := h r16
      refine Wa_iconst (z := 1) dX9_layAnchors_49 ?_
      refine Wa_icmp_ne (tgt := 94) dX9_layAnchors_50 (by decide) r16 ⟨by decide, by decide⟩ (fun c17 => ?_) (fun c17 => ?_)
      · have h := h.1 c17
        refine Wa_iinc (ls' := [(6, vI (l6 + 1)), (0, vR 88), (1, vI l1), (2, vI l2), (3, vI l3), (4, vI l4), (5, vI l5)]) 6 dX9_layAnchors_94 rfl (by decide) rfl ?_
        refine Wa_goto (tgt := 6) dX9_layAnchors_97 (by decide) ?_
        refine Wa_sub [1, 2, 3, 4, 5, 6, 0] rfl ?_
        exact h
      · have h := h.2 c17
        refine Wa_iload_n 3 dX9_layAnchors_53 rfl rfl ?_
        refine Wa_istore (ls' := [(7, vI l3), (0, vR 88), (1, vI l1), (2, vI l2), (3, vI l3), (4, vI l4), (5, vI l5), (6, vI l6)]) dX9_layAnchors_54 (by decide) rfl ?_
        refine Wa_sub [1, 2, 3, 4, 5, 6, 7, 0] rfl ?_
        exact h
set_option maxRecDepth 100000 in
theorem sg_X9_layAnchors_106 {g : AG} {d : Nat} {l5 : Int} {l6 : Int} {M : AM} {Q : Int → AM → Prop} 
  (h : rg l6 ∧ ((l6 < 0 → (rg l5 ∧ (Q l5 M))) ∧ (¬ l6 < 0 → ((0 ≤ l6 ∧ l6 < 8) ∧ (S_X9_layAnchors_125 g (d + 1) l5 l6 (l6 + 1) (mU M 98 (l6).toNat 1) Q))))) : S_X9_layAnchors_106 g (d + 1) l5 l6 M Q := by
  show Wa _ _ _ _ _ _ _ _
  refine Wa_iload 2 dX9_layAnchors_106 rfl ?_
  obtain ⟨q1, h⟩ := h
  refine Wa_if_lt (tgt := 196) dX9_layAnchors_108 (by decide) q1 (fun c2 => ?_) (fun c2 => ?_)
  · have h := h.1 c2
    refine Wa_iload 1 dX9_layAnchors_196 rfl ?_
    obtain ⟨q3, h⟩ := h
    exact Wa_ireturn dX9_layAnchors_198 rfl ⟨_, rfl, q3, h⟩
  · have h := h.2 c2
    refine Wa_aload_n 0 dX9_layAnchors_111 rfl rfl ?_
    refine Wa_getR cf_X9 lk_X9_37 k_88 (j := 18) rfl (by decide) dX9_layAnchors_112 ?_
    refine Wa_iload 2 dX9_layAnchors_115 rfl ?_
    refine Wa_iconst (z := 1) dX9_layAnchors_117 ?_
    obtain ⟨b4, h⟩ := h
    refine Wa_iast k_98 b4 ⟨by decide, by decide⟩ dX9_layAnchors_118 ?_
    refine Wa_iload 2 dX9_layAnchors_119 rfl ?_
    refine Wa_iconst (z := 1) dX9_layAnchors_121 ?_
    refine Wa_iadd dX9_layAnchors_122 ?_
    refine Wa_istore (ls' := [(7, vI (l6 + 1)), (0, vR 88), (5, vI l5), (6, vI l6)]) dX9_layAnchors_123 (by decide) rfl ?_
    refine Wa_sub [1, 2, 3, 0] rfl ?_
    exact h
set_option maxRecDepth 100000 in
theorem sg_X9_layAnchors_56 {g : AG} {d : Nat} {l1 : Int} {l2 : Int} {l3 : Int} {l4 : Int} {l5 : Int} {l6 : Int} {l7 : Int} {M : AM} {Q : Int → AM → Prop} 
  (h : rg l6 ∧ (rg l7 ∧ (MetI g mX9_isSame d [vR 88, vI l6, vI l7] M (fun z4 M3 => rg z4 → ((¬ z4 = 0 → ((0 ≤ l5 ∧ l5 < 8) ∧ (S_X9_layAnchors_6 g (d + 1) l1 l2 l3 l4 (l5 + 1) (l6 + 1) (mU (mU M3 96 (l5).toNat l6) 97 (l5).toNat l7) Q))) ∧ (z4 = 0 → (S_X9_layAnchors_56 g (d + 1) l1 l2 l3 l4 l5 l6 (l7 + 1) M3 Q))))))) : S_X9_layAnchors_56 g (d + 1) l1 l2 l3 l4 l5 l6 l7 M Q := by
  show Wa _ _ _ _ _ _ _ _
  refine Wa_aload_n 0 dX9_layAnchors_56 rfl rfl ?_
  refine Wa_iload 6 dX9_layAnchors_57 rfl ?_
  refine Wa_iload 7 dX9_layAnchors_59 rfl ?_
  obtain ⟨q1, h⟩ := h
  obtain ⟨q2, h⟩ := h
  refine Wa_callV [vI l6, vI l7] _ cf_X9 rfl k_88 lc_X9_125 cv_X9_isSame rfl rfl (Nat.le_refl _) (Nat.le_of_ble_eq_true rfl) dX9_layAnchors_61 h ?_
  intro r M3 h
  obtain ⟨z4, rfl, r5, h⟩ := h
  have h := h r5
  refine Wa_if_ne (tgt := 73) dX9_layAnchors_64 (by decide) r5 (fun c6 => ?_) (fun c6 => ?_)
  · have h := h.1 c6
    refine Wa_aload_n 0 dX9_layAnchors_73 rfl rfl ?_
    refine Wa_getR cf_X9 lk_X9_31 k_88 (j := 16) rfl (by decide) dX9_layAnchors_74 ?_
    refine Wa_iload 5 dX9_layAnchors_77 rfl ?_
    refine Wa_iload 6 dX9_layAnchors_79 rfl ?_
    obtain ⟨b7, h⟩ := h
    refine Wa_iast k_96 b7 q1 dX9_layAnchors_81 ?_
    refine Wa_aload_n 0 dX9_layAnchors_82 rfl rfl ?_
    refine Wa_getR cf_X9 lk_X9_34 k_88 (j := 17) rfl (by decide) dX9_layAnchors_83 ?_
    refine Wa_iload 5 dX9_layAnchors_86 rfl ?_
    refine Wa_iload 7 dX9_layAnchors_88 rfl ?_
    refine Wa_iast k_97 b7 q2 dX9_layAnchors_90 ?_
    refine Wa_iinc (ls' := [(5, vI (l5 + 1)), (0, vR 88), (1, vI l1), (2, vI l2), (3, vI l3), (4, vI l4), (6, vI l6), (7, vI l7)]) 5 dX9_layAnchors_91 rfl (by decide) rfl ?_
    refine Wa_iinc (ls' := [(6, vI (l6 + 1)), (5, vI (l5 + 1)), (0, vR 88), (1, vI l1), (2, vI l2), (3, vI l3), (4, vI l4), (7, vI l7)]) 6 dX9_layAnchors_94 rfl (by decide) rfl ?_
    refine Wa_goto (tgt := 6) dX9_layAnchors_97 (by decide) ?_
    refine Wa_sub [2, 3, 4, 5, 6, 1, 0] rfl ?_
    exact h
  · have h := h.2 c6
    refine Wa_iinc (ls' := [(7, vI (l7 + 1)), (0, vR 88), (1, vI l1), (2, vI l2), (3, vI l3), (4, vI l4), (5, vI l5), (6, vI l6)]) 7 dX9_layAnchors_67 rfl (by decide) rfl ?_
    refine Wa_goto (tgt := 56) dX9_layAnchors_70 (by decide) ?_
    refine Wa_sub [1, 2, 3, 4, 5, 6, 7, 0] rfl ?_
    exact h
set_option maxRecDepth 100000 in
theorem sg_X9_layAnchors_125 {g : AG} {d : Nat} {l5 : Int} {l6 : Int} {l7 : Int} {M : AM} {Q : Int → AM → Prop} 
  (h : rg l7 ∧ (rg l5 ∧ ((l5 ≤ l7 → (S_X9_layAnchors_106 g (d + 1) l5 (l6 + (-1)) M Q)) ∧ (¬ l5 ≤ l7 → ((0 ≤ l7 ∧ l7 < 8) ∧ ((0 ≤ l6 ∧ l6 < 8) ∧ (((M 97 (l7).toNat) ≤ (M 97 (l6).toNat) → (S_X9_layAnchors_125 g (d + 1) l5 l6 (l7 + 1) M Q)) ∧ (¬ (M 97 (l7).toNat) ≤ (M 97 (l6).toNat) → (rg ((M 98 (l7).toNat) + 1) ∧ ((((M 98 (l7).toNat) + 1) ≤ (M 98 (l6).toNat) → (S_X9_layAnchors_125 g (d + 1) l5 l6 (l7 + 1) M Q)) ∧ (¬ ((M 98 (l7).toNat) + 1) ≤ (M 98 (l6).toNat) → (S_X9_layAnchors_125 g (d + 1) l5 l6 (l7 + 1) (mU M 98 (l6).toNat ((M 98 (l7).toNat) + 1)) Q)))))))))))) : S_X9_layAnchors_125 g (d + 1) l5 l6 l7 M Q := by
  show Wa _ _ _ _ _ _ _ _
  refine Wa_iload 3 dX9_layAnchors_125 rfl ?_
  refine Wa_iload 1 dX9_layAnchors_127 rfl ?_
  obtain ⟨q1, h⟩ := h
  obtain ⟨q2, h⟩ := h
  refine Wa_icmp_ge (tgt := 190) dX9_layAnchors_129 (by decide) q1 q2 (fun c3 => ?_) (fun c3 => ?_)
  · have h := h.1 c3
    refine Wa_iinc (ls' := [(6, vI (l6 + (-1))), (0, vR 88), (5, vI l5), (7, vI l7)]) 2 dX9_layAnchors_190 rfl (by decide) rfl ?_
    refine Wa_goto (tgt := 106) dX9_layAnchors_193 (by decide) ?_
    refine Wa_sub [1, 2, 0] rfl ?_
    exact h
  · have h := h.2 c3
    refine Wa_aload_n 0 dX9_layAnchors_132 rfl rfl ?_
    refine Wa_getR cf_X9 lk_X9_34 k_88 (j := 17) rfl (by decide) dX9_layAnchors_133 ?_
    refine Wa_iload 3 dX9_layAnchors_136 rfl ?_
    obtain ⟨b4, h⟩ := h
    refine Wa_iald2 (v := (M 97 (l7).toNat)) k_97 b4 rfl dX9_layAnchors_138 (fun r5 => ?_)
    refine Wa_aload_n 0 dX9_layAnchors_139 rfl rfl ?_
    refine Wa_getR cf_X9 lk_X9_34 k_88 (j := 17) rfl (by decide) dX9_layAnchors_140 ?_
    refine Wa_iload 2 dX9_layAnchors_143 rfl ?_
    obtain ⟨b6, h⟩ := h
    refine Wa_iald2 (v := (M 97 (l6).toNat)) k_97 b6 rfl dX9_layAnchors_145 (fun r7 => ?_)
    refine Wa_icmp_le (tgt := 184) dX9_layAnchors_146 (by decide) r5 r7 (fun c8 => ?_) (fun c8 => ?_)
    · have h := h.1 c8
      refine Wa_iinc (ls' := [(7, vI (l7 + 1)), (0, vR 88), (5, vI l5), (6, vI l6)]) 3 dX9_layAnchors_184 rfl (by decide) rfl ?_
      refine Wa_goto (tgt := 125) dX9_layAnchors_187 (by decide) ?_
      refine Wa_sub [1, 2, 3, 0] rfl ?_
      exact h
    · have h := h.2 c8
      refine Wa_aload_n 0 dX9_layAnchors_149 rfl rfl ?_
      refine Wa_getR cf_X9 lk_X9_37 k_88 (j := 18) rfl (by decide) dX9_layAnchors_150 ?_
      refine Wa_iload 3 dX9_layAnchors_153 rfl ?_
      refine Wa_iald2 (v := (M 98 (l7).toNat)) k_98 b4 rfl dX9_layAnchors_155 (fun r9 => ?_)
      refine Wa_iconst (z := 1) dX9_layAnchors_156 ?_
      refine Wa_iadd dX9_layAnchors_157 ?_
      refine Wa_aload_n 0 dX9_layAnchors_158 rfl rfl ?_
      refine Wa_getR cf_X9 lk_X9_37 k_88 (j := 18) rfl (by decide) dX9_layAnchors_159 ?_
      refine Wa_iload 2 dX9_layAnchors_162 rfl ?_
      refine Wa_iald2 (v := (M 98 (l6).toNat)) k_98 b6 rfl dX9_layAnchors_164 (fun r10 => ?_)
      obtain ⟨q11, h⟩ := h
      refine Wa_icmp_le (tgt := 184) dX9_layAnchors_165 (by decide) q11 r10 (fun c12 => ?_) (fun c12 => ?_)
      · have h := h.1 c12
        refine Wa_iinc (ls' := [(7, vI (l7 + 1)), (0, vR 88), (5, vI l5), (6, vI l6)]) 3 dX9_layAnchors_184 rfl (by decide) rfl ?_
        refine Wa_goto (tgt := 125) dX9_layAnchors_187 (by decide) ?_
        refine Wa_sub [1, 2, 3, 0] rfl ?_
        exact h
      · have h := h.2 c12
        refine Wa_aload_n 0 dX9_layAnchors_168 rfl rfl ?_
        refine Wa_getR cf_X9 lk_X9_37 k_88 (j := 18) rfl (by decide) dX9_layAnchors_169 ?_
        refine Wa_iload 2 dX9_layAnchors_172 rfl ?_
        refine Wa_aload_n 0 dX9_layAnchors_174 rfl rfl ?_
        refine Wa_getR cf_X9 lk_X9_37 k_88 (j := 18) rfl (by decide) dX9_layAnchors_175 ?_
        refine Wa_iload 3 dX9_layAnchors_178 rfl ?_
        refine Wa_iald2 (v := (M 98 (l7).toNat)) k_98 b4 rfl dX9_layAnchors_180 (fun r13 => ?_)
        refine Wa_iconst (z := 1) dX9_layAnchors_181 ?_
        refine Wa_iadd dX9_layAnchors_182 ?_
        refine Wa_iast k_98 b6 q11 dX9_layAnchors_183 ?_
        refine Wa_iinc (ls' := [(7, vI (l7 + 1)), (0, vR 88), (5, vI l5), (6, vI l6)]) 3 dX9_layAnchors_184 rfl (by decide) rfl ?_
        refine Wa_goto (tgt := 125) dX9_layAnchors_187 (by decide) ?_
        refine Wa_sub [1, 2, 3, 0] rfl ?_
        exact h
theorem en_X9_layAnchors {g : AG} {d : Nat} {l1 : Int} {l2 : Int} {l3 : Int} {l4 : Int} {M : AM} {Q : Int → AM → Prop} (h : S_X9_layAnchors_0 g d l1 l2 l3 l4 M Q) : MetI g mX9_layAnchors d [vR 88, vI l1, vI l2, vI l3, vI l4] M Q := MetA.of (by decide) (Nat.le_of_ble_eq_true rfl) h
def S_X9_matchAnchors_0 (g : AG) (d : Nat) (l1 : Int) (l2 : Int) (l3 : Int) (l4 : Int) (l5 : Int) (M : AM) (Q : AM → Prop) : Prop := Wa g mX9_matchAnchors d 0 [(0, vR 88), (1, vI l1), (2, vI l2), (3, vI l3), (4, vI l4), (5, vI l5)] [] M (QV Q)
def S_X9_matchAnchors_6 (g : AG) (d : Nat) (l1 : Int) (l2 : Int) (l3 : Int) (l4 : Int) (l5 : Int) (l6 : Int) (l7 : Int) (M : AM) (Q : AM → Prop) : Prop := Wa g mX9_matchAnchors d 6 [(0, vR 88), (1, vI l1), (2, vI l2), (3, vI l3), (4, vI l4), (5, vI l5), (6, vI l6), (7, vI l7)] [] M (QV Q)
def S_X9_matchAnchors_57 (g : AG) (d : Nat) (l2 : Int) (l4 : Int) (l5 : Int) (l6 : Int) (l7 : Int) (l8 : Int) (l9 : Int) (l10 : Int) (M : AM) (Q : AM → Prop) : Prop := Wa g mX9_matchAnchors d 57 [(0, vR 88), (2, vI l2), (4, vI l4), (5, vI l5), (6, vI l6), (7, vI l7), (8, vI l8), (9, vI l9), (10, vI l10)] [] M (QV Q)
set_option maxRecDepth 100000 in
theorem sg_X9_matchAnchors_0 {g : AG} {d : Nat} {l1 : Int} {l2 : Int} {l3 : Int} {l4 : Int} {l5 : Int} {M : AM} {Q : AM → Prop} 
  (h : S_X9_matchAnchors_6 g (d + 1) l1 l2 l3 l4 l5 0 0 M Q) : S_X9_matchAnchors_0 g (d + 1) l1 l2 l3 l4 l5 M Q := by
  show Wa _ _ _ _ _ _ _ _
  refine Wa_iconst (z := 0) dX9_matchAnchors_0 ?_
  refine Wa_istore (ls' := [(6, vI 0), (0, vR 88), (1, vI l1), (2, vI l2), (3, vI l3), (4, vI l4), (5, vI l5)]) dX9_matchAnchors_1 (by decide) rfl ?_
  refine Wa_iconst (z := 0) dX9_matchAnchors_3 ?_
  refine Wa_istore (ls' := [(7, vI 0), (6, vI 0), (0, vR 88), (1, vI l1), (2, vI l2), (3, vI l3), (4, vI l4), (5, vI l5)]) dX9_matchAnchors_4 (by decide) rfl ?_
  refine Wa_sub [2, 3, 4, 5, 6, 7, 1, 0] rfl ?_
  exact h
set_option maxRecDepth 100000 in
theorem sg_X9_matchAnchors_6 {g : AG} {d : Nat} {l1 : Int} {l2 : Int} {l3 : Int} {l4 : Int} {l5 : Int} {l6 : Int} {l7 : Int} {M : AM} {Q : AM → Prop} 
  (h : rg l7 ∧ (rg l5 ∧ ((l5 ≤ l7 → (S_X9_matchAnchors_57 g (d + 1) l2 l4 l5 l6 l1 l3 (-1) 0 M Q)) ∧ (¬ l5 ≤ l7 → ((0 ≤ l7 ∧ l7 < 8) ∧ (rg l6 ∧ (((M 98 (l7).toNat) ≤ l6 → (S_X9_matchAnchors_6 g (d + 1) l1 l2 l3 l4 l5 l6 (l7 + 1) M Q)) ∧ (¬ (M 98 (l7).toNat) ≤ l6 → (S_X9_matchAnchors_6 g (d + 1) l1 l2 l3 l4 l5 (M 98 (l7).toNat) (l7 + 1) M Q))))))))) : S_X9_matchAnchors_6 g (d + 1) l1 l2 l3 l4 l5 l6 l7 M Q := by
  show Wa _ _ _ _ _ _ _ _
  refine Wa_iload 7 dX9_matchAnchors_6 rfl ?_
  refine Wa_iload 5 dX9_matchAnchors_8 rfl ?_
  obtain ⟨q1, h⟩ := h
  obtain ⟨q2, h⟩ := h
  refine Wa_icmp_ge (tgt := 45) dX9_matchAnchors_10 (by decide) q1 q2 (fun c3 => ?_) (fun c3 => ?_)
  · have h := h.1 c3
    refine Wa_iload_n 1 dX9_matchAnchors_45 rfl rfl ?_
    refine Wa_istore (ls' := [(7, vI l1), (0, vR 88), (1, vI l1), (2, vI l2), (3, vI l3), (4, vI l4), (5, vI l5), (6, vI l6)]) dX9_matchAnchors_46 (by decide) rfl ?_
    refine Wa_iload_n 4 dX9_matchAnchors_48 rfl rfl ?_
    refine Wa_istore (ls' := [(8, vI l3), (7, vI l1), (0, vR 88), (1, vI l1), (2, vI l2), (3, vI l3), (4, vI l4), (5, vI l5), (6, vI l6)]) dX9_matchAnchors_49 (by decide) rfl ?_
    refine Wa_iconst (z := (-1)) dX9_matchAnchors_51 ?_
    refine Wa_istore (ls' := [(9, vI (-1)), (8, vI l3), (7, vI l1), (0, vR 88), (1, vI l1), (2, vI l2), (3, vI l3), (4, vI l4), (5, vI l5), (6, vI l6)]) dX9_matchAnchors_52 (by decide) rfl ?_
    refine Wa_iconst (z := 0) dX9_matchAnchors_54 ?_
    refine Wa_istore (ls' := [(10, vI 0), (9, vI (-1)), (8, vI l3), (7, vI l1), (0, vR 88), (1, vI l1), (2, vI l2), (3, vI l3), (4, vI l4), (5, vI l5), (6, vI l6)]) dX9_matchAnchors_55 (by decide) rfl ?_
    refine Wa_sub [4, 6, 8, 9, 10, 3, 2, 1, 0] rfl ?_
    exact h
  · have h := h.2 c3
    refine Wa_aload_n 0 dX9_matchAnchors_13 rfl rfl ?_
    refine Wa_getR cf_X9 lk_X9_37 k_88 (j := 18) rfl (by decide) dX9_matchAnchors_14 ?_
    refine Wa_iload 7 dX9_matchAnchors_17 rfl ?_
    obtain ⟨b4, h⟩ := h
    refine Wa_iald2 (v := (M 98 (l7).toNat)) k_98 b4 rfl dX9_matchAnchors_19 (fun r5 => ?_)
    refine Wa_iload 6 dX9_matchAnchors_20 rfl ?_
    obtain ⟨q6, h⟩ := h
    refine Wa_icmp_le (tgt := 35) dX9_matchAnchors_22 (by decide) r5 q6 (fun c7 => ?_) (fun c7 => ?_)
    · have h := h.1 c7
      refine Wa_iload 6 dX9_matchAnchors_35 rfl ?_
      refine Wa_istore (ls' := [(6, vI l6), (0, vR 88), (1, vI l1), (2, vI l2), (3, vI l3), (4, vI l4), (5, vI l5), (7, vI l7)]) dX9_matchAnchors_37 (by decide) rfl ?_
      refine Wa_iinc (ls' := [(7, vI (l7 + 1)), (6, vI l6), (0, vR 88), (1, vI l1), (2, vI l2), (3, vI l3), (4, vI l4), (5, vI l5)]) 7 dX9_matchAnchors_39 rfl (by decide) rfl ?_
      refine Wa_goto (tgt := 6) dX9_matchAnchors_42 (by decide) ?_
      refine Wa_sub [2, 3, 4, 5, 6, 7, 1, 0] rfl ?_
      exact h
    · have h := h.2 c7
      refine Wa_aload_n 0 dX9_matchAnchors_25 rfl rfl ?_
      refine Wa_getR cf_X9 lk_X9_37 k_88 (j := 18) rfl (by decide) dX9_matchAnchors_26 ?_
      refine Wa_iload 7 dX9_matchAnchors_29 rfl ?_
      refine Wa_iald2 (v := (M 98 (l7).toNat)) k_98 b4 rfl dX9_matchAnchors_31 (fun r8 => ?_)
      refine Wa_goto (tgt := 37) dX9_matchAnchors_32 (by decide) ?_
      refine Wa_istore (ls' := [(6, vI (M 98 (l7).toNat)), (0, vR 88), (1, vI l1), (2, vI l2), (3, vI l3), (4, vI l4), (5, vI l5), (7, vI l7)]) dX9_matchAnchors_37 (by decide) rfl ?_
      refine Wa_iinc (ls' := [(7, vI (l7 + 1)), (6, vI (M 98 (l7).toNat)), (0, vR 88), (1, vI l1), (2, vI l2), (3, vI l3), (4, vI l4), (5, vI l5)]) 7 dX9_matchAnchors_39 rfl (by decide) rfl ?_
      refine Wa_goto (tgt := 6) dX9_matchAnchors_42 (by decide) ?_
      refine Wa_sub [2, 3, 4, 5, 6, 7, 1, 0] rfl ?_
      exact h
set_option maxRecDepth 100000 in
theorem sg_X9_matchAnchors_57 {g : AG} {d : Nat} {l2 : Int} {l4 : Int} {l5 : Int} {l6 : Int} {l7 : Int} {l8 : Int} {l9 : Int} {l10 : Int} {M : AM} {Q : AM → Prop} 
  (h : rg l10 ∧ (rg l5 ∧ ((l5 ≤ l10 → (rg l7 ∧ (rg l2 ∧ (rg l8 ∧ (rg l4 ∧ (MetV g mX9_addPart d [vR 88, vI l7, vI l2, vI l8, vI l4] M (fun M8 => Q M8))))))) ∧ (¬ l5 ≤ l10 → (rg l6 ∧ ((l6 ≤ 0 → (S_X9_matchAnchors_57 g (d + 1) l2 l4 l5 l6 l7 l8 l9 (l10 + 1) M Q)) ∧ (¬ l6 ≤ 0 → ((0 ≤ l10 ∧ l10 < 8) ∧ ((¬ (M 98 (l10).toNat) = l6 → (S_X9_matchAnchors_57 g (d + 1) l2 l4 l5 l6 l7 l8 l9 (l10 + 1) M Q)) ∧ ((M 98 (l10).toNat) = l6 → (rg l9 ∧ (((M 97 (l10).toNat) ≤ l9 → (S_X9_matchAnchors_57 g (d + 1) l2 l4 l5 l6 l7 l8 l9 (l10 + 1) M Q)) ∧ (¬ (M 97 (l10).toNat) ≤ l9 → (MetV g mX9_keep d [vR 88, vI (M 96 (l10).toNat), vI (M 97 (l10).toNat)] M (fun M21 => rg ((M21 88 12) + 1) ∧ (rg l7 ∧ (rg l8 ∧ (MetV g mX9_addPart d [vR 88, vI l7, vI (M21 96 (l10).toNat), vI l8, vI (M21 97 (l10).toNat)] (mU M21 88 12 ((M21 88 12) + 1)) (fun M30 => S_X9_matchAnchors_57 g (d + 1) l2 l4 l5 (l6 + (-1)) ((M30 96 (l10).toNat) + 1) ((M30 97 (l10).toNat) + 1) (M30 97 (l10).toNat) (l10 + 1) M30 Q))))))))))))))))))) : S_X9_matchAnchors_57 g (d + 1) l2 l4 l5 l6 l7 l8 l9 l10 M Q := by
  show Wa _ _ _ _ _ _ _ _
  refine Wa_iload 8 dX9_matchAnchors_57 rfl ?_
  refine Wa_iload 3 dX9_matchAnchors_59 rfl ?_
  obtain ⟨q1, h⟩ := h
  obtain ⟨q2, h⟩ := h
  refine Wa_icmp_ge (tgt := 183) dX9_matchAnchors_61 (by decide) q1 q2 (fun c3 => ?_) (fun c3 => ?_)
  · have h := h.1 c3
    refine Wa_aload_n 0 dX9_matchAnchors_183 rfl rfl ?_
    refine Wa_iload 5 dX9_matchAnchors_184 rfl ?_
    refine Wa_iload_n 1 dX9_matchAnchors_186 rfl rfl ?_
    refine Wa_iload 6 dX9_matchAnchors_187 rfl ?_
    refine Wa_iload 2 dX9_matchAnchors_189 rfl ?_
    obtain ⟨q4, h⟩ := h
    obtain ⟨q5, h⟩ := h
    obtain ⟨q6, h⟩ := h
    obtain ⟨q7, h⟩ := h
    refine Wa_callV [vI l7, vI l2, vI l8, vI l4] _ cf_X9 rfl k_88 lc_X9_136 cv_X9_addPart rfl rfl (Nat.le_refl _) (Nat.le_of_ble_eq_true rfl) dX9_matchAnchors_191 h ?_
    intro r M8 h
    obtain ⟨rfl, h⟩ := h
    exact Wa_return dX9_matchAnchors_194 rfl ⟨rfl, h⟩
  · have h := h.2 c3
    refine Wa_iload 4 dX9_matchAnchors_64 rfl ?_
    obtain ⟨q11, h⟩ := h
    refine Wa_if_le (tgt := 177) dX9_matchAnchors_66 (by decide) q11 (fun c12 => ?_) (fun c12 => ?_)
    · have h := h.1 c12
      refine Wa_iinc (ls' := [(10, vI (l10 + 1)), (0, vR 88), (2, vI l2), (4, vI l4), (5, vI l5), (6, vI l6), (7, vI l7), (8, vI l8), (9, vI l9)]) 8 dX9_matchAnchors_177 rfl (by decide) rfl ?_
      refine Wa_goto (tgt := 57) dX9_matchAnchors_180 (by decide) ?_
      refine Wa_sub [1, 2, 3, 4, 5, 6, 7, 8, 0] rfl ?_
      exact h
    · have h := h.2 c12
      refine Wa_aload_n 0 dX9_matchAnchors_69 rfl rfl ?_
      refine Wa_getR cf_X9 lk_X9_37 k_88 (j := 18) rfl (by decide) dX9_matchAnchors_70 ?_
      refine Wa_iload 8 dX9_matchAnchors_73 rfl ?_
      obtain ⟨b13, h⟩ := h
      refine Wa_iald2 (v := (M 98 (l10).toNat)) k_98 b13 rfl dX9_matchAnchors_75 (fun r14 => ?_)
      refine Wa_iload 4 dX9_matchAnchors_76 rfl ?_
      refine Wa_icmp_ne (tgt := 177) dX9_matchAnchors_78 (by decide) r14 q11 (fun c15 => ?_) (fun c15 => ?_)
      · have h := h.1 c15
        refine Wa_iinc (ls' := [(10, vI (l10 + 1)), (0, vR 88), (2, vI l2), (4, vI l4), (5, vI l5), (6, vI l6), (7, vI l7), (8, vI l8), (9, vI l9)]) 8 dX9_matchAnchors_177 rfl (by decide) rfl ?_
        refine Wa_goto (tgt := 57) dX9_matchAnchors_180 (by decide) ?_
        refine Wa_sub [1, 2, 3, 4, 5, 6, 7, 8, 0] rfl ?_
        exact h
      · have h := h.2 c15
        refine Wa_aload_n 0 dX9_matchAnchors_81 rfl rfl ?_
        refine Wa_getR cf_X9 lk_X9_34 k_88 (j := 17) rfl (by decide) dX9_matchAnchors_82 ?_
        refine Wa_iload 8 dX9_matchAnchors_85 rfl ?_
        refine Wa_iald2 (v := (M 97 (l10).toNat)) k_97 b13 rfl dX9_matchAnchors_87 (fun r16 => ?_)
        refine Wa_iload 7 dX9_matchAnchors_88 rfl ?_
        obtain ⟨q17, h⟩ := h
        refine Wa_icmp_le (tgt := 177) dX9_matchAnchors_90 (by decide) r16 q17 (fun c18 => ?_) (fun c18 => ?_)
        · have h := h.1 c18
          refine Wa_iinc (ls' := [(10, vI (l10 + 1)), (0, vR 88), (2, vI l2), (4, vI l4), (5, vI l5), (6, vI l6), (7, vI l7), (8, vI l8), (9, vI l9)]) 8 dX9_matchAnchors_177 rfl (by decide) rfl ?_
          refine Wa_goto (tgt := 57) dX9_matchAnchors_180 (by decide) ?_
          refine Wa_sub [1, 2, 3, 4, 5, 6, 7, 8, 0] rfl ?_
          exact h
        · have h := h.2 c18
          refine Wa_aload_n 0 dX9_matchAnchors_93 rfl rfl ?_
          refine Wa_aload_n 0 dX9_matchAnchors_94 rfl rfl ?_
          refine Wa_getR cf_X9 lk_X9_31 k_88 (j := 16) rfl (by decide) dX9_matchAnchors_95 ?_
          refine Wa_iload 8 dX9_matchAnchors_98 rfl ?_
          refine Wa_iald2 (v := (M 96 (l10).toNat)) k_96 b13 rfl dX9_matchAnchors_100 (fun r19 => ?_)
          refine Wa_aload_n 0 dX9_matchAnchors_101 rfl rfl ?_
          refine Wa_getR cf_X9 lk_X9_34 k_88 (j := 17) rfl (by decide) dX9_matchAnchors_102 ?_
          refine Wa_iload 8 dX9_matchAnchors_105 rfl ?_
          refine Wa_iald2 (v := (M 97 (l10).toNat)) k_97 b13 rfl dX9_matchAnchors_107 (fun r20 => ?_)
          refine Wa_callV [vI (M 96 (l10).toNat), vI (M 97 (l10).toNat)] _ cf_X9 rfl k_88 lc_X9_129 cv_X9_keep rfl rfl (Nat.le_refl _) (Nat.le_of_ble_eq_true rfl) dX9_matchAnchors_108 h ?_
          intro r M21 h
          obtain ⟨rfl, h⟩ := h
          refine Wa_aload_n 0 dX9_matchAnchors_111 rfl rfl ?_
          refine Wa_dup dX9_matchAnchors_112 rfl ?_
          refine Wa_getI2 (v := (M21 88 12)) cf_X9 lk_X9_133 k_88 (j := 12) rfl (by decide) rfl dX9_matchAnchors_113 (fun r24 => ?_)
          refine Wa_iconst (z := 1) dX9_matchAnchors_116 ?_
          refine Wa_iadd dX9_matchAnchors_117 ?_
          obtain ⟨q25, h⟩ := h
          refine Wa_putI cf_X9 lk_X9_133 k_88 (j := 12) rfl (by decide) rfl rfl q25 dX9_matchAnchors_118 ?_
          refine Wa_aload_n 0 dX9_matchAnchors_121 rfl rfl ?_
          refine Wa_iload 5 dX9_matchAnchors_122 rfl ?_
          refine Wa_aload_n 0 dX9_matchAnchors_124 rfl rfl ?_
          refine Wa_getR cf_X9 lk_X9_31 k_88 (j := 16) rfl (by decide) dX9_matchAnchors_125 ?_
          refine Wa_iload 8 dX9_matchAnchors_128 rfl ?_
          refine Wa_iald2 (v := (M21 96 (l10).toNat)) k_96 b13 (mU_rd (by decide)) dX9_matchAnchors_130 (fun r26 => ?_)
          refine Wa_iload 6 dX9_matchAnchors_131 rfl ?_
          refine Wa_aload_n 0 dX9_matchAnchors_133 rfl rfl ?_
          refine Wa_getR cf_X9 lk_X9_34 k_88 (j := 17) rfl (by decide) dX9_matchAnchors_134 ?_
          refine Wa_iload 8 dX9_matchAnchors_137 rfl ?_
          refine Wa_iald2 (v := (M21 97 (l10).toNat)) k_97 b13 (mU_rd (by decide)) dX9_matchAnchors_139 (fun r27 => ?_)
          obtain ⟨q28, h⟩ := h
          obtain ⟨q29, h⟩ := h
          refine Wa_callV [vI l7, vI (M21 96 (l10).toNat), vI l8, vI (M21 97 (l10).toNat)] _ cf_X9 rfl k_88 lc_X9_136 cv_X9_addPart rfl rfl (Nat.le_refl _) (Nat.le_of_ble_eq_true rfl) dX9_matchAnchors_140 h ?_
          intro r M30 h
          obtain ⟨rfl, h⟩ := h
          refine Wa_aload_n 0 dX9_matchAnchors_143 rfl rfl ?_
          refine Wa_getR cf_X9 lk_X9_31 k_88 (j := 16) rfl (by decide) dX9_matchAnchors_144 ?_
          refine Wa_iload 8 dX9_matchAnchors_147 rfl ?_
          refine Wa_iald2 (v := (M30 96 (l10).toNat)) k_96 b13 rfl dX9_matchAnchors_149 (fun r33 => ?_)
          refine Wa_iconst (z := 1) dX9_matchAnchors_150 ?_
          refine Wa_iadd dX9_matchAnchors_151 ?_
          refine Wa_istore (ls' := [(7, vI ((M30 96 (l10).toNat) + 1)), (0, vR 88), (2, vI l2), (4, vI l4), (5, vI l5), (6, vI l6), (8, vI l8), (9, vI l9), (10, vI l10)]) dX9_matchAnchors_152 (by decide) rfl ?_
          refine Wa_aload_n 1 dX9_matchAnchors_154 rfl rfl ?_
          refine Wa_getR cf_X9 lk_X9_34 k_88 (j := 17) rfl (by decide) dX9_matchAnchors_155 ?_
          refine Wa_iload 8 dX9_matchAnchors_158 rfl ?_
          refine Wa_iald2 (v := (M30 97 (l10).toNat)) k_97 b13 rfl dX9_matchAnchors_160 (fun r34 => ?_)
          refine Wa_iconst (z := 1) dX9_matchAnchors_161 ?_
          refine Wa_iadd dX9_matchAnchors_162 ?_
          refine Wa_istore (ls' := [(8, vI ((M30 97 (l10).toNat) + 1)), (7, vI ((M30 96 (l10).toNat) + 1)), (0, vR 88), (2, vI l2), (4, vI l4), (5, vI l5), (6, vI l6), (9, vI l9), (10, vI l10)]) dX9_matchAnchors_163 (by decide) rfl ?_
          refine Wa_aload_n 2 dX9_matchAnchors_165 rfl rfl ?_
          refine Wa_getR cf_X9 lk_X9_34 k_88 (j := 17) rfl (by decide) dX9_matchAnchors_166 ?_
          refine Wa_iload 8 dX9_matchAnchors_169 rfl ?_
          refine Wa_iald2 (v := (M30 97 (l10).toNat)) k_97 b13 rfl dX9_matchAnchors_171 (fun r35 => ?_)
          refine Wa_istore (ls' := [(9, vI (M30 97 (l10).toNat)), (8, vI ((M30 97 (l10).toNat) + 1)), (7, vI ((M30 96 (l10).toNat) + 1)), (0, vR 88), (2, vI l2), (4, vI l4), (5, vI l5), (6, vI l6), (10, vI l10)]) dX9_matchAnchors_172 (by decide) rfl ?_
          refine Wa_iinc (ls' := [(6, vI (l6 + (-1))), (9, vI (M30 97 (l10).toNat)), (8, vI ((M30 97 (l10).toNat) + 1)), (7, vI ((M30 96 (l10).toNat) + 1)), (0, vR 88), (2, vI l2), (4, vI l4), (5, vI l5), (10, vI l10)]) 7 dX9_matchAnchors_174 rfl (by decide) rfl ?_
          refine Wa_iinc (ls' := [(10, vI (l10 + 1)), (6, vI (l6 + (-1))), (9, vI (M30 97 (l10).toNat)), (8, vI ((M30 97 (l10).toNat) + 1)), (7, vI ((M30 96 (l10).toNat) + 1)), (0, vR 88), (2, vI l2), (4, vI l4), (5, vI l5)]) 8 dX9_matchAnchors_177 rfl (by decide) rfl ?_
          refine Wa_goto (tgt := 57) dX9_matchAnchors_180 (by decide) ?_
          refine Wa_sub [5, 6, 7, 8, 1, 4, 3, 2, 0] rfl ?_
          exact h
theorem en_X9_matchAnchors {g : AG} {d : Nat} {l1 : Int} {l2 : Int} {l3 : Int} {l4 : Int} {l5 : Int} {M : AM} {Q : AM → Prop} (h : S_X9_matchAnchors_0 g d l1 l2 l3 l4 l5 M Q) : MetV g mX9_matchAnchors d [vR 88, vI l1, vI l2, vI l3, vI l4, vI l5] M Q := MetA.of (by decide) (Nat.le_of_ble_eq_true rfl) h
def S_X9_layCan_0 (g : AG) (d : Nat) (l1 : Int) (l2 : Int) (l3 : Int) (l4 : Int) (M : AM) (Q : AM → Prop) : Prop := Wa g mX9_layCan d 0 [(0, vR 88), (1, vI l1), (2, vI l2), (3, vI l3), (4, vI l4)] [] M (QV Q)
def S_X9_layCan_3 (g : AG) (d : Nat) (l1 : Int) (l2 : Int) (l3 : Int) (l4 : Int) (l5 : Int) (M : AM) (Q : AM → Prop) : Prop := Wa g mX9_layCan d 3 [(0, vR 88), (1, vI l1), (2, vI l2), (3, vI l3), (4, vI l4), (5, vI l5)] [] M (QV Q)
def S_X9_layCan_13 (g : AG) (d : Nat) (l1 : Int) (l2 : Int) (l3 : Int) (l4 : Int) (l5 : Int) (l6 : Int) (M : AM) (Q : AM → Prop) : Prop := Wa g mX9_layCan d 13 [(0, vR 88), (1, vI l1), (2, vI l2), (3, vI l3), (4, vI l4), (5, vI l5), (6, vI l6)] [] M (QV Q)
set_option maxRecDepth 100000 in
theorem sg_X9_layCan_0 {g : AG} {d : Nat} {l1 : Int} {l2 : Int} {l3 : Int} {l4 : Int} {M : AM} {Q : AM → Prop} 
  (h : S_X9_layCan_3 g (d + 1) l1 l2 l3 l4 l2 M Q) : S_X9_layCan_0 g (d + 1) l1 l2 l3 l4 M Q := by
  show Wa _ _ _ _ _ _ _ _
  refine Wa_iload_n 2 dX9_layCan_0 rfl rfl ?_
  refine Wa_istore (ls' := [(5, vI l2), (0, vR 88), (1, vI l1), (2, vI l2), (3, vI l3), (4, vI l4)]) dX9_layCan_1 (by decide) rfl ?_
  refine Wa_sub [1, 2, 3, 4, 5, 0] rfl ?_
  exact h
set_option maxRecDepth 100000 in
theorem sg_X9_layCan_3 {g : AG} {d : Nat} {l1 : Int} {l2 : Int} {l3 : Int} {l4 : Int} {l5 : Int} {M : AM} {Q : AM → Prop} 
  (h : rg l5 ∧ (rg l1 ∧ ((l5 < l1 → (Q M)) ∧ (¬ l5 < l1 → (S_X9_layCan_13 g (d + 1) l1 l2 l3 l4 l5 l4 M Q))))) : S_X9_layCan_3 g (d + 1) l1 l2 l3 l4 l5 M Q := by
  show Wa _ _ _ _ _ _ _ _
  refine Wa_iload 5 dX9_layCan_3 rfl ?_
  refine Wa_iload_n 1 dX9_layCan_5 rfl rfl ?_
  obtain ⟨q1, h⟩ := h
  obtain ⟨q2, h⟩ := h
  refine Wa_icmp_lt (tgt := 145) dX9_layCan_6 (by decide) q1 q2 (fun c3 => ?_) (fun c3 => ?_)
  · have h := h.1 c3
    exact Wa_return dX9_layCan_145 rfl ⟨rfl, h⟩
  · have h := h.2 c3
    refine Wa_iload 4 dX9_layCan_9 rfl ?_
    refine Wa_istore (ls' := [(6, vI l4), (0, vR 88), (1, vI l1), (2, vI l2), (3, vI l3), (4, vI l4), (5, vI l5)]) dX9_layCan_11 (by decide) rfl ?_
    refine Wa_sub [1, 2, 3, 4, 5, 6, 0] rfl ?_
    exact h
set_option maxRecDepth 100000 in
theorem sg_X9_layCan_13 {g : AG} {d : Nat} {l1 : Int} {l2 : Int} {l3 : Int} {l4 : Int} {l5 : Int} {l6 : Int} {M : AM} {Q : AM → Prop} 
  (h : rg l6 ∧ (rg l3 ∧ ((l6 < l3 → (S_X9_layCan_3 g (d + 1) l1 l2 l3 l4 (l5 + (-1)) M Q)) ∧ (¬ l6 < l3 → (rg l5 ∧ (rg l2 ∧ ((l2 ≤ l5 → ((0 ≤ ((9 * l5) + l6) ∧ ((9 * l5) + l6) < 81) ∧ (S_X9_layCan_13 g (d + 1) l1 l2 l3 l4 l5 (l6 + (-1)) (mU M 99 (((9 * l5) + l6)).toNat 0) Q))) ∧ (¬ l2 ≤ l5 → (rg l4 ∧ ((l4 ≤ l6 → ((0 ≤ ((9 * l5) + l6) ∧ ((9 * l5) + l6) < 81) ∧ (S_X9_layCan_13 g (d + 1) l1 l2 l3 l4 l5 (l6 + (-1)) (mU M 99 (((9 * l5) + l6)).toNat 0) Q))) ∧ (¬ l4 ≤ l6 → ((0 ≤ ((9 * (l5 + 1)) + l6) ∧ ((9 * (l5 + 1)) + l6) < 81) ∧ ((0 ≤ (((9 * l5) + l6) + 1) ∧ (((9 * l5) + l6) + 1) < 81) ∧ (MetI g mX9_isSame d [vR 88, vI l5, vI l6] M (fun z16 M15 => rg z16 → ((z16 = 0 → (((M 99 (((9 * (l5 + 1)) + l6)).toNat) ≤ (M 99 ((((9 * l5) + l6) + 1)).toNat) → ((0 ≤ ((9 * l5) + l6) ∧ ((9 * l5) + l6) < 81) ∧ (S_X9_layCan_13 g (d + 1) l1 l2 l3 l4 l5 (l6 + (-1)) (mU M15 99 (((9 * l5) + l6)).toNat (M 99 ((((9 * l5) + l6) + 1)).toNat)) Q))) ∧ (¬ (M 99 (((9 * (l5 + 1)) + l6)).toNat) ≤ (M 99 ((((9 * l5) + l6) + 1)).toNat) → ((0 ≤ ((9 * l5) + l6) ∧ ((9 * l5) + l6) < 81) ∧ (S_X9_layCan_13 g (d + 1) l1 l2 l3 l4 l5 (l6 + (-1)) (mU M15 99 (((9 * l5) + l6)).toNat (M 99 (((9 * (l5 + 1)) + l6)).toNat)) Q))))) ∧ (¬ z16 = 0 → ((0 ≤ (((9 * (l5 + 1)) + l6) + 1) ∧ (((9 * (l5 + 1)) + l6) + 1) < 81) ∧ ((0 ≤ ((9 * l5) + l6) ∧ ((9 * l5) + l6) < 81) ∧ (rg (1 + (M15 99 ((((9 * (l5 + 1)) + l6) + 1)).toNat)) ∧ (S_X9_layCan_13 g (d + 1) l1 l2 l3 l4 l5 (l6 + (-1)) (mU M15 99 (((9 * l5) + l6)).toNat (1 + (M15 99 ((((9 * (l5 + 1)) + l6) + 1)).toNat))) Q))))))))))))))))))))) : S_X9_layCan_13 g (d + 1) l1 l2 l3 l4 l5 l6 M Q := by
  show Wa _ _ _ _ _ _ _ _
  refine Wa_iload 6 dX9_layCan_13 rfl ?_
  refine Wa_iload_n 3 dX9_layCan_15 rfl rfl ?_
  obtain ⟨q1, h⟩ := h
  obtain ⟨q2, h⟩ := h
  refine Wa_icmp_lt (tgt := 139) dX9_layCan_16 (by decide) q1 q2 (fun c3 => ?_) (fun c3 => ?_)
  · have h := h.1 c3
    refine Wa_iinc (ls' := [(5, vI (l5 + (-1))), (0, vR 88), (1, vI l1), (2, vI l2), (3, vI l3), (4, vI l4), (6, vI l6)]) 5 dX9_layCan_139 rfl (by decide) rfl ?_
    refine Wa_goto (tgt := 3) dX9_layCan_142 (by decide) ?_
    refine Wa_sub [1, 2, 3, 4, 5, 0] rfl ?_
    exact h
  · have h := h.2 c3
    refine Wa_iconst (z := 0) dX9_layCan_19 ?_
    refine Wa_istore (ls' := [(7, vI 0), (0, vR 88), (1, vI l1), (2, vI l2), (3, vI l3), (4, vI l4), (5, vI l5), (6, vI l6)]) dX9_layCan_20 (by decide) rfl ?_
    refine Wa_iload 6 dX9_layCan_22 rfl ?_
    refine Wa_iload_n 3 dX9_layCan_24 rfl rfl ?_
    obtain ⟨q4, h⟩ := h
    obtain ⟨q5, h⟩ := h
    refine Wa_icmp_ge (tgt := 118) dX9_layCan_25 (by decide) q4 q5 (fun c6 => ?_) (fun c6 => ?_)
    · have h := h.1 c6
      refine Wa_aload_n 1 dX9_layCan_118 rfl rfl ?_
      refine Wa_getR cf_X9 lk_X9_40 k_88 (j := 19) rfl (by decide) dX9_layCan_119 ?_
      refine Wa_bipush (z := 9) dX9_layCan_122 (by decide) ?_
      refine Wa_iload 6 dX9_layCan_124 rfl ?_
      refine Wa_imul dX9_layCan_126 ?_
      refine Wa_iload 7 dX9_layCan_127 rfl ?_
      refine Wa_iadd dX9_layCan_129 ?_
      refine Wa_iload 0 dX9_layCan_130 rfl ?_
      obtain ⟨b7, h⟩ := h
      refine Wa_iast k_99 b7 ⟨by decide, by decide⟩ dX9_layCan_132 ?_
      refine Wa_iinc (ls' := [(6, vI (l6 + (-1))), (7, vI 0), (0, vR 88), (1, vI l1), (2, vI l2), (3, vI l3), (4, vI l4), (5, vI l5)]) 7 dX9_layCan_133 rfl (by decide) rfl ?_
      refine Wa_goto (tgt := 13) dX9_layCan_136 (by decide) ?_
      refine Wa_sub [2, 3, 4, 5, 6, 7, 0] rfl ?_
      exact h
    · have h := h.2 c6
      refine Wa_iload 7 dX9_layCan_28 rfl ?_
      refine Wa_iload 5 dX9_layCan_30 rfl ?_
      obtain ⟨q8, h⟩ := h
      refine Wa_icmp_ge (tgt := 118) dX9_layCan_32 (by decide) q1 q8 (fun c9 => ?_) (fun c9 => ?_)
      · have h := h.1 c9
        refine Wa_aload_n 1 dX9_layCan_118 rfl rfl ?_
        refine Wa_getR cf_X9 lk_X9_40 k_88 (j := 19) rfl (by decide) dX9_layCan_119 ?_
        refine Wa_bipush (z := 9) dX9_layCan_122 (by decide) ?_
        refine Wa_iload 6 dX9_layCan_124 rfl ?_
        refine Wa_imul dX9_layCan_126 ?_
        refine Wa_iload 7 dX9_layCan_127 rfl ?_
        refine Wa_iadd dX9_layCan_129 ?_
        refine Wa_iload 0 dX9_layCan_130 rfl ?_
        obtain ⟨b10, h⟩ := h
        refine Wa_iast k_99 b10 ⟨by decide, by decide⟩ dX9_layCan_132 ?_
        refine Wa_iinc (ls' := [(6, vI (l6 + (-1))), (7, vI 0), (0, vR 88), (1, vI l1), (2, vI l2), (3, vI l3), (4, vI l4), (5, vI l5)]) 7 dX9_layCan_133 rfl (by decide) rfl ?_
        refine Wa_goto (tgt := 13) dX9_layCan_136 (by decide) ?_
        refine Wa_sub [2, 3, 4, 5, 6, 7, 0] rfl ?_
        exact h
      · have h := h.2 c9
        refine Wa_aload_n 1 dX9_layCan_35 rfl rfl ?_
        refine Wa_getR cf_X9 lk_X9_40 k_88 (j := 19) rfl (by decide) dX9_layCan_36 ?_
        refine Wa_bipush (z := 9) dX9_layCan_39 (by decide) ?_
        refine Wa_iload 6 dX9_layCan_41 rfl ?_
        refine Wa_iconst (z := 1) dX9_layCan_43 ?_
        refine Wa_iadd dX9_layCan_44 ?_
        refine Wa_imul dX9_layCan_45 ?_
        refine Wa_iload 7 dX9_layCan_46 rfl ?_
        refine Wa_iadd dX9_layCan_48 ?_
        obtain ⟨b11, h⟩ := h
        refine Wa_iald2 (v := (M 99 (((9 * (l5 + 1)) + l6)).toNat)) k_99 b11 rfl dX9_layCan_49 (fun r12 => ?_)
        refine Wa_istore (ls' := [(8, vI (M 99 (((9 * (l5 + 1)) + l6)).toNat)), (7, vI 0), (0, vR 88), (1, vI l1), (2, vI l2), (3, vI l3), (4, vI l4), (5, vI l5), (6, vI l6)]) dX9_layCan_50 (by decide) rfl ?_
        refine Wa_aload_n 2 dX9_layCan_52 rfl rfl ?_
        refine Wa_getR cf_X9 lk_X9_40 k_88 (j := 19) rfl (by decide) dX9_layCan_53 ?_
        refine Wa_bipush (z := 9) dX9_layCan_56 (by decide) ?_
        refine Wa_iload 7 dX9_layCan_58 rfl ?_
        refine Wa_imul dX9_layCan_60 ?_
        refine Wa_iload 8 dX9_layCan_61 rfl ?_
        refine Wa_iadd dX9_layCan_63 ?_
        refine Wa_iconst (z := 1) dX9_layCan_64 ?_
        refine Wa_iadd dX9_layCan_65 ?_
        obtain ⟨b13, h⟩ := h
        refine Wa_iald2 (v := (M 99 ((((9 * l5) + l6) + 1)).toNat)) k_99 b13 rfl dX9_layCan_66 (fun r14 => ?_)
        refine Wa_istore (ls' := [(9, vI (M 99 ((((9 * l5) + l6) + 1)).toNat)), (8, vI (M 99 (((9 * (l5 + 1)) + l6)).toNat)), (7, vI 0), (0, vR 88), (1, vI l1), (2, vI l2), (3, vI l3), (4, vI l4), (5, vI l5), (6, vI l6)]) dX9_layCan_67 (by decide) rfl ?_
        refine Wa_aload_n 3 dX9_layCan_69 rfl rfl ?_
        refine Wa_iload 8 dX9_layCan_70 rfl ?_
        refine Wa_iload 9 dX9_layCan_72 rfl ?_
        refine Wa_callV [vI l5, vI l6] _ cf_X9 rfl k_88 lc_X9_125 cv_X9_isSame rfl rfl (Nat.le_refl _) (Nat.le_of_ble_eq_true rfl) dX9_layCan_74 h ?_
        intro r M15 h
        obtain ⟨z16, rfl, r17, h⟩ := h
        have h := h r17
        refine Wa_if_eq (tgt := 102) dX9_layCan_77 (by decide) r17 (fun c18 => ?_) (fun c18 => ?_)
        · have h := h.1 c18
          refine Wa_iload 1 dX9_layCan_102 rfl ?_
          refine Wa_iload 0 dX9_layCan_104 rfl ?_
          refine Wa_icmp_le (tgt := 114) dX9_layCan_106 (by decide) r12 r14 (fun c19 => ?_) (fun c19 => ?_)
          · have h := h.1 c19
            refine Wa_iload 0 dX9_layCan_114 rfl ?_
            refine Wa_istore (ls' := [(7, vI (M 99 ((((9 * l5) + l6) + 1)).toNat)), (9, vI (M 99 ((((9 * l5) + l6) + 1)).toNat)), (8, vI (M 99 (((9 * (l5 + 1)) + l6)).toNat)), (0, vR 88), (1, vI l1), (2, vI l2), (3, vI l3), (4, vI l4), (5, vI l5), (6, vI l6)]) dX9_layCan_116 (by decide) rfl ?_
            refine Wa_aload_n 3 dX9_layCan_118 rfl rfl ?_
            refine Wa_getR cf_X9 lk_X9_40 k_88 (j := 19) rfl (by decide) dX9_layCan_119 ?_
            refine Wa_bipush (z := 9) dX9_layCan_122 (by decide) ?_
            refine Wa_iload 8 dX9_layCan_124 rfl ?_
            refine Wa_imul dX9_layCan_126 ?_
            refine Wa_iload 9 dX9_layCan_127 rfl ?_
            refine Wa_iadd dX9_layCan_129 ?_
            refine Wa_iload 0 dX9_layCan_130 rfl ?_
            obtain ⟨b20, h⟩ := h
            refine Wa_iast k_99 b20 r14 dX9_layCan_132 ?_
            refine Wa_iinc (ls' := [(6, vI (l6 + (-1))), (7, vI (M 99 ((((9 * l5) + l6) + 1)).toNat)), (9, vI (M 99 ((((9 * l5) + l6) + 1)).toNat)), (8, vI (M 99 (((9 * (l5 + 1)) + l6)).toNat)), (0, vR 88), (1, vI l1), (2, vI l2), (3, vI l3), (4, vI l4), (5, vI l5)]) 9 dX9_layCan_133 rfl (by decide) rfl ?_
            refine Wa_goto (tgt := 13) dX9_layCan_136 (by decide) ?_
            refine Wa_sub [4, 5, 6, 7, 8, 9, 0] rfl ?_
            exact h
          · have h := h.2 c19
            refine Wa_iload 1 dX9_layCan_109 rfl ?_
            refine Wa_goto (tgt := 116) dX9_layCan_111 (by decide) ?_
            refine Wa_istore (ls' := [(7, vI (M 99 (((9 * (l5 + 1)) + l6)).toNat)), (9, vI (M 99 ((((9 * l5) + l6) + 1)).toNat)), (8, vI (M 99 (((9 * (l5 + 1)) + l6)).toNat)), (0, vR 88), (1, vI l1), (2, vI l2), (3, vI l3), (4, vI l4), (5, vI l5), (6, vI l6)]) dX9_layCan_116 (by decide) rfl ?_
            refine Wa_aload_n 3 dX9_layCan_118 rfl rfl ?_
            refine Wa_getR cf_X9 lk_X9_40 k_88 (j := 19) rfl (by decide) dX9_layCan_119 ?_
            refine Wa_bipush (z := 9) dX9_layCan_122 (by decide) ?_
            refine Wa_iload 8 dX9_layCan_124 rfl ?_
            refine Wa_imul dX9_layCan_126 ?_
            refine Wa_iload 9 dX9_layCan_127 rfl ?_
            refine Wa_iadd dX9_layCan_129 ?_
            refine Wa_iload 0 dX9_layCan_130 rfl ?_
            obtain ⟨b21, h⟩ := h
            refine Wa_iast k_99 b21 r12 dX9_layCan_132 ?_
            refine Wa_iinc (ls' := [(6, vI (l6 + (-1))), (7, vI (M 99 (((9 * (l5 + 1)) + l6)).toNat)), (9, vI (M 99 ((((9 * l5) + l6) + 1)).toNat)), (8, vI (M 99 (((9 * (l5 + 1)) + l6)).toNat)), (0, vR 88), (1, vI l1), (2, vI l2), (3, vI l3), (4, vI l4), (5, vI l5)]) 9 dX9_layCan_133 rfl (by decide) rfl ?_
            refine Wa_goto (tgt := 13) dX9_layCan_136 (by decide) ?_
            refine Wa_sub [4, 5, 6, 7, 8, 9, 0] rfl ?_
            exact h
        · have h := h.2 c18
          refine Wa_iconst (z := 1) dX9_layCan_80 ?_
          refine Wa_aload_n 3 dX9_layCan_81 rfl rfl ?_
          refine Wa_getR cf_X9 lk_X9_40 k_88 (j := 19) rfl (by decide) dX9_layCan_82 ?_
          refine Wa_bipush (z := 9) dX9_layCan_85 (by decide) ?_
          refine Wa_iload 8 dX9_layCan_87 rfl ?_
          refine Wa_iconst (z := 1) dX9_layCan_89 ?_
          refine Wa_iadd dX9_layCan_90 ?_
          refine Wa_imul dX9_layCan_91 ?_
          refine Wa_iload 9 dX9_layCan_92 rfl ?_
          refine Wa_iadd dX9_layCan_94 ?_
          refine Wa_iconst (z := 1) dX9_layCan_95 ?_
          refine Wa_iadd dX9_layCan_96 ?_
          obtain ⟨b22, h⟩ := h
          refine Wa_iald2 (v := (M15 99 ((((9 * (l5 + 1)) + l6) + 1)).toNat)) k_99 b22 rfl dX9_layCan_97 (fun r23 => ?_)
          refine Wa_iadd dX9_layCan_98 ?_
          refine Wa_goto (tgt := 116) dX9_layCan_99 (by decide) ?_
          refine Wa_istore (ls' := [(7, vI (1 + (M15 99 ((((9 * (l5 + 1)) + l6) + 1)).toNat))), (9, vI (M 99 ((((9 * l5) + l6) + 1)).toNat)), (8, vI (M 99 (((9 * (l5 + 1)) + l6)).toNat)), (0, vR 88), (1, vI l1), (2, vI l2), (3, vI l3), (4, vI l4), (5, vI l5), (6, vI l6)]) dX9_layCan_116 (by decide) rfl ?_
          refine Wa_aload_n 3 dX9_layCan_118 rfl rfl ?_
          refine Wa_getR cf_X9 lk_X9_40 k_88 (j := 19) rfl (by decide) dX9_layCan_119 ?_
          refine Wa_bipush (z := 9) dX9_layCan_122 (by decide) ?_
          refine Wa_iload 8 dX9_layCan_124 rfl ?_
          refine Wa_imul dX9_layCan_126 ?_
          refine Wa_iload 9 dX9_layCan_127 rfl ?_
          refine Wa_iadd dX9_layCan_129 ?_
          refine Wa_iload 0 dX9_layCan_130 rfl ?_
          obtain ⟨b24, h⟩ := h
          obtain ⟨q25, h⟩ := h
          refine Wa_iast k_99 b24 q25 dX9_layCan_132 ?_
          refine Wa_iinc (ls' := [(6, vI (l6 + (-1))), (7, vI (1 + (M15 99 ((((9 * (l5 + 1)) + l6) + 1)).toNat))), (9, vI (M 99 ((((9 * l5) + l6) + 1)).toNat)), (8, vI (M 99 (((9 * (l5 + 1)) + l6)).toNat)), (0, vR 88), (1, vI l1), (2, vI l2), (3, vI l3), (4, vI l4), (5, vI l5)]) 9 dX9_layCan_133 rfl (by decide) rfl ?_
          refine Wa_goto (tgt := 13) dX9_layCan_136 (by decide) ?_
          refine Wa_sub [4, 5, 6, 7, 8, 9, 0] rfl ?_
          exact h
theorem en_X9_layCan {g : AG} {d : Nat} {l1 : Int} {l2 : Int} {l3 : Int} {l4 : Int} {M : AM} {Q : AM → Prop} (h : S_X9_layCan_0 g d l1 l2 l3 l4 M Q) : MetV g mX9_layCan d [vR 88, vI l1, vI l2, vI l3, vI l4] M Q := MetA.of (by decide) (Nat.le_of_ble_eq_true rfl) h
def S_X9_matchRows_0 (g : AG) (d : Nat) (l1 : Int) (l2 : Int) (l3 : Int) (l4 : Int) (M : AM) (Q : AM → Prop) : Prop := Wa g mX9_matchRows d 0 [(0, vR 88), (1, vI l1), (2, vI l2), (3, vI l3), (4, vI l4)] [] M (QV Q)
def S_X9_matchRows_15 (g : AG) (d : Nat) (l2 : Int) (l4 : Int) (l5 : Int) (l6 : Int) (M : AM) (Q : AM → Prop) : Prop := Wa g mX9_matchRows d 15 [(0, vR 88), (2, vI l2), (4, vI l4), (5, vI l5), (6, vI l6)] [] M (QV Q)
set_option maxRecDepth 100000 in
theorem sg_X9_matchRows_0 {g : AG} {d : Nat} {l1 : Int} {l2 : Int} {l3 : Int} {l4 : Int} {M : AM} {Q : AM → Prop} 
  (h : rg l1 ∧ (rg l2 ∧ (rg l3 ∧ (rg l4 ∧ (MetV g mX9_layCan d [vR 88, vI l1, vI l2, vI l3, vI l4] M (fun M5 => S_X9_matchRows_15 g (d + 1) l2 l4 l1 l3 M5 Q)))))) : S_X9_matchRows_0 g (d + 1) l1 l2 l3 l4 M Q := by
  show Wa _ _ _ _ _ _ _ _
  refine Wa_aload_n 0 dX9_matchRows_0 rfl rfl ?_
  refine Wa_iload_n 1 dX9_matchRows_1 rfl rfl ?_
  refine Wa_iload_n 2 dX9_matchRows_2 rfl rfl ?_
  refine Wa_iload_n 3 dX9_matchRows_3 rfl rfl ?_
  refine Wa_iload 4 dX9_matchRows_4 rfl ?_
  obtain ⟨q1, h⟩ := h
  obtain ⟨q2, h⟩ := h
  obtain ⟨q3, h⟩ := h
  obtain ⟨q4, h⟩ := h
  refine Wa_callV [vI l1, vI l2, vI l3, vI l4] _ cf_X9 rfl k_88 lc_X9_140 cv_X9_layCan rfl rfl (Nat.le_refl _) (Nat.le_of_ble_eq_true rfl) dX9_matchRows_6 h ?_
  intro r M5 h
  obtain ⟨rfl, h⟩ := h
  refine Wa_iload_n 1 dX9_matchRows_9 rfl rfl ?_
  refine Wa_istore (ls' := [(5, vI l1), (0, vR 88), (1, vI l1), (2, vI l2), (3, vI l3), (4, vI l4)]) dX9_matchRows_10 (by decide) rfl ?_
  refine Wa_iload_n 4 dX9_matchRows_12 rfl rfl ?_
  refine Wa_istore (ls' := [(6, vI l3), (5, vI l1), (0, vR 88), (1, vI l1), (2, vI l2), (3, vI l3), (4, vI l4)]) dX9_matchRows_13 (by decide) rfl ?_
  refine Wa_sub [2, 4, 6, 1, 0] rfl ?_
  exact h
set_option maxRecDepth 100000 in
theorem sg_X9_matchRows_15 {g : AG} {d : Nat} {l2 : Int} {l4 : Int} {l5 : Int} {l6 : Int} {M : AM} {Q : AM → Prop} 
  (h : rg l5 ∧ (rg l2 ∧ ((l2 ≤ l5 → (Q M)) ∧ (¬ l2 ≤ l5 → (rg l6 ∧ (rg l4 ∧ ((l4 ≤ l6 → (Q M)) ∧ (¬ l4 ≤ l6 → (MetI g mX9_isSame d [vR 88, vI l5, vI l6] M (fun z8 M7 => rg z8 → ((z8 = 0 → ((0 ≤ ((9 * (l5 + 1)) + l6) ∧ ((9 * (l5 + 1)) + l6) < 81) ∧ ((0 ≤ (((9 * l5) + l6) + 1) ∧ (((9 * l5) + l6) + 1) < 81) ∧ (((M7 99 (((9 * (l5 + 1)) + l6)).toNat) < (M7 99 ((((9 * l5) + l6) + 1)).toNat) → (S_X9_matchRows_15 g (d + 1) l2 l4 l5 (l6 + 1) M7 Q)) ∧ (¬ (M7 99 (((9 * (l5 + 1)) + l6)).toNat) < (M7 99 ((((9 * l5) + l6) + 1)).toNat) → (S_X9_matchRows_15 g (d + 1) l2 l4 (l5 + 1) l6 M7 Q)))))) ∧ (¬ z8 = 0 → (MetV g mX9_keep d [vR 88, vI l5, vI l6] M7 (fun M16 => S_X9_matchRows_15 g (d + 1) l2 l4 (l5 + 1) (l6 + 1) M16 Q)))))))))))))) : S_X9_matchRows_15 g (d + 1) l2 l4 l5 l6 M Q := by
  show Wa _ _ _ _ _ _ _ _
  refine Wa_iload 3 dX9_matchRows_15 rfl ?_
  refine Wa_iload_n 1 dX9_matchRows_17 rfl rfl ?_
  obtain ⟨q1, h⟩ := h
  obtain ⟨q2, h⟩ := h
  refine Wa_icmp_ge (tgt := 101) dX9_matchRows_18 (by decide) q1 q2 (fun c3 => ?_) (fun c3 => ?_)
  · have h := h.1 c3
    exact Wa_return dX9_matchRows_101 rfl ⟨rfl, h⟩
  · have h := h.2 c3
    refine Wa_iload 4 dX9_matchRows_21 rfl ?_
    refine Wa_iload 2 dX9_matchRows_23 rfl ?_
    obtain ⟨q4, h⟩ := h
    obtain ⟨q5, h⟩ := h
    refine Wa_icmp_ge (tgt := 101) dX9_matchRows_25 (by decide) q4 q5 (fun c6 => ?_) (fun c6 => ?_)
    · have h := h.1 c6
      exact Wa_return dX9_matchRows_101 rfl ⟨rfl, h⟩
    · have h := h.2 c6
      refine Wa_aload_n 0 dX9_matchRows_28 rfl rfl ?_
      refine Wa_iload 3 dX9_matchRows_29 rfl ?_
      refine Wa_iload 4 dX9_matchRows_31 rfl ?_
      refine Wa_callV [vI l5, vI l6] _ cf_X9 rfl k_88 lc_X9_125 cv_X9_isSame rfl rfl (Nat.le_refl _) (Nat.le_of_ble_eq_true rfl) dX9_matchRows_33 h ?_
      intro r M7 h
      obtain ⟨z8, rfl, r9, h⟩ := h
      have h := h r9
      refine Wa_if_eq (tgt := 56) dX9_matchRows_36 (by decide) r9 (fun c10 => ?_) (fun c10 => ?_)
      · have h := h.1 c10
        refine Wa_aload_n 0 dX9_matchRows_56 rfl rfl ?_
        refine Wa_getR cf_X9 lk_X9_40 k_88 (j := 19) rfl (by decide) dX9_matchRows_57 ?_
        refine Wa_bipush (z := 9) dX9_matchRows_60 (by decide) ?_
        refine Wa_iload 3 dX9_matchRows_62 rfl ?_
        refine Wa_iconst (z := 1) dX9_matchRows_64 ?_
        refine Wa_iadd dX9_matchRows_65 ?_
        refine Wa_imul dX9_matchRows_66 ?_
        refine Wa_iload 4 dX9_matchRows_67 rfl ?_
        refine Wa_iadd dX9_matchRows_69 ?_
        obtain ⟨b11, h⟩ := h
        refine Wa_iald2 (v := (M7 99 (((9 * (l5 + 1)) + l6)).toNat)) k_99 b11 rfl dX9_matchRows_70 (fun r12 => ?_)
        refine Wa_aload_n 0 dX9_matchRows_71 rfl rfl ?_
        refine Wa_getR cf_X9 lk_X9_40 k_88 (j := 19) rfl (by decide) dX9_matchRows_72 ?_
        refine Wa_bipush (z := 9) dX9_matchRows_75 (by decide) ?_
        refine Wa_iload 3 dX9_matchRows_77 rfl ?_
        refine Wa_imul dX9_matchRows_79 ?_
        refine Wa_iload 4 dX9_matchRows_80 rfl ?_
        refine Wa_iadd dX9_matchRows_82 ?_
        refine Wa_iconst (z := 1) dX9_matchRows_83 ?_
        refine Wa_iadd dX9_matchRows_84 ?_
        obtain ⟨b13, h⟩ := h
        refine Wa_iald2 (v := (M7 99 ((((9 * l5) + l6) + 1)).toNat)) k_99 b13 rfl dX9_matchRows_85 (fun r14 => ?_)
        refine Wa_icmp_lt (tgt := 95) dX9_matchRows_86 (by decide) r12 r14 (fun c15 => ?_) (fun c15 => ?_)
        · have h := h.1 c15
          refine Wa_iinc (ls' := [(6, vI (l6 + 1)), (0, vR 88), (2, vI l2), (4, vI l4), (5, vI l5)]) 4 dX9_matchRows_95 rfl (by decide) rfl ?_
          refine Wa_goto (tgt := 15) dX9_matchRows_98 (by decide) ?_
          refine Wa_sub [1, 2, 3, 4, 0] rfl ?_
          exact h
        · have h := h.2 c15
          refine Wa_iinc (ls' := [(5, vI (l5 + 1)), (0, vR 88), (2, vI l2), (4, vI l4), (6, vI l6)]) 3 dX9_matchRows_89 rfl (by decide) rfl ?_
          refine Wa_goto (tgt := 15) dX9_matchRows_92 (by decide) ?_
          refine Wa_sub [1, 2, 3, 0, 4] rfl ?_
          exact h
      · have h := h.2 c10
        refine Wa_aload_n 0 dX9_matchRows_39 rfl rfl ?_
        refine Wa_iload 3 dX9_matchRows_40 rfl ?_
        refine Wa_iload 4 dX9_matchRows_42 rfl ?_
        refine Wa_callV [vI l5, vI l6] _ cf_X9 rfl k_88 lc_X9_129 cv_X9_keep rfl rfl (Nat.le_refl _) (Nat.le_of_ble_eq_true rfl) dX9_matchRows_44 h ?_
        intro r M16 h
        obtain ⟨rfl, h⟩ := h
        refine Wa_iinc (ls' := [(5, vI (l5 + 1)), (0, vR 88), (2, vI l2), (4, vI l4), (6, vI l6)]) 3 dX9_matchRows_47 rfl (by decide) rfl ?_
        refine Wa_iinc (ls' := [(6, vI (l6 + 1)), (5, vI (l5 + 1)), (0, vR 88), (2, vI l2), (4, vI l4)]) 4 dX9_matchRows_50 rfl (by decide) rfl ?_
        refine Wa_goto (tgt := 15) dX9_matchRows_53 (by decide) ?_
        refine Wa_sub [2, 3, 4, 1, 0] rfl ?_
        exact h
theorem en_X9_matchRows {g : AG} {d : Nat} {l1 : Int} {l2 : Int} {l3 : Int} {l4 : Int} {M : AM} {Q : AM → Prop} (h : S_X9_matchRows_0 g d l1 l2 l3 l4 M Q) : MetV g mX9_matchRows d [vR 88, vI l1, vI l2, vI l3, vI l4] M Q := MetA.of (by decide) (Nat.le_of_ble_eq_true rfl) h
def S_X9_matchPart_0 (g : AG) (d : Nat) (l1 : Int) (l2 : Int) (l3 : Int) (l4 : Int) (M : AM) (Q : AM → Prop) : Prop := Wa g mX9_matchPart d 0 [(0, vR 88), (1, vI l1), (2, vI l2), (3, vI l3), (4, vI l4)] [] M (QV Q)
def S_X9_matchPart_13 (g : AG) (d : Nat) (l5 : Int) (l6 : Int) (l7 : Int) (l8 : Int) (M : AM) (Q : AM → Prop) : Prop := Wa g mX9_matchPart d 13 [(0, vR 88), (5, vI l5), (6, vI l6), (7, vI l7), (8, vI l8)] [] M (QV Q)
def S_X9_matchPart_55 (g : AG) (d : Nat) (l5 : Int) (l6 : Int) (l7 : Int) (l8 : Int) (M : AM) (Q : AM → Prop) : Prop := Wa g mX9_matchPart d 55 [(0, vR 88), (5, vI l5), (6, vI l6), (7, vI l7), (8, vI l8)] [] M (QV Q)
def S_X9_matchPart_101 (g : AG) (d : Nat) (l5 : Int) (l6 : Int) (l7 : Int) (l8 : Int) (M : AM) (Q : AM → Prop) : Prop := Wa g mX9_matchPart d 101 [(0, vR 88), (5, vI l5), (6, vI l6), (7, vI l7), (8, vI l8)] [] M (QV Q)
set_option maxRecDepth 100000 in
theorem sg_X9_matchPart_0 {g : AG} {d : Nat} {l1 : Int} {l2 : Int} {l3 : Int} {l4 : Int} {M : AM} {Q : AM → Prop} 
  (h : S_X9_matchPart_13 g (d + 1) l1 l2 l3 l4 M Q) : S_X9_matchPart_0 g (d + 1) l1 l2 l3 l4 M Q := by
  show Wa _ _ _ _ _ _ _ _
  refine Wa_iload_n 1 dX9_matchPart_0 rfl rfl ?_
  refine Wa_istore (ls' := [(5, vI l1), (0, vR 88), (1, vI l1), (2, vI l2), (3, vI l3), (4, vI l4)]) dX9_matchPart_1 (by decide) rfl ?_
  refine Wa_iload_n 3 dX9_matchPart_3 rfl rfl ?_
  refine Wa_istore (ls' := [(6, vI l2), (5, vI l1), (0, vR 88), (1, vI l1), (2, vI l2), (3, vI l3), (4, vI l4)]) dX9_matchPart_4 (by decide) rfl ?_
  refine Wa_iload_n 5 dX9_matchPart_6 rfl rfl ?_
  refine Wa_istore (ls' := [(7, vI l3), (6, vI l2), (5, vI l1), (0, vR 88), (1, vI l1), (2, vI l2), (3, vI l3), (4, vI l4)]) dX9_matchPart_7 (by decide) rfl ?_
  refine Wa_iload 7 dX9_matchPart_9 rfl ?_
  refine Wa_istore (ls' := [(8, vI l4), (7, vI l3), (6, vI l2), (5, vI l1), (0, vR 88), (1, vI l1), (2, vI l2), (3, vI l3), (4, vI l4)]) dX9_matchPart_11 (by decide) rfl ?_
  refine Wa_sub [4, 3, 2, 1, 0] rfl ?_
  exact h
set_option maxRecDepth 100000 in
theorem sg_X9_matchPart_13 {g : AG} {d : Nat} {l5 : Int} {l6 : Int} {l7 : Int} {l8 : Int} {M : AM} {Q : AM → Prop} 
  (h : rg l5 ∧ (rg l6 ∧ ((l6 ≤ l5 → (S_X9_matchPart_55 g (d + 1) l5 l6 l7 l8 M Q)) ∧ (¬ l6 ≤ l5 → (rg l7 ∧ (rg l8 ∧ ((l8 ≤ l7 → (S_X9_matchPart_55 g (d + 1) l5 l6 l7 l8 M Q)) ∧ (¬ l8 ≤ l7 → (MetI g mX9_isSame d [vR 88, vI l5, vI l7] M (fun z8 M7 => rg z8 → ((z8 = 0 → (S_X9_matchPart_55 g (d + 1) l5 l6 l7 l8 M7 Q)) ∧ (¬ z8 = 0 → (MetV g mX9_keep d [vR 88, vI l5, vI l7] M7 (fun M11 => S_X9_matchPart_13 g (d + 1) (l5 + 1) l6 (l7 + 1) l8 M11 Q)))))))))))))) : S_X9_matchPart_13 g (d + 1) l5 l6 l7 l8 M Q := by
  show Wa _ _ _ _ _ _ _ _
  refine Wa_iload 1 dX9_matchPart_13 rfl ?_
  refine Wa_iload 2 dX9_matchPart_15 rfl ?_
  obtain ⟨q1, h⟩ := h
  obtain ⟨q2, h⟩ := h
  refine Wa_icmp_ge (tgt := 55) dX9_matchPart_17 (by decide) q1 q2 (fun c3 => ?_) (fun c3 => ?_)
  · have h := h.1 c3
    refine Wa_sub [0, 1, 2, 3, 4] rfl ?_
    exact h
  · have h := h.2 c3
    refine Wa_iload 3 dX9_matchPart_20 rfl ?_
    refine Wa_iload 4 dX9_matchPart_22 rfl ?_
    obtain ⟨q4, h⟩ := h
    obtain ⟨q5, h⟩ := h
    refine Wa_icmp_ge (tgt := 55) dX9_matchPart_24 (by decide) q4 q5 (fun c6 => ?_) (fun c6 => ?_)
    · have h := h.1 c6
      refine Wa_sub [0, 1, 2, 3, 4] rfl ?_
      exact h
    · have h := h.2 c6
      refine Wa_aload_n 0 dX9_matchPart_27 rfl rfl ?_
      refine Wa_iload 1 dX9_matchPart_28 rfl ?_
      refine Wa_iload 3 dX9_matchPart_30 rfl ?_
      refine Wa_callV [vI l5, vI l7] _ cf_X9 rfl k_88 lc_X9_125 cv_X9_isSame rfl rfl (Nat.le_refl _) (Nat.le_of_ble_eq_true rfl) dX9_matchPart_32 h ?_
      intro r M7 h
      obtain ⟨z8, rfl, r9, h⟩ := h
      have h := h r9
      refine Wa_if_eq (tgt := 55) dX9_matchPart_35 (by decide) r9 (fun c10 => ?_) (fun c10 => ?_)
      · have h := h.1 c10
        refine Wa_sub [0, 1, 2, 3, 4] rfl ?_
        exact h
      · have h := h.2 c10
        refine Wa_aload_n 0 dX9_matchPart_38 rfl rfl ?_
        refine Wa_iload 1 dX9_matchPart_39 rfl ?_
        refine Wa_iload 3 dX9_matchPart_41 rfl ?_
        refine Wa_callV [vI l5, vI l7] _ cf_X9 rfl k_88 lc_X9_129 cv_X9_keep rfl rfl (Nat.le_refl _) (Nat.le_of_ble_eq_true rfl) dX9_matchPart_43 h ?_
        intro r M11 h
        obtain ⟨rfl, h⟩ := h
        refine Wa_iinc (ls' := [(5, vI (l5 + 1)), (0, vR 88), (6, vI l6), (7, vI l7), (8, vI l8)]) 1 dX9_matchPart_46 rfl (by decide) rfl ?_
        refine Wa_iinc (ls' := [(7, vI (l7 + 1)), (5, vI (l5 + 1)), (0, vR 88), (6, vI l6), (8, vI l8)]) 3 dX9_matchPart_49 rfl (by decide) rfl ?_
        refine Wa_goto (tgt := 13) dX9_matchPart_52 (by decide) ?_
        refine Wa_sub [2, 1, 3, 0, 4] rfl ?_
        exact h
set_option maxRecDepth 100000 in
theorem sg_X9_matchPart_55 {g : AG} {d : Nat} {l5 : Int} {l6 : Int} {l7 : Int} {l8 : Int} {M : AM} {Q : AM → Prop} 
  (h : rg l5 ∧ (rg l6 ∧ ((l6 ≤ l5 → (S_X9_matchPart_101 g (d + 1) l5 l6 l7 l8 M Q)) ∧ (¬ l6 ≤ l5 → (rg l7 ∧ (rg l8 ∧ ((l8 ≤ l7 → (S_X9_matchPart_101 g (d + 1) l5 l6 l7 l8 M Q)) ∧ (¬ l8 ≤ l7 → (rg (l6 - 1) ∧ (rg (l8 - 1) ∧ (MetI g mX9_isSame d [vR 88, vI (l6 - 1), vI (l8 - 1)] M (fun z10 M9 => rg z10 → ((z10 = 0 → (S_X9_matchPart_101 g (d + 1) l5 l6 l7 l8 M9 Q)) ∧ (¬ z10 = 0 → (rg (l6 + (-1)) ∧ (rg (l8 + (-1)) ∧ (MetV g mX9_keep d [vR 88, vI (l6 + (-1)), vI (l8 + (-1))] M9 (fun M15 => S_X9_matchPart_55 g (d + 1) l5 (l6 + (-1)) l7 (l8 + (-1)) M15 Q)))))))))))))))))) : S_X9_matchPart_55 g (d + 1) l5 l6 l7 l8 M Q := by
  show Wa _ _ _ _ _ _ _ _
  refine Wa_iload 1 dX9_matchPart_55 rfl ?_
  refine Wa_iload 2 dX9_matchPart_57 rfl ?_
  obtain ⟨q1, h⟩ := h
  obtain ⟨q2, h⟩ := h
  refine Wa_icmp_ge (tgt := 101) dX9_matchPart_59 (by decide) q1 q2 (fun c3 => ?_) (fun c3 => ?_)
  · have h := h.1 c3
    refine Wa_sub [0, 1, 2, 3, 4] rfl ?_
    exact h
  · have h := h.2 c3
    refine Wa_iload 3 dX9_matchPart_62 rfl ?_
    refine Wa_iload 4 dX9_matchPart_64 rfl ?_
    obtain ⟨q4, h⟩ := h
    obtain ⟨q5, h⟩ := h
    refine Wa_icmp_ge (tgt := 101) dX9_matchPart_66 (by decide) q4 q5 (fun c6 => ?_) (fun c6 => ?_)
    · have h := h.1 c6
      refine Wa_sub [0, 1, 2, 3, 4] rfl ?_
      exact h
    · have h := h.2 c6
      refine Wa_aload_n 0 dX9_matchPart_69 rfl rfl ?_
      refine Wa_iload 2 dX9_matchPart_70 rfl ?_
      refine Wa_iconst (z := 1) dX9_matchPart_72 ?_
      refine Wa_isub dX9_matchPart_73 ?_
      refine Wa_iload 4 dX9_matchPart_74 rfl ?_
      refine Wa_iconst (z := 1) dX9_matchPart_76 ?_
      refine Wa_isub dX9_matchPart_77 ?_
      obtain ⟨q7, h⟩ := h
      obtain ⟨q8, h⟩ := h
      refine Wa_callV [vI (l6 - 1), vI (l8 - 1)] _ cf_X9 rfl k_88 lc_X9_125 cv_X9_isSame rfl rfl (Nat.le_refl _) (Nat.le_of_ble_eq_true rfl) dX9_matchPart_78 h ?_
      intro r M9 h
      obtain ⟨z10, rfl, r11, h⟩ := h
      have h := h r11
      refine Wa_if_eq (tgt := 101) dX9_matchPart_81 (by decide) r11 (fun c12 => ?_) (fun c12 => ?_)
      · have h := h.1 c12
        refine Wa_sub [0, 1, 2, 3, 4] rfl ?_
        exact h
      · have h := h.2 c12
        refine Wa_iinc (ls' := [(6, vI (l6 + (-1))), (0, vR 88), (5, vI l5), (7, vI l7), (8, vI l8)]) 2 dX9_matchPart_84 rfl (by decide) rfl ?_
        refine Wa_iinc (ls' := [(8, vI (l8 + (-1))), (6, vI (l6 + (-1))), (0, vR 88), (5, vI l5), (7, vI l7)]) 4 dX9_matchPart_87 rfl (by decide) rfl ?_
        refine Wa_aload_n 2 dX9_matchPart_90 rfl rfl ?_
        refine Wa_iload 1 dX9_matchPart_91 rfl ?_
        refine Wa_iload 0 dX9_matchPart_93 rfl ?_
        obtain ⟨q13, h⟩ := h
        obtain ⟨q14, h⟩ := h
        refine Wa_callV [vI (l6 + (-1)), vI (l8 + (-1))] _ cf_X9 rfl k_88 lc_X9_129 cv_X9_keep rfl rfl (Nat.le_refl _) (Nat.le_of_ble_eq_true rfl) dX9_matchPart_95 h ?_
        intro r M15 h
        obtain ⟨rfl, h⟩ := h
        refine Wa_goto (tgt := 55) dX9_matchPart_98 (by decide) ?_
        refine Wa_sub [2, 3, 1, 4, 0] rfl ?_
        exact h
set_option maxRecDepth 100000 in
theorem sg_X9_matchPart_101 {g : AG} {d : Nat} {l5 : Int} {l6 : Int} {l7 : Int} {l8 : Int} {M : AM} {Q : AM → Prop} 
  (h : rg l5 ∧ (rg l6 ∧ ((l6 ≤ l5 → (Q M)) ∧ (¬ l6 ≤ l5 → (rg l7 ∧ (rg l8 ∧ ((l8 ≤ l7 → (Q M)) ∧ (¬ l8 ≤ l7 → (MetI g mX9_layAnchors d [vR 88, vI l5, vI l6, vI l7, vI l8] M (fun z8 M7 => rg z8 → ((z8 ≤ 0 → (MetV g mX9_matchRows d [vR 88, vI l5, vI l6, vI l7, vI l8] M7 (fun M11 => Q M11))) ∧ (¬ z8 ≤ 0 → (MetV g mX9_matchAnchors d [vR 88, vI l5, vI l6, vI l7, vI l8, vI z8] M7 (fun M14 => Q M14)))))))))))))) : S_X9_matchPart_101 g (d + 1) l5 l6 l7 l8 M Q := by
  show Wa _ _ _ _ _ _ _ _
  refine Wa_iload 1 dX9_matchPart_101 rfl ?_
  refine Wa_iload 2 dX9_matchPart_103 rfl ?_
  obtain ⟨q1, h⟩ := h
  obtain ⟨q2, h⟩ := h
  refine Wa_icmp_ge (tgt := 163) dX9_matchPart_105 (by decide) q1 q2 (fun c3 => ?_) (fun c3 => ?_)
  · have h := h.1 c3
    exact Wa_return dX9_matchPart_163 rfl ⟨rfl, h⟩
  · have h := h.2 c3
    refine Wa_iload 3 dX9_matchPart_108 rfl ?_
    refine Wa_iload 4 dX9_matchPart_110 rfl ?_
    obtain ⟨q4, h⟩ := h
    obtain ⟨q5, h⟩ := h
    refine Wa_icmp_ge (tgt := 163) dX9_matchPart_112 (by decide) q4 q5 (fun c6 => ?_) (fun c6 => ?_)
    · have h := h.1 c6
      exact Wa_return dX9_matchPart_163 rfl ⟨rfl, h⟩
    · have h := h.2 c6
      refine Wa_aload_n 0 dX9_matchPart_115 rfl rfl ?_
      refine Wa_iload 1 dX9_matchPart_116 rfl ?_
      refine Wa_iload 2 dX9_matchPart_118 rfl ?_
      refine Wa_iload 3 dX9_matchPart_120 rfl ?_
      refine Wa_iload 4 dX9_matchPart_122 rfl ?_
      refine Wa_callV [vI l5, vI l6, vI l7, vI l8] _ cf_X9 rfl k_88 lc_X9_143 cv_X9_layAnchors rfl rfl (Nat.le_refl _) (Nat.le_of_ble_eq_true rfl) dX9_matchPart_124 h ?_
      intro r M7 h
      obtain ⟨z8, rfl, r9, h⟩ := h
      have h := h r9
      refine Wa_istore (ls' := [(9, vI z8), (0, vR 88), (5, vI l5), (6, vI l6), (7, vI l7), (8, vI l8)]) dX9_matchPart_127 (by decide) rfl ?_
      refine Wa_iload 0 dX9_matchPart_129 rfl ?_
      refine Wa_if_le (tgt := 151) dX9_matchPart_131 (by decide) r9 (fun c10 => ?_) (fun c10 => ?_)
      · have h := h.1 c10
        refine Wa_aload_n 1 dX9_matchPart_151 rfl rfl ?_
        refine Wa_iload 2 dX9_matchPart_152 rfl ?_
        refine Wa_iload 3 dX9_matchPart_154 rfl ?_
        refine Wa_iload 4 dX9_matchPart_156 rfl ?_
        refine Wa_iload 5 dX9_matchPart_158 rfl ?_
        refine Wa_callV [vI l5, vI l6, vI l7, vI l8] _ cf_X9 rfl k_88 lc_X9_151 cv_X9_matchRows rfl rfl (Nat.le_refl _) (Nat.le_of_ble_eq_true rfl) dX9_matchPart_160 h ?_
        intro r M11 h
        obtain ⟨rfl, h⟩ := h
        exact Wa_return dX9_matchPart_163 rfl ⟨rfl, h⟩
      · have h := h.2 c10
        refine Wa_aload_n 1 dX9_matchPart_134 rfl rfl ?_
        refine Wa_iload 2 dX9_matchPart_135 rfl ?_
        refine Wa_iload 3 dX9_matchPart_137 rfl ?_
        refine Wa_iload 4 dX9_matchPart_139 rfl ?_
        refine Wa_iload 5 dX9_matchPart_141 rfl ?_
        refine Wa_iload 0 dX9_matchPart_143 rfl ?_
        refine Wa_callV [vI l5, vI l6, vI l7, vI l8, vI z8] _ cf_X9 rfl k_88 lc_X9_147 cv_X9_matchAnchors rfl rfl (Nat.le_refl _) (Nat.le_of_ble_eq_true rfl) dX9_matchPart_145 h ?_
        intro r M14 h
        obtain ⟨rfl, h⟩ := h
        refine Wa_goto (tgt := 163) dX9_matchPart_148 (by decide) ?_
        exact Wa_return dX9_matchPart_163 rfl ⟨rfl, h⟩
theorem en_X9_matchPart {g : AG} {d : Nat} {l1 : Int} {l2 : Int} {l3 : Int} {l4 : Int} {M : AM} {Q : AM → Prop} (h : S_X9_matchPart_0 g d l1 l2 l3 l4 M Q) : MetV g mX9_matchPart d [vR 88, vI l1, vI l2, vI l3, vI l4] M Q := MetA.of (by decide) (Nat.le_of_ble_eq_true rfl) h
def S_X9_matchAll_0 (g : AG) (d : Nat) (M : AM) (Q : AM → Prop) : Prop := Wa g mX9_matchAll d 0 [(0, vR 88)] [] M (QV Q)
def S_X9_matchAll_2 (g : AG) (d : Nat) (l1 : Int) (M : AM) (Q : AM → Prop) : Prop := Wa g mX9_matchAll d 2 [(0, vR 88), (1, vI l1)] [] M (QV Q)
def S_X9_matchAll_49 (g : AG) (d : Nat) (M : AM) (Q : AM → Prop) : Prop := Wa g mX9_matchAll d 49 [(0, vR 88)] [] M (QV Q)
set_option maxRecDepth 100000 in
theorem sg_X9_matchAll_0 {g : AG} {d : Nat} {M : AM} {Q : AM → Prop} 
  (h : S_X9_matchAll_2 g (d + 1) 0 M Q) : S_X9_matchAll_0 g (d + 1) M Q := by
  show Wa _ _ _ _ _ _ _ _
  refine Wa_iconst (z := 0) dX9_matchAll_0 ?_
  refine Wa_istore_n (ls' := [(1, vI 0), (0, vR 88)]) dX9_matchAll_1 rfl (by decide) rfl ?_
  refine Wa_sub [1, 0] rfl ?_
  exact h
set_option maxRecDepth 100000 in
theorem sg_X9_matchAll_2 {g : AG} {d : Nat} {l1 : Int} {M : AM} {Q : AM → Prop} 
  (h : rg l1 ∧ ((32 ≤ l1 → (MetV g mX9_addPart d [vR 88, vI 0, vI (M 93 0), vI 0, vI (M 93 1)] (mU (mU M 88 12 0) 88 15 0) (fun M5 => S_X9_matchAll_49 g (d + 1) M5 Q))) ∧ (¬ 32 ≤ l1 → ((0 ≤ l1 ∧ l1 < 32) ∧ (S_X9_matchAll_2 g (d + 1) (l1 + 1) (mU M 94 (l1).toNat (-1)) Q))))) : S_X9_matchAll_2 g (d + 1) l1 M Q := by
  show Wa _ _ _ _ _ _ _ _
  refine Wa_iload_n 1 dX9_matchAll_2 rfl rfl ?_
  refine Wa_bipush (z := 32) dX9_matchAll_3 (by decide) ?_
  obtain ⟨q1, h⟩ := h
  refine Wa_icmp_ge (tgt := 21) dX9_matchAll_5 (by decide) q1 ⟨by decide, by decide⟩ (fun c2 => ?_) (fun c2 => ?_)
  · have h := h.1 c2
    refine Wa_aload_n 0 dX9_matchAll_21 rfl rfl ?_
    refine Wa_iconst (z := 0) dX9_matchAll_22 ?_
    refine Wa_putI cf_X9 lk_X9_133 k_88 (j := 12) rfl (by decide) rfl rfl ⟨by decide, by decide⟩ dX9_matchAll_23 ?_
    refine Wa_aload_n 0 dX9_matchAll_26 rfl rfl ?_
    refine Wa_iconst (z := 0) dX9_matchAll_27 ?_
    refine Wa_putI cf_X9 lk_X9_118 k_88 (j := 15) rfl (by decide) rfl rfl ⟨by decide, by decide⟩ dX9_matchAll_28 ?_
    refine Wa_aload_n 0 dX9_matchAll_31 rfl rfl ?_
    refine Wa_iconst (z := 0) dX9_matchAll_32 ?_
    refine Wa_aload_n 0 dX9_matchAll_33 rfl rfl ?_
    refine Wa_getR cf_X9 lk_X9_22 k_88 (j := 8) rfl (by decide) dX9_matchAll_34 ?_
    refine Wa_iconst (z := 0) dX9_matchAll_37 ?_
    refine Wa_iald2 (v := (M 93 0)) k_93 ⟨by decide, by decide⟩ ((mU_rd (by decide)).trans (mU_rd (by decide))) dX9_matchAll_38 (fun r3 => ?_)
    refine Wa_iconst (z := 0) dX9_matchAll_39 ?_
    refine Wa_aload_n 0 dX9_matchAll_40 rfl rfl ?_
    refine Wa_getR cf_X9 lk_X9_22 k_88 (j := 8) rfl (by decide) dX9_matchAll_41 ?_
    refine Wa_iconst (z := 1) dX9_matchAll_44 ?_
    refine Wa_iald2 (v := (M 93 1)) k_93 ⟨by decide, by decide⟩ ((mU_rd (by decide)).trans (mU_rd (by decide))) dX9_matchAll_45 (fun r4 => ?_)
    refine Wa_callV [vI 0, vI (M 93 0), vI 0, vI (M 93 1)] _ cf_X9 rfl k_88 lc_X9_136 cv_X9_addPart rfl rfl (Nat.le_refl _) (Nat.le_of_ble_eq_true rfl) dX9_matchAll_46 h ?_
    intro r M5 h
    obtain ⟨rfl, h⟩ := h
    refine Wa_sub [0] rfl ?_
    exact h
  · have h := h.2 c2
    refine Wa_aload_n 0 dX9_matchAll_8 rfl rfl ?_
    refine Wa_getR cf_X9 lk_X9_25 k_88 (j := 11) rfl (by decide) dX9_matchAll_9 ?_
    refine Wa_iload_n 1 dX9_matchAll_12 rfl rfl ?_
    refine Wa_iconst (z := (-1)) dX9_matchAll_13 ?_
    obtain ⟨b8, h⟩ := h
    refine Wa_iast k_94 b8 ⟨by decide, by decide⟩ dX9_matchAll_14 ?_
    refine Wa_iinc (ls' := [(1, vI (l1 + 1)), (0, vR 88)]) 1 dX9_matchAll_15 rfl (by decide) rfl ?_
    refine Wa_goto (tgt := 2) dX9_matchAll_18 (by decide) ?_
    refine Wa_sub [1, 0] rfl ?_
    exact h
set_option maxRecDepth 100000 in
theorem sg_X9_matchAll_49 {g : AG} {d : Nat} {M : AM} {Q : AM → Prop} 
  (h : ((M 88 15) ≤ 0 → (Q M)) ∧ (¬ (M 88 15) ≤ 0 → (rg ((M 88 15) - 1) ∧ ((0 ≤ (4 * ((M 88 15) - 1)) ∧ (4 * ((M 88 15) - 1)) < 200) ∧ ((0 ≤ ((4 * ((M 88 15) - 1)) + 1) ∧ ((4 * ((M 88 15) - 1)) + 1) < 200) ∧ ((0 ≤ ((4 * ((M 88 15) - 1)) + 2) ∧ ((4 * ((M 88 15) - 1)) + 2) < 200) ∧ ((0 ≤ ((4 * ((M 88 15) - 1)) + 3) ∧ ((4 * ((M 88 15) - 1)) + 3) < 200) ∧ (MetV g mX9_matchPart d [vR 88, vI (M 95 ((4 * ((M 88 15) - 1))).toNat), vI (M 95 (((4 * ((M 88 15) - 1)) + 1)).toNat), vI (M 95 (((4 * ((M 88 15) - 1)) + 2)).toNat), vI (M 95 (((4 * ((M 88 15) - 1)) + 3)).toNat)] (mU M 88 15 ((M 88 15) - 1)) (fun M17 => S_X9_matchAll_49 g (d + 1) M17 Q))))))))) : S_X9_matchAll_49 g (d + 1) M Q := by
  show Wa _ _ _ _ _ _ _ _
  refine Wa_aload_n 0 dX9_matchAll_49 rfl rfl ?_
  refine Wa_getI2 (v := (M 88 15)) cf_X9 lk_X9_118 k_88 (j := 15) rfl (by decide) rfl dX9_matchAll_50 (fun r1 => ?_)
  refine Wa_if_le (tgt := 123) dX9_matchAll_53 (by decide) r1 (fun c2 => ?_) (fun c2 => ?_)
  · have h := h.1 c2
    exact Wa_return dX9_matchAll_123 rfl ⟨rfl, h⟩
  · have h := h.2 c2
    refine Wa_aload_n 0 dX9_matchAll_56 rfl rfl ?_
    refine Wa_dup dX9_matchAll_57 rfl ?_
    refine Wa_getI2 (v := (M 88 15)) cf_X9 lk_X9_118 k_88 (j := 15) rfl (by decide) rfl dX9_matchAll_58 (fun r3 => ?_)
    refine Wa_iconst (z := 1) dX9_matchAll_61 ?_
    refine Wa_isub dX9_matchAll_62 ?_
    obtain ⟨q4, h⟩ := h
    refine Wa_putI cf_X9 lk_X9_118 k_88 (j := 15) rfl (by decide) rfl rfl q4 dX9_matchAll_63 ?_
    refine Wa_aload_n 0 dX9_matchAll_66 rfl rfl ?_
    refine Wa_aload_n 0 dX9_matchAll_67 rfl rfl ?_
    refine Wa_getR cf_X9 lk_X9_28 k_88 (j := 14) rfl (by decide) dX9_matchAll_68 ?_
    refine Wa_iconst (z := 4) dX9_matchAll_71 ?_
    refine Wa_aload_n 0 dX9_matchAll_72 rfl rfl ?_
    refine Wa_getI2 (v := ((M 88 15) - 1)) cf_X9 lk_X9_118 k_88 (j := 15) rfl (by decide) mU_at dX9_matchAll_73 (fun r5 => ?_)
    refine Wa_imul dX9_matchAll_76 ?_
    obtain ⟨b6, h⟩ := h
    refine Wa_iald2 (v := (M 95 ((4 * ((M 88 15) - 1))).toNat)) k_95 b6 (mU_rd (by decide)) dX9_matchAll_77 (fun r7 => ?_)
    refine Wa_aload_n 0 dX9_matchAll_78 rfl rfl ?_
    refine Wa_getR cf_X9 lk_X9_28 k_88 (j := 14) rfl (by decide) dX9_matchAll_79 ?_
    refine Wa_iconst (z := 4) dX9_matchAll_82 ?_
    refine Wa_aload_n 0 dX9_matchAll_83 rfl rfl ?_
    refine Wa_getI2 (v := ((M 88 15) - 1)) cf_X9 lk_X9_118 k_88 (j := 15) rfl (by decide) mU_at dX9_matchAll_84 (fun r8 => ?_)
    refine Wa_imul dX9_matchAll_87 ?_
    refine Wa_iconst (z := 1) dX9_matchAll_88 ?_
    refine Wa_iadd dX9_matchAll_89 ?_
    obtain ⟨b9, h⟩ := h
    refine Wa_iald2 (v := (M 95 (((4 * ((M 88 15) - 1)) + 1)).toNat)) k_95 b9 (mU_rd (by decide)) dX9_matchAll_90 (fun r10 => ?_)
    refine Wa_aload_n 0 dX9_matchAll_91 rfl rfl ?_
    refine Wa_getR cf_X9 lk_X9_28 k_88 (j := 14) rfl (by decide) dX9_matchAll_92 ?_
    refine Wa_iconst (z := 4) dX9_matchAll_95 ?_
    refine Wa_aload_n 0 dX9_matchAll_96 rfl rfl ?_
    refine Wa_getI2 (v := ((M 88 15) - 1)) cf_X9 lk_X9_118 k_88 (j := 15) rfl (by decide) mU_at dX9_matchAll_97 (fun r11 => ?_)
    refine Wa_imul dX9_matchAll_100 ?_
    refine Wa_iconst (z := 2) dX9_matchAll_101 ?_
    refine Wa_iadd dX9_matchAll_102 ?_
    obtain ⟨b12, h⟩ := h
    refine Wa_iald2 (v := (M 95 (((4 * ((M 88 15) - 1)) + 2)).toNat)) k_95 b12 (mU_rd (by decide)) dX9_matchAll_103 (fun r13 => ?_)
    refine Wa_aload_n 0 dX9_matchAll_104 rfl rfl ?_
    refine Wa_getR cf_X9 lk_X9_28 k_88 (j := 14) rfl (by decide) dX9_matchAll_105 ?_
    refine Wa_iconst (z := 4) dX9_matchAll_108 ?_
    refine Wa_aload_n 0 dX9_matchAll_109 rfl rfl ?_
    refine Wa_getI2 (v := ((M 88 15) - 1)) cf_X9 lk_X9_118 k_88 (j := 15) rfl (by decide) mU_at dX9_matchAll_110 (fun r14 => ?_)
    refine Wa_imul dX9_matchAll_113 ?_
    refine Wa_iconst (z := 3) dX9_matchAll_114 ?_
    refine Wa_iadd dX9_matchAll_115 ?_
    obtain ⟨b15, h⟩ := h
    refine Wa_iald2 (v := (M 95 (((4 * ((M 88 15) - 1)) + 3)).toNat)) k_95 b15 (mU_rd (by decide)) dX9_matchAll_116 (fun r16 => ?_)
    refine Wa_callV [vI (M 95 ((4 * ((M 88 15) - 1))).toNat), vI (M 95 (((4 * ((M 88 15) - 1)) + 1)).toNat), vI (M 95 (((4 * ((M 88 15) - 1)) + 2)).toNat), vI (M 95 (((4 * ((M 88 15) - 1)) + 3)).toNat)] _ cf_X9 rfl k_88 lc_X9_154 cv_X9_matchPart rfl rfl (Nat.le_refl _) (Nat.le_of_ble_eq_true rfl) dX9_matchAll_117 h ?_
    intro r M17 h
    obtain ⟨rfl, h⟩ := h
    refine Wa_goto (tgt := 49) dX9_matchAll_120 (by decide) ?_
    refine Wa_sub [0] rfl ?_
    exact h
theorem en_X9_matchAll {g : AG} {d : Nat} {M : AM} {Q : AM → Prop} (h : S_X9_matchAll_0 g d M Q) : MetV g mX9_matchAll d [vR 88] M Q := MetA.of (by decide) (Nat.le_of_ble_eq_true rfl) h
def S_X9_countGap_0 (g : AG) (d : Nat) (l1 : Int) (l2 : Int) (M : AM) (Q : Int → AM → Prop) : Prop := Wa g mX9_countGap d 0 [(0, vR 88), (1, vI l1), (2, vI l2)] [] M (QI Q)
def S_X9_countGap_2 (g : AG) (d : Nat) (l1 : Int) (l2 : Int) (l3 : Int) (M : AM) (Q : Int → AM → Prop) : Prop := Wa g mX9_countGap d 2 [(0, vR 88), (1, vI l1), (2, vI l2), (3, vI l3)] [] M (QI Q)
set_option maxRecDepth 100000 in
theorem sg_X9_countGap_0 {g : AG} {d : Nat} {l1 : Int} {l2 : Int} {M : AM} {Q : Int → AM → Prop} 
  (h : S_X9_countGap_2 g (d + 1) l1 l2 0 M Q) : S_X9_countGap_0 g (d + 1) l1 l2 M Q := by
  show Wa _ _ _ _ _ _ _ _
  refine Wa_iconst (z := 0) dX9_countGap_0 ?_
  refine Wa_istore_n (ls' := [(3, vI 0), (0, vR 88), (1, vI l1), (2, vI l2)]) dX9_countGap_1 rfl (by decide) rfl ?_
  refine Wa_sub [1, 2, 3, 0] rfl ?_
  exact h
set_option maxRecDepth 100000 in
theorem sg_X9_countGap_2 {g : AG} {d : Nat} {l1 : Int} {l2 : Int} {l3 : Int} {M : AM} {Q : Int → AM → Prop} 
  (h : (0 ≤ l1 ∧ l1 < 2) ∧ (rg (l2 + l3) ∧ (((M 93 (l1).toNat) ≤ (l2 + l3) → (rg l3 ∧ (Q l3 M))) ∧ (¬ (M 93 (l1).toNat) ≤ (l2 + l3) → ((0 ≤ (((16 * l1) + l2) + l3) ∧ (((16 * l1) + l2) + l3) < 32) ∧ ((¬ (M 94 ((((16 * l1) + l2) + l3)).toNat) = (-1) → (rg l3 ∧ (Q l3 M))) ∧ ((M 94 ((((16 * l1) + l2) + l3)).toNat) = (-1) → (S_X9_countGap_2 g (d + 1) l1 l2 (l3 + 1) M Q)))))))) : S_X9_countGap_2 g (d + 1) l1 l2 l3 M Q := by
  show Wa _ _ _ _ _ _ _ _
  refine Wa_iload_n 2 dX9_countGap_2 rfl rfl ?_
  refine Wa_iload_n 3 dX9_countGap_3 rfl rfl ?_
  refine Wa_iadd dX9_countGap_4 ?_
  refine Wa_aload_n 0 dX9_countGap_5 rfl rfl ?_
  refine Wa_getR cf_X9 lk_X9_22 k_88 (j := 8) rfl (by decide) dX9_countGap_6 ?_
  refine Wa_iload_n 1 dX9_countGap_9 rfl rfl ?_
  obtain ⟨b1, h⟩ := h
  refine Wa_iald2 (v := (M 93 (l1).toNat)) k_93 b1 rfl dX9_countGap_10 (fun r2 => ?_)
  obtain ⟨q3, h⟩ := h
  refine Wa_icmp_ge (tgt := 37) dX9_countGap_11 (by decide) q3 r2 (fun c4 => ?_) (fun c4 => ?_)
  · have h := h.1 c4
    refine Wa_iload_n 3 dX9_countGap_37 rfl rfl ?_
    obtain ⟨q5, h⟩ := h
    exact Wa_ireturn dX9_countGap_38 rfl ⟨_, rfl, q5, h⟩
  · have h := h.2 c4
    refine Wa_aload_n 0 dX9_countGap_14 rfl rfl ?_
    refine Wa_getR cf_X9 lk_X9_25 k_88 (j := 11) rfl (by decide) dX9_countGap_15 ?_
    refine Wa_bipush (z := 16) dX9_countGap_18 (by decide) ?_
    refine Wa_iload_n 1 dX9_countGap_20 rfl rfl ?_
    refine Wa_imul dX9_countGap_21 ?_
    refine Wa_iload_n 2 dX9_countGap_22 rfl rfl ?_
    refine Wa_iadd dX9_countGap_23 ?_
    refine Wa_iload_n 3 dX9_countGap_24 rfl rfl ?_
    refine Wa_iadd dX9_countGap_25 ?_
    obtain ⟨b6, h⟩ := h
    refine Wa_iald2 (v := (M 94 ((((16 * l1) + l2) + l3)).toNat)) k_94 b6 rfl dX9_countGap_26 (fun r7 => ?_)
    refine Wa_iconst (z := (-1)) dX9_countGap_27 ?_
    refine Wa_icmp_ne (tgt := 37) dX9_countGap_28 (by decide) r7 ⟨by decide, by decide⟩ (fun c8 => ?_) (fun c8 => ?_)
    · have h := h.1 c8
      refine Wa_iload_n 3 dX9_countGap_37 rfl rfl ?_
      obtain ⟨q9, h⟩ := h
      exact Wa_ireturn dX9_countGap_38 rfl ⟨_, rfl, q9, h⟩
    · have h := h.2 c8
      refine Wa_iinc (ls' := [(3, vI (l3 + 1)), (0, vR 88), (1, vI l1), (2, vI l2)]) 3 dX9_countGap_31 rfl (by decide) rfl ?_
      refine Wa_goto (tgt := 2) dX9_countGap_34 (by decide) ?_
      refine Wa_sub [1, 2, 3, 0] rfl ?_
      exact h
theorem en_X9_countGap {g : AG} {d : Nat} {l1 : Int} {l2 : Int} {M : AM} {Q : Int → AM → Prop} (h : S_X9_countGap_0 g d l1 l2 M Q) : MetI g mX9_countGap d [vR 88, vI l1, vI l2] M Q := MetA.of (by decide) (Nat.le_of_ble_eq_true rfl) h
def S_X9_countBack_0 (g : AG) (d : Nat) (l1 : Int) (l2 : Int) (M : AM) (Q : Int → AM → Prop) : Prop := Wa g mX9_countBack d 0 [(0, vR 88), (1, vI l1), (2, vI l2)] [] M (QI Q)
def S_X9_countBack_2 (g : AG) (d : Nat) (l1 : Int) (l2 : Int) (l3 : Int) (M : AM) (Q : Int → AM → Prop) : Prop := Wa g mX9_countBack d 2 [(0, vR 88), (1, vI l1), (2, vI l2), (3, vI l3)] [] M (QI Q)
set_option maxRecDepth 100000 in
theorem sg_X9_countBack_0 {g : AG} {d : Nat} {l1 : Int} {l2 : Int} {M : AM} {Q : Int → AM → Prop} 
  (h : S_X9_countBack_2 g (d + 1) l1 l2 0 M Q) : S_X9_countBack_0 g (d + 1) l1 l2 M Q := by
  show Wa _ _ _ _ _ _ _ _
  refine Wa_iconst (z := 0) dX9_countBack_0 ?_
  refine Wa_istore_n (ls' := [(3, vI 0), (0, vR 88), (1, vI l1), (2, vI l2)]) dX9_countBack_1 rfl (by decide) rfl ?_
  refine Wa_sub [1, 2, 3, 0] rfl ?_
  exact h
set_option maxRecDepth 100000 in
theorem sg_X9_countBack_2 {g : AG} {d : Nat} {l1 : Int} {l2 : Int} {l3 : Int} {M : AM} {Q : Int → AM → Prop} 
  (h : rg (l2 - l3) ∧ (((l2 - l3) ≤ 0 → (rg l3 ∧ (Q l3 M))) ∧ (¬ (l2 - l3) ≤ 0 → ((0 ≤ ((((16 * l1) + l2) - l3) - 1) ∧ ((((16 * l1) + l2) - l3) - 1) < 32) ∧ ((¬ (M 94 (((((16 * l1) + l2) - l3) - 1)).toNat) = (-1) → (rg l3 ∧ (Q l3 M))) ∧ ((M 94 (((((16 * l1) + l2) - l3) - 1)).toNat) = (-1) → (S_X9_countBack_2 g (d + 1) l1 l2 (l3 + 1) M Q))))))) : S_X9_countBack_2 g (d + 1) l1 l2 l3 M Q := by
  show Wa _ _ _ _ _ _ _ _
  refine Wa_iload_n 2 dX9_countBack_2 rfl rfl ?_
  refine Wa_iload_n 3 dX9_countBack_3 rfl rfl ?_
  refine Wa_isub dX9_countBack_4 ?_
  obtain ⟨q1, h⟩ := h
  refine Wa_if_le (tgt := 33) dX9_countBack_5 (by decide) q1 (fun c2 => ?_) (fun c2 => ?_)
  · have h := h.1 c2
    refine Wa_iload_n 3 dX9_countBack_33 rfl rfl ?_
    obtain ⟨q3, h⟩ := h
    exact Wa_ireturn dX9_countBack_34 rfl ⟨_, rfl, q3, h⟩
  · have h := h.2 c2
    refine Wa_aload_n 0 dX9_countBack_8 rfl rfl ?_
    refine Wa_getR cf_X9 lk_X9_25 k_88 (j := 11) rfl (by decide) dX9_countBack_9 ?_
    refine Wa_bipush (z := 16) dX9_countBack_12 (by decide) ?_
    refine Wa_iload_n 1 dX9_countBack_14 rfl rfl ?_
    refine Wa_imul dX9_countBack_15 ?_
    refine Wa_iload_n 2 dX9_countBack_16 rfl rfl ?_
    refine Wa_iadd dX9_countBack_17 ?_
    refine Wa_iload_n 3 dX9_countBack_18 rfl rfl ?_
    refine Wa_isub dX9_countBack_19 ?_
    refine Wa_iconst (z := 1) dX9_countBack_20 ?_
    refine Wa_isub dX9_countBack_21 ?_
    obtain ⟨b4, h⟩ := h
    refine Wa_iald2 (v := (M 94 (((((16 * l1) + l2) - l3) - 1)).toNat)) k_94 b4 rfl dX9_countBack_22 (fun r5 => ?_)
    refine Wa_iconst (z := (-1)) dX9_countBack_23 ?_
    refine Wa_icmp_ne (tgt := 33) dX9_countBack_24 (by decide) r5 ⟨by decide, by decide⟩ (fun c6 => ?_) (fun c6 => ?_)
    · have h := h.1 c6
      refine Wa_iload_n 3 dX9_countBack_33 rfl rfl ?_
      obtain ⟨q7, h⟩ := h
      exact Wa_ireturn dX9_countBack_34 rfl ⟨_, rfl, q7, h⟩
    · have h := h.2 c6
      refine Wa_iinc (ls' := [(3, vI (l3 + 1)), (0, vR 88), (1, vI l1), (2, vI l2)]) 3 dX9_countBack_27 rfl (by decide) rfl ?_
      refine Wa_goto (tgt := 2) dX9_countBack_30 (by decide) ?_
      refine Wa_sub [1, 2, 3, 0] rfl ?_
      exact h
theorem en_X9_countBack {g : AG} {d : Nat} {l1 : Int} {l2 : Int} {M : AM} {Q : Int → AM → Prop} (h : S_X9_countBack_0 g d l1 l2 M Q) : MetI g mX9_countBack d [vR 88, vI l1, vI l2] M Q := MetA.of (by decide) (Nat.le_of_ble_eq_true rfl) h
def S_X9_isSliding_0 (g : AG) (d : Nat) (l1 : Int) (l2 : Int) (l3 : Int) (M : AM) (Q : Int → AM → Prop) : Prop := Wa g mX9_isSliding d 0 [(0, vR 88), (1, vI l1), (2, vI l2), (3, vI l3)] [] M (QI Q)
set_option maxRecDepth 100000 in
theorem sg_X9_isSliding_0 {g : AG} {d : Nat} {l1 : Int} {l2 : Int} {l3 : Int} {M : AM} {Q : Int → AM → Prop} 
  (h : rg ((l2 - l3) - 1) ∧ ((((l2 - l3) - 1) < 0 → (Q 0 M)) ∧ (¬ ((l2 - l3) - 1) < 0 → ((0 ≤ (((16 * l1) + l2) - 1) ∧ (((16 * l1) + l2) - 1) < 32) ∧ ((0 ≤ ((16 * l1) + ((l2 - l3) - 1)) ∧ ((16 * l1) + ((l2 - l3) - 1)) < 32) ∧ ((¬ (M 92 ((((16 * l1) + l2) - 1)).toNat) = (M 92 (((16 * l1) + ((l2 - l3) - 1))).toNat) → (Q 0 M)) ∧ ((M 92 ((((16 * l1) + l2) - 1)).toNat) = (M 92 (((16 * l1) + ((l2 - l3) - 1))).toNat) → (Q 1 M)))))))) : S_X9_isSliding_0 g (d + 1) l1 l2 l3 M Q := by
  show Wa _ _ _ _ _ _ _ _
  refine Wa_iload_n 2 dX9_isSliding_0 rfl rfl ?_
  refine Wa_iload_n 3 dX9_isSliding_1 rfl rfl ?_
  refine Wa_isub dX9_isSliding_2 ?_
  refine Wa_iconst (z := 1) dX9_isSliding_3 ?_
  refine Wa_isub dX9_isSliding_4 ?_
  refine Wa_istore (ls' := [(4, vI ((l2 - l3) - 1)), (0, vR 88), (1, vI l1), (2, vI l2), (3, vI l3)]) dX9_isSliding_5 (by decide) rfl ?_
  refine Wa_iload 0 dX9_isSliding_7 rfl ?_
  obtain ⟨q1, h⟩ := h
  refine Wa_if_lt (tgt := 44) dX9_isSliding_9 (by decide) q1 (fun c2 => ?_) (fun c2 => ?_)
  · have h := h.1 c2
    refine Wa_iconst (z := 0) dX9_isSliding_44 ?_
    exact Wa_zreturn dX9_isSliding_45 rfl (by decide) ⟨_, rfl, rg_bool (by decide), h⟩
  · have h := h.2 c2
    refine Wa_aload_n 1 dX9_isSliding_12 rfl rfl ?_
    refine Wa_getR cf_X9 lk_X9_19 k_88 (j := 7) rfl (by decide) dX9_isSliding_13 ?_
    refine Wa_bipush (z := 16) dX9_isSliding_16 (by decide) ?_
    refine Wa_iload_n 2 dX9_isSliding_18 rfl rfl ?_
    refine Wa_imul dX9_isSliding_19 ?_
    refine Wa_iload_n 3 dX9_isSliding_20 rfl rfl ?_
    refine Wa_iadd dX9_isSliding_21 ?_
    refine Wa_iconst (z := 1) dX9_isSliding_22 ?_
    refine Wa_isub dX9_isSliding_23 ?_
    obtain ⟨b3, h⟩ := h
    refine Wa_iald2 (v := (M 92 ((((16 * l1) + l2) - 1)).toNat)) k_92 b3 rfl dX9_isSliding_24 (fun r4 => ?_)
    refine Wa_aload_n 1 dX9_isSliding_25 rfl rfl ?_
    refine Wa_getR cf_X9 lk_X9_19 k_88 (j := 7) rfl (by decide) dX9_isSliding_26 ?_
    refine Wa_bipush (z := 16) dX9_isSliding_29 (by decide) ?_
    refine Wa_iload_n 2 dX9_isSliding_31 rfl rfl ?_
    refine Wa_imul dX9_isSliding_32 ?_
    refine Wa_iload 0 dX9_isSliding_33 rfl ?_
    refine Wa_iadd dX9_isSliding_35 ?_
    obtain ⟨b5, h⟩ := h
    refine Wa_iald2 (v := (M 92 (((16 * l1) + ((l2 - l3) - 1))).toNat)) k_92 b5 rfl dX9_isSliding_36 (fun r6 => ?_)
    refine Wa_icmp_ne (tgt := 44) dX9_isSliding_37 (by decide) r4 r6 (fun c7 => ?_) (fun c7 => ?_)
    · have h := h.1 c7
      refine Wa_iconst (z := 0) dX9_isSliding_44 ?_
      exact Wa_zreturn dX9_isSliding_45 rfl (by decide) ⟨_, rfl, rg_bool (by decide), h⟩
    · have h := h.2 c7
      refine Wa_iconst (z := 1) dX9_isSliding_40 ?_
      refine Wa_goto (tgt := 45) dX9_isSliding_41 (by decide) ?_
      exact Wa_zreturn dX9_isSliding_45 rfl (by decide) ⟨_, rfl, rg_bool (by decide), h⟩
theorem en_X9_isSliding {g : AG} {d : Nat} {l1 : Int} {l2 : Int} {l3 : Int} {M : AM} {Q : Int → AM → Prop} (h : S_X9_isSliding_0 g d l1 l2 l3 M Q) : MetI g mX9_isSliding d [vR 88, vI l1, vI l2, vI l3] M Q := MetA.of (by decide) (Nat.le_of_ble_eq_true rfl) h
def S_X9_slide_0 (g : AG) (d : Nat) (l1 : Int) (l2 : Int) (l3 : Int) (M : AM) (Q : AM → Prop) : Prop := Wa g mX9_slide d 0 [(0, vR 88), (1, vI l1), (2, vI l2), (3, vI l3)] [] M (QV Q)
set_option maxRecDepth 100000 in
theorem sg_X9_slide_0 {g : AG} {d : Nat} {l1 : Int} {l2 : Int} {l3 : Int} {M : AM} {Q : AM → Prop} 
  (h : (0 ≤ ((16 * l1) + ((l2 - l3) - 1)) ∧ ((16 * l1) + ((l2 - l3) - 1)) < 32) ∧ ((0 ≤ (((16 * l1) + l2) - 1) ∧ (((16 * l1) + l2) - 1) < 32) ∧ ((0 ≤ ((16 * (1 - l1)) + (M 94 (((16 * l1) + ((l2 - l3) - 1))).toNat)) ∧ ((16 * (1 - l1)) + (M 94 (((16 * l1) + ((l2 - l3) - 1))).toNat)) < 32) ∧ (rg (l2 - 1) ∧ (rg ((M 88 13) + 1) ∧ (Q (mU (mU (mU (mU M 94 (((16 * l1) + ((l2 - l3) - 1))).toNat (-1)) 94 ((((16 * l1) + l2) - 1)).toNat (M 94 (((16 * l1) + ((l2 - l3) - 1))).toNat)) 94 (((16 * (1 - l1)) + (M 94 (((16 * l1) + ((l2 - l3) - 1))).toNat))).toNat (l2 - 1)) 88 13 ((M 88 13) + 1)))))))) : S_X9_slide_0 g (d + 1) l1 l2 l3 M Q := by
  show Wa _ _ _ _ _ _ _ _
  refine Wa_iload_n 2 dX9_slide_0 rfl rfl ?_
  refine Wa_iload_n 3 dX9_slide_1 rfl rfl ?_
  refine Wa_isub dX9_slide_2 ?_
  refine Wa_iconst (z := 1) dX9_slide_3 ?_
  refine Wa_isub dX9_slide_4 ?_
  refine Wa_istore (ls' := [(4, vI ((l2 - l3) - 1)), (0, vR 88), (1, vI l1), (2, vI l2), (3, vI l3)]) dX9_slide_5 (by decide) rfl ?_
  refine Wa_aload_n 1 dX9_slide_7 rfl rfl ?_
  refine Wa_getR cf_X9 lk_X9_25 k_88 (j := 11) rfl (by decide) dX9_slide_8 ?_
  refine Wa_bipush (z := 16) dX9_slide_11 (by decide) ?_
  refine Wa_iload_n 2 dX9_slide_13 rfl rfl ?_
  refine Wa_imul dX9_slide_14 ?_
  refine Wa_iload 0 dX9_slide_15 rfl ?_
  refine Wa_iadd dX9_slide_17 ?_
  obtain ⟨b1, h⟩ := h
  refine Wa_iald2 (v := (M 94 (((16 * l1) + ((l2 - l3) - 1))).toNat)) k_94 b1 rfl dX9_slide_18 (fun r2 => ?_)
  refine Wa_istore (ls' := [(5, vI (M 94 (((16 * l1) + ((l2 - l3) - 1))).toNat)), (4, vI ((l2 - l3) - 1)), (0, vR 88), (1, vI l1), (2, vI l2), (3, vI l3)]) dX9_slide_19 (by decide) rfl ?_
  refine Wa_aload_n 2 dX9_slide_21 rfl rfl ?_
  refine Wa_getR cf_X9 lk_X9_25 k_88 (j := 11) rfl (by decide) dX9_slide_22 ?_
  refine Wa_bipush (z := 16) dX9_slide_25 (by decide) ?_
  refine Wa_iload_n 3 dX9_slide_27 rfl rfl ?_
  refine Wa_imul dX9_slide_28 ?_
  refine Wa_iload 1 dX9_slide_29 rfl ?_
  refine Wa_iadd dX9_slide_31 ?_
  refine Wa_iconst (z := (-1)) dX9_slide_32 ?_
  refine Wa_iast k_94 b1 ⟨by decide, by decide⟩ dX9_slide_33 ?_
  refine Wa_aload_n 2 dX9_slide_34 rfl rfl ?_
  refine Wa_getR cf_X9 lk_X9_25 k_88 (j := 11) rfl (by decide) dX9_slide_35 ?_
  refine Wa_bipush (z := 16) dX9_slide_38 (by decide) ?_
  refine Wa_iload_n 3 dX9_slide_40 rfl rfl ?_
  refine Wa_imul dX9_slide_41 ?_
  refine Wa_iload_n 4 dX9_slide_42 rfl rfl ?_
  refine Wa_iadd dX9_slide_43 ?_
  refine Wa_iconst (z := 1) dX9_slide_44 ?_
  refine Wa_isub dX9_slide_45 ?_
  refine Wa_iload 0 dX9_slide_46 rfl ?_
  obtain ⟨b3, h⟩ := h
  refine Wa_iast k_94 b3 r2 dX9_slide_48 ?_
  refine Wa_aload_n 2 dX9_slide_49 rfl rfl ?_
  refine Wa_getR cf_X9 lk_X9_25 k_88 (j := 11) rfl (by decide) dX9_slide_50 ?_
  refine Wa_bipush (z := 16) dX9_slide_53 (by decide) ?_
  refine Wa_iconst (z := 1) dX9_slide_55 ?_
  refine Wa_iload_n 3 dX9_slide_56 rfl rfl ?_
  refine Wa_isub dX9_slide_57 ?_
  refine Wa_imul dX9_slide_58 ?_
  refine Wa_iload 0 dX9_slide_59 rfl ?_
  refine Wa_iadd dX9_slide_61 ?_
  refine Wa_iload_n 4 dX9_slide_62 rfl rfl ?_
  refine Wa_iconst (z := 1) dX9_slide_63 ?_
  refine Wa_isub dX9_slide_64 ?_
  obtain ⟨b4, h⟩ := h
  obtain ⟨q5, h⟩ := h
  refine Wa_iast k_94 b4 q5 dX9_slide_65 ?_
  refine Wa_aload_n 2 dX9_slide_66 rfl rfl ?_
  refine Wa_dup dX9_slide_67 rfl ?_
  refine Wa_getI2 (v := (M 88 13)) cf_X9 lk_X9_157 k_88 (j := 13) rfl (by decide) ((mU_rd (by decide)).trans ((mU_rd (by decide)).trans (mU_rd (by decide)))) dX9_slide_68 (fun r6 => ?_)
  refine Wa_iconst (z := 1) dX9_slide_71 ?_
  refine Wa_iadd dX9_slide_72 ?_
  obtain ⟨q7, h⟩ := h
  refine Wa_putI cf_X9 lk_X9_157 k_88 (j := 13) rfl (by decide) rfl rfl q7 dX9_slide_73 ?_
  exact Wa_return dX9_slide_76 rfl ⟨rfl, h⟩
theorem en_X9_slide {g : AG} {d : Nat} {l1 : Int} {l2 : Int} {l3 : Int} {M : AM} {Q : AM → Prop} (h : S_X9_slide_0 g d l1 l2 l3 M Q) : MetV g mX9_slide d [vR 88, vI l1, vI l2, vI l3] M Q := MetA.of (by decide) (Nat.le_of_ble_eq_true rfl) h
def S_X9_slideGap_0 (g : AG) (d : Nat) (l1 : Int) (l2 : Int) (l3 : Int) (l4 : Int) (M : AM) (Q : Int → AM → Prop) : Prop := Wa g mX9_slideGap d 0 [(0, vR 88), (1, vI l1), (2, vI l2), (3, vI l3), (4, vI l4)] [] M (QI Q)
def S_X9_slideGap_6 (g : AG) (d : Nat) (l1 : Int) (l2 : Int) (l3 : Int) (l4 : Int) (l5 : Int) (l6 : Int) (M : AM) (Q : Int → AM → Prop) : Prop := Wa g mX9_slideGap d 6 [(0, vR 88), (1, vI l1), (2, vI l2), (3, vI l3), (4, vI l4), (5, vI l5), (6, vI l6)] [] M (QI Q)
set_option maxRecDepth 100000 in
theorem sg_X9_slideGap_0 {g : AG} {d : Nat} {l1 : Int} {l2 : Int} {l3 : Int} {l4 : Int} {M : AM} {Q : Int → AM → Prop} 
  (h : S_X9_slideGap_6 g (d + 1) l1 l2 l3 l4 0 0 M Q) : S_X9_slideGap_0 g (d + 1) l1 l2 l3 l4 M Q := by
  show Wa _ _ _ _ _ _ _ _
  refine Wa_iconst (z := 0) dX9_slideGap_0 ?_
  refine Wa_istore (ls' := [(5, vI 0), (0, vR 88), (1, vI l1), (2, vI l2), (3, vI l3), (4, vI l4)]) dX9_slideGap_1 (by decide) rfl ?_
  refine Wa_iconst (z := 0) dX9_slideGap_3 ?_
  refine Wa_istore (ls' := [(6, vI 0), (5, vI 0), (0, vR 88), (1, vI l1), (2, vI l2), (3, vI l3), (4, vI l4)]) dX9_slideGap_4 (by decide) rfl ?_
  refine Wa_sub [2, 3, 4, 5, 6, 1, 0] rfl ?_
  exact h
set_option maxRecDepth 100000 in
theorem sg_X9_slideGap_6 {g : AG} {d : Nat} {l1 : Int} {l2 : Int} {l3 : Int} {l4 : Int} {l5 : Int} {l6 : Int} {M : AM} {Q : Int → AM → Prop} 
  (h : rg l6 ∧ ((¬ l6 = 0 → (rg l5 ∧ (Q l5 M))) ∧ (l6 = 0 → (rg l1 ∧ ((¬ l1 = 0 → (rg (l3 - l5) ∧ (rg l4 ∧ (MetI g mX9_isSliding d [vR 88, vI l1, vI (l3 - l5), vI l4] M (fun z9 M8 => rg z9 → ((z9 = 0 → (rg l5 ∧ (Q l5 M8))) ∧ (¬ z9 = 0 → ((¬ l1 = 0 → (MetV g mX9_slide d [vR 88, vI l1, vI (l3 - l5), vI l4] M8 (fun M14 => rg (l2 - (l5 + 1)) ∧ (MetI g mX9_countBack d [vR 88, vI 0, vI (l2 - (l5 + 1))] M14 (fun z19 M18 => rg z19 → (rg (l3 - (l5 + 1)) ∧ (MetI g mX9_countBack d [vR 88, vI 1, vI (l3 - (l5 + 1))] M18 (fun z23 M22 => rg z23 → (rg (z19 + z23) ∧ (((z19 + z23) ≤ l4 → (S_X9_slideGap_6 g (d + 1) l1 l2 l3 l4 (l5 + 1) 0 M22 Q)) ∧ (¬ (z19 + z23) ≤ l4 → (S_X9_slideGap_6 g (d + 1) l1 l2 l3 l4 (l5 + 1) 1 M22 Q)))))))))))) ∧ (l1 = 0 → (rg (l2 - l5) ∧ (MetV g mX9_slide d [vR 88, vI l1, vI (l2 - l5), vI l4] M8 (fun M28 => rg (l2 - (l5 + 1)) ∧ (MetI g mX9_countBack d [vR 88, vI 0, vI (l2 - (l5 + 1))] M28 (fun z33 M32 => rg z33 → (rg (l3 - (l5 + 1)) ∧ (MetI g mX9_countBack d [vR 88, vI 1, vI (l3 - (l5 + 1))] M32 (fun z37 M36 => rg z37 → (rg (z33 + z37) ∧ (((z33 + z37) ≤ l4 → (S_X9_slideGap_6 g (d + 1) l1 l2 l3 l4 (l5 + 1) 0 M36 Q)) ∧ (¬ (z33 + z37) ≤ l4 → (S_X9_slideGap_6 g (d + 1) l1 l2 l3 l4 (l5 + 1) 1 M36 Q))))))))))))))))))))) ∧ (l1 = 0 → (rg (l2 - l5) ∧ (rg l4 ∧ (MetI g mX9_isSliding d [vR 88, vI l1, vI (l2 - l5), vI l4] M (fun z44 M43 => rg z44 → ((z44 = 0 → (rg l5 ∧ (Q l5 M43))) ∧ (¬ z44 = 0 → ((¬ l1 = 0 → (rg (l3 - l5) ∧ (MetV g mX9_slide d [vR 88, vI l1, vI (l3 - l5), vI l4] M43 (fun M50 => rg (l2 - (l5 + 1)) ∧ (MetI g mX9_countBack d [vR 88, vI 0, vI (l2 - (l5 + 1))] M50 (fun z55 M54 => rg z55 → (rg (l3 - (l5 + 1)) ∧ (MetI g mX9_countBack d [vR 88, vI 1, vI (l3 - (l5 + 1))] M54 (fun z59 M58 => rg z59 → (rg (z55 + z59) ∧ (((z55 + z59) ≤ l4 → (S_X9_slideGap_6 g (d + 1) l1 l2 l3 l4 (l5 + 1) 0 M58 Q)) ∧ (¬ (z55 + z59) ≤ l4 → (S_X9_slideGap_6 g (d + 1) l1 l2 l3 l4 (l5 + 1) 1 M58 Q))))))))))))) ∧ (l1 = 0 → (MetV g mX9_slide d [vR 88, vI l1, vI (l2 - l5), vI l4] M43 (fun M63 => rg (l2 - (l5 + 1)) ∧ (MetI g mX9_countBack d [vR 88, vI 0, vI (l2 - (l5 + 1))] M63 (fun z68 M67 => rg z68 → (rg (l3 - (l5 + 1)) ∧ (MetI g mX9_countBack d [vR 88, vI 1, vI (l3 - (l5 + 1))] M67 (fun z72 M71 => rg z72 → (rg (z68 + z72) ∧ (((z68 + z72) ≤ l4 → (S_X9_slideGap_6 g (d + 1) l1 l2 l3 l4 (l5 + 1) 0 M71 Q)) ∧ (¬ (z68 + z72) ≤ l4 → (S_X9_slideGap_6 g (d + 1) l1 l2 l3 l4 (l5 + 1) 1 M71 Q))))))))))))))))))))))))) : S_X9_slideGap_6 g (d + 1) l1 l2 l3 l4 l5 l6 M Q := by
  show Wa _ _ _ _ _ _ _ _
  refine Wa_iload 6 dX9_slideGap_6 rfl ?_
  obtain ⟨q1, h⟩ := h
  refine Wa_if_ne (tgt := 95) dX9_slideGap_8 (by decide) q1 (fun c2 => ?_) (fun c2 => ?_)
  · have h := h.1 c2
    refine Wa_iload 5 dX9_slideGap_95 rfl ?_
    obtain ⟨q3, h⟩ := h
    exact Wa_ireturn dX9_slideGap_97 rfl ⟨_, rfl, q3, h⟩
  · have h := h.2 c2
    refine Wa_aload_n 0 dX9_slideGap_11 rfl rfl ?_
    refine Wa_iload_n 1 dX9_slideGap_12 rfl rfl ?_
    refine Wa_iload_n 1 dX9_slideGap_13 rfl rfl ?_
    obtain ⟨q4, h⟩ := h
    refine Wa_if_ne (tgt := 24) dX9_slideGap_14 (by decide) q4 (fun c5 => ?_) (fun c5 => ?_)
    · have h := h.1 c5
      refine Wa_iload_n 3 dX9_slideGap_24 rfl rfl ?_
      refine Wa_iload 5 dX9_slideGap_25 rfl ?_
      refine Wa_isub dX9_slideGap_27 ?_
      refine Wa_iload 4 dX9_slideGap_28 rfl ?_
      obtain ⟨q6, h⟩ := h
      obtain ⟨q7, h⟩ := h
      refine Wa_callV [vI l1, vI (l3 - l5), vI l4] _ cf_X9 rfl k_88 lc_X9_160 cv_X9_isSliding rfl rfl (Nat.le_refl _) (Nat.le_of_ble_eq_true rfl) dX9_slideGap_30 h ?_
      intro r M8 h
      obtain ⟨z9, rfl, r10, h⟩ := h
      have h := h r10
      refine Wa_if_eq (tgt := 95) dX9_slideGap_33 (by decide) r10 (fun c11 => ?_) (fun c11 => ?_)
      · have h := h.1 c11
        refine Wa_iload 5 dX9_slideGap_95 rfl ?_
        obtain ⟨q12, h⟩ := h
        exact Wa_ireturn dX9_slideGap_97 rfl ⟨_, rfl, q12, h⟩
      · have h := h.2 c11
        refine Wa_aload_n 0 dX9_slideGap_36 rfl rfl ?_
        refine Wa_iload_n 1 dX9_slideGap_37 rfl rfl ?_
        refine Wa_iload_n 1 dX9_slideGap_38 rfl rfl ?_
        refine Wa_if_ne (tgt := 49) dX9_slideGap_39 (by decide) q4 (fun c13 => ?_) (fun c13 => ?_)
        · have h := h.1 c13
          refine Wa_iload_n 3 dX9_slideGap_49 rfl rfl ?_
          refine Wa_iload 5 dX9_slideGap_50 rfl ?_
          refine Wa_isub dX9_slideGap_52 ?_
          refine Wa_iload 4 dX9_slideGap_53 rfl ?_
          refine Wa_callV [vI l1, vI (l3 - l5), vI l4] _ cf_X9 rfl k_88 lc_X9_164 cv_X9_slide rfl rfl (Nat.le_refl _) (Nat.le_of_ble_eq_true rfl) dX9_slideGap_55 h ?_
          intro r M14 h
          obtain ⟨rfl, h⟩ := h
          refine Wa_iinc (ls' := [(5, vI (l5 + 1)), (0, vR 88), (1, vI l1), (2, vI l2), (3, vI l3), (4, vI l4), (6, vI l6)]) 5 dX9_slideGap_58 rfl (by decide) rfl ?_
          refine Wa_aload_n 1 dX9_slideGap_61 rfl rfl ?_
          refine Wa_iconst (z := 0) dX9_slideGap_62 ?_
          refine Wa_iload_n 3 dX9_slideGap_63 rfl rfl ?_
          refine Wa_iload 0 dX9_slideGap_64 rfl ?_
          refine Wa_isub dX9_slideGap_66 ?_
          obtain ⟨q17, h⟩ := h
          refine Wa_callV [vI 0, vI (l2 - (l5 + 1))] _ cf_X9 rfl k_88 lc_X9_168 cv_X9_countBack rfl rfl (Nat.le_refl _) (Nat.le_of_ble_eq_true rfl) dX9_slideGap_67 h ?_
          intro r M18 h
          obtain ⟨z19, rfl, r20, h⟩ := h
          have h := h r20
          refine Wa_aload_n 1 dX9_slideGap_70 rfl rfl ?_
          refine Wa_iconst (z := 1) dX9_slideGap_71 ?_
          refine Wa_iload_n 4 dX9_slideGap_72 rfl rfl ?_
          refine Wa_iload 0 dX9_slideGap_73 rfl ?_
          refine Wa_isub dX9_slideGap_75 ?_
          obtain ⟨q21, h⟩ := h
          refine Wa_callV [vI 1, vI (l3 - (l5 + 1))] _ cf_X9 rfl k_88 lc_X9_168 cv_X9_countBack rfl rfl (Nat.le_refl _) (Nat.le_of_ble_eq_true rfl) dX9_slideGap_76 h ?_
          intro r M22 h
          obtain ⟨z23, rfl, r24, h⟩ := h
          have h := h r24
          refine Wa_iadd dX9_slideGap_79 ?_
          refine Wa_iload 5 dX9_slideGap_80 rfl ?_
          obtain ⟨q25, h⟩ := h
          refine Wa_icmp_le (tgt := 89) dX9_slideGap_82 (by decide) q25 q7 (fun c26 => ?_) (fun c26 => ?_)
          · have h := h.1 c26
            refine Wa_iconst (z := 0) dX9_slideGap_89 ?_
            refine Wa_istore (ls' := [(6, vI 0), (5, vI (l5 + 1)), (0, vR 88), (1, vI l1), (2, vI l2), (3, vI l3), (4, vI l4)]) dX9_slideGap_90 (by decide) rfl ?_
            refine Wa_goto (tgt := 6) dX9_slideGap_92 (by decide) ?_
            refine Wa_sub [2, 3, 4, 5, 6, 1, 0] rfl ?_
            exact h
          · have h := h.2 c26
            refine Wa_iconst (z := 1) dX9_slideGap_85 ?_
            refine Wa_goto (tgt := 90) dX9_slideGap_86 (by decide) ?_
            refine Wa_istore (ls' := [(6, vI 1), (5, vI (l5 + 1)), (0, vR 88), (1, vI l1), (2, vI l2), (3, vI l3), (4, vI l4)]) dX9_slideGap_90 (by decide) rfl ?_
            refine Wa_goto (tgt := 6) dX9_slideGap_92 (by decide) ?_
            refine Wa_sub [2, 3, 4, 5, 6, 1, 0] rfl ?_
            exact h
        · have h := h.2 c13
          refine Wa_iload_n 2 dX9_slideGap_42 rfl rfl ?_
          refine Wa_iload 5 dX9_slideGap_43 rfl ?_
          refine Wa_isub dX9_slideGap_45 ?_
          refine Wa_goto (tgt := 53) dX9_slideGap_46 (by decide) ?_
          refine Wa_iload 4 dX9_slideGap_53 rfl ?_
          obtain ⟨q27, h⟩ := h
          refine Wa_callV [vI l1, vI (l2 - l5), vI l4] _ cf_X9 rfl k_88 lc_X9_164 cv_X9_slide rfl rfl (Nat.le_refl _) (Nat.le_of_ble_eq_true rfl) dX9_slideGap_55 h ?_
          intro r M28 h
          obtain ⟨rfl, h⟩ := h
          refine Wa_iinc (ls' := [(5, vI (l5 + 1)), (0, vR 88), (1, vI l1), (2, vI l2), (3, vI l3), (4, vI l4), (6, vI l6)]) 5 dX9_slideGap_58 rfl (by decide) rfl ?_
          refine Wa_aload_n 1 dX9_slideGap_61 rfl rfl ?_
          refine Wa_iconst (z := 0) dX9_slideGap_62 ?_
          refine Wa_iload_n 3 dX9_slideGap_63 rfl rfl ?_
          refine Wa_iload 0 dX9_slideGap_64 rfl ?_
          refine Wa_isub dX9_slideGap_66 ?_
          obtain ⟨q31, h⟩ := h
          refine Wa_callV [vI 0, vI (l2 - (l5 + 1))] _ cf_X9 rfl k_88 lc_X9_168 cv_X9_countBack rfl rfl (Nat.le_refl _) (Nat.le_of_ble_eq_true rfl) dX9_slideGap_67 h ?_
          intro r M32 h
          obtain ⟨z33, rfl, r34, h⟩ := h
          have h := h r34
          refine Wa_aload_n 1 dX9_slideGap_70 rfl rfl ?_
          refine Wa_iconst (z := 1) dX9_slideGap_71 ?_
          refine Wa_iload_n 4 dX9_slideGap_72 rfl rfl ?_
          refine Wa_iload 0 dX9_slideGap_73 rfl ?_
          refine Wa_isub dX9_slideGap_75 ?_
          obtain ⟨q35, h⟩ := h
          refine Wa_callV [vI 1, vI (l3 - (l5 + 1))] _ cf_X9 rfl k_88 lc_X9_168 cv_X9_countBack rfl rfl (Nat.le_refl _) (Nat.le_of_ble_eq_true rfl) dX9_slideGap_76 h ?_
          intro r M36 h
          obtain ⟨z37, rfl, r38, h⟩ := h
          have h := h r38
          refine Wa_iadd dX9_slideGap_79 ?_
          refine Wa_iload 5 dX9_slideGap_80 rfl ?_
          obtain ⟨q39, h⟩ := h
          refine Wa_icmp_le (tgt := 89) dX9_slideGap_82 (by decide) q39 q7 (fun c40 => ?_) (fun c40 => ?_)
          · have h := h.1 c40
            refine Wa_iconst (z := 0) dX9_slideGap_89 ?_
            refine Wa_istore (ls' := [(6, vI 0), (5, vI (l5 + 1)), (0, vR 88), (1, vI l1), (2, vI l2), (3, vI l3), (4, vI l4)]) dX9_slideGap_90 (by decide) rfl ?_
            refine Wa_goto (tgt := 6) dX9_slideGap_92 (by decide) ?_
            refine Wa_sub [2, 3, 4, 5, 6, 1, 0] rfl ?_
            exact h
          · have h := h.2 c40
            refine Wa_iconst (z := 1) dX9_slideGap_85 ?_
            refine Wa_goto (tgt := 90) dX9_slideGap_86 (by decide) ?_
            refine Wa_istore (ls' := [(6, vI 1), (5, vI (l5 + 1)), (0, vR 88), (1, vI l1), (2, vI l2), (3, vI l3), (4, vI l4)]) dX9_slideGap_90 (by decide) rfl ?_
            refine Wa_goto (tgt := 6) dX9_slideGap_92 (by decide) ?_
            refine Wa_sub [2, 3, 4, 5, 6, 1, 0] rfl ?_
            exact h
    · have h := h.2 c5
      refine Wa_iload_n 2 dX9_slideGap_17 rfl rfl ?_
      refine Wa_iload 5 dX9_slideGap_18 rfl ?_
      refine Wa_isub dX9_slideGap_20 ?_
      refine Wa_goto (tgt := 28) dX9_slideGap_21 (by decide) ?_
      refine Wa_iload 4 dX9_slideGap_28 rfl ?_
      obtain ⟨q41, h⟩ := h
      obtain ⟨q42, h⟩ := h
      refine Wa_callV [vI l1, vI (l2 - l5), vI l4] _ cf_X9 rfl k_88 lc_X9_160 cv_X9_isSliding rfl rfl (Nat.le_refl _) (Nat.le_of_ble_eq_true rfl) dX9_slideGap_30 h ?_
      intro r M43 h
      obtain ⟨z44, rfl, r45, h⟩ := h
      have h := h r45
      refine Wa_if_eq (tgt := 95) dX9_slideGap_33 (by decide) r45 (fun c46 => ?_) (fun c46 => ?_)
      · have h := h.1 c46
        refine Wa_iload 5 dX9_slideGap_95 rfl ?_
        obtain ⟨q47, h⟩ := h
        exact Wa_ireturn dX9_slideGap_97 rfl ⟨_, rfl, q47, h⟩
      · have h := h.2 c46
        refine Wa_aload_n 0 dX9_slideGap_36 rfl rfl ?_
        refine Wa_iload_n 1 dX9_slideGap_37 rfl rfl ?_
        refine Wa_iload_n 1 dX9_slideGap_38 rfl rfl ?_
        refine Wa_if_ne (tgt := 49) dX9_slideGap_39 (by decide) q4 (fun c48 => ?_) (fun c48 => ?_)
        · have h := h.1 c48
          refine Wa_iload_n 3 dX9_slideGap_49 rfl rfl ?_
          refine Wa_iload 5 dX9_slideGap_50 rfl ?_
          refine Wa_isub dX9_slideGap_52 ?_
          refine Wa_iload 4 dX9_slideGap_53 rfl ?_
          obtain ⟨q49, h⟩ := h
          refine Wa_callV [vI l1, vI (l3 - l5), vI l4] _ cf_X9 rfl k_88 lc_X9_164 cv_X9_slide rfl rfl (Nat.le_refl _) (Nat.le_of_ble_eq_true rfl) dX9_slideGap_55 h ?_
          intro r M50 h
          obtain ⟨rfl, h⟩ := h
          refine Wa_iinc (ls' := [(5, vI (l5 + 1)), (0, vR 88), (1, vI l1), (2, vI l2), (3, vI l3), (4, vI l4), (6, vI l6)]) 5 dX9_slideGap_58 rfl (by decide) rfl ?_
          refine Wa_aload_n 1 dX9_slideGap_61 rfl rfl ?_
          refine Wa_iconst (z := 0) dX9_slideGap_62 ?_
          refine Wa_iload_n 3 dX9_slideGap_63 rfl rfl ?_
          refine Wa_iload 0 dX9_slideGap_64 rfl ?_
          refine Wa_isub dX9_slideGap_66 ?_
          obtain ⟨q53, h⟩ := h
          refine Wa_callV [vI 0, vI (l2 - (l5 + 1))] _ cf_X9 rfl k_88 lc_X9_168 cv_X9_countBack rfl rfl (Nat.le_refl _) (Nat.le_of_ble_eq_true rfl) dX9_slideGap_67 h ?_
          intro r M54 h
          obtain ⟨z55, rfl, r56, h⟩ := h
          have h := h r56
          refine Wa_aload_n 1 dX9_slideGap_70 rfl rfl ?_
          refine Wa_iconst (z := 1) dX9_slideGap_71 ?_
          refine Wa_iload_n 4 dX9_slideGap_72 rfl rfl ?_
          refine Wa_iload 0 dX9_slideGap_73 rfl ?_
          refine Wa_isub dX9_slideGap_75 ?_
          obtain ⟨q57, h⟩ := h
          refine Wa_callV [vI 1, vI (l3 - (l5 + 1))] _ cf_X9 rfl k_88 lc_X9_168 cv_X9_countBack rfl rfl (Nat.le_refl _) (Nat.le_of_ble_eq_true rfl) dX9_slideGap_76 h ?_
          intro r M58 h
          obtain ⟨z59, rfl, r60, h⟩ := h
          have h := h r60
          refine Wa_iadd dX9_slideGap_79 ?_
          refine Wa_iload 5 dX9_slideGap_80 rfl ?_
          obtain ⟨q61, h⟩ := h
          refine Wa_icmp_le (tgt := 89) dX9_slideGap_82 (by decide) q61 q42 (fun c62 => ?_) (fun c62 => ?_)
          · have h := h.1 c62
            refine Wa_iconst (z := 0) dX9_slideGap_89 ?_
            refine Wa_istore (ls' := [(6, vI 0), (5, vI (l5 + 1)), (0, vR 88), (1, vI l1), (2, vI l2), (3, vI l3), (4, vI l4)]) dX9_slideGap_90 (by decide) rfl ?_
            refine Wa_goto (tgt := 6) dX9_slideGap_92 (by decide) ?_
            refine Wa_sub [2, 3, 4, 5, 6, 1, 0] rfl ?_
            exact h
          · have h := h.2 c62
            refine Wa_iconst (z := 1) dX9_slideGap_85 ?_
            refine Wa_goto (tgt := 90) dX9_slideGap_86 (by decide) ?_
            refine Wa_istore (ls' := [(6, vI 1), (5, vI (l5 + 1)), (0, vR 88), (1, vI l1), (2, vI l2), (3, vI l3), (4, vI l4)]) dX9_slideGap_90 (by decide) rfl ?_
            refine Wa_goto (tgt := 6) dX9_slideGap_92 (by decide) ?_
            refine Wa_sub [2, 3, 4, 5, 6, 1, 0] rfl ?_
            exact h
        · have h := h.2 c48
          refine Wa_iload_n 2 dX9_slideGap_42 rfl rfl ?_
          refine Wa_iload 5 dX9_slideGap_43 rfl ?_
          refine Wa_isub dX9_slideGap_45 ?_
          refine Wa_goto (tgt := 53) dX9_slideGap_46 (by decide) ?_
          refine Wa_iload 4 dX9_slideGap_53 rfl ?_
          refine Wa_callV [vI l1, vI (l2 - l5), vI l4] _ cf_X9 rfl k_88 lc_X9_164 cv_X9_slide rfl rfl (Nat.le_refl _) (Nat.le_of_ble_eq_true rfl) dX9_slideGap_55 h ?_
          intro r M63 h
          obtain ⟨rfl, h⟩ := h
          refine Wa_iinc (ls' := [(5, vI (l5 + 1)), (0, vR 88), (1, vI l1), (2, vI l2), (3, vI l3), (4, vI l4), (6, vI l6)]) 5 dX9_slideGap_58 rfl (by decide) rfl ?_
          refine Wa_aload_n 1 dX9_slideGap_61 rfl rfl ?_
          refine Wa_iconst (z := 0) dX9_slideGap_62 ?_
          refine Wa_iload_n 3 dX9_slideGap_63 rfl rfl ?_
          refine Wa_iload 0 dX9_slideGap_64 rfl ?_
          refine Wa_isub dX9_slideGap_66 ?_
          obtain ⟨q66, h⟩ := h
          refine Wa_callV [vI 0, vI (l2 - (l5 + 1))] _ cf_X9 rfl k_88 lc_X9_168 cv_X9_countBack rfl rfl (Nat.le_refl _) (Nat.le_of_ble_eq_true rfl) dX9_slideGap_67 h ?_
          intro r M67 h
          obtain ⟨z68, rfl, r69, h⟩ := h
          have h := h r69
          refine Wa_aload_n 1 dX9_slideGap_70 rfl rfl ?_
          refine Wa_iconst (z := 1) dX9_slideGap_71 ?_
          refine Wa_iload_n 4 dX9_slideGap_72 rfl rfl ?_
          refine Wa_iload 0 dX9_slideGap_73 rfl ?_
          refine Wa_isub dX9_slideGap_75 ?_
          obtain ⟨q70, h⟩ := h
          refine Wa_callV [vI 1, vI (l3 - (l5 + 1))] _ cf_X9 rfl k_88 lc_X9_168 cv_X9_countBack rfl rfl (Nat.le_refl _) (Nat.le_of_ble_eq_true rfl) dX9_slideGap_76 h ?_
          intro r M71 h
          obtain ⟨z72, rfl, r73, h⟩ := h
          have h := h r73
          refine Wa_iadd dX9_slideGap_79 ?_
          refine Wa_iload 5 dX9_slideGap_80 rfl ?_
          obtain ⟨q74, h⟩ := h
          refine Wa_icmp_le (tgt := 89) dX9_slideGap_82 (by decide) q74 q42 (fun c75 => ?_) (fun c75 => ?_)
          · have h := h.1 c75
            refine Wa_iconst (z := 0) dX9_slideGap_89 ?_
            refine Wa_istore (ls' := [(6, vI 0), (5, vI (l5 + 1)), (0, vR 88), (1, vI l1), (2, vI l2), (3, vI l3), (4, vI l4)]) dX9_slideGap_90 (by decide) rfl ?_
            refine Wa_goto (tgt := 6) dX9_slideGap_92 (by decide) ?_
            refine Wa_sub [2, 3, 4, 5, 6, 1, 0] rfl ?_
            exact h
          · have h := h.2 c75
            refine Wa_iconst (z := 1) dX9_slideGap_85 ?_
            refine Wa_goto (tgt := 90) dX9_slideGap_86 (by decide) ?_
            refine Wa_istore (ls' := [(6, vI 1), (5, vI (l5 + 1)), (0, vR 88), (1, vI l1), (2, vI l2), (3, vI l3), (4, vI l4)]) dX9_slideGap_90 (by decide) rfl ?_
            refine Wa_goto (tgt := 6) dX9_slideGap_92 (by decide) ?_
            refine Wa_sub [2, 3, 4, 5, 6, 1, 0] rfl ?_
            exact h
theorem en_X9_slideGap {g : AG} {d : Nat} {l1 : Int} {l2 : Int} {l3 : Int} {l4 : Int} {M : AM} {Q : Int → AM → Prop} (h : S_X9_slideGap_0 g d l1 l2 l3 l4 M Q) : MetI g mX9_slideGap d [vR 88, vI l1, vI l2, vI l3, vI l4] M Q := MetA.of (by decide) (Nat.le_of_ble_eq_true rfl) h
def S_X9_slideAll_0 (g : AG) (d : Nat) (M : AM) (Q : AM → Prop) : Prop := Wa g mX9_slideAll d 0 [(0, vR 88)] [] M (QV Q)
def S_X9_slideAll_19 (g : AG) (d : Nat) (l1 : Int) (l2 : Int) (M : AM) (Q : AM → Prop) : Prop := Wa g mX9_slideAll d 19 [(0, vR 88), (1, vI l1), (2, vI l2)] [] M (QV Q)
def S_X9_slideAll_27 (g : AG) (d : Nat) (l1 : Int) (l2 : Int) (M : AM) (Q : AM → Prop) : Prop := Wa g mX9_slideAll d 27 [(0, vR 88), (1, vI l1), (2, vI l2)] [] M (QV Q)
def S_X9_slideAll_72 (g : AG) (d : Nat) (l1 : Int) (l2 : Int) (l3 : Int) (l4 : Int) (s0 : Int) (M : AM) (Q : AM → Prop) : Prop := Wa g mX9_slideAll d 72 [(0, vR 88), (1, vI l1), (2, vI l2), (3, vI l3), (4, vI l4)] [vI s0] M (QV Q)
set_option maxRecDepth 100000 in
theorem sg_X9_slideAll_0 {g : AG} {d : Nat} {M : AM} {Q : AM → Prop} 
  (h : S_X9_slideAll_19 g (d + 1) (M 93 0) (M 93 1) (mU M 88 13 0) Q) : S_X9_slideAll_0 g (d + 1) M Q := by
  show Wa _ _ _ _ _ _ _ _
  refine Wa_aload_n 0 dX9_slideAll_0 rfl rfl ?_
  refine Wa_iconst (z := 0) dX9_slideAll_1 ?_
  refine Wa_putI cf_X9 lk_X9_157 k_88 (j := 13) rfl (by decide) rfl rfl ⟨by decide, by decide⟩ dX9_slideAll_2 ?_
  refine Wa_aload_n 0 dX9_slideAll_5 rfl rfl ?_
  refine Wa_getR cf_X9 lk_X9_22 k_88 (j := 8) rfl (by decide) dX9_slideAll_6 ?_
  refine Wa_iconst (z := 0) dX9_slideAll_9 ?_
  refine Wa_iald2 (v := (M 93 0)) k_93 ⟨by decide, by decide⟩ (mU_rd (by decide)) dX9_slideAll_10 (fun r1 => ?_)
  refine Wa_istore_n (ls' := [(1, vI (M 93 0)), (0, vR 88)]) dX9_slideAll_11 rfl (by decide) rfl ?_
  refine Wa_aload_n 1 dX9_slideAll_12 rfl rfl ?_
  refine Wa_getR cf_X9 lk_X9_22 k_88 (j := 8) rfl (by decide) dX9_slideAll_13 ?_
  refine Wa_iconst (z := 1) dX9_slideAll_16 ?_
  refine Wa_iald2 (v := (M 93 1)) k_93 ⟨by decide, by decide⟩ (mU_rd (by decide)) dX9_slideAll_17 (fun r2 => ?_)
  refine Wa_istore_n (ls' := [(2, vI (M 93 1)), (1, vI (M 93 0)), (0, vR 88)]) dX9_slideAll_18 rfl (by decide) rfl ?_
  refine Wa_sub [2, 1, 0] rfl ?_
  exact h
set_option maxRecDepth 100000 in
theorem sg_X9_slideAll_19 {g : AG} {d : Nat} {l1 : Int} {l2 : Int} {M : AM} {Q : AM → Prop} 
  (h : rg l1 ∧ ((0 < l1 → (S_X9_slideAll_27 g (d + 1) l1 l2 M Q)) ∧ (¬ 0 < l1 → (rg l2 ∧ ((l2 ≤ 0 → (Q M)) ∧ (¬ l2 ≤ 0 → (S_X9_slideAll_27 g (d + 1) l1 l2 M Q))))))) : S_X9_slideAll_19 g (d + 1) l1 l2 M Q := by
  show Wa _ _ _ _ _ _ _ _
  refine Wa_iload_n 1 dX9_slideAll_19 rfl rfl ?_
  obtain ⟨q1, h⟩ := h
  refine Wa_if_gt (tgt := 27) dX9_slideAll_20 (by decide) q1 (fun c2 => ?_) (fun c2 => ?_)
  · have h := h.1 c2
    refine Wa_sub [0, 1, 2] rfl ?_
    exact h
  · have h := h.2 c2
    refine Wa_iload_n 2 dX9_slideAll_23 rfl rfl ?_
    obtain ⟨q3, h⟩ := h
    refine Wa_if_le (tgt := 135) dX9_slideAll_24 (by decide) q3 (fun c4 => ?_) (fun c4 => ?_)
    · have h := h.1 c4
      exact Wa_return dX9_slideAll_135 rfl ⟨rfl, h⟩
    · have h := h.2 c4
      refine Wa_sub [0, 1, 2] rfl ?_
      exact h
set_option maxRecDepth 100000 in
theorem sg_X9_slideAll_27 {g : AG} {d : Nat} {l1 : Int} {l2 : Int} {M : AM} {Q : AM → Prop} 
  (h : rg l1 ∧ (MetI g mX9_countBack d [vR 88, vI 0, vI l1] M (fun z3 M2 => rg z3 → (rg l2 ∧ (MetI g mX9_countBack d [vR 88, vI 1, vI l2] M2 (fun z7 M6 => rg z7 → (rg (z3 + z7) ∧ ((¬ (z3 + z7) = 0 → ((z3 = 0 → (S_X9_slideAll_72 g (d + 1) l1 l2 z3 z7 1 M6 Q)) ∧ (¬ z3 = 0 → ((¬ z7 = 0 → (S_X9_slideAll_72 g (d + 1) l1 l2 z3 z7 0 M6 Q)) ∧ (z7 = 0 → (S_X9_slideAll_72 g (d + 1) l1 l2 z3 z7 1 M6 Q)))))) ∧ ((z3 + z7) = 0 → (S_X9_slideAll_19 g (d + 1) (l1 + (-1)) (l2 + (-1)) M6 Q)))))))))) : S_X9_slideAll_27 g (d + 1) l1 l2 M Q := by
  show Wa _ _ _ _ _ _ _ _
  refine Wa_aload_n 0 dX9_slideAll_27 rfl rfl ?_
  refine Wa_iconst (z := 0) dX9_slideAll_28 ?_
  refine Wa_iload_n 1 dX9_slideAll_29 rfl rfl ?_
  obtain ⟨q1, h⟩ := h
  refine Wa_callV [vI 0, vI l1] _ cf_X9 rfl k_88 lc_X9_168 cv_X9_countBack rfl rfl (Nat.le_refl _) (Nat.le_of_ble_eq_true rfl) dX9_slideAll_30 h ?_
  intro r M2 h
  obtain ⟨z3, rfl, r4, h⟩ := h
  have h := h r4
  refine Wa_istore_n (ls' := [(3, vI z3), (0, vR 88), (1, vI l1), (2, vI l2)]) dX9_slideAll_33 rfl (by decide) rfl ?_
  refine Wa_aload_n 1 dX9_slideAll_34 rfl rfl ?_
  refine Wa_iconst (z := 1) dX9_slideAll_35 ?_
  refine Wa_iload_n 3 dX9_slideAll_36 rfl rfl ?_
  obtain ⟨q5, h⟩ := h
  refine Wa_callV [vI 1, vI l2] _ cf_X9 rfl k_88 lc_X9_168 cv_X9_countBack rfl rfl (Nat.le_refl _) (Nat.le_of_ble_eq_true rfl) dX9_slideAll_37 h ?_
  intro r M6 h
  obtain ⟨z7, rfl, r8, h⟩ := h
  have h := h r8
  refine Wa_istore (ls' := [(4, vI z7), (3, vI z3), (0, vR 88), (1, vI l1), (2, vI l2)]) dX9_slideAll_40 (by decide) rfl ?_
  refine Wa_iload_n 1 dX9_slideAll_42 rfl rfl ?_
  refine Wa_iload 0 dX9_slideAll_43 rfl ?_
  refine Wa_iadd dX9_slideAll_45 ?_
  obtain ⟨q9, h⟩ := h
  refine Wa_if_ne (tgt := 58) dX9_slideAll_46 (by decide) q9 (fun c10 => ?_) (fun c10 => ?_)
  · have h := h.1 c10
    refine Wa_iload_n 1 dX9_slideAll_58 rfl rfl ?_
    refine Wa_if_eq (tgt := 67) dX9_slideAll_59 (by decide) r4 (fun c11 => ?_) (fun c11 => ?_)
    · have h := h.1 c11
      refine Wa_iconst (z := 1) dX9_slideAll_67 ?_
      refine Wa_goto (tgt := 72) dX9_slideAll_68 (by decide) ?_
      refine Wa_sub [2, 3, 4, 1, 0] rfl ?_
      exact h
    · have h := h.2 c11
      refine Wa_iload 0 dX9_slideAll_62 rfl ?_
      refine Wa_if_ne (tgt := 71) dX9_slideAll_64 (by decide) r8 (fun c12 => ?_) (fun c12 => ?_)
      · have h := h.1 c12
        refine Wa_iconst (z := 0) dX9_slideAll_71 ?_
        refine Wa_sub [2, 3, 4, 1, 0] rfl ?_
        exact h
      · have h := h.2 c12
        refine Wa_iconst (z := 1) dX9_slideAll_67 ?_
        refine Wa_goto (tgt := 72) dX9_slideAll_68 (by decide) ?_
        refine Wa_sub [2, 3, 4, 1, 0] rfl ?_
        exact h
  · have h := h.2 c10
    refine Wa_iinc (ls' := [(1, vI (l1 + (-1))), (4, vI z7), (3, vI z3), (0, vR 88), (2, vI l2)]) 3 dX9_slideAll_49 rfl (by decide) rfl ?_
    refine Wa_iinc (ls' := [(2, vI (l2 + (-1))), (1, vI (l1 + (-1))), (4, vI z7), (3, vI z3), (0, vR 88)]) 4 dX9_slideAll_52 rfl (by decide) rfl ?_
    refine Wa_goto (tgt := 132) dX9_slideAll_55 (by decide) ?_
    refine Wa_goto (tgt := 19) dX9_slideAll_132 (by decide) ?_
    refine Wa_sub [4, 1, 0] rfl ?_
    exact h
set_option maxRecDepth 100000 in
theorem sg_X9_slideAll_72 {g : AG} {d : Nat} {l1 : Int} {l2 : Int} {l3 : Int} {l4 : Int} {s0 : Int} {M : AM} {Q : AM → Prop} 
  (h : rg s0 ∧ ((s0 = 0 → (rg (l1 - 0) ∧ (MetI g mX9_countBack d [vR 88, vI 0, vI (l1 - 0)] M (fun z5 M4 => rg z5 → (rg (l2 - 0) ∧ (MetI g mX9_countBack d [vR 88, vI 1, vI (l2 - 0)] M4 (fun z9 M8 => rg z9 → (S_X9_slideAll_19 g (d + 1) ((l1 - 0) - z5) ((l2 - 0) - z9) M8 Q)))))))) ∧ (¬ s0 = 0 → (rg l3 ∧ ((l3 ≤ 0 → (rg l1 ∧ (rg l2 ∧ (rg (l3 + l4) ∧ (MetI g mX9_slideGap d [vR 88, vI 1, vI l1, vI l2, vI (l3 + l4)] M (fun z17 M16 => rg z17 → (rg (l1 - z17) ∧ (MetI g mX9_countBack d [vR 88, vI 0, vI (l1 - z17)] M16 (fun z21 M20 => rg z21 → (rg (l2 - z17) ∧ (MetI g mX9_countBack d [vR 88, vI 1, vI (l2 - z17)] M20 (fun z25 M24 => rg z25 → (S_X9_slideAll_19 g (d + 1) ((l1 - z17) - z21) ((l2 - z17) - z25) M24 Q))))))))))))) ∧ (¬ l3 ≤ 0 → (rg l1 ∧ (rg l2 ∧ (rg (l3 + l4) ∧ (MetI g mX9_slideGap d [vR 88, vI 0, vI l1, vI l2, vI (l3 + l4)] M (fun z31 M30 => rg z31 → (rg (l1 - z31) ∧ (MetI g mX9_countBack d [vR 88, vI 0, vI (l1 - z31)] M30 (fun z35 M34 => rg z35 → (rg (l2 - z31) ∧ (MetI g mX9_countBack d [vR 88, vI 1, vI (l2 - z31)] M34 (fun z39 M38 => rg z39 → (S_X9_slideAll_19 g (d + 1) ((l1 - z31) - z35) ((l2 - z31) - z39) M38 Q)))))))))))))))))) : S_X9_slideAll_72 g (d + 1) l1 l2 l3 l4 s0 M Q := by
  show Wa _ _ _ _ _ _ _ _
  refine Wa_istore (ls' := [(5, vI s0), (0, vR 88), (1, vI l1), (2, vI l2), (3, vI l3), (4, vI l4)]) dX9_slideAll_72 (by decide) rfl ?_
  refine Wa_iload 0 dX9_slideAll_74 rfl ?_
  obtain ⟨q1, h⟩ := h
  refine Wa_if_eq (tgt := 101) dX9_slideAll_76 (by decide) q1 (fun c2 => ?_) (fun c2 => ?_)
  · have h := h.1 c2
    refine Wa_iconst (z := 0) dX9_slideAll_101 ?_
    refine Wa_istore (ls' := [(6, vI 0), (5, vI s0), (0, vR 88), (1, vI l1), (2, vI l2), (3, vI l3), (4, vI l4)]) dX9_slideAll_102 (by decide) rfl ?_
    refine Wa_iload_n 3 dX9_slideAll_104 rfl rfl ?_
    refine Wa_iload 0 dX9_slideAll_105 rfl ?_
    refine Wa_isub dX9_slideAll_107 ?_
    refine Wa_istore_n (ls' := [(1, vI (l1 - 0)), (6, vI 0), (5, vI s0), (0, vR 88), (2, vI l2), (3, vI l3), (4, vI l4)]) dX9_slideAll_108 rfl (by decide) rfl ?_
    refine Wa_iload_n 4 dX9_slideAll_109 rfl rfl ?_
    refine Wa_iload 1 dX9_slideAll_110 rfl ?_
    refine Wa_isub dX9_slideAll_112 ?_
    refine Wa_istore_n (ls' := [(2, vI (l2 - 0)), (1, vI (l1 - 0)), (6, vI 0), (5, vI s0), (0, vR 88), (3, vI l3), (4, vI l4)]) dX9_slideAll_113 rfl (by decide) rfl ?_
    refine Wa_iload_n 1 dX9_slideAll_114 rfl rfl ?_
    refine Wa_aload_n 4 dX9_slideAll_115 rfl rfl ?_
    refine Wa_iconst (z := 0) dX9_slideAll_116 ?_
    refine Wa_iload_n 1 dX9_slideAll_117 rfl rfl ?_
    obtain ⟨q3, h⟩ := h
    refine Wa_callV [vI 0, vI (l1 - 0)] _ cf_X9 rfl k_88 lc_X9_168 cv_X9_countBack rfl rfl (Nat.le_refl _) (Nat.le_of_ble_eq_true rfl) dX9_slideAll_118 h ?_
    intro r M4 h
    obtain ⟨z5, rfl, r6, h⟩ := h
    have h := h r6
    refine Wa_isub dX9_slideAll_121 ?_
    refine Wa_istore_n (ls' := [(1, vI ((l1 - 0) - z5)), (2, vI (l2 - 0)), (6, vI 0), (5, vI s0), (0, vR 88), (3, vI l3), (4, vI l4)]) dX9_slideAll_122 rfl (by decide) rfl ?_
    refine Wa_iload_n 1 dX9_slideAll_123 rfl rfl ?_
    refine Wa_aload_n 4 dX9_slideAll_124 rfl rfl ?_
    refine Wa_iconst (z := 1) dX9_slideAll_125 ?_
    refine Wa_iload_n 1 dX9_slideAll_126 rfl rfl ?_
    obtain ⟨q7, h⟩ := h
    refine Wa_callV [vI 1, vI (l2 - 0)] _ cf_X9 rfl k_88 lc_X9_168 cv_X9_countBack rfl rfl (Nat.le_refl _) (Nat.le_of_ble_eq_true rfl) dX9_slideAll_127 h ?_
    intro r M8 h
    obtain ⟨z9, rfl, r10, h⟩ := h
    have h := h r10
    refine Wa_isub dX9_slideAll_130 ?_
    refine Wa_istore_n (ls' := [(2, vI ((l2 - 0) - z9)), (1, vI ((l1 - 0) - z5)), (6, vI 0), (5, vI s0), (0, vR 88), (3, vI l3), (4, vI l4)]) dX9_slideAll_131 rfl (by decide) rfl ?_
    refine Wa_goto (tgt := 19) dX9_slideAll_132 (by decide) ?_
    refine Wa_sub [4, 1, 0] rfl ?_
    exact h
  · have h := h.2 c2
    refine Wa_aload_n 1 dX9_slideAll_79 rfl rfl ?_
    refine Wa_iload_n 4 dX9_slideAll_80 rfl rfl ?_
    obtain ⟨q11, h⟩ := h
    refine Wa_if_le (tgt := 88) dX9_slideAll_81 (by decide) q11 (fun c12 => ?_) (fun c12 => ?_)
    · have h := h.1 c12
      refine Wa_iconst (z := 1) dX9_slideAll_88 ?_
      refine Wa_iload_n 2 dX9_slideAll_89 rfl rfl ?_
      refine Wa_iload_n 3 dX9_slideAll_90 rfl rfl ?_
      refine Wa_iload_n 4 dX9_slideAll_91 rfl rfl ?_
      refine Wa_iload 5 dX9_slideAll_92 rfl ?_
      refine Wa_iadd dX9_slideAll_94 ?_
      obtain ⟨q13, h⟩ := h
      obtain ⟨q14, h⟩ := h
      obtain ⟨q15, h⟩ := h
      refine Wa_callV [vI 1, vI l1, vI l2, vI (l3 + l4)] _ cf_X9 rfl k_88 lc_X9_172 cv_X9_slideGap rfl rfl (Nat.le_refl _) (Nat.le_of_ble_eq_true rfl) dX9_slideAll_95 h ?_
      intro r M16 h
      obtain ⟨z17, rfl, r18, h⟩ := h
      have h := h r18
      refine Wa_goto (tgt := 102) dX9_slideAll_98 (by decide) ?_
      refine Wa_istore (ls' := [(6, vI z17), (5, vI s0), (0, vR 88), (1, vI l1), (2, vI l2), (3, vI l3), (4, vI l4)]) dX9_slideAll_102 (by decide) rfl ?_
      refine Wa_iload_n 3 dX9_slideAll_104 rfl rfl ?_
      refine Wa_iload 0 dX9_slideAll_105 rfl ?_
      refine Wa_isub dX9_slideAll_107 ?_
      refine Wa_istore_n (ls' := [(1, vI (l1 - z17)), (6, vI z17), (5, vI s0), (0, vR 88), (2, vI l2), (3, vI l3), (4, vI l4)]) dX9_slideAll_108 rfl (by decide) rfl ?_
      refine Wa_iload_n 4 dX9_slideAll_109 rfl rfl ?_
      refine Wa_iload 1 dX9_slideAll_110 rfl ?_
      refine Wa_isub dX9_slideAll_112 ?_
      refine Wa_istore_n (ls' := [(2, vI (l2 - z17)), (1, vI (l1 - z17)), (6, vI z17), (5, vI s0), (0, vR 88), (3, vI l3), (4, vI l4)]) dX9_slideAll_113 rfl (by decide) rfl ?_
      refine Wa_iload_n 1 dX9_slideAll_114 rfl rfl ?_
      refine Wa_aload_n 4 dX9_slideAll_115 rfl rfl ?_
      refine Wa_iconst (z := 0) dX9_slideAll_116 ?_
      refine Wa_iload_n 1 dX9_slideAll_117 rfl rfl ?_
      obtain ⟨q19, h⟩ := h
      refine Wa_callV [vI 0, vI (l1 - z17)] _ cf_X9 rfl k_88 lc_X9_168 cv_X9_countBack rfl rfl (Nat.le_refl _) (Nat.le_of_ble_eq_true rfl) dX9_slideAll_118 h ?_
      intro r M20 h
      obtain ⟨z21, rfl, r22, h⟩ := h
      have h := h r22
      refine Wa_isub dX9_slideAll_121 ?_
      refine Wa_istore_n (ls' := [(1, vI ((l1 - z17) - z21)), (2, vI (l2 - z17)), (6, vI z17), (5, vI s0), (0, vR 88), (3, vI l3), (4, vI l4)]) dX9_slideAll_122 rfl (by decide) rfl ?_
      refine Wa_iload_n 1 dX9_slideAll_123 rfl rfl ?_
      refine Wa_aload_n 4 dX9_slideAll_124 rfl rfl ?_
      refine Wa_iconst (z := 1) dX9_slideAll_125 ?_
      refine Wa_iload_n 1 dX9_slideAll_126 rfl rfl ?_
      obtain ⟨q23, h⟩ := h
      refine Wa_callV [vI 1, vI (l2 - z17)] _ cf_X9 rfl k_88 lc_X9_168 cv_X9_countBack rfl rfl (Nat.le_refl _) (Nat.le_of_ble_eq_true rfl) dX9_slideAll_127 h ?_
      intro r M24 h
      obtain ⟨z25, rfl, r26, h⟩ := h
      have h := h r26
      refine Wa_isub dX9_slideAll_130 ?_
      refine Wa_istore_n (ls' := [(2, vI ((l2 - z17) - z25)), (1, vI ((l1 - z17) - z21)), (6, vI z17), (5, vI s0), (0, vR 88), (3, vI l3), (4, vI l4)]) dX9_slideAll_131 rfl (by decide) rfl ?_
      refine Wa_goto (tgt := 19) dX9_slideAll_132 (by decide) ?_
      refine Wa_sub [4, 1, 0] rfl ?_
      exact h
    · have h := h.2 c12
      refine Wa_iconst (z := 0) dX9_slideAll_84 ?_
      refine Wa_goto (tgt := 89) dX9_slideAll_85 (by decide) ?_
      refine Wa_iload_n 2 dX9_slideAll_89 rfl rfl ?_
      refine Wa_iload_n 3 dX9_slideAll_90 rfl rfl ?_
      refine Wa_iload_n 4 dX9_slideAll_91 rfl rfl ?_
      refine Wa_iload 5 dX9_slideAll_92 rfl ?_
      refine Wa_iadd dX9_slideAll_94 ?_
      obtain ⟨q27, h⟩ := h
      obtain ⟨q28, h⟩ := h
      obtain ⟨q29, h⟩ := h
      refine Wa_callV [vI 0, vI l1, vI l2, vI (l3 + l4)] _ cf_X9 rfl k_88 lc_X9_172 cv_X9_slideGap rfl rfl (Nat.le_refl _) (Nat.le_of_ble_eq_true rfl) dX9_slideAll_95 h ?_
      intro r M30 h
      obtain ⟨z31, rfl, r32, h⟩ := h
      have h := h r32
      refine Wa_goto (tgt := 102) dX9_slideAll_98 (by decide) ?_
      refine Wa_istore (ls' := [(6, vI z31), (5, vI s0), (0, vR 88), (1, vI l1), (2, vI l2), (3, vI l3), (4, vI l4)]) dX9_slideAll_102 (by decide) rfl ?_
      refine Wa_iload_n 3 dX9_slideAll_104 rfl rfl ?_
      refine Wa_iload 0 dX9_slideAll_105 rfl ?_
      refine Wa_isub dX9_slideAll_107 ?_
      refine Wa_istore_n (ls' := [(1, vI (l1 - z31)), (6, vI z31), (5, vI s0), (0, vR 88), (2, vI l2), (3, vI l3), (4, vI l4)]) dX9_slideAll_108 rfl (by decide) rfl ?_
      refine Wa_iload_n 4 dX9_slideAll_109 rfl rfl ?_
      refine Wa_iload 1 dX9_slideAll_110 rfl ?_
      refine Wa_isub dX9_slideAll_112 ?_
      refine Wa_istore_n (ls' := [(2, vI (l2 - z31)), (1, vI (l1 - z31)), (6, vI z31), (5, vI s0), (0, vR 88), (3, vI l3), (4, vI l4)]) dX9_slideAll_113 rfl (by decide) rfl ?_
      refine Wa_iload_n 1 dX9_slideAll_114 rfl rfl ?_
      refine Wa_aload_n 4 dX9_slideAll_115 rfl rfl ?_
      refine Wa_iconst (z := 0) dX9_slideAll_116 ?_
      refine Wa_iload_n 1 dX9_slideAll_117 rfl rfl ?_
      obtain ⟨q33, h⟩ := h
      refine Wa_callV [vI 0, vI (l1 - z31)] _ cf_X9 rfl k_88 lc_X9_168 cv_X9_countBack rfl rfl (Nat.le_refl _) (Nat.le_of_ble_eq_true rfl) dX9_slideAll_118 h ?_
      intro r M34 h
      obtain ⟨z35, rfl, r36, h⟩ := h
      have h := h r36
      refine Wa_isub dX9_slideAll_121 ?_
      refine Wa_istore_n (ls' := [(1, vI ((l1 - z31) - z35)), (2, vI (l2 - z31)), (6, vI z31), (5, vI s0), (0, vR 88), (3, vI l3), (4, vI l4)]) dX9_slideAll_122 rfl (by decide) rfl ?_
      refine Wa_iload_n 1 dX9_slideAll_123 rfl rfl ?_
      refine Wa_aload_n 4 dX9_slideAll_124 rfl rfl ?_
      refine Wa_iconst (z := 1) dX9_slideAll_125 ?_
      refine Wa_iload_n 1 dX9_slideAll_126 rfl rfl ?_
      obtain ⟨q37, h⟩ := h
      refine Wa_callV [vI 1, vI (l2 - z31)] _ cf_X9 rfl k_88 lc_X9_168 cv_X9_countBack rfl rfl (Nat.le_refl _) (Nat.le_of_ble_eq_true rfl) dX9_slideAll_127 h ?_
      intro r M38 h
      obtain ⟨z39, rfl, r40, h⟩ := h
      have h := h r40
      refine Wa_isub dX9_slideAll_130 ?_
      refine Wa_istore_n (ls' := [(2, vI ((l2 - z31) - z39)), (1, vI ((l1 - z31) - z35)), (6, vI z31), (5, vI s0), (0, vR 88), (3, vI l3), (4, vI l4)]) dX9_slideAll_131 rfl (by decide) rfl ?_
      refine Wa_goto (tgt := 19) dX9_slideAll_132 (by decide) ?_
      refine Wa_sub [4, 1, 0] rfl ?_
      exact h
theorem en_X9_slideAll {g : AG} {d : Nat} {M : AM} {Q : AM → Prop} (h : S_X9_slideAll_0 g d M Q) : MetV g mX9_slideAll d [vR 88] M Q := MetA.of (by decide) (Nat.le_of_ble_eq_true rfl) h
def S_X9_bitsOf_0 (g : AG) (d : Nat) (l0 : Int) (l2 : Int) (l4 : Int) (l5 : Int) (M : AM) (Q : Int → AM → Prop) : Prop := Wa g mX9_bitsOf d 0 [(0, vL l0), (2, vL l2), (4, vI l4), (5, vI l5)] [] M (QL Q)
def S_X9_bitsOf_14 (g : AG) (d : Nat) (l2 : Int) (l4 : Int) (l5 : Int) (l6 : Int) (l7 : Int) (M : AM) (Q : Int → AM → Prop) : Prop := Wa g mX9_bitsOf d 14 [(2, vL l2), (4, vI l4), (5, vI l5), (6, vI l6), (7, vL l7)] [] M (QL Q)
def S_X9_bitsOf_38 (g : AG) (d : Nat) (l2 : Int) (l4 : Int) (l5 : Int) (l6 : Int) (l7 : Int) (l9 : Int) (M : AM) (Q : Int → AM → Prop) : Prop := Wa g mX9_bitsOf d 38 [(2, vL l2), (4, vI l4), (5, vI l5), (6, vI l6), (7, vL l7), (9, vI l9)] [] M (QL Q)
set_option maxRecDepth 100000 in
theorem sg_X9_bitsOf_0 {g : AG} {d : Nat} {l0 : Int} {l2 : Int} {l4 : Int} {l5 : Int} {M : AM} {Q : Int → AM → Prop} 
  (h : (¬ (lCmp l0 0) = 0 → (S_X9_bitsOf_14 g (d + 1) l2 l4 l5 0 l0 M Q)) ∧ ((lCmp l0 0) = 0 → (Q 0 M))) : S_X9_bitsOf_0 g (d + 1) l0 l2 l4 l5 M Q := by
  show Wa _ _ _ _ _ _ _ _
  refine Wa_lload_n 0 dX9_bitsOf_0 rfl rfl ?_
  refine Wa_lconst (v := 0) dX9_bitsOf_1 rfl ?_
  refine Wa_lcmp dX9_bitsOf_2 ?_
  refine Wa_if_ne (tgt := 8) dX9_bitsOf_3 (by decide) (rg_toInt _) (fun c1 => ?_) (fun c1 => ?_)
  · have h := h.1 c1
    refine Wa_iconst (z := 0) dX9_bitsOf_8 ?_
    refine Wa_istore (ls' := [(6, vI 0), (0, vL l0), (2, vL l2), (4, vI l4), (5, vI l5)]) dX9_bitsOf_9 (by decide) rfl ?_
    refine Wa_lload_n 1 dX9_bitsOf_11 rfl rfl ?_
    refine Wa_lstore (ls' := [(7, vL l0), (6, vI 0), (0, vL l0), (2, vL l2), (4, vI l4), (5, vI l5)]) dX9_bitsOf_12 (by decide) rfl ?_
    refine Wa_sub [3, 4, 5, 1, 0] rfl ?_
    exact h
  · have h := h.2 c1
    refine Wa_lconst (v := 0) dX9_bitsOf_6 rfl ?_
    exact Wa_lreturn dX9_bitsOf_7 rfl ⟨_, rfl, h⟩
set_option maxRecDepth 100000 in
theorem sg_X9_bitsOf_14 {g : AG} {d : Nat} {l2 : Int} {l4 : Int} {l5 : Int} {l6 : Int} {l7 : Int} {M : AM} {Q : Int → AM → Prop} 
  (h : (0 ≤ (lCmp l7 l2) → (S_X9_bitsOf_38 g (d + 1) l2 l4 l5 l6 l7 0 M Q)) ∧ (¬ 0 ≤ (lCmp l7 l2) → (S_X9_bitsOf_14 g (d + 1) l2 l4 l5 (l6 + 1) (l7 * 2) M Q))) : S_X9_bitsOf_14 g (d + 1) l2 l4 l5 l6 l7 M Q := by
  show Wa _ _ _ _ _ _ _ _
  refine Wa_lload 4 dX9_bitsOf_14 rfl ?_
  refine Wa_lload_n 0 dX9_bitsOf_16 rfl rfl ?_
  refine Wa_lcmp dX9_bitsOf_17 ?_
  refine Wa_if_ge (tgt := 35) dX9_bitsOf_18 (by decide) (rg_toInt _) (fun c1 => ?_) (fun c1 => ?_)
  · have h := h.1 c1
    refine Wa_iconst (z := 0) dX9_bitsOf_35 ?_
    refine Wa_istore (ls' := [(9, vI 0), (2, vL l2), (4, vI l4), (5, vI l5), (6, vI l6), (7, vL l7)]) dX9_bitsOf_36 (by decide) rfl ?_
    refine Wa_sub [1, 2, 3, 4, 5, 0] rfl ?_
    exact h
  · have h := h.2 c1
    refine Wa_lload 4 dX9_bitsOf_21 rfl ?_
    refine Wa_ldc2 (z := 2) dX9_bitsOf_23 kc_X9_175 ?_
    refine Wa_lmul dX9_bitsOf_26 ?_
    refine Wa_lstore (ls' := [(7, vL (l7 * 2)), (2, vL l2), (4, vI l4), (5, vI l5), (6, vI l6)]) dX9_bitsOf_27 (by decide) rfl ?_
    refine Wa_iinc (ls' := [(6, vI (l6 + 1)), (7, vL (l7 * 2)), (2, vL l2), (4, vI l4), (5, vI l5)]) 4 dX9_bitsOf_29 rfl (by decide) rfl ?_
    refine Wa_goto (tgt := 14) dX9_bitsOf_32 (by decide) ?_
    refine Wa_sub [2, 3, 4, 0, 1] rfl ?_
    exact h
set_option maxRecDepth 100000 in
theorem sg_X9_bitsOf_38 {g : AG} {d : Nat} {l2 : Int} {l4 : Int} {l5 : Int} {l6 : Int} {l7 : Int} {l9 : Int} {M : AM} {Q : Int → AM → Prop} 
  (h : rg l9 ∧ (rg l4 ∧ ((l4 ≤ l9 → ((¬ Int64.ofInt l2 = 0) ∧ ((¬ Int64.ofInt l2 = 0) ∧ ((0 < (lCmp (2 * (lRem l7 l2)) l2) → (rg (l5 - l6) ∧ (Q (((lShl (l5 - l6) l4) + ((lDiv l7 l2) + 1)) - (lShl 1 l4)) M))) ∧ (¬ 0 < (lCmp (2 * (lRem l7 l2)) l2) → ((¬ (lCmp (2 * (lRem l7 l2)) l2) = 0 → (rg (l5 - l6) ∧ (Q (((lShl (l5 - l6) l4) + ((lDiv l7 l2) + 0)) - (lShl 1 l4)) M))) ∧ ((lCmp (2 * (lRem l7 l2)) l2) = 0 → ((¬ (lCmp (lRem (lDiv l7 l2) 2) 1) = 0 → (rg (l5 - l6) ∧ (Q (((lShl (l5 - l6) l4) + ((lDiv l7 l2) + 0)) - (lShl 1 l4)) M))) ∧ ((lCmp (lRem (lDiv l7 l2) 2) 1) = 0 → (rg (l5 - l6) ∧ (Q (((lShl (l5 - l6) l4) + ((lDiv l7 l2) + 1)) - (lShl 1 l4)) M))))))))))) ∧ (¬ l4 ≤ l9 → (S_X9_bitsOf_38 g (d + 1) l2 l4 l5 l6 (l7 * 2) (l9 + 1) M Q))))) : S_X9_bitsOf_38 g (d + 1) l2 l4 l5 l6 l7 l9 M Q := by
  show Wa _ _ _ _ _ _ _ _
  refine Wa_iload 5 dX9_bitsOf_38 rfl ?_
  refine Wa_iload 1 dX9_bitsOf_40 rfl ?_
  obtain ⟨q1, h⟩ := h
  obtain ⟨q2, h⟩ := h
  refine Wa_icmp_ge (tgt := 59) dX9_bitsOf_42 (by decide) q1 q2 (fun c3 => ?_) (fun c3 => ?_)
  · have h := h.1 c3
    refine Wa_lload 4 dX9_bitsOf_59 rfl ?_
    refine Wa_lload_n 0 dX9_bitsOf_61 rfl rfl ?_
    obtain ⟨n4, h⟩ := h
    refine Wa_ldiv dX9_bitsOf_62 n4 ?_
    refine Wa_lstore (ls' := [(9, vL (lDiv l7 l2)), (2, vL l2), (4, vI l4), (5, vI l5), (6, vI l6), (7, vL l7)]) dX9_bitsOf_63 (by decide) rfl ?_
    refine Wa_lload 5 dX9_bitsOf_65 rfl ?_
    refine Wa_lload_n 1 dX9_bitsOf_67 rfl rfl ?_
    obtain ⟨n5, h⟩ := h
    refine Wa_lrem dX9_bitsOf_68 n5 ?_
    refine Wa_lstore (ls' := [(11, vL (lRem l7 l2)), (9, vL (lDiv l7 l2)), (2, vL l2), (4, vI l4), (5, vI l5), (6, vI l6), (7, vL l7)]) dX9_bitsOf_69 (by decide) rfl ?_
    refine Wa_lload 1 dX9_bitsOf_71 rfl ?_
    refine Wa_ldc2 (z := 2) dX9_bitsOf_73 kc_X9_175 ?_
    refine Wa_lload 0 dX9_bitsOf_76 rfl ?_
    refine Wa_lmul dX9_bitsOf_78 ?_
    refine Wa_lload_n 2 dX9_bitsOf_79 rfl rfl ?_
    refine Wa_lcmp dX9_bitsOf_80 ?_
    refine Wa_if_gt (tgt := 106) dX9_bitsOf_81 (by decide) (rg_toInt _) (fun c6 => ?_) (fun c6 => ?_)
    · have h := h.1 c6
      refine Wa_lconst (v := 1) dX9_bitsOf_106 rfl ?_
      refine Wa_goto (tgt := 111) dX9_bitsOf_107 (by decide) ?_
      refine Wa_ladd dX9_bitsOf_111 ?_
      refine Wa_lstore (ls' := [(9, vL ((lDiv l7 l2) + 1)), (11, vL (lRem l7 l2)), (2, vL l2), (4, vI l4), (5, vI l5), (6, vI l6), (7, vL l7)]) dX9_bitsOf_112 (by decide) rfl ?_
      refine Wa_iload 4 dX9_bitsOf_114 rfl ?_
      refine Wa_iload 5 dX9_bitsOf_116 rfl ?_
      refine Wa_isub dX9_bitsOf_118 ?_
      obtain ⟨q7, h⟩ := h
      refine Wa_i2l dX9_bitsOf_119 q7 ?_
      refine Wa_iload 3 dX9_bitsOf_120 rfl ?_
      refine Wa_lshl dX9_bitsOf_122 ?_
      refine Wa_lload 0 dX9_bitsOf_123 rfl ?_
      refine Wa_ladd dX9_bitsOf_125 ?_
      refine Wa_lconst (v := 1) dX9_bitsOf_126 rfl ?_
      refine Wa_iload 3 dX9_bitsOf_127 rfl ?_
      refine Wa_lshl dX9_bitsOf_129 ?_
      refine Wa_lsub dX9_bitsOf_130 ?_
      exact Wa_lreturn dX9_bitsOf_131 rfl ⟨_, rfl, h⟩
    · have h := h.2 c6
      refine Wa_ldc2 (z := 2) dX9_bitsOf_84 kc_X9_175 ?_
      refine Wa_lload 0 dX9_bitsOf_87 rfl ?_
      refine Wa_lmul dX9_bitsOf_89 ?_
      refine Wa_lload_n 2 dX9_bitsOf_90 rfl rfl ?_
      refine Wa_lcmp dX9_bitsOf_91 ?_
      refine Wa_if_ne (tgt := 110) dX9_bitsOf_92 (by decide) (rg_toInt _) (fun c8 => ?_) (fun c8 => ?_)
      · have h := h.1 c8
        refine Wa_lconst (v := 0) dX9_bitsOf_110 rfl ?_
        refine Wa_ladd dX9_bitsOf_111 ?_
        refine Wa_lstore (ls' := [(9, vL ((lDiv l7 l2) + 0)), (11, vL (lRem l7 l2)), (2, vL l2), (4, vI l4), (5, vI l5), (6, vI l6), (7, vL l7)]) dX9_bitsOf_112 (by decide) rfl ?_
        refine Wa_iload 4 dX9_bitsOf_114 rfl ?_
        refine Wa_iload 5 dX9_bitsOf_116 rfl ?_
        refine Wa_isub dX9_bitsOf_118 ?_
        obtain ⟨q9, h⟩ := h
        refine Wa_i2l dX9_bitsOf_119 q9 ?_
        refine Wa_iload 3 dX9_bitsOf_120 rfl ?_
        refine Wa_lshl dX9_bitsOf_122 ?_
        refine Wa_lload 0 dX9_bitsOf_123 rfl ?_
        refine Wa_ladd dX9_bitsOf_125 ?_
        refine Wa_lconst (v := 1) dX9_bitsOf_126 rfl ?_
        refine Wa_iload 3 dX9_bitsOf_127 rfl ?_
        refine Wa_lshl dX9_bitsOf_129 ?_
        refine Wa_lsub dX9_bitsOf_130 ?_
        exact Wa_lreturn dX9_bitsOf_131 rfl ⟨_, rfl, h⟩
      · have h := h.2 c8
        refine Wa_lload 1 dX9_bitsOf_95 rfl ?_
        refine Wa_ldc2 (z := 2) dX9_bitsOf_97 kc_X9_175 ?_
        refine Wa_lrem dX9_bitsOf_100 (by decide) ?_
        refine Wa_lconst (v := 1) dX9_bitsOf_101 rfl ?_
        refine Wa_lcmp dX9_bitsOf_102 ?_
        refine Wa_if_ne (tgt := 110) dX9_bitsOf_103 (by decide) (rg_toInt _) (fun c10 => ?_) (fun c10 => ?_)
        · have h := h.1 c10
          refine Wa_lconst (v := 0) dX9_bitsOf_110 rfl ?_
          refine Wa_ladd dX9_bitsOf_111 ?_
          refine Wa_lstore (ls' := [(9, vL ((lDiv l7 l2) + 0)), (11, vL (lRem l7 l2)), (2, vL l2), (4, vI l4), (5, vI l5), (6, vI l6), (7, vL l7)]) dX9_bitsOf_112 (by decide) rfl ?_
          refine Wa_iload 4 dX9_bitsOf_114 rfl ?_
          refine Wa_iload 5 dX9_bitsOf_116 rfl ?_
          refine Wa_isub dX9_bitsOf_118 ?_
          obtain ⟨q11, h⟩ := h
          refine Wa_i2l dX9_bitsOf_119 q11 ?_
          refine Wa_iload 3 dX9_bitsOf_120 rfl ?_
          refine Wa_lshl dX9_bitsOf_122 ?_
          refine Wa_lload 0 dX9_bitsOf_123 rfl ?_
          refine Wa_ladd dX9_bitsOf_125 ?_
          refine Wa_lconst (v := 1) dX9_bitsOf_126 rfl ?_
          refine Wa_iload 3 dX9_bitsOf_127 rfl ?_
          refine Wa_lshl dX9_bitsOf_129 ?_
          refine Wa_lsub dX9_bitsOf_130 ?_
          exact Wa_lreturn dX9_bitsOf_131 rfl ⟨_, rfl, h⟩
        · have h := h.2 c10
          refine Wa_lconst (v := 1) dX9_bitsOf_106 rfl ?_
          refine Wa_goto (tgt := 111) dX9_bitsOf_107 (by decide) ?_
          refine Wa_ladd dX9_bitsOf_111 ?_
          refine Wa_lstore (ls' := [(9, vL ((lDiv l7 l2) + 1)), (11, vL (lRem l7 l2)), (2, vL l2), (4, vI l4), (5, vI l5), (6, vI l6), (7, vL l7)]) dX9_bitsOf_112 (by decide) rfl ?_
          refine Wa_iload 4 dX9_bitsOf_114 rfl ?_
          refine Wa_iload 5 dX9_bitsOf_116 rfl ?_
          refine Wa_isub dX9_bitsOf_118 ?_
          obtain ⟨q12, h⟩ := h
          refine Wa_i2l dX9_bitsOf_119 q12 ?_
          refine Wa_iload 3 dX9_bitsOf_120 rfl ?_
          refine Wa_lshl dX9_bitsOf_122 ?_
          refine Wa_lload 0 dX9_bitsOf_123 rfl ?_
          refine Wa_ladd dX9_bitsOf_125 ?_
          refine Wa_lconst (v := 1) dX9_bitsOf_126 rfl ?_
          refine Wa_iload 3 dX9_bitsOf_127 rfl ?_
          refine Wa_lshl dX9_bitsOf_129 ?_
          refine Wa_lsub dX9_bitsOf_130 ?_
          exact Wa_lreturn dX9_bitsOf_131 rfl ⟨_, rfl, h⟩
  · have h := h.2 c3
    refine Wa_lload 4 dX9_bitsOf_45 rfl ?_
    refine Wa_ldc2 (z := 2) dX9_bitsOf_47 kc_X9_175 ?_
    refine Wa_lmul dX9_bitsOf_50 ?_
    refine Wa_lstore (ls' := [(7, vL (l7 * 2)), (2, vL l2), (4, vI l4), (5, vI l5), (6, vI l6), (9, vI l9)]) dX9_bitsOf_51 (by decide) rfl ?_
    refine Wa_iinc (ls' := [(9, vI (l9 + 1)), (7, vL (l7 * 2)), (2, vL l2), (4, vI l4), (5, vI l5), (6, vI l6)]) 5 dX9_bitsOf_53 rfl (by decide) rfl ?_
    refine Wa_goto (tgt := 38) dX9_bitsOf_56 (by decide) ?_
    refine Wa_sub [2, 3, 4, 5, 1, 0] rfl ?_
    exact h
theorem en_X9_bitsOf {g : AG} {d : Nat} {l0 : Int} {l2 : Int} {l4 : Int} {l5 : Int} {M : AM} {Q : Int → AM → Prop} (h : S_X9_bitsOf_0 g d l0 l2 l4 l5 M Q) : MetL g mX9_bitsOf d [vL l0, vL l2, vI l4, vI l5] M Q := MetA.of (by decide) (Nat.le_of_ble_eq_true rfl) h
