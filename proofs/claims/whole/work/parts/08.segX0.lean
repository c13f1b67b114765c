def S_X0_most_0 (g : AG) (d : Nat) (f : Nat) (a1 : Nat) (n1 : Nat) (a2 : Nat) (n2 : Nat) (l2 : Int) (l3 : Int) (l5 : Int) (l6 : Int) (M : AM) (Q : Int → AM → Prop) : Prop := Wa g mX0_most d 0 [(0, vR f), (1, vR a1), (2, vI l2), (3, vI l3), (4, vR a2), (5, vI l5), (6, vI l6)] [] M (QI Q)
def S_X0_most_3 (g : AG) (d : Nat) (f : Nat) (a1 : Nat) (n1 : Nat) (a2 : Nat) (n2 : Nat) (l2 : Int) (l3 : Int) (l5 : Int) (l6 : Int) (l7 : Int) (M : AM) (Q : Int → AM → Prop) : Prop := Wa g mX0_most d 3 [(0, vR f), (1, vR a1), (2, vI l2), (3, vI l3), (4, vR a2), (5, vI l5), (6, vI l6), (7, vI l7)] [] M (QI Q)
def S_X0_most_13 (g : AG) (d : Nat) (f : Nat) (a1 : Nat) (n1 : Nat) (a2 : Nat) (n2 : Nat) (l2 : Int) (l3 : Int) (l5 : Int) (l6 : Int) (l7 : Int) (l8 : Int) (M : AM) (Q : Int → AM → Prop) : Prop := Wa g mX0_most d 13 [(0, vR f), (1, vR a1), (2, vI l2), (3, vI l3), (4, vR a2), (5, vI l5), (6, vI l6), (7, vI l7), (8, vI l8)] [] M (QI Q)
set_option maxRecDepth 100000 in
theorem sg_X0_most_0 {g : AG} {d : Nat} {f : Nat} {a1 : Nat} {n1 : Nat} {a2 : Nat} {n2 : Nat} {l2 : Int} {l3 : Int} {l5 : Int} {l6 : Int} {M : AM} {Q : Int → AM → Prop} (hc : IsCommon f) (ha1 : KD[a1]? = some (.inr (.inl n1))) (ha2 : KD[a2]? = some (.inr (.inl n2)))
  (h : S_X0_most_3 g (d + 1) f a1 n1 a2 n2 l2 l3 l5 l6 l3 M Q) : S_X0_most_0 g (d + 1) f a1 n1 a2 n2 l2 l3 l5 l6 M Q := by
  show Wa _ _ _ _ _ _ _ _
  refine Wa_iload_n 3 dX0_most_0 rfl rfl ?_
  refine Wa_istore (ls' := [(7, vI l3), (0, vR f), (1, vR a1), (2, vI l2), (3, vI l3), (4, vR a2), (5, vI l5), (6, vI l6)]) dX0_most_1 (by decide) rfl ?_
  refine Wa_sub [1, 2, 3, 4, 5, 6, 7, 0] rfl ?_
  exact h
set_option maxRecDepth 100000 in
theorem sg_X0_most_3 {g : AG} {d : Nat} {f : Nat} {a1 : Nat} {n1 : Nat} {a2 : Nat} {n2 : Nat} {l2 : Int} {l3 : Int} {l5 : Int} {l6 : Int} {l7 : Int} {M : AM} {Q : Int → AM → Prop} (hc : IsCommon f) (ha1 : KD[a1]? = some (.inr (.inl n1))) (ha2 : KD[a2]? = some (.inr (.inl n2)))
  (h : rg l7 ∧ (rg l2 ∧ ((l7 < l2 → ((0 ≤ l2 ∧ l2 < 9) ∧ ((0 ≤ l5 ∧ l5 < 9) ∧ (Q (M (f + 2 + (l2).toNat) (l5).toNat) M)))) ∧ (¬ l7 < l2 → (S_X0_most_13 g (d + 1) f a1 n1 a2 n2 l2 l3 l5 l6 l7 l6 M Q))))) : S_X0_most_3 g (d + 1) f a1 n1 a2 n2 l2 l3 l5 l6 l7 M Q := by
  show Wa _ _ _ _ _ _ _ _
  refine Wa_iload 7 dX0_most_3 rfl ?_
  refine Wa_iload_n 2 dX0_most_5 rfl rfl ?_
  obtain ⟨q1, h⟩ := h
  obtain ⟨q2, h⟩ := h
  refine Wa_icmp_lt (tgt := 137) dX0_most_6 (by decide) q1 q2 (fun c3 => ?_) (fun c3 => ?_)
  · have h := h.1 c3
    refine Wa_aload_n 0 dX0_most_137 rfl rfl ?_
    refine Wa_getR cf_X0 lk_X0_11 hc.1 (j := 0) rfl (by decide) dX0_most_138 ?_
    refine Wa_iload_n 2 dX0_most_141 rfl rfl ?_
    obtain ⟨b4, h⟩ := h
    refine Wa_aald hc.2.1 b4 dX0_most_142 ?_
    refine Wa_iload 5 dX0_most_143 rfl ?_
    obtain ⟨b5, h⟩ := h
    refine Wa_iald2 (v := (M (f + 2 + (l2).toNat) (l5).toNat)) (hc.2.2 _ (inb_nat b4)) b5 rfl dX0_most_145 (fun r6 => ?_)
    exact Wa_ireturn dX0_most_146 rfl ⟨_, rfl, r6, h⟩
  · have h := h.2 c3
    refine Wa_iload 6 dX0_most_9 rfl ?_
    refine Wa_istore (ls' := [(8, vI l6), (0, vR f), (1, vR a1), (2, vI l2), (3, vI l3), (4, vR a2), (5, vI l5), (6, vI l6), (7, vI l7)]) dX0_most_11 (by decide) rfl ?_
    refine Wa_sub [1, 2, 3, 4, 5, 6, 7, 8, 0] rfl ?_
    exact h
set_option maxRecDepth 100000 in
theorem sg_X0_most_13 {g : AG} {d : Nat} {f : Nat} {a1 : Nat} {n1 : Nat} {a2 : Nat} {n2 : Nat} {l2 : Int} {l3 : Int} {l5 : Int} {l6 : Int} {l7 : Int} {l8 : Int} {M : AM} {Q : Int → AM → Prop} (hc : IsCommon f) (ha1 : KD[a1]? = some (.inr (.inl n1))) (ha2 : KD[a2]? = some (.inr (.inl n2)))
  (h : rg l8 ∧ (rg l5 ∧ ((l8 < l5 → (S_X0_most_3 g (d + 1) f a1 n1 a2 n2 l2 l3 l5 l6 (l7 + (-1)) M Q)) ∧ (¬ l8 < l5 → (rg l7 ∧ (rg l3 ∧ ((l7 = l3 → ((0 ≤ l7 ∧ l7 < 9) ∧ ((0 ≤ l8 ∧ l8 < 9) ∧ (S_X0_most_13 g (d + 1) f a1 n1 a2 n2 l2 l3 l5 l6 l7 (l8 + (-1)) (mU M (f + 2 + (l7).toNat) (l8).toNat 0) Q)))) ∧ (¬ l7 = l3 → (rg l6 ∧ ((¬ l8 = l6 → ((0 ≤ l7 ∧ l7 < n1) ∧ ((0 ≤ l8 ∧ l8 < n2) ∧ ((¬ (M a1 (l7).toNat) = (M a2 (l8).toNat) → ((0 ≤ l7 ∧ l7 < 9) ∧ ((0 ≤ (l7 + 1) ∧ (l7 + 1) < 9) ∧ ((0 ≤ l8 ∧ l8 < 9) ∧ ((0 ≤ (l8 + 1) ∧ (l8 + 1) < 9) ∧ (S_X0_most_13 g (d + 1) f a1 n1 a2 n2 l2 l3 l5 l6 l7 (l8 + (-1)) (mU M (f + 2 + (l7).toNat) (l8).toNat (if (M (f + 2 + ((l7 + 1)).toNat) (l8).toNat) < (M (f + 2 + (l7).toNat) ((l8 + 1)).toNat) then (M (f + 2 + (l7).toNat) ((l8 + 1)).toNat) else (M (f + 2 + ((l7 + 1)).toNat) (l8).toNat))) Q)))))) ∧ ((M a1 (l7).toNat) = (M a2 (l8).toNat) → ((0 ≤ l7 ∧ l7 < 9) ∧ ((0 ≤ (l7 + 1) ∧ (l7 + 1) < 9) ∧ ((0 ≤ (l8 + 1) ∧ (l8 + 1) < 9) ∧ ((0 ≤ l8 ∧ l8 < 9) ∧ (rg ((M (f + 2 + ((l7 + 1)).toNat) ((l8 + 1)).toNat) + 1) ∧ (S_X0_most_13 g (d + 1) f a1 n1 a2 n2 l2 l3 l5 l6 l7 (l8 + (-1)) (mU M (f + 2 + (l7).toNat) (l8).toNat ((M (f + 2 + ((l7 + 1)).toNat) ((l8 + 1)).toNat) + 1)) Q))))))))))) ∧ (l8 = l6 → ((0 ≤ l7 ∧ l7 < 9) ∧ ((0 ≤ l8 ∧ l8 < 9) ∧ (S_X0_most_13 g (d + 1) f a1 n1 a2 n2 l2 l3 l5 l6 l7 (l8 + (-1)) (mU M (f + 2 + (l7).toNat) (l8).toNat 0) Q)))))))))))))) : S_X0_most_13 g (d + 1) f a1 n1 a2 n2 l2 l3 l5 l6 l7 l8 M Q := by
  show Wa _ _ _ _ _ _ _ _
  refine Wa_iload 8 dX0_most_13 rfl ?_
  refine Wa_iload 5 dX0_most_15 rfl ?_
  obtain ⟨q1, h⟩ := h
  obtain ⟨q2, h⟩ := h
  refine Wa_icmp_lt (tgt := 131) dX0_most_17 (by decide) q1 q2 (fun c3 => ?_) (fun c3 => ?_)
  · have h := h.1 c3
    refine Wa_iinc (ls' := [(7, vI (l7 + (-1))), (0, vR f), (1, vR a1), (2, vI l2), (3, vI l3), (4, vR a2), (5, vI l5), (6, vI l6), (8, vI l8)]) 7 dX0_most_131 rfl (by decide) rfl ?_
    refine Wa_goto (tgt := 3) dX0_most_134 (by decide) ?_
    refine Wa_sub [1, 2, 3, 4, 5, 6, 7, 0] rfl ?_
    exact h
  · have h := h.2 c3
    refine Wa_iload 7 dX0_most_20 rfl ?_
    refine Wa_iload_n 3 dX0_most_22 rfl rfl ?_
    obtain ⟨q4, h⟩ := h
    obtain ⟨q5, h⟩ := h
    refine Wa_icmp_eq (tgt := 33) dX0_most_23 (by decide) q4 q5 (fun c6 => ?_) (fun c6 => ?_)
    · have h := h.1 c6
      refine Wa_aload_n 0 dX0_most_33 rfl rfl ?_
      refine Wa_getR cf_X0 lk_X0_11 hc.1 (j := 0) rfl (by decide) dX0_most_34 ?_
      refine Wa_iload 7 dX0_most_37 rfl ?_
      obtain ⟨b7, h⟩ := h
      refine Wa_aald hc.2.1 b7 dX0_most_39 ?_
      refine Wa_iload 8 dX0_most_40 rfl ?_
      refine Wa_iconst (z := 0) dX0_most_42 ?_
      obtain ⟨b8, h⟩ := h
      refine Wa_iast (hc.2.2 _ (inb_nat b7)) b8 ⟨by decide, by decide⟩ dX0_most_43 ?_
      refine Wa_goto (tgt := 125) dX0_most_44 (by decide) ?_
      refine Wa_iinc (ls' := [(8, vI (l8 + (-1))), (0, vR f), (1, vR a1), (2, vI l2), (3, vI l3), (4, vR a2), (5, vI l5), (6, vI l6), (7, vI l7)]) 8 dX0_most_125 rfl (by decide) rfl ?_
      refine Wa_goto (tgt := 13) dX0_most_128 (by decide) ?_
      refine Wa_sub [1, 2, 3, 4, 5, 6, 7, 8, 0] rfl ?_
      exact h
    · have h := h.2 c6
      refine Wa_iload 8 dX0_most_26 rfl ?_
      refine Wa_iload 6 dX0_most_28 rfl ?_
      obtain ⟨q9, h⟩ := h
      refine Wa_icmp_ne (tgt := 47) dX0_most_30 (by decide) q1 q9 (fun c10 => ?_) (fun c10 => ?_)
      · have h := h.1 c10
        refine Wa_aload_n 1 dX0_most_47 rfl rfl ?_
        refine Wa_iload 7 dX0_most_48 rfl ?_
        obtain ⟨b11, h⟩ := h
        refine Wa_iald2 (v := (M a1 (l7).toNat)) ha1 b11 rfl dX0_most_50 (fun r12 => ?_)
        refine Wa_aload 4 dX0_most_51 rfl ?_
        refine Wa_iload 8 dX0_most_53 rfl ?_
        obtain ⟨b13, h⟩ := h
        refine Wa_iald2 (v := (M a2 (l8).toNat)) ha2 b13 rfl dX0_most_55 (fun r14 => ?_)
        refine Wa_icmp_ne (tgt := 88) dX0_most_56 (by decide) r12 r14 (fun c15 => ?_) (fun c15 => ?_)
        · have h := h.1 c15
          refine Wa_aload_n 0 dX0_most_88 rfl rfl ?_
          refine Wa_getR cf_X0 lk_X0_11 hc.1 (j := 0) rfl (by decide) dX0_most_89 ?_
          refine Wa_iload 7 dX0_most_92 rfl ?_
          obtain ⟨b16, h⟩ := h
          refine Wa_aald hc.2.1 b16 dX0_most_94 ?_
          refine Wa_iload 8 dX0_most_95 rfl ?_
          refine Wa_aload_n 0 dX0_most_97 rfl rfl ?_
          refine Wa_getR cf_X0 lk_X0_11 hc.1 (j := 0) rfl (by decide) dX0_most_98 ?_
          refine Wa_iload 7 dX0_most_101 rfl ?_
          refine Wa_iconst (z := 1) dX0_most_103 ?_
          refine Wa_iadd dX0_most_104 ?_
          obtain ⟨b17, h⟩ := h
          refine Wa_aald hc.2.1 b17 dX0_most_105 ?_
          refine Wa_iload 8 dX0_most_106 rfl ?_
          obtain ⟨b18, h⟩ := h
          refine Wa_iald2 (v := (M (f + 2 + ((l7 + 1)).toNat) (l8).toNat)) (hc.2.2 _ (inb_nat b17)) b18 rfl dX0_most_108 (fun r19 => ?_)
          refine Wa_aload_n 0 dX0_most_109 rfl rfl ?_
          refine Wa_getR cf_X0 lk_X0_11 hc.1 (j := 0) rfl (by decide) dX0_most_110 ?_
          refine Wa_iload 7 dX0_most_113 rfl ?_
          refine Wa_aald hc.2.1 b16 dX0_most_115 ?_
          refine Wa_iload 8 dX0_most_116 rfl ?_
          refine Wa_iconst (z := 1) dX0_most_118 ?_
          refine Wa_iadd dX0_most_119 ?_
          obtain ⟨b20, h⟩ := h
          refine Wa_iald2 (v := (M (f + 2 + (l7).toNat) ((l8 + 1)).toNat)) (hc.2.2 _ (inb_nat b16)) b20 rfl dX0_most_120 (fun r21 => ?_)
          refine Wa_mmax lc_X0_16 st_max in_Math co_max r19 r21 (by omega) (Nat.le_of_ble_eq_true rfl) dX0_most_121 ?_
          refine Wa_iast (hc.2.2 _ (inb_nat b16)) b18 (rg_ite r21 r19) dX0_most_124 ?_
          refine Wa_iinc (ls' := [(8, vI (l8 + (-1))), (0, vR f), (1, vR a1), (2, vI l2), (3, vI l3), (4, vR a2), (5, vI l5), (6, vI l6), (7, vI l7)]) 8 dX0_most_125 rfl (by decide) rfl ?_
          refine Wa_goto (tgt := 13) dX0_most_128 (by decide) ?_
          refine Wa_sub [1, 2, 3, 4, 5, 6, 7, 8, 0] rfl ?_
          exact h
        · have h := h.2 c15
          refine Wa_aload_n 0 dX0_most_59 rfl rfl ?_
          refine Wa_getR cf_X0 lk_X0_11 hc.1 (j := 0) rfl (by decide) dX0_most_60 ?_
          refine Wa_iload 7 dX0_most_63 rfl ?_
          obtain ⟨b22, h⟩ := h
          refine Wa_aald hc.2.1 b22 dX0_most_65 ?_
          refine Wa_iload 8 dX0_most_66 rfl ?_
          refine Wa_aload_n 0 dX0_most_68 rfl rfl ?_
          refine Wa_getR cf_X0 lk_X0_11 hc.1 (j := 0) rfl (by decide) dX0_most_69 ?_
          refine Wa_iload 7 dX0_most_72 rfl ?_
          refine Wa_iconst (z := 1) dX0_most_74 ?_
          refine Wa_iadd dX0_most_75 ?_
          obtain ⟨b23, h⟩ := h
          refine Wa_aald hc.2.1 b23 dX0_most_76 ?_
          refine Wa_iload 8 dX0_most_77 rfl ?_
          refine Wa_iconst (z := 1) dX0_most_79 ?_
          refine Wa_iadd dX0_most_80 ?_
          obtain ⟨b24, h⟩ := h
          refine Wa_iald2 (v := (M (f + 2 + ((l7 + 1)).toNat) ((l8 + 1)).toNat)) (hc.2.2 _ (inb_nat b23)) b24 rfl dX0_most_81 (fun r25 => ?_)
          refine Wa_iconst (z := 1) dX0_most_82 ?_
          refine Wa_iadd dX0_most_83 ?_
          obtain ⟨b26, h⟩ := h
          obtain ⟨q27, h⟩ := h
          refine Wa_iast (hc.2.2 _ (inb_nat b22)) b26 q27 dX0_most_84 ?_
          refine Wa_goto (tgt := 125) dX0_most_85 (by decide) ?_
          refine Wa_iinc (ls' := [(8, vI (l8 + (-1))), (0, vR f), (1, vR a1), (2, vI l2), (3, vI l3), (4, vR a2), (5, vI l5), (6, vI l6), (7, vI l7)]) 8 dX0_most_125 rfl (by decide) rfl ?_
          refine Wa_goto (tgt := 13) dX0_most_128 (by decide) ?_
          refine Wa_sub [1, 2, 3, 4, 5, 6, 7, 8, 0] rfl ?_
          exact h
      · have h := h.2 c10
        refine Wa_aload_n 0 dX0_most_33 rfl rfl ?_
        refine Wa_getR cf_X0 lk_X0_11 hc.1 (j := 0) rfl (by decide) dX0_most_34 ?_
        refine Wa_iload 7 dX0_most_37 rfl ?_
        obtain ⟨b28, h⟩ := h
        refine Wa_aald hc.2.1 b28 dX0_most_39 ?_
        refine Wa_iload 8 dX0_most_40 rfl ?_
        refine Wa_iconst (z := 0) dX0_most_42 ?_
        obtain ⟨b29, h⟩ := h
        refine Wa_iast (hc.2.2 _ (inb_nat b28)) b29 ⟨by decide, by decide⟩ dX0_most_43 ?_
        refine Wa_goto (tgt := 125) dX0_most_44 (by decide) ?_
        refine Wa_iinc (ls' := [(8, vI (l8 + (-1))), (0, vR f), (1, vR a1), (2, vI l2), (3, vI l3), (4, vR a2), (5, vI l5), (6, vI l6), (7, vI l7)]) 8 dX0_most_125 rfl (by decide) rfl ?_
        refine Wa_goto (tgt := 13) dX0_most_128 (by decide) ?_
        refine Wa_sub [1, 2, 3, 4, 5, 6, 7, 8, 0] rfl ?_
        exact h
theorem en_X0_most {g : AG} {d : Nat} {f : Nat} {a1 : Nat} {n1 : Nat} {a2 : Nat} {n2 : Nat} {l2 : Int} {l3 : Int} {l5 : Int} {l6 : Int} {M : AM} {Q : Int → AM → Prop} (h : S_X0_most_0 g d f a1 n1 a2 n2 l2 l3 l5 l6 M Q) : MetI g mX0_most d [vR f, vR a1, vI l2, vI l3, vR a2, vI l5, vI l6] M Q := MetA.of (by decide) (Nat.le_of_ble_eq_true rfl) h
