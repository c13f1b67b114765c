def S_X4_clear_0 (g : AG) (d : Nat) (M : AM) (Q : AM → Prop) : Prop := Wa g mX4_clear d 0 [(0, vR 80)] [] M (QV Q)
def S_X4_clear_2 (g : AG) (d : Nat) (l1 : Int) (M : AM) (Q : AM → Prop) : Prop := Wa g mX4_clear d 2 [(0, vR 80), (1, vI l1)] [] M (QV Q)
set_option maxRecDepth 100000 in
theorem sg_X4_clear_0 {g : AG} {d : Nat} {M : AM} {Q : AM → Prop} 
  (h : S_X4_clear_2 g (d + 1) 0 M Q) : S_X4_clear_0 g (d + 1) M Q := by
  show Wa _ _ _ _ _ _ _ _
  refine Wa_iconst (z := 0) dX4_clear_0 ?_
  refine Wa_istore_n (ls' := [(1, vI 0), (0, vR 80)]) dX4_clear_1 rfl (by decide) rfl ?_
  refine Wa_sub [1, 0] rfl ?_
  exact h
set_option maxRecDepth 100000 in
theorem sg_X4_clear_2 {g : AG} {d : Nat} {l1 : Int} {M : AM} {Q : AM → Prop} 
  (h : rg l1 ∧ ((5 ≤ l1 → (Q M)) ∧ (¬ 5 ≤ l1 → ((0 ≤ l1 ∧ l1 < 5) ∧ (S_X4_clear_2 g (d + 1) (l1 + 1) (mU M 87 (l1).toNat 0) Q))))) : S_X4_clear_2 g (d + 1) l1 M Q := by
  show Wa _ _ _ _ _ _ _ _
  refine Wa_iload_n 1 dX4_clear_2 rfl rfl ?_
  refine Wa_iconst (z := 5) dX4_clear_3 ?_
  obtain ⟨q1, h⟩ := h
  refine Wa_icmp_ge (tgt := 20) dX4_clear_4 (by decide) q1 ⟨by decide, by decide⟩ (fun c2 => ?_) (fun c2 => ?_)
  · have h := h.1 c2
    exact Wa_return dX4_clear_20 rfl ⟨rfl, h⟩
  · have h := h.2 c2
    refine Wa_aload_n 0 dX4_clear_7 rfl rfl ?_
    refine Wa_getR cf_X4 lk_X4_16 k_80 (j := 1) rfl (by decide) dX4_clear_8 ?_
    refine Wa_iload_n 1 dX4_clear_11 rfl rfl ?_
    refine Wa_iconst (z := 0) dX4_clear_12 ?_
    obtain ⟨b3, h⟩ := h
    refine Wa_iast k_87 b3 ⟨by decide, by decide⟩ dX4_clear_13 ?_
    refine Wa_iinc (ls' := [(1, vI (l1 + 1)), (0, vR 80)]) 1 dX4_clear_14 rfl (by decide) rfl ?_
    refine Wa_goto (tgt := 2) dX4_clear_17 (by decide) ?_
    refine Wa_sub [1, 0] rfl ?_
    exact h
theorem en_X4_clear {g : AG} {d : Nat} {M : AM} {Q : AM → Prop} (h : S_X4_clear_0 g d M Q) : MetV g mX4_clear d [vR 80] M Q := MetA.of (by decide) (Nat.le_of_ble_eq_true rfl) h
def S_X4_append_0 (g : AG) (d : Nat) (l1 : Int) (l2 : Int) (M : AM) (Q : Int → AM → Prop) : Prop := Wa g mX4_append d 0 [(0, vR 80), (1, vI l1), (2, vI l2)] [] M (QI Q)
set_option maxRecDepth 100000 in
theorem sg_X4_append_0 {g : AG} {d : Nat} {l1 : Int} {l2 : Int} {M : AM} {Q : Int → AM → Prop} 
  (h : rg l1 ∧ ((l1 < 0 → (Q (-104) M)) ∧ (¬ l1 < 0 → ((5 ≤ l1 → (Q (-104) M)) ∧ (¬ 5 ≤ l1 → ((0 ≤ l1 ∧ l1 < 5) ∧ (((M 87 (l1).toNat) < 3 → ((0 ≤ (M 87 (l1).toNat) ∧ (M 87 (l1).toNat) < 3) ∧ (rg l2 ∧ (rg ((M 87 (l1).toNat) + 1) ∧ (Q ((M 87 (l1).toNat) + 1) (mU (mU M (82 + (l1).toNat) ((M 87 (l1).toNat)).toNat l2) 87 (l1).toNat ((M 87 (l1).toNat) + 1))))))) ∧ (¬ (M 87 (l1).toNat) < 3 → (Q (-104) M))))))))) : S_X4_append_0 g (d + 1) l1 l2 M Q := by
  show Wa _ _ _ _ _ _ _ _
  refine Wa_iload_n 1 dX4_append_0 rfl rfl ?_
  obtain ⟨q1, h⟩ := h
  refine Wa_if_lt (tgt := 19) dX4_append_1 (by decide) q1 (fun c2 => ?_) (fun c2 => ?_)
  · have h := h.1 c2
    refine Wa_bipush (z := (-104)) dX4_append_19 (by decide) ?_
    exact Wa_ireturn dX4_append_21 rfl ⟨_, rfl, ⟨by decide, by decide⟩, h⟩
  · have h := h.2 c2
    refine Wa_iload_n 1 dX4_append_4 rfl rfl ?_
    refine Wa_iconst (z := 5) dX4_append_5 ?_
    refine Wa_icmp_ge (tgt := 19) dX4_append_6 (by decide) q1 ⟨by decide, by decide⟩ (fun c3 => ?_) (fun c3 => ?_)
    · have h := h.1 c3
      refine Wa_bipush (z := (-104)) dX4_append_19 (by decide) ?_
      exact Wa_ireturn dX4_append_21 rfl ⟨_, rfl, ⟨by decide, by decide⟩, h⟩
    · have h := h.2 c3
      refine Wa_aload_n 0 dX4_append_9 rfl rfl ?_
      refine Wa_getR cf_X4 lk_X4_16 k_80 (j := 1) rfl (by decide) dX4_append_10 ?_
      refine Wa_iload_n 1 dX4_append_13 rfl rfl ?_
      obtain ⟨b4, h⟩ := h
      refine Wa_iald2 (v := (M 87 (l1).toNat)) k_87 b4 rfl dX4_append_14 (fun r5 => ?_)
      refine Wa_iconst (z := 3) dX4_append_15 ?_
      refine Wa_icmp_lt (tgt := 22) dX4_append_16 (by decide) r5 ⟨by decide, by decide⟩ (fun c6 => ?_) (fun c6 => ?_)
      · have h := h.1 c6
        refine Wa_aload_n 0 dX4_append_22 rfl rfl ?_
        refine Wa_getR cf_X4 lk_X4_11 k_80 (j := 0) rfl (by decide) dX4_append_23 ?_
        refine Wa_iload_n 1 dX4_append_26 rfl rfl ?_
        refine Wa_aald k_81 b4 dX4_append_27 ?_
        refine Wa_aload_n 0 dX4_append_28 rfl rfl ?_
        refine Wa_getR cf_X4 lk_X4_16 k_80 (j := 1) rfl (by decide) dX4_append_29 ?_
        refine Wa_iload_n 1 dX4_append_32 rfl rfl ?_
        refine Wa_iald2 (v := (M 87 (l1).toNat)) k_87 b4 rfl dX4_append_33 (fun r7 => ?_)
        refine Wa_iload_n 2 dX4_append_34 rfl rfl ?_
        obtain ⟨b8, h⟩ := h
        obtain ⟨q9, h⟩ := h
        refine Wa_iast (rw_81 _ (inb_nat b4)) b8 q9 dX4_append_35 ?_
        refine Wa_aload_n 0 dX4_append_36 rfl rfl ?_
        refine Wa_getR cf_X4 lk_X4_16 k_80 (j := 1) rfl (by decide) dX4_append_37 ?_
        refine Wa_iload_n 1 dX4_append_40 rfl rfl ?_
        refine Wa_dup2 dX4_append_41 rfl rfl ?_
        refine Wa_iald2 (v := (M 87 (l1).toNat)) k_87 b4 (mU_rd (by omega)) dX4_append_42 (fun r10 => ?_)
        refine Wa_iconst (z := 1) dX4_append_43 ?_
        refine Wa_iadd dX4_append_44 ?_
        obtain ⟨q11, h⟩ := h
        refine Wa_iast k_87 b4 q11 dX4_append_45 ?_
        refine Wa_aload_n 0 dX4_append_46 rfl rfl ?_
        refine Wa_getR cf_X4 lk_X4_16 k_80 (j := 1) rfl (by decide) dX4_append_47 ?_
        refine Wa_iload_n 1 dX4_append_50 rfl rfl ?_
        refine Wa_iald2 (v := ((M 87 (l1).toNat) + 1)) k_87 b4 mU_at dX4_append_51 (fun r12 => ?_)
        exact Wa_ireturn dX4_append_52 rfl ⟨_, rfl, r12, h⟩
      · have h := h.2 c6
        refine Wa_bipush (z := (-104)) dX4_append_19 (by decide) ?_
        exact Wa_ireturn dX4_append_21 rfl ⟨_, rfl, ⟨by decide, by decide⟩, h⟩
theorem en_X4_append {g : AG} {d : Nat} {l1 : Int} {l2 : Int} {M : AM} {Q : Int → AM → Prop} (h : S_X4_append_0 g d l1 l2 M Q) : MetI g mX4_append d [vR 80, vI l1, vI l2] M Q := MetA.of (by decide) (Nat.le_of_ble_eq_true rfl) h
def S_X4_total_0 (g : AG) (d : Nat) (M : AM) (Q : Int → AM → Prop) : Prop := Wa g mX4_total d 0 [(0, vR 80)] [] M (QI Q)
def S_X4_total_4 (g : AG) (d : Nat) (l1 : Int) (l2 : Int) (M : AM) (Q : Int → AM → Prop) : Prop := Wa g mX4_total d 4 [(0, vR 80), (1, vI l1), (2, vI l2)] [] M (QI Q)
set_option maxRecDepth 100000 in
theorem sg_X4_total_0 {g : AG} {d : Nat} {M : AM} {Q : Int → AM → Prop} 
  (h : S_X4_total_4 g (d + 1) 0 0 M Q) : S_X4_total_0 g (d + 1) M Q := by
  show Wa _ _ _ _ _ _ _ _
  refine Wa_iconst (z := 0) dX4_total_0 ?_
  refine Wa_istore_n (ls' := [(1, vI 0), (0, vR 80)]) dX4_total_1 rfl (by decide) rfl ?_
  refine Wa_iconst (z := 0) dX4_total_2 ?_
  refine Wa_istore_n (ls' := [(2, vI 0), (1, vI 0), (0, vR 80)]) dX4_total_3 rfl (by decide) rfl ?_
  refine Wa_sub [2, 1, 0] rfl ?_
  exact h
set_option maxRecDepth 100000 in
theorem sg_X4_total_4 {g : AG} {d : Nat} {l1 : Int} {l2 : Int} {M : AM} {Q : Int → AM → Prop} 
  (h : rg l2 ∧ ((5 ≤ l2 → (rg l1 ∧ (Q l1 M))) ∧ (¬ 5 ≤ l2 → ((0 ≤ l2 ∧ l2 < 5) ∧ (S_X4_total_4 g (d + 1) (l1 + (M 87 (l2).toNat)) (l2 + 1) M Q))))) : S_X4_total_4 g (d + 1) l1 l2 M Q := by
  show Wa _ _ _ _ _ _ _ _
  refine Wa_iload_n 2 dX4_total_4 rfl rfl ?_
  refine Wa_iconst (z := 5) dX4_total_5 ?_
  obtain ⟨q1, h⟩ := h
  refine Wa_icmp_ge (tgt := 24) dX4_total_6 (by decide) q1 ⟨by decide, by decide⟩ (fun c2 => ?_) (fun c2 => ?_)
  · have h := h.1 c2
    refine Wa_iload_n 1 dX4_total_24 rfl rfl ?_
    obtain ⟨q3, h⟩ := h
    exact Wa_ireturn dX4_total_25 rfl ⟨_, rfl, q3, h⟩
  · have h := h.2 c2
    refine Wa_iload_n 1 dX4_total_9 rfl rfl ?_
    refine Wa_aload_n 0 dX4_total_10 rfl rfl ?_
    refine Wa_getR cf_X4 lk_X4_16 k_80 (j := 1) rfl (by decide) dX4_total_11 ?_
    refine Wa_iload_n 2 dX4_total_14 rfl rfl ?_
    obtain ⟨b4, h⟩ := h
    refine Wa_iald2 (v := (M 87 (l2).toNat)) k_87 b4 rfl dX4_total_15 (fun r5 => ?_)
    refine Wa_iadd dX4_total_16 ?_
    refine Wa_istore_n (ls' := [(1, vI (l1 + (M 87 (l2).toNat))), (0, vR 80), (2, vI l2)]) dX4_total_17 rfl (by decide) rfl ?_
    refine Wa_iinc (ls' := [(2, vI (l2 + 1)), (1, vI (l1 + (M 87 (l2).toNat))), (0, vR 80)]) 2 dX4_total_18 rfl (by decide) rfl ?_
    refine Wa_goto (tgt := 4) dX4_total_21 (by decide) ?_
    refine Wa_sub [2, 1, 0] rfl ?_
    exact h
theorem en_X4_total {g : AG} {d : Nat} {M : AM} {Q : Int → AM → Prop} (h : S_X4_total_0 g d M Q) : MetI g mX4_total d [vR 80] M Q := MetA.of (by decide) (Nat.le_of_ble_eq_true rfl) h
