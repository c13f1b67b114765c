section KQ
variable {g : AG} {n : MI} {d lo C S pc cu su : Nat} {ls : List (Nat × AV)} {st : List AV} {ws : List va_E} {E : KPt}
theorem Rk_newaQ {N q : Nat} (hq : lo + ws.length = q) (hd : decode n.2.1 pc = .ok (.newarray .int, 2)) (hN : N ≤ 1000) (hc : cu + 1 ≤ C) (hs : su + N ≤ S) (hb : q < 108) (k : Rk g n d lo C S (pc + 2, ls, vR q :: st, ws ++ [arI g N], cu + 1, su + N) E) : Rk g n d lo C S (pc, ls, vI (N : Int) :: st, ws, cu, su) E := by
  subst hq
  exact Rk_newa hd hN hc hs hb k
theorem Rk_mnaQ {N K idx q : Nat} (hq : lo + ws.length = q) (hcl : Cond.classLink n.1.cls idx "[[I" ∈ WT) (hd : decode n.2.1 pc = .ok (.multianewarray idx 2, 4)) (hN : N ≤ 1000) (hK : K ≤ 1000) (hc : cu + (1 + N) ≤ C) (hs : su + (N + N * K) ≤ S) (hb : q + N < 108) (k : Rk g n d lo C S (pc + 4, ls, vR q :: st, ws ++ (arO g (q + 1) N :: List.replicate N (arI g K)), cu + 1 + N, su + N + N * K) E) : Rk g n d lo C S (pc, ls, vI (K : Int) :: vI (N : Int) :: st, ws, cu, su) E := by
  subst hq
  exact Rk_mna hcl hd hN hK hc hs hb k
theorem Rk_newQ {ci idx N q : Nat} {Cn : String} {T : u_T} {ty : Nat → FieldType} {fs : List Value} (hq : lo + ws.length = q) (cf : CF ci Cn T N ty) (hcl : Cond.classLink n.1.cls idx Cn ∈ WT) (hin : Cond.instantiable Cn N ∈ WT) (hini : Cond.initialized Cn ∈ WT) (hfs : ∀ j, j < N → defaultValue (ty j) = vp_V fs j) (hd : decode n.2.1 pc = .ok (.new idx, 3)) (hc : cu + 1 ≤ C) (hs : su + N ≤ S) (hb : q < 108)
    (k : Rk g n d lo C S (pc + 3, ls, vR q :: st, ws ++ [.inr (ci, fs)], cu + 1, su + N) E) : Rk g n d lo C S (pc, ls, st, ws, cu, su) E := by
  subst hq
  exact Rk_new cf hcl hin hini hfs hd hc hs hb k
theorem Rk_callQ {n' : MI} {d' idx C' S' q : Nat} {x0 : va_E} {wE' : List va_E} (hq : lo + ws.length = q) (hlc : LC n.1.cls idx n') (hcc : CC n' 0) (hin : Cond.instanceMethod n'.1 ∈ WT) (hnm : n'.1.name = "<init>") (hret : n'.2.2.2 = none) (hdd : d' + 1 ≤ d) (hst : rsum st ≤ 8) (hd : decode n.2.1 pc = .ok (.invokespecial idx, 3)) (hM : MetK g n' d' q C' S' x0 wE') (hc : cu + C' ≤ C) (hs : su + S' ≤ S) (hlen : wE'.length = 1 + C')
    (k : Rk g n d lo C S (pc + 3, ls, st, ws ++ wE', cu + C', su + S') E) : Rk g n d lo C S (pc, ls, vR q :: st, ws ++ [x0], cu, su) E := by
  subst hq
  exact Rk_call hlc hcc hin hnm hret hdd hst hd hM hc hs hlen k
end KQ
theorem ii_X8 : Cond.initialized RX8 ∈ WT := WT_mem (List.mem_append_right _ (List.mem_of_getElem? (i := 1) (by decide +kernel))) (by decide +kernel)
theorem ii_X3 : Cond.initialized RX3 ∈ WT := WT_mem (List.mem_append_right _ (List.mem_of_getElem? (i := 2) (by decide +kernel))) (by decide +kernel)
theorem ii_X5 : Cond.initialized RX5 ∈ WT := WT_mem (List.mem_append_right _ (List.mem_of_getElem? (i := 3) (by decide +kernel))) (by decide +kernel)
theorem ii_X2 : Cond.initialized RX2 ∈ WT := WT_mem (List.mem_append_right _ (List.mem_of_getElem? (i := 4) (by decide +kernel))) (by decide +kernel)
theorem ii_X7 : Cond.initialized RX7 ∈ WT := WT_mem (List.mem_append_right _ (List.mem_of_getElem? (i := 5) (by decide +kernel))) (by decide +kernel)
theorem ii_X0 : Cond.initialized RX0 ∈ WT := WT_mem (List.mem_append_right _ (List.mem_of_getElem? (i := 6) (by decide +kernel))) (by decide +kernel)
theorem ii_X1 : Cond.initialized RX1 ∈ WT := WT_mem (List.mem_append_right _ (List.mem_of_getElem? (i := 7) (by decide +kernel))) (by decide +kernel)
theorem ii_X6 : Cond.initialized RX6 ∈ WT := WT_mem (List.mem_append_right _ (List.mem_of_getElem? (i := 8) (by decide +kernel))) (by decide +kernel)
theorem ii_X4 : Cond.initialized RX4 ∈ WT := WT_mem (List.mem_append_right _ (List.mem_of_getElem? (i := 9) (by decide +kernel))) (by decide +kernel)
theorem ii_X9 : Cond.initialized RX9 ∈ WT := WT_mem (List.mem_append_right _ (List.mem_of_getElem? (i := 10) (by decide +kernel))) (by decide +kernel)
theorem cl_L_7 : Cond.classLink RL 7 RX8 ∈ WT := WT_mem (List.mem_append_right _ (List.mem_of_getElem? (i := 13) (by decide +kernel))) (by decide +kernel)
theorem it_X8 : Cond.instantiable RX8 11 ∈ WT := WT_mem (List.mem_append_right _ (List.mem_of_getElem? (i := 14) (by decide +kernel))) (by decide +kernel)
theorem li_L_9 : LC RL 9 mX8_init := Or.inl (WT_mem (List.mem_append_right _ (List.mem_of_getElem? (i := 15) (by decide +kernel))) (by decide +kernel))
theorem im_X8 : Cond.instanceMethod yX8_init ∈ WT := WT_mem (List.mem_append_right _ (List.mem_of_getElem? (i := 16) (by decide +kernel))) (by decide +kernel)
theorem ci_X8 : CC mX8_init 0 := ⟨WT_mem (List.mem_append_right _ (List.mem_of_getElem? (i := 17) (by decide +kernel))) (by decide +kernel), WT_mem (List.mem_append_right _ (List.mem_of_getElem? (i := 1) (by decide +kernel))) (by decide +kernel), by decide +kernel, by decide⟩
theorem oi_X8 : Cond.methodLink RX8 1 objectInit ∈ WT := WT_mem (List.mem_append_right _ (List.mem_of_getElem? (i := 18) (by decide +kernel))) (by decide +kernel)
theorem cl_X8_7 : Cond.classLink RX8 7 RX3 ∈ WT := WT_mem (List.mem_append_right _ (List.mem_of_getElem? (i := 21) (by decide +kernel))) (by decide +kernel)
theorem it_X3 : Cond.instantiable RX3 3 ∈ WT := WT_mem (List.mem_append_right _ (List.mem_of_getElem? (i := 22) (by decide +kernel))) (by decide +kernel)
theorem li_X8_9 : LC RX8 9 mX3_init := Or.inr ⟨"LineScript", List.mem_append_right _ (List.mem_of_getElem? (i := 23) (by decide +kernel))⟩
theorem im_X3 : Cond.instanceMethod yX3_init ∈ WT := WT_mem (List.mem_append_right _ (List.mem_of_getElem? (i := 24) (by decide +kernel))) (by decide +kernel)
theorem ci_X3 : CC mX3_init 0 := ⟨WT_mem (List.mem_append_right _ (List.mem_of_getElem? (i := 25) (by decide +kernel))) (by decide +kernel), WT_mem (List.mem_append_right _ (List.mem_of_getElem? (i := 2) (by decide +kernel))) (by decide +kernel), by decide +kernel, by decide⟩
theorem oi_X3 : Cond.methodLink RX3 3 objectInit ∈ WT := WT_mem (List.mem_append_right _ (List.mem_of_getElem? (i := 26) (by decide +kernel))) (by decide +kernel)
theorem cl_X3_15 : Cond.classLink RX3 15 RX5 ∈ WT := WT_mem (List.mem_append_right _ (List.mem_of_getElem? (i := 27) (by decide +kernel))) (by decide +kernel)
theorem it_X5 : Cond.instantiable RX5 3 ∈ WT := WT_mem (List.mem_append_right _ (List.mem_of_getElem? (i := 28) (by decide +kernel))) (by decide +kernel)
theorem li_X3_17 : LC RX3 17 mX5_init := Or.inr ⟨"LineScript", List.mem_append_right _ (List.mem_of_getElem? (i := 29) (by decide +kernel))⟩
theorem im_X5 : Cond.instanceMethod yX5_init ∈ WT := WT_mem (List.mem_append_right _ (List.mem_of_getElem? (i := 30) (by decide +kernel))) (by decide +kernel)
theorem ci_X5 : CC mX5_init 0 := ⟨WT_mem (List.mem_append_right _ (List.mem_of_getElem? (i := 31) (by decide +kernel))) (by decide +kernel), WT_mem (List.mem_append_right _ (List.mem_of_getElem? (i := 3) (by decide +kernel))) (by decide +kernel), by decide +kernel, by decide⟩
theorem oi_X5 : Cond.methodLink RX5 3 objectInit ∈ WT := WT_mem (List.mem_append_right _ (List.mem_of_getElem? (i := 32) (by decide +kernel))) (by decide +kernel)
theorem cl_X8_16 : Cond.classLink RX8 16 RX2 ∈ WT := WT_mem (List.mem_append_right _ (List.mem_of_getElem? (i := 56) (by decide +kernel))) (by decide +kernel)
theorem it_X2 : Cond.instantiable RX2 9 ∈ WT := WT_mem (List.mem_append_right _ (List.mem_of_getElem? (i := 57) (by decide +kernel))) (by decide +kernel)
theorem li_X8_18 : LC RX8 18 mX2_init := Or.inr ⟨"LineScript", List.mem_append_right _ (List.mem_of_getElem? (i := 58) (by decide +kernel))⟩
theorem im_X2 : Cond.instanceMethod yX2_init ∈ WT := WT_mem (List.mem_append_right _ (List.mem_of_getElem? (i := 59) (by decide +kernel))) (by decide +kernel)
theorem ci_X2 : CC mX2_init 0 := ⟨WT_mem (List.mem_append_right _ (List.mem_of_getElem? (i := 60) (by decide +kernel))) (by decide +kernel), WT_mem (List.mem_append_right _ (List.mem_of_getElem? (i := 4) (by decide +kernel))) (by decide +kernel), by decide +kernel, by decide⟩
theorem oi_X2 : Cond.methodLink RX2 3 objectInit ∈ WT := WT_mem (List.mem_append_right _ (List.mem_of_getElem? (i := 61) (by decide +kernel))) (by decide +kernel)
theorem cl_X2_9 : Cond.classLink RX2 9 RX7 ∈ WT := WT_mem (List.mem_append_right _ (List.mem_of_getElem? (i := 62) (by decide +kernel))) (by decide +kernel)
theorem it_X7 : Cond.instantiable RX7 2 ∈ WT := WT_mem (List.mem_append_right _ (List.mem_of_getElem? (i := 63) (by decide +kernel))) (by decide +kernel)
theorem li_X2_11 : LC RX2 11 mX7_init := Or.inr ⟨"LineScript", List.mem_append_right _ (List.mem_of_getElem? (i := 64) (by decide +kernel))⟩
theorem im_X7 : Cond.instanceMethod yX7_init ∈ WT := WT_mem (List.mem_append_right _ (List.mem_of_getElem? (i := 65) (by decide +kernel))) (by decide +kernel)
theorem ci_X7 : CC mX7_init 0 := ⟨WT_mem (List.mem_append_right _ (List.mem_of_getElem? (i := 66) (by decide +kernel))) (by decide +kernel), WT_mem (List.mem_append_right _ (List.mem_of_getElem? (i := 5) (by decide +kernel))) (by decide +kernel), by decide +kernel, by decide⟩
theorem oi_X7 : Cond.methodLink RX7 3 objectInit ∈ WT := WT_mem (List.mem_append_right _ (List.mem_of_getElem? (i := 67) (by decide +kernel))) (by decide +kernel)
theorem cl_X7_9 : Cond.classLink RX7 9 "[[I" ∈ WT := WT_mem (List.mem_append_right _ (List.mem_of_getElem? (i := 68) (by decide +kernel))) (by decide +kernel)
theorem cl_X2_18 : Cond.classLink RX2 18 "[[I" ∈ WT := WT_mem (List.mem_append_right _ (List.mem_of_getElem? (i := 83) (by decide +kernel))) (by decide +kernel)
theorem cl_X2_23 : Cond.classLink RX2 23 RX0 ∈ WT := WT_mem (List.mem_append_right _ (List.mem_of_getElem? (i := 84) (by decide +kernel))) (by decide +kernel)
theorem it_X0 : Cond.instantiable RX0 1 ∈ WT := WT_mem (List.mem_append_right _ (List.mem_of_getElem? (i := 85) (by decide +kernel))) (by decide +kernel)
theorem li_X2_25 : LC RX2 25 mX0_init := Or.inr ⟨"LineScript", List.mem_append_right _ (List.mem_of_getElem? (i := 86) (by decide +kernel))⟩
theorem im_X0 : Cond.instanceMethod yX0_init ∈ WT := WT_mem (List.mem_append_right _ (List.mem_of_getElem? (i := 87) (by decide +kernel))) (by decide +kernel)
theorem ci_X0 : CC mX0_init 0 := ⟨WT_mem (List.mem_append_right _ (List.mem_of_getElem? (i := 88) (by decide +kernel))) (by decide +kernel), WT_mem (List.mem_append_right _ (List.mem_of_getElem? (i := 6) (by decide +kernel))) (by decide +kernel), by decide +kernel, by decide⟩
theorem oi_X0 : Cond.methodLink RX0 3 objectInit ∈ WT := WT_mem (List.mem_append_right _ (List.mem_of_getElem? (i := 89) (by decide +kernel))) (by decide +kernel)
theorem cl_X0_9 : Cond.classLink RX0 9 "[[I" ∈ WT := WT_mem (List.mem_append_right _ (List.mem_of_getElem? (i := 90) (by decide +kernel))) (by decide +kernel)
theorem cl_X8_31 : Cond.classLink RX8 31 RX7 ∈ WT := WT_mem (List.mem_append_right _ (List.mem_of_getElem? (i := 130) (by decide +kernel))) (by decide +kernel)
theorem li_X8_33 : LC RX8 33 mX7_init := Or.inr ⟨"LineScript", List.mem_append_right _ (List.mem_of_getElem? (i := 131) (by decide +kernel))⟩
theorem cl_X8_37 : Cond.classLink RX8 37 RX1 ∈ WT := WT_mem (List.mem_append_right _ (List.mem_of_getElem? (i := 132) (by decide +kernel))) (by decide +kernel)
theorem it_X1 : Cond.instantiable RX1 3 ∈ WT := WT_mem (List.mem_append_right _ (List.mem_of_getElem? (i := 133) (by decide +kernel))) (by decide +kernel)
theorem li_X8_39 : LC RX8 39 mX1_init := Or.inr ⟨"LineScript", List.mem_append_right _ (List.mem_of_getElem? (i := 134) (by decide +kernel))⟩
theorem im_X1 : Cond.instanceMethod yX1_init ∈ WT := WT_mem (List.mem_append_right _ (List.mem_of_getElem? (i := 135) (by decide +kernel))) (by decide +kernel)
theorem ci_X1 : CC mX1_init 0 := ⟨WT_mem (List.mem_append_right _ (List.mem_of_getElem? (i := 136) (by decide +kernel))) (by decide +kernel), WT_mem (List.mem_append_right _ (List.mem_of_getElem? (i := 7) (by decide +kernel))) (by decide +kernel), by decide +kernel, by decide⟩
theorem oi_X1 : Cond.methodLink RX1 3 objectInit ∈ WT := WT_mem (List.mem_append_right _ (List.mem_of_getElem? (i := 137) (by decide +kernel))) (by decide +kernel)
theorem cl_X1_9 : Cond.classLink RX1 9 RX0 ∈ WT := WT_mem (List.mem_append_right _ (List.mem_of_getElem? (i := 138) (by decide +kernel))) (by decide +kernel)
theorem li_X1_11 : LC RX1 11 mX0_init := Or.inr ⟨"LineScript", List.mem_append_right _ (List.mem_of_getElem? (i := 139) (by decide +kernel))⟩
theorem cl_X8_44 : Cond.classLink RX8 44 RX6 ∈ WT := WT_mem (List.mem_append_right _ (List.mem_of_getElem? (i := 150) (by decide +kernel))) (by decide +kernel)
theorem it_X6 : Cond.instantiable RX6 8 ∈ WT := WT_mem (List.mem_append_right _ (List.mem_of_getElem? (i := 151) (by decide +kernel))) (by decide +kernel)
theorem li_X8_46 : LC RX8 46 mX6_init := Or.inr ⟨"LineScript", List.mem_append_right _ (List.mem_of_getElem? (i := 152) (by decide +kernel))⟩
theorem im_X6 : Cond.instanceMethod yX6_init ∈ WT := WT_mem (List.mem_append_right _ (List.mem_of_getElem? (i := 153) (by decide +kernel))) (by decide +kernel)
theorem ci_X6 : CC mX6_init 0 := ⟨WT_mem (List.mem_append_right _ (List.mem_of_getElem? (i := 154) (by decide +kernel))) (by decide +kernel), WT_mem (List.mem_append_right _ (List.mem_of_getElem? (i := 8) (by decide +kernel))) (by decide +kernel), by decide +kernel, by decide⟩
theorem oi_X6 : Cond.methodLink RX6 3 objectInit ∈ WT := WT_mem (List.mem_append_right _ (List.mem_of_getElem? (i := 155) (by decide +kernel))) (by decide +kernel)
theorem cl_X6_27 : Cond.classLink RX6 27 "[[I" ∈ WT := WT_mem (List.mem_append_right _ (List.mem_of_getElem? (i := 156) (by decide +kernel))) (by decide +kernel)
theorem cl_X8_51 : Cond.classLink RX8 51 RX4 ∈ WT := WT_mem (List.mem_append_right _ (List.mem_of_getElem? (i := 190) (by decide +kernel))) (by decide +kernel)
theorem it_X4 : Cond.instantiable RX4 2 ∈ WT := WT_mem (List.mem_append_right _ (List.mem_of_getElem? (i := 191) (by decide +kernel))) (by decide +kernel)
theorem li_X8_53 : LC RX8 53 mX4_init := Or.inr ⟨"LineScript", List.mem_append_right _ (List.mem_of_getElem? (i := 192) (by decide +kernel))⟩
theorem im_X4 : Cond.instanceMethod yX4_init ∈ WT := WT_mem (List.mem_append_right _ (List.mem_of_getElem? (i := 193) (by decide +kernel))) (by decide +kernel)
theorem ci_X4 : CC mX4_init 0 := ⟨WT_mem (List.mem_append_right _ (List.mem_of_getElem? (i := 194) (by decide +kernel))) (by decide +kernel), WT_mem (List.mem_append_right _ (List.mem_of_getElem? (i := 9) (by decide +kernel))) (by decide +kernel), by decide +kernel, by decide⟩
theorem oi_X4 : Cond.methodLink RX4 3 objectInit ∈ WT := WT_mem (List.mem_append_right _ (List.mem_of_getElem? (i := 195) (by decide +kernel))) (by decide +kernel)
theorem cl_X4_9 : Cond.classLink RX4 9 "[[I" ∈ WT := WT_mem (List.mem_append_right _ (List.mem_of_getElem? (i := 196) (by decide +kernel))) (by decide +kernel)
theorem cl_L_10 : Cond.classLink RL 10 RX9 ∈ WT := WT_mem (List.mem_append_right _ (List.mem_of_getElem? (i := 628) (by decide +kernel))) (by decide +kernel)
theorem it_X9 : Cond.instantiable RX9 33 ∈ WT := WT_mem (List.mem_append_right _ (List.mem_of_getElem? (i := 629) (by decide +kernel))) (by decide +kernel)
theorem li_L_12 : LC RL 12 mX9_init := Or.inl (WT_mem (List.mem_append_right _ (List.mem_of_getElem? (i := 630) (by decide +kernel))) (by decide +kernel))
theorem im_X9 : Cond.instanceMethod yX9_init ∈ WT := WT_mem (List.mem_append_right _ (List.mem_of_getElem? (i := 631) (by decide +kernel))) (by decide +kernel)
theorem ci_X9 : CC mX9_init 0 := ⟨WT_mem (List.mem_append_right _ (List.mem_of_getElem? (i := 632) (by decide +kernel))) (by decide +kernel), WT_mem (List.mem_append_right _ (List.mem_of_getElem? (i := 10) (by decide +kernel))) (by decide +kernel), by decide +kernel, by decide⟩
theorem oi_X9 : Cond.methodLink RX9 1 objectInit ∈ WT := WT_mem (List.mem_append_right _ (List.mem_of_getElem? (i := 633) (by decide +kernel))) (by decide +kernel)
theorem fl_X5_9 : Cond.fieldLink RX5 9 (TX5 0).1 (TX5 0).2.1 (TX5 0).2.2.1 ∈ WT := WT_mem (List.mem_append_right _ (List.mem_of_getElem? (i := 33) (by decide +kernel))) (by decide +kernel)
theorem fl_X5_15 : Cond.fieldLink RX5 15 (TX5 1).1 (TX5 1).2.1 (TX5 1).2.2.1 ∈ WT := WT_mem (List.mem_append_right _ (List.mem_of_getElem? (i := 34) (by decide +kernel))) (by decide +kernel)
theorem fl_X5_18 : Cond.fieldLink RX5 18 (TX5 2).1 (TX5 2).2.1 (TX5 2).2.2.1 ∈ WT := WT_mem (List.mem_append_right _ (List.mem_of_getElem? (i := 35) (by decide +kernel))) (by decide +kernel)
theorem fl_X3_9 : Cond.fieldLink RX3 9 (TX3 0).1 (TX3 0).2.1 (TX3 0).2.2.1 ∈ WT := WT_mem (List.mem_append_right _ (List.mem_of_getElem? (i := 44) (by decide +kernel))) (by decide +kernel)
theorem fl_X3_18 : Cond.fieldLink RX3 18 (TX3 1).1 (TX3 1).2.1 (TX3 1).2.2.1 ∈ WT := WT_mem (List.mem_append_right _ (List.mem_of_getElem? (i := 46) (by decide +kernel))) (by decide +kernel)
theorem fl_X3_22 : Cond.fieldLink RX3 22 (TX3 2).1 (TX3 2).2.1 (TX3 2).2.2.1 ∈ WT := WT_mem (List.mem_append_right _ (List.mem_of_getElem? (i := 47) (by decide +kernel))) (by decide +kernel)
theorem fl_X7_11 : Cond.fieldLink RX7 11 (TX7 0).1 (TX7 0).2.1 (TX7 0).2.2.1 ∈ WT := WT_mem (List.mem_append_right _ (List.mem_of_getElem? (i := 70) (by decide +kernel))) (by decide +kernel)
theorem fl_X7_16 : Cond.fieldLink RX7 16 (TX7 1).1 (TX7 1).2.1 (TX7 1).2.2.1 ∈ WT := WT_mem (List.mem_append_right _ (List.mem_of_getElem? (i := 74) (by decide +kernel))) (by decide +kernel)
theorem fl_X0_11 : Cond.fieldLink RX0 11 (TX0 0).1 (TX0 0).2.1 (TX0 0).2.2.1 ∈ WT := WT_mem (List.mem_append_right _ (List.mem_of_getElem? (i := 91) (by decide +kernel))) (by decide +kernel)
theorem fl_X2_12 : Cond.fieldLink RX2 12 (TX2 0).1 (TX2 0).2.1 (TX2 0).2.2.1 ∈ WT := WT_mem (List.mem_append_right _ (List.mem_of_getElem? (i := 96) (by decide +kernel))) (by decide +kernel)
theorem fl_X2_20 : Cond.fieldLink RX2 20 (TX2 1).1 (TX2 1).2.1 (TX2 1).2.2.1 ∈ WT := WT_mem (List.mem_append_right _ (List.mem_of_getElem? (i := 99) (by decide +kernel))) (by decide +kernel)
theorem fl_X2_26 : Cond.fieldLink RX2 26 (TX2 2).1 (TX2 2).2.1 (TX2 2).2.2.1 ∈ WT := WT_mem (List.mem_append_right _ (List.mem_of_getElem? (i := 102) (by decide +kernel))) (by decide +kernel)
theorem fl_X2_30 : Cond.fieldLink RX2 30 (TX2 3).1 (TX2 3).2.1 (TX2 3).2.2.1 ∈ WT := WT_mem (List.mem_append_right _ (List.mem_of_getElem? (i := 103) (by decide +kernel))) (by decide +kernel)
theorem fl_X2_34 : Cond.fieldLink RX2 34 (TX2 4).1 (TX2 4).2.1 (TX2 4).2.2.1 ∈ WT := WT_mem (List.mem_append_right _ (List.mem_of_getElem? (i := 104) (by decide +kernel))) (by decide +kernel)
theorem fl_X2_37 : Cond.fieldLink RX2 37 (TX2 5).1 (TX2 5).2.1 (TX2 5).2.2.1 ∈ WT := WT_mem (List.mem_append_right _ (List.mem_of_getElem? (i := 105) (by decide +kernel))) (by decide +kernel)
theorem fl_X2_40 : Cond.fieldLink RX2 40 (TX2 6).1 (TX2 6).2.1 (TX2 6).2.2.1 ∈ WT := WT_mem (List.mem_append_right _ (List.mem_of_getElem? (i := 106) (by decide +kernel))) (by decide +kernel)
theorem fl_X2_43 : Cond.fieldLink RX2 43 (TX2 7).1 (TX2 7).2.1 (TX2 7).2.2.1 ∈ WT := WT_mem (List.mem_append_right _ (List.mem_of_getElem? (i := 107) (by decide +kernel))) (by decide +kernel)
theorem fl_X2_47 : Cond.fieldLink RX2 47 (TX2 8).1 (TX2 8).2.1 (TX2 8).2.2.1 ∈ WT := WT_mem (List.mem_append_right _ (List.mem_of_getElem? (i := 109) (by decide +kernel))) (by decide +kernel)
theorem fl_X1_12 : Cond.fieldLink RX1 12 (TX1 0).1 (TX1 0).2.1 (TX1 0).2.2.1 ∈ WT := WT_mem (List.mem_append_right _ (List.mem_of_getElem? (i := 140) (by decide +kernel))) (by decide +kernel)
theorem fl_X1_18 : Cond.fieldLink RX1 18 (TX1 1).1 (TX1 1).2.1 (TX1 1).2.2.1 ∈ WT := WT_mem (List.mem_append_right _ (List.mem_of_getElem? (i := 141) (by decide +kernel))) (by decide +kernel)
theorem fl_X1_22 : Cond.fieldLink RX1 22 (TX1 2).1 (TX1 2).2.1 (TX1 2).2.2.1 ∈ WT := WT_mem (List.mem_append_right _ (List.mem_of_getElem? (i := 142) (by decide +kernel))) (by decide +kernel)
theorem fl_X6_9 : Cond.fieldLink RX6 9 (TX6 0).1 (TX6 0).2.1 (TX6 0).2.2.1 ∈ WT := WT_mem (List.mem_append_right _ (List.mem_of_getElem? (i := 157) (by decide +kernel))) (by decide +kernel)
theorem fl_X6_15 : Cond.fieldLink RX6 15 (TX6 1).1 (TX6 1).2.1 (TX6 1).2.2.1 ∈ WT := WT_mem (List.mem_append_right _ (List.mem_of_getElem? (i := 159) (by decide +kernel))) (by decide +kernel)
theorem fl_X6_18 : Cond.fieldLink RX6 18 (TX6 2).1 (TX6 2).2.1 (TX6 2).2.2.1 ∈ WT := WT_mem (List.mem_append_right _ (List.mem_of_getElem? (i := 161) (by decide +kernel))) (by decide +kernel)
theorem fl_X6_21 : Cond.fieldLink RX6 21 (TX6 3).1 (TX6 3).2.1 (TX6 3).2.2.1 ∈ WT := WT_mem (List.mem_append_right _ (List.mem_of_getElem? (i := 163) (by decide +kernel))) (by decide +kernel)
theorem fl_X6_24 : Cond.fieldLink RX6 24 (TX6 4).1 (TX6 4).2.1 (TX6 4).2.2.1 ∈ WT := WT_mem (List.mem_append_right _ (List.mem_of_getElem? (i := 165) (by decide +kernel))) (by decide +kernel)
theorem fl_X6_29 : Cond.fieldLink RX6 29 (TX6 5).1 (TX6 5).2.1 (TX6 5).2.2.1 ∈ WT := WT_mem (List.mem_append_right _ (List.mem_of_getElem? (i := 167) (by decide +kernel))) (by decide +kernel)
theorem fl_X6_32 : Cond.fieldLink RX6 32 (TX6 6).1 (TX6 6).2.1 (TX6 6).2.2.1 ∈ WT := WT_mem (List.mem_append_right _ (List.mem_of_getElem? (i := 169) (by decide +kernel))) (by decide +kernel)
theorem fl_X6_36 : Cond.fieldLink RX6 36 (TX6 7).1 (TX6 7).2.1 (TX6 7).2.2.1 ∈ WT := WT_mem (List.mem_append_right _ (List.mem_of_getElem? (i := 171) (by decide +kernel))) (by decide +kernel)
theorem fl_X4_11 : Cond.fieldLink RX4 11 (TX4 0).1 (TX4 0).2.1 (TX4 0).2.2.1 ∈ WT := WT_mem (List.mem_append_right _ (List.mem_of_getElem? (i := 197) (by decide +kernel))) (by decide +kernel)
theorem fl_X4_16 : Cond.fieldLink RX4 16 (TX4 1).1 (TX4 1).2.1 (TX4 1).2.2.1 ∈ WT := WT_mem (List.mem_append_right _ (List.mem_of_getElem? (i := 199) (by decide +kernel))) (by decide +kernel)
theorem fl_X8_10 : Cond.fieldLink RX8 10 (TX8 0).1 (TX8 0).2.1 (TX8 0).2.2.1 ∈ WT := WT_mem (List.mem_append_right _ (List.mem_of_getElem? (i := 206) (by decide +kernel))) (by decide +kernel)
theorem fl_X8_19 : Cond.fieldLink RX8 19 (TX8 1).1 (TX8 1).2.1 (TX8 1).2.2.1 ∈ WT := WT_mem (List.mem_append_right _ (List.mem_of_getElem? (i := 207) (by decide +kernel))) (by decide +kernel)
theorem fl_X8_27 : Cond.fieldLink RX8 27 (TX8 2).1 (TX8 2).2.1 (TX8 2).2.2.1 ∈ WT := WT_mem (List.mem_append_right _ (List.mem_of_getElem? (i := 208) (by decide +kernel))) (by decide +kernel)
theorem fl_X8_28 : Cond.fieldLink RX8 28 (TX8 3).1 (TX8 3).2.1 (TX8 3).2.2.1 ∈ WT := WT_mem (List.mem_append_right _ (List.mem_of_getElem? (i := 209) (by decide +kernel))) (by decide +kernel)
theorem fl_X8_34 : Cond.fieldLink RX8 34 (TX8 4).1 (TX8 4).2.1 (TX8 4).2.2.1 ∈ WT := WT_mem (List.mem_append_right _ (List.mem_of_getElem? (i := 210) (by decide +kernel))) (by decide +kernel)
theorem fl_X8_40 : Cond.fieldLink RX8 40 (TX8 5).1 (TX8 5).2.1 (TX8 5).2.2.1 ∈ WT := WT_mem (List.mem_append_right _ (List.mem_of_getElem? (i := 211) (by decide +kernel))) (by decide +kernel)
theorem fl_X8_47 : Cond.fieldLink RX8 47 (TX8 6).1 (TX8 6).2.1 (TX8 6).2.2.1 ∈ WT := WT_mem (List.mem_append_right _ (List.mem_of_getElem? (i := 212) (by decide +kernel))) (by decide +kernel)
theorem fl_X8_54 : Cond.fieldLink RX8 54 (TX8 7).1 (TX8 7).2.1 (TX8 7).2.2.1 ∈ WT := WT_mem (List.mem_append_right _ (List.mem_of_getElem? (i := 213) (by decide +kernel))) (by decide +kernel)
theorem fl_X8_58 : Cond.fieldLink RX8 58 (TX8 8).1 (TX8 8).2.1 (TX8 8).2.2.1 ∈ WT := WT_mem (List.mem_append_right _ (List.mem_of_getElem? (i := 214) (by decide +kernel))) (by decide +kernel)
theorem fl_X8_62 : Cond.fieldLink RX8 62 (TX8 9).1 (TX8 9).2.1 (TX8 9).2.2.1 ∈ WT := WT_mem (List.mem_append_right _ (List.mem_of_getElem? (i := 215) (by decide +kernel))) (by decide +kernel)
theorem fl_X8_65 : Cond.fieldLink RX8 65 (TX8 10).1 (TX8 10).2.1 (TX8 10).2.2.1 ∈ WT := WT_mem (List.mem_append_right _ (List.mem_of_getElem? (i := 216) (by decide +kernel))) (by decide +kernel)
theorem fl_X9_7 : Cond.fieldLink RX9 7 (TX9 0).1 (TX9 0).2.1 (TX9 0).2.2.1 ∈ WT := WT_mem (List.mem_append_right _ (List.mem_of_getElem? (i := 634) (by decide +kernel))) (by decide +kernel)
theorem fl_X9_77 : Cond.fieldLink RX9 77 (TX9 1).1 (TX9 1).2.1 (TX9 1).2.2.1 ∈ WT := WT_mem (List.mem_append_right _ (List.mem_of_getElem? (i := 635) (by decide +kernel))) (by decide +kernel)
theorem fl_X9_87 : Cond.fieldLink RX9 87 (TX9 2).1 (TX9 2).2.1 (TX9 2).2.2.1 ∈ WT := WT_mem (List.mem_append_right _ (List.mem_of_getElem? (i := 636) (by decide +kernel))) (by decide +kernel)
theorem fl_X9_84 : Cond.fieldLink RX9 84 (TX9 3).1 (TX9 3).2.1 (TX9 3).2.2.1 ∈ WT := WT_mem (List.mem_append_right _ (List.mem_of_getElem? (i := 637) (by decide +kernel))) (by decide +kernel)
theorem fl_X9_13 : Cond.fieldLink RX9 13 (TX9 4).1 (TX9 4).2.1 (TX9 4).2.2.1 ∈ WT := WT_mem (List.mem_append_right _ (List.mem_of_getElem? (i := 638) (by decide +kernel))) (by decide +kernel)
theorem fl_X9_16 : Cond.fieldLink RX9 16 (TX9 5).1 (TX9 5).2.1 (TX9 5).2.2.1 ∈ WT := WT_mem (List.mem_append_right _ (List.mem_of_getElem? (i := 639) (by decide +kernel))) (by decide +kernel)
theorem fl_X9_90 : Cond.fieldLink RX9 90 (TX9 6).1 (TX9 6).2.1 (TX9 6).2.2.1 ∈ WT := WT_mem (List.mem_append_right _ (List.mem_of_getElem? (i := 640) (by decide +kernel))) (by decide +kernel)
theorem fl_X9_19 : Cond.fieldLink RX9 19 (TX9 7).1 (TX9 7).2.1 (TX9 7).2.2.1 ∈ WT := WT_mem (List.mem_append_right _ (List.mem_of_getElem? (i := 641) (by decide +kernel))) (by decide +kernel)
theorem fl_X9_22 : Cond.fieldLink RX9 22 (TX9 8).1 (TX9 8).2.1 (TX9 8).2.2.1 ∈ WT := WT_mem (List.mem_append_right _ (List.mem_of_getElem? (i := 642) (by decide +kernel))) (by decide +kernel)
theorem fl_X9_106 : Cond.fieldLink RX9 106 (TX9 9).1 (TX9 9).2.1 (TX9 9).2.2.1 ∈ WT := WT_mem (List.mem_append_right _ (List.mem_of_getElem? (i := 643) (by decide +kernel))) (by decide +kernel)
theorem fl_X9_109 : Cond.fieldLink RX9 109 (TX9 10).1 (TX9 10).2.1 (TX9 10).2.2.1 ∈ WT := WT_mem (List.mem_append_right _ (List.mem_of_getElem? (i := 644) (by decide +kernel))) (by decide +kernel)
theorem fl_X9_25 : Cond.fieldLink RX9 25 (TX9 11).1 (TX9 11).2.1 (TX9 11).2.2.1 ∈ WT := WT_mem (List.mem_append_right _ (List.mem_of_getElem? (i := 645) (by decide +kernel))) (by decide +kernel)
theorem fl_X9_133 : Cond.fieldLink RX9 133 (TX9 12).1 (TX9 12).2.1 (TX9 12).2.2.1 ∈ WT := WT_mem (List.mem_append_right _ (List.mem_of_getElem? (i := 646) (by decide +kernel))) (by decide +kernel)
theorem fl_X9_157 : Cond.fieldLink RX9 157 (TX9 13).1 (TX9 13).2.1 (TX9 13).2.2.1 ∈ WT := WT_mem (List.mem_append_right _ (List.mem_of_getElem? (i := 647) (by decide +kernel))) (by decide +kernel)
theorem fl_X9_28 : Cond.fieldLink RX9 28 (TX9 14).1 (TX9 14).2.1 (TX9 14).2.2.1 ∈ WT := WT_mem (List.mem_append_right _ (List.mem_of_getElem? (i := 648) (by decide +kernel))) (by decide +kernel)
theorem fl_X9_118 : Cond.fieldLink RX9 118 (TX9 15).1 (TX9 15).2.1 (TX9 15).2.2.1 ∈ WT := WT_mem (List.mem_append_right _ (List.mem_of_getElem? (i := 649) (by decide +kernel))) (by decide +kernel)
theorem fl_X9_31 : Cond.fieldLink RX9 31 (TX9 16).1 (TX9 16).2.1 (TX9 16).2.2.1 ∈ WT := WT_mem (List.mem_append_right _ (List.mem_of_getElem? (i := 650) (by decide +kernel))) (by decide +kernel)
theorem fl_X9_34 : Cond.fieldLink RX9 34 (TX9 17).1 (TX9 17).2.1 (TX9 17).2.2.1 ∈ WT := WT_mem (List.mem_append_right _ (List.mem_of_getElem? (i := 651) (by decide +kernel))) (by decide +kernel)
theorem fl_X9_37 : Cond.fieldLink RX9 37 (TX9 18).1 (TX9 18).2.1 (TX9 18).2.2.1 ∈ WT := WT_mem (List.mem_append_right _ (List.mem_of_getElem? (i := 652) (by decide +kernel))) (by decide +kernel)
theorem fl_X9_40 : Cond.fieldLink RX9 40 (TX9 19).1 (TX9 19).2.1 (TX9 19).2.2.1 ∈ WT := WT_mem (List.mem_append_right _ (List.mem_of_getElem? (i := 653) (by decide +kernel))) (by decide +kernel)
theorem fl_X9_43 : Cond.fieldLink RX9 43 (TX9 20).1 (TX9 20).2.1 (TX9 20).2.2.1 ∈ WT := WT_mem (List.mem_append_right _ (List.mem_of_getElem? (i := 654) (by decide +kernel))) (by decide +kernel)
theorem fl_X9_46 : Cond.fieldLink RX9 46 (TX9 21).1 (TX9 21).2.1 (TX9 21).2.2.1 ∈ WT := WT_mem (List.mem_append_right _ (List.mem_of_getElem? (i := 655) (by decide +kernel))) (by decide +kernel)
theorem fl_X9_197 : Cond.fieldLink RX9 197 (TX9 22).1 (TX9 22).2.1 (TX9 22).2.2.1 ∈ WT := WT_mem (List.mem_append_right _ (List.mem_of_getElem? (i := 656) (by decide +kernel))) (by decide +kernel)
theorem fl_X9_203 : Cond.fieldLink RX9 203 (TX9 23).1 (TX9 23).2.1 (TX9 23).2.2.1 ∈ WT := WT_mem (List.mem_append_right _ (List.mem_of_getElem? (i := 657) (by decide +kernel))) (by decide +kernel)
theorem fl_X9_49 : Cond.fieldLink RX9 49 (TX9 24).1 (TX9 24).2.1 (TX9 24).2.2.1 ∈ WT := WT_mem (List.mem_append_right _ (List.mem_of_getElem? (i := 658) (by decide +kernel))) (by decide +kernel)
theorem fl_X9_52 : Cond.fieldLink RX9 52 (TX9 25).1 (TX9 25).2.1 (TX9 25).2.2.1 ∈ WT := WT_mem (List.mem_append_right _ (List.mem_of_getElem? (i := 659) (by decide +kernel))) (by decide +kernel)
theorem fl_X9_272 : Cond.fieldLink RX9 272 (TX9 26).1 (TX9 26).2.1 (TX9 26).2.2.1 ∈ WT := WT_mem (List.mem_append_right _ (List.mem_of_getElem? (i := 660) (by decide +kernel))) (by decide +kernel)
theorem fl_X9_55 : Cond.fieldLink RX9 55 (TX9 27).1 (TX9 27).2.1 (TX9 27).2.2.1 ∈ WT := WT_mem (List.mem_append_right _ (List.mem_of_getElem? (i := 661) (by decide +kernel))) (by decide +kernel)
theorem fl_X9_58 : Cond.fieldLink RX9 58 (TX9 28).1 (TX9 28).2.1 (TX9 28).2.2.1 ∈ WT := WT_mem (List.mem_append_right _ (List.mem_of_getElem? (i := 662) (by decide +kernel))) (by decide +kernel)
theorem fl_X9_67 : Cond.fieldLink RX9 67 (TX9 29).1 (TX9 29).2.1 (TX9 29).2.2.1 ∈ WT := WT_mem (List.mem_append_right _ (List.mem_of_getElem? (i := 663) (by decide +kernel))) (by decide +kernel)
theorem fl_X9_61 : Cond.fieldLink RX9 61 (TX9 30).1 (TX9 30).2.1 (TX9 30).2.2.1 ∈ WT := WT_mem (List.mem_append_right _ (List.mem_of_getElem? (i := 664) (by decide +kernel))) (by decide +kernel)
theorem fl_X9_64 : Cond.fieldLink RX9 64 (TX9 31).1 (TX9 31).2.1 (TX9 31).2.2.1 ∈ WT := WT_mem (List.mem_append_right _ (List.mem_of_getElem? (i := 665) (by decide +kernel))) (by decide +kernel)
theorem fl_X9_296 : Cond.fieldLink RX9 296 (TX9 32).1 (TX9 32).2.1 (TX9 32).2.2.1 ∈ WT := WT_mem (List.mem_append_right _ (List.mem_of_getElem? (i := 666) (by decide +kernel))) (by decide +kernel)
theorem dv_X0 : ∀ j, j < 1 → defaultValue (tyX0 j) = vp_V [.null] j
  | 0, _ => rfl
  | j + 1, h => absurd h (by omega)
theorem dv_X1 : ∀ j, j < 3 → defaultValue (tyX1 j) = vp_V [.null, .null, .null] j
  | 0, _ => rfl
  | 1, _ => rfl
  | 2, _ => rfl
  | j + 3, h => absurd h (by omega)
theorem dv_X2 : ∀ j, j < 9 → defaultValue (tyX2 j) = vp_V [.null, .null, .null, .null, .null, .null, .null, .int (Int32.ofInt 0), .int (Int32.ofInt 0)] j
  | 0, _ => rfl
  | 1, _ => rfl
  | 2, _ => rfl
  | 3, _ => rfl
  | 4, _ => rfl
  | 5, _ => rfl
  | 6, _ => rfl
  | 7, _ => rfl
  | 8, _ => rfl
  | j + 9, h => absurd h (by omega)
theorem dv_X3 : ∀ j, j < 3 → defaultValue (tyX3 j) = vp_V [.null, .null, .int (Int32.ofInt 0)] j
  | 0, _ => rfl
  | 1, _ => rfl
  | 2, _ => rfl
  | j + 3, h => absurd h (by omega)
theorem dv_X4 : ∀ j, j < 2 → defaultValue (tyX4 j) = vp_V [.null, .null] j
  | 0, _ => rfl
  | 1, _ => rfl
  | j + 2, h => absurd h (by omega)
theorem dv_X5 : ∀ j, j < 3 → defaultValue (tyX5 j) = vp_V [.int (Int32.ofInt 0), .int (Int32.ofInt 0), .int (Int32.ofInt 0)] j
  | 0, _ => rfl
  | 1, _ => rfl
  | 2, _ => rfl
  | j + 3, h => absurd h (by omega)
theorem dv_X6 : ∀ j, j < 8 → defaultValue (tyX6 j) = vp_V [.null, .null, .null, .null, .null, .null, .int (Int32.ofInt 0), .int (Int32.ofInt 0)] j
  | 0, _ => rfl
  | 1, _ => rfl
  | 2, _ => rfl
  | 3, _ => rfl
  | 4, _ => rfl
  | 5, _ => rfl
  | 6, _ => rfl
  | 7, _ => rfl
  | j + 8, h => absurd h (by omega)
theorem dv_X7 : ∀ j, j < 2 → defaultValue (tyX7 j) = vp_V [.null, .null] j
  | 0, _ => rfl
  | 1, _ => rfl
  | j + 2, h => absurd h (by omega)
theorem dv_X8 : ∀ j, j < 11 → defaultValue (tyX8 j) = vp_V [.null, .null, .null, .null, .null, .null, .null, .null, .int (Int32.ofInt 0), .int (Int32.ofInt 0), .int (Int32.ofInt 0)] j
  | 0, _ => rfl
  | 1, _ => rfl
  | 2, _ => rfl
  | 3, _ => rfl
  | 4, _ => rfl
  | 5, _ => rfl
  | 6, _ => rfl
  | 7, _ => rfl
  | 8, _ => rfl
  | 9, _ => rfl
  | 10, _ => rfl
  | j + 11, h => absurd h (by omega)
theorem dv_X9 : ∀ j, j < 33 → defaultValue (tyX9 j) = vp_V [.null, .int (Int32.ofInt 0), .int (Int32.ofInt 0), .int (Int32.ofInt 0), .null, .null, .int (Int32.ofInt 0), .null, .null, .int (Int32.ofInt 0), .int (Int32.ofInt 0), .null, .int (Int32.ofInt 0), .int (Int32.ofInt 0), .null, .int (Int32.ofInt 0), .null, .null, .null, .null, .null, .null, .int (Int32.ofInt 0), .int (Int32.ofInt 0), .null, .null, .int (Int32.ofInt 0), .null, .null, .int (Int32.ofInt 0), .null, .null, .long (Int64.ofInt 0)] j
  | 0, _ => rfl
  | 1, _ => rfl
  | 2, _ => rfl
  | 3, _ => rfl
  | 4, _ => rfl
  | 5, _ => rfl
  | 6, _ => rfl
  | 7, _ => rfl
  | 8, _ => rfl
  | 9, _ => rfl
  | 10, _ => rfl
  | 11, _ => rfl
  | 12, _ => rfl
  | 13, _ => rfl
  | 14, _ => rfl
  | 15, _ => rfl
  | 16, _ => rfl
  | 17, _ => rfl
  | 18, _ => rfl
  | 19, _ => rfl
  | 20, _ => rfl
  | 21, _ => rfl
  | 22, _ => rfl
  | 23, _ => rfl
  | 24, _ => rfl
  | 25, _ => rfl
  | 26, _ => rfl
  | 27, _ => rfl
  | 28, _ => rfl
  | 29, _ => rfl
  | 30, _ => rfl
  | 31, _ => rfl
  | 32, _ => rfl
  | j + 33, h => absurd h (by omega)
def lS7 (g : AG) (b : Nat) : List va_E := .inr (7, [.ref (gad g (b + 1)), .ref (gad g (b + 4))]) :: ([arO g (b + 2) 2, arI g 8, arI g 8] ++ [arI g 2])
set_option maxRecDepth 100000 in
set_option maxHeartbeats 4000000 in
theorem k_X7 {g : AG} {d b : Nat} (hG : Ga g) (hb : b + 5 ≤ 108) : MetK g mX7_init (d + 1) b 4 20 (.inr (7, [.null, .null]) : va_E) (lS7 g b) := by
  refine MetK.of (pcR := 22) (lsE := [(0, vR (b))]) (by decide) (by decide) rfl dX7_init_22 hG ?_
  refine Rk_aload 0 dX7_init_0 rfl rfl ?_
  refine Rk_objInit oi_X7 dX7_init_1 (by omega) (Nat.le_of_ble_eq_true rfl) ?_
  refine Rk_aload 0 dX7_init_4 rfl rfl ?_
  refine Rk_iconst (z := 2) dX7_init_5 ?_
  refine Rk_bipush (z := 8) dX7_init_6 (by decide) ?_
  refine Rk_mnaQ (N := 2) (K := 8) (q := b + 1) rfl cl_X7_9 dX7_init_8 (by decide) (by decide) (by decide) (by decide) (by omega) ?_
  show Rk _ _ _ _ _ _ (12, [(0, vR (b))], [vR (b + 1), vR (b)], ((.inr (7, [.null, .null]) : va_E) :: [arO g (b + 2) 2, arI g 8, arI g 8]), 3, 18) _
  refine Rk_putA (i := 0) (j := 0) (v := vR (b + 1)) true cf_X7 fl_X7_11 rfl rfl rfl rfl (by decide) (Nat.le_of_ble_eq_true rfl) (fun _ => rfl) (fun _ => rfl) rfl (by omega) dX7_init_12 ?_
  show Rk _ _ _ _ _ _ (15, [(0, vR (b))], [], ((.inr (7, [.ref (gad g (b + 1)), .null]) : va_E) :: [arO g (b + 2) 2, arI g 8, arI g 8]), 3, 18) _
  refine Rk_aload 0 dX7_init_15 rfl rfl ?_
  refine Rk_iconst (z := 2) dX7_init_16 ?_
  refine Rk_newaQ (N := 2) (q := b + 4) rfl dX7_init_17 (by decide) (by decide) (by decide) (by omega) ?_
  show Rk _ _ _ _ _ _ (19, [(0, vR (b))], [vR (b + 4), vR (b)], ((.inr (7, [.ref (gad g (b + 1)), .null]) : va_E) :: ([arO g (b + 2) 2, arI g 8, arI g 8] ++ [arI g 2])), 4, 20) _
  refine Rk_putA (i := 0) (j := 1) (v := vR (b + 4)) true cf_X7 fl_X7_16 rfl rfl rfl rfl (by decide) (Nat.le_of_ble_eq_true rfl) (fun _ => rfl) (fun _ => rfl) rfl (by omega) dX7_init_19 ?_
  show Rk _ _ _ _ _ _ (22, [(0, vR (b))], [], ((.inr (7, [.ref (gad g (b + 1)), .ref (gad g (b + 4))]) : va_E) :: ([arO g (b + 2) 2, arI g 8, arI g 8] ++ [arI g 2])), 4, 20) _
  exact Rk.rf
def lS0 (g : AG) (b : Nat) : List va_E := .inr (0, [.ref (gad g (b + 1))]) :: [arO g (b + 2) 9, arI g 9, arI g 9, arI g 9, arI g 9, arI g 9, arI g 9, arI g 9, arI g 9, arI g 9]
set_option maxRecDepth 100000 in
set_option maxHeartbeats 4000000 in
theorem k_X0 {g : AG} {d b : Nat} (hG : Ga g) (hb : b + 11 ≤ 108) : MetK g mX0_init (d + 1) b 10 90 (.inr (0, [.null]) : va_E) (lS0 g b) := by
  refine MetK.of (pcR := 16) (lsE := [(0, vR (b))]) (by decide) (by decide) rfl dX0_init_16 hG ?_
  refine Rk_aload 0 dX0_init_0 rfl rfl ?_
  refine Rk_objInit oi_X0 dX0_init_1 (by omega) (Nat.le_of_ble_eq_true rfl) ?_
  refine Rk_aload 0 dX0_init_4 rfl rfl ?_
  refine Rk_bipush (z := 9) dX0_init_5 (by decide) ?_
  refine Rk_bipush (z := 9) dX0_init_7 (by decide) ?_
  refine Rk_mnaQ (N := 9) (K := 9) (q := b + 1) rfl cl_X0_9 dX0_init_9 (by decide) (by decide) (by decide) (by decide) (by omega) ?_
  show Rk _ _ _ _ _ _ (13, [(0, vR (b))], [vR (b + 1), vR (b)], ((.inr (0, [.null]) : va_E) :: [arO g (b + 2) 9, arI g 9, arI g 9, arI g 9, arI g 9, arI g 9, arI g 9, arI g 9, arI g 9, arI g 9]), 10, 90) _
  refine Rk_putA (i := 0) (j := 0) (v := vR (b + 1)) true cf_X0 fl_X0_11 rfl rfl rfl rfl (by decide) (Nat.le_of_ble_eq_true rfl) (fun _ => rfl) (fun _ => rfl) rfl (by omega) dX0_init_13 ?_
  show Rk _ _ _ _ _ _ (16, [(0, vR (b))], [], ((.inr (0, [.ref (gad g (b + 1))]) : va_E) :: [arO g (b + 2) 9, arI g 9, arI g 9, arI g 9, arI g 9, arI g 9, arI g 9, arI g 9, arI g 9, arI g 9]), 10, 90) _
  exact Rk.rf
def lS5 (g : AG) (b : Nat) : List va_E := .inr (5, [.int (Int32.ofInt 0), .int (Int32.ofInt 0), .int (Int32.ofInt 0)]) :: []
set_option maxRecDepth 100000 in
set_option maxHeartbeats 4000000 in
theorem k_X5 {g : AG} {d b : Nat} (hG : Ga g) (hb : b + 1 ≤ 108) : MetK g mX5_init (d + 1) b 0 0 (.inr (5, [.int (Int32.ofInt 0), .int (Int32.ofInt 0), .int (Int32.ofInt 0)]) : va_E) (lS5 g b) := by
  refine MetK.of (pcR := 4) (lsE := [(0, vR (b))]) (by decide) (by decide) rfl dX5_init_4 hG ?_
  refine Rk_aload 0 dX5_init_0 rfl rfl ?_
  refine Rk_objInit oi_X5 dX5_init_1 (by omega) (Nat.le_of_ble_eq_true rfl) ?_
  exact Rk.rf
def lS3 (g : AG) (b : Nat) : List va_E := .inr (3, [.ref (gad g (b + 1)), .ref (gad g (b + 2)), .int (Int32.ofInt 0)]) :: ([arI g 64] ++ lS5 g (b + 2))
set_option maxRecDepth 100000 in
set_option maxHeartbeats 4000000 in
theorem k_X3 {g : AG} {d b : Nat} (hG : Ga g) (hb : b + 3 ≤ 108) : MetK g mX3_init (d + 2) b 2 67 (.inr (3, [.null, .null, .int (Int32.ofInt 0)]) : va_E) (lS3 g b) := by
  refine MetK.of (pcR := 28) (lsE := [(0, vR (b))]) (by decide) (by decide) rfl dX3_init_28 hG ?_
  refine Rk_aload 0 dX3_init_0 rfl rfl ?_
  refine Rk_objInit oi_X3 dX3_init_1 (by omega) (Nat.le_of_ble_eq_true rfl) ?_
  refine Rk_aload 0 dX3_init_4 rfl rfl ?_
  refine Rk_bipush (z := 64) dX3_init_5 (by decide) ?_
  refine Rk_newaQ (N := 64) (q := b + 1) rfl dX3_init_7 (by decide) (by decide) (by decide) (by omega) ?_
  show Rk _ _ _ _ _ _ (9, [(0, vR (b))], [vR (b + 1), vR (b)], ((.inr (3, [.null, .null, .int (Int32.ofInt 0)]) : va_E) :: [arI g 64]), 1, 64) _
  refine Rk_putA (i := 0) (j := 0) (v := vR (b + 1)) true cf_X3 fl_X3_9 rfl rfl rfl rfl (by decide) (Nat.le_of_ble_eq_true rfl) (fun _ => rfl) (fun _ => rfl) rfl (by omega) dX3_init_9 ?_
  show Rk _ _ _ _ _ _ (12, [(0, vR (b))], [], ((.inr (3, [.ref (gad g (b + 1)), .null, .int (Int32.ofInt 0)]) : va_E) :: [arI g 64]), 1, 64) _
  refine Rk_aload 0 dX3_init_12 rfl rfl ?_
  refine Rk_newQ (q := b + 2) (fs := [.int (Int32.ofInt 0), .int (Int32.ofInt 0), .int (Int32.ofInt 0)]) rfl cf_X5 cl_X3_15 it_X5 ii_X5 (dv_X5) dX3_init_13 (by decide) (by decide) (by omega) ?_
  show Rk _ _ _ _ _ _ (16, [(0, vR (b))], [vR (b + 2), vR (b)], ((.inr (3, [.ref (gad g (b + 1)), .null, .int (Int32.ofInt 0)]) : va_E) :: [arI g 64]) ++ [(.inr (5, [.int (Int32.ofInt 0), .int (Int32.ofInt 0), .int (Int32.ofInt 0)]) : va_E)], 2, 67) _
  refine Rk_dup dX3_init_16 rfl ?_
  refine Rk_callQ (q := b + 2) rfl li_X3_17 ci_X5 im_X5 rfl rfl (Nat.le_refl _) (Nat.le_of_ble_eq_true rfl) dX3_init_17 (k_X5 hG (by omega)) (by decide) (by decide) rfl ?_
  show Rk _ _ _ _ _ _ (20, [(0, vR (b))], [vR (b + 2), vR (b)], ((.inr (3, [.ref (gad g (b + 1)), .null, .int (Int32.ofInt 0)]) : va_E) :: ([arI g 64] ++ lS5 g (b + 2))), 2, 67) _
  refine Rk_putA (i := 0) (j := 1) (v := vR (b + 2)) true cf_X3 fl_X3_18 rfl rfl rfl rfl (by decide) (Nat.le_of_ble_eq_true rfl) (fun _ => rfl) (fun _ => rfl) rfl (by omega) dX3_init_20 ?_
  show Rk _ _ _ _ _ _ (23, [(0, vR (b))], [], ((.inr (3, [.ref (gad g (b + 1)), .ref (gad g (b + 2)), .int (Int32.ofInt 0)]) : va_E) :: ([arI g 64] ++ lS5 g (b + 2))), 2, 67) _
  refine Rk_aload 0 dX3_init_23 rfl rfl ?_
  refine Rk_iconst (z := 0) dX3_init_24 ?_
  refine Rk_putA (i := 0) (j := 2) (v := vI 0) false cf_X3 fl_X3_22 rfl rfl rfl rfl (by decide) (Nat.le_of_ble_eq_true rfl) (fun _ => rfl) (fun _ => rfl) rfl (by omega) dX3_init_25 ?_
  show Rk _ _ _ _ _ _ (28, [(0, vR (b))], [], ((.inr (3, [.ref (gad g (b + 1)), .ref (gad g (b + 2)), .int (Int32.ofInt 0)]) : va_E) :: ([arI g 64] ++ lS5 g (b + 2))), 2, 67) _
  exact Rk.rf
def lS1 (g : AG) (b : Nat) : List va_E := .inr (1, [.ref (gad g (b + 1)), .ref (gad g (b + 12)), .ref (gad g (b + 13))]) :: ((lS0 g (b + 1) ++ [arI g 3]) ++ [arI g 3])
set_option maxRecDepth 100000 in
set_option maxHeartbeats 4000000 in
theorem k_X1 {g : AG} {d b : Nat} (hG : Ga g) (hb : b + 14 ≤ 108) : MetK g mX1_init (d + 2) b 13 97 (.inr (1, [.null, .null, .null]) : va_E) (lS1 g b) := by
  refine MetK.of (pcR := 29) (lsE := [(0, vR (b))]) (by decide) (by decide) rfl dX1_init_29 hG ?_
  refine Rk_aload 0 dX1_init_0 rfl rfl ?_
  refine Rk_objInit oi_X1 dX1_init_1 (by omega) (Nat.le_of_ble_eq_true rfl) ?_
  refine Rk_aload 0 dX1_init_4 rfl rfl ?_
  refine Rk_newQ (q := b + 1) (fs := [.null]) rfl cf_X0 cl_X1_9 it_X0 ii_X0 (dv_X0) dX1_init_5 (by decide) (by decide) (by omega) ?_
  show Rk _ _ _ _ _ _ (8, [(0, vR (b))], [vR (b + 1), vR (b)], ((.inr (1, [.null, .null, .null]) : va_E) :: []) ++ [(.inr (0, [.null]) : va_E)], 1, 1) _
  refine Rk_dup dX1_init_8 rfl ?_
  refine Rk_callQ (q := b + 1) rfl li_X1_11 ci_X0 im_X0 rfl rfl (Nat.le_refl _) (Nat.le_of_ble_eq_true rfl) dX1_init_9 (k_X0 hG (by omega)) (by decide) (by decide) rfl ?_
  show Rk _ _ _ _ _ _ (12, [(0, vR (b))], [vR (b + 1), vR (b)], ((.inr (1, [.null, .null, .null]) : va_E) :: lS0 g (b + 1)), 11, 91) _
  refine Rk_putA (i := 0) (j := 0) (v := vR (b + 1)) true cf_X1 fl_X1_12 rfl rfl rfl rfl (by decide) (Nat.le_of_ble_eq_true rfl) (fun _ => rfl) (fun _ => rfl) rfl (by omega) dX1_init_12 ?_
  show Rk _ _ _ _ _ _ (15, [(0, vR (b))], [], ((.inr (1, [.ref (gad g (b + 1)), .null, .null]) : va_E) :: lS0 g (b + 1)), 11, 91) _
  refine Rk_aload 0 dX1_init_15 rfl rfl ?_
  refine Rk_iconst (z := 3) dX1_init_16 ?_
  refine Rk_newaQ (N := 3) (q := b + 12) rfl dX1_init_17 (by decide) (by decide) (by decide) (by omega) ?_
  show Rk _ _ _ _ _ _ (19, [(0, vR (b))], [vR (b + 12), vR (b)], ((.inr (1, [.ref (gad g (b + 1)), .null, .null]) : va_E) :: (lS0 g (b + 1) ++ [arI g 3])), 12, 94) _
  refine Rk_putA (i := 0) (j := 1) (v := vR (b + 12)) true cf_X1 fl_X1_18 rfl rfl rfl rfl (by decide) (Nat.le_of_ble_eq_true rfl) (fun _ => rfl) (fun _ => rfl) rfl (by omega) dX1_init_19 ?_
  show Rk _ _ _ _ _ _ (22, [(0, vR (b))], [], ((.inr (1, [.ref (gad g (b + 1)), .ref (gad g (b + 12)), .null]) : va_E) :: (lS0 g (b + 1) ++ [arI g 3])), 12, 94) _
  refine Rk_aload 0 dX1_init_22 rfl rfl ?_
  refine Rk_iconst (z := 3) dX1_init_23 ?_
  refine Rk_newaQ (N := 3) (q := b + 13) rfl dX1_init_24 (by decide) (by decide) (by decide) (by omega) ?_
  show Rk _ _ _ _ _ _ (26, [(0, vR (b))], [vR (b + 13), vR (b)], ((.inr (1, [.ref (gad g (b + 1)), .ref (gad g (b + 12)), .null]) : va_E) :: ((lS0 g (b + 1) ++ [arI g 3]) ++ [arI g 3])), 13, 97) _
  refine Rk_putA (i := 0) (j := 2) (v := vR (b + 13)) true cf_X1 fl_X1_22 rfl rfl rfl rfl (by decide) (Nat.le_of_ble_eq_true rfl) (fun _ => rfl) (fun _ => rfl) rfl (by omega) dX1_init_26 ?_
  show Rk _ _ _ _ _ _ (29, [(0, vR (b))], [], ((.inr (1, [.ref (gad g (b + 1)), .ref (gad g (b + 12)), .ref (gad g (b + 13))]) : va_E) :: ((lS0 g (b + 1) ++ [arI g 3]) ++ [arI g 3])), 13, 97) _
  exact Rk.rf
def lS2 (g : AG) (b : Nat) : List va_E := .inr (2, [.ref (gad g (b + 1)), .ref (gad g (b + 6)), .ref (gad g (b + 9)), .ref (gad g (b + 20)), .ref (gad g (b + 21)), .ref (gad g (b + 22)), .ref (gad g (b + 23)), .int (Int32.ofInt 0), .int (Int32.ofInt 0)]) :: ((((((lS7 g (b + 1) ++ [arO g (b + 7) 2, arI g 8, arI g 8]) ++ lS0 g (b + 9)) ++ [arI g 8]) ++ [arI g 8]) ++ [arI g 2]) ++ [arI g 2])
set_option maxRecDepth 100000 in
set_option maxHeartbeats 4000000 in
theorem k_X2 {g : AG} {d b : Nat} (hG : Ga g) (hb : b + 24 ≤ 108) : MetK g mX2_init (d + 2) b 23 151 (.inr (2, [.null, .null, .null, .null, .null, .null, .null, .int (Int32.ofInt 0), .int (Int32.ofInt 0)]) : va_E) (lS2 g b) := by
  refine MetK.of (pcR := 77) (lsE := [(0, vR (b))]) (by decide) (by decide) rfl dX2_init_77 hG ?_
  refine Rk_aload 0 dX2_init_0 rfl rfl ?_
  refine Rk_objInit oi_X2 dX2_init_1 (by omega) (Nat.le_of_ble_eq_true rfl) ?_
  refine Rk_aload 0 dX2_init_4 rfl rfl ?_
  refine Rk_newQ (q := b + 1) (fs := [.null, .null]) rfl cf_X7 cl_X2_9 it_X7 ii_X7 (dv_X7) dX2_init_5 (by decide) (by decide) (by omega) ?_
  show Rk _ _ _ _ _ _ (8, [(0, vR (b))], [vR (b + 1), vR (b)], ((.inr (2, [.null, .null, .null, .null, .null, .null, .null, .int (Int32.ofInt 0), .int (Int32.ofInt 0)]) : va_E) :: []) ++ [(.inr (7, [.null, .null]) : va_E)], 1, 2) _
  refine Rk_dup dX2_init_8 rfl ?_
  refine Rk_callQ (q := b + 1) rfl li_X2_11 ci_X7 im_X7 rfl rfl (Nat.le_refl _) (Nat.le_of_ble_eq_true rfl) dX2_init_9 (k_X7 hG (by omega)) (by decide) (by decide) rfl ?_
  show Rk _ _ _ _ _ _ (12, [(0, vR (b))], [vR (b + 1), vR (b)], ((.inr (2, [.null, .null, .null, .null, .null, .null, .null, .int (Int32.ofInt 0), .int (Int32.ofInt 0)]) : va_E) :: lS7 g (b + 1)), 5, 22) _
  refine Rk_putA (i := 0) (j := 0) (v := vR (b + 1)) true cf_X2 fl_X2_12 rfl rfl rfl rfl (by decide) (Nat.le_of_ble_eq_true rfl) (fun _ => rfl) (fun _ => rfl) rfl (by omega) dX2_init_12 ?_
  show Rk _ _ _ _ _ _ (15, [(0, vR (b))], [], ((.inr (2, [.ref (gad g (b + 1)), .null, .null, .null, .null, .null, .null, .int (Int32.ofInt 0), .int (Int32.ofInt 0)]) : va_E) :: lS7 g (b + 1)), 5, 22) _
  refine Rk_aload 0 dX2_init_15 rfl rfl ?_
  refine Rk_iconst (z := 2) dX2_init_16 ?_
  refine Rk_bipush (z := 8) dX2_init_17 (by decide) ?_
  refine Rk_mnaQ (N := 2) (K := 8) (q := b + 6) rfl cl_X2_18 dX2_init_19 (by decide) (by decide) (by decide) (by decide) (by omega) ?_
  show Rk _ _ _ _ _ _ (23, [(0, vR (b))], [vR (b + 6), vR (b)], ((.inr (2, [.ref (gad g (b + 1)), .null, .null, .null, .null, .null, .null, .int (Int32.ofInt 0), .int (Int32.ofInt 0)]) : va_E) :: (lS7 g (b + 1) ++ [arO g (b + 7) 2, arI g 8, arI g 8])), 8, 40) _
  refine Rk_putA (i := 0) (j := 1) (v := vR (b + 6)) true cf_X2 fl_X2_20 rfl rfl rfl rfl (by decide) (Nat.le_of_ble_eq_true rfl) (fun _ => rfl) (fun _ => rfl) rfl (by omega) dX2_init_23 ?_
  show Rk _ _ _ _ _ _ (26, [(0, vR (b))], [], ((.inr (2, [.ref (gad g (b + 1)), .ref (gad g (b + 6)), .null, .null, .null, .null, .null, .int (Int32.ofInt 0), .int (Int32.ofInt 0)]) : va_E) :: (lS7 g (b + 1) ++ [arO g (b + 7) 2, arI g 8, arI g 8])), 8, 40) _
  refine Rk_aload 0 dX2_init_26 rfl rfl ?_
  refine Rk_newQ (q := b + 9) (fs := [.null]) rfl cf_X0 cl_X2_23 it_X0 ii_X0 (dv_X0) dX2_init_27 (by decide) (by decide) (by omega) ?_
  show Rk _ _ _ _ _ _ (30, [(0, vR (b))], [vR (b + 9), vR (b)], ((.inr (2, [.ref (gad g (b + 1)), .ref (gad g (b + 6)), .null, .null, .null, .null, .null, .int (Int32.ofInt 0), .int (Int32.ofInt 0)]) : va_E) :: (lS7 g (b + 1) ++ [arO g (b + 7) 2, arI g 8, arI g 8])) ++ [(.inr (0, [.null]) : va_E)], 9, 41) _
  refine Rk_dup dX2_init_30 rfl ?_
  refine Rk_callQ (q := b + 9) rfl li_X2_25 ci_X0 im_X0 rfl rfl (Nat.le_refl _) (Nat.le_of_ble_eq_true rfl) dX2_init_31 (k_X0 hG (by omega)) (by decide) (by decide) rfl ?_
  show Rk _ _ _ _ _ _ (34, [(0, vR (b))], [vR (b + 9), vR (b)], ((.inr (2, [.ref (gad g (b + 1)), .ref (gad g (b + 6)), .null, .null, .null, .null, .null, .int (Int32.ofInt 0), .int (Int32.ofInt 0)]) : va_E) :: ((lS7 g (b + 1) ++ [arO g (b + 7) 2, arI g 8, arI g 8]) ++ lS0 g (b + 9))), 19, 131) _
  refine Rk_putA (i := 0) (j := 2) (v := vR (b + 9)) true cf_X2 fl_X2_26 rfl rfl rfl rfl (by decide) (Nat.le_of_ble_eq_true rfl) (fun _ => rfl) (fun _ => rfl) rfl (by omega) dX2_init_34 ?_
  show Rk _ _ _ _ _ _ (37, [(0, vR (b))], [], ((.inr (2, [.ref (gad g (b + 1)), .ref (gad g (b + 6)), .ref (gad g (b + 9)), .null, .null, .null, .null, .int (Int32.ofInt 0), .int (Int32.ofInt 0)]) : va_E) :: ((lS7 g (b + 1) ++ [arO g (b + 7) 2, arI g 8, arI g 8]) ++ lS0 g (b + 9))), 19, 131) _
  refine Rk_aload 0 dX2_init_37 rfl rfl ?_
  refine Rk_bipush (z := 8) dX2_init_38 (by decide) ?_
  refine Rk_newaQ (N := 8) (q := b + 20) rfl dX2_init_40 (by decide) (by decide) (by decide) (by omega) ?_
  show Rk _ _ _ _ _ _ (42, [(0, vR (b))], [vR (b + 20), vR (b)], ((.inr (2, [.ref (gad g (b + 1)), .ref (gad g (b + 6)), .ref (gad g (b + 9)), .null, .null, .null, .null, .int (Int32.ofInt 0), .int (Int32.ofInt 0)]) : va_E) :: (((lS7 g (b + 1) ++ [arO g (b + 7) 2, arI g 8, arI g 8]) ++ lS0 g (b + 9)) ++ [arI g 8])), 20, 139) _
  refine Rk_putA (i := 0) (j := 3) (v := vR (b + 20)) true cf_X2 fl_X2_30 rfl rfl rfl rfl (by decide) (Nat.le_of_ble_eq_true rfl) (fun _ => rfl) (fun _ => rfl) rfl (by omega) dX2_init_42 ?_
  show Rk _ _ _ _ _ _ (45, [(0, vR (b))], [], ((.inr (2, [.ref (gad g (b + 1)), .ref (gad g (b + 6)), .ref (gad g (b + 9)), .ref (gad g (b + 20)), .null, .null, .null, .int (Int32.ofInt 0), .int (Int32.ofInt 0)]) : va_E) :: (((lS7 g (b + 1) ++ [arO g (b + 7) 2, arI g 8, arI g 8]) ++ lS0 g (b + 9)) ++ [arI g 8])), 20, 139) _
  refine Rk_aload 0 dX2_init_45 rfl rfl ?_
  refine Rk_bipush (z := 8) dX2_init_46 (by decide) ?_
  refine Rk_newaQ (N := 8) (q := b + 21) rfl dX2_init_48 (by decide) (by decide) (by decide) (by omega) ?_
  show Rk _ _ _ _ _ _ (50, [(0, vR (b))], [vR (b + 21), vR (b)], ((.inr (2, [.ref (gad g (b + 1)), .ref (gad g (b + 6)), .ref (gad g (b + 9)), .ref (gad g (b + 20)), .null, .null, .null, .int (Int32.ofInt 0), .int (Int32.ofInt 0)]) : va_E) :: ((((lS7 g (b + 1) ++ [arO g (b + 7) 2, arI g 8, arI g 8]) ++ lS0 g (b + 9)) ++ [arI g 8]) ++ [arI g 8])), 21, 147) _
  refine Rk_putA (i := 0) (j := 4) (v := vR (b + 21)) true cf_X2 fl_X2_34 rfl rfl rfl rfl (by decide) (Nat.le_of_ble_eq_true rfl) (fun _ => rfl) (fun _ => rfl) rfl (by omega) dX2_init_50 ?_
  show Rk _ _ _ _ _ _ (53, [(0, vR (b))], [], ((.inr (2, [.ref (gad g (b + 1)), .ref (gad g (b + 6)), .ref (gad g (b + 9)), .ref (gad g (b + 20)), .ref (gad g (b + 21)), .null, .null, .int (Int32.ofInt 0), .int (Int32.ofInt 0)]) : va_E) :: ((((lS7 g (b + 1) ++ [arO g (b + 7) 2, arI g 8, arI g 8]) ++ lS0 g (b + 9)) ++ [arI g 8]) ++ [arI g 8])), 21, 147) _
  refine Rk_aload 0 dX2_init_53 rfl rfl ?_
  refine Rk_iconst (z := 2) dX2_init_54 ?_
  refine Rk_newaQ (N := 2) (q := b + 22) rfl dX2_init_55 (by decide) (by decide) (by decide) (by omega) ?_
  show Rk _ _ _ _ _ _ (57, [(0, vR (b))], [vR (b + 22), vR (b)], ((.inr (2, [.ref (gad g (b + 1)), .ref (gad g (b + 6)), .ref (gad g (b + 9)), .ref (gad g (b + 20)), .ref (gad g (b + 21)), .null, .null, .int (Int32.ofInt 0), .int (Int32.ofInt 0)]) : va_E) :: (((((lS7 g (b + 1) ++ [arO g (b + 7) 2, arI g 8, arI g 8]) ++ lS0 g (b + 9)) ++ [arI g 8]) ++ [arI g 8]) ++ [arI g 2])), 22, 149) _
  refine Rk_putA (i := 0) (j := 5) (v := vR (b + 22)) true cf_X2 fl_X2_37 rfl rfl rfl rfl (by decide) (Nat.le_of_ble_eq_true rfl) (fun _ => rfl) (fun _ => rfl) rfl (by omega) dX2_init_57 ?_
  show Rk _ _ _ _ _ _ (60, [(0, vR (b))], [], ((.inr (2, [.ref (gad g (b + 1)), .ref (gad g (b + 6)), .ref (gad g (b + 9)), .ref (gad g (b + 20)), .ref (gad g (b + 21)), .ref (gad g (b + 22)), .null, .int (Int32.ofInt 0), .int (Int32.ofInt 0)]) : va_E) :: (((((lS7 g (b + 1) ++ [arO g (b + 7) 2, arI g 8, arI g 8]) ++ lS0 g (b + 9)) ++ [arI g 8]) ++ [arI g 8]) ++ [arI g 2])), 22, 149) _
  refine Rk_aload 0 dX2_init_60 rfl rfl ?_
  refine Rk_iconst (z := 2) dX2_init_61 ?_
  refine Rk_newaQ (N := 2) (q := b + 23) rfl dX2_init_62 (by decide) (by decide) (by decide) (by omega) ?_
  show Rk _ _ _ _ _ _ (64, [(0, vR (b))], [vR (b + 23), vR (b)], ((.inr (2, [.ref (gad g (b + 1)), .ref (gad g (b + 6)), .ref (gad g (b + 9)), .ref (gad g (b + 20)), .ref (gad g (b + 21)), .ref (gad g (b + 22)), .null, .int (Int32.ofInt 0), .int (Int32.ofInt 0)]) : va_E) :: ((((((lS7 g (b + 1) ++ [arO g (b + 7) 2, arI g 8, arI g 8]) ++ lS0 g (b + 9)) ++ [arI g 8]) ++ [arI g 8]) ++ [arI g 2]) ++ [arI g 2])), 23, 151) _
  refine Rk_putA (i := 0) (j := 6) (v := vR (b + 23)) true cf_X2 fl_X2_40 rfl rfl rfl rfl (by decide) (Nat.le_of_ble_eq_true rfl) (fun _ => rfl) (fun _ => rfl) rfl (by omega) dX2_init_64 ?_
  show Rk _ _ _ _ _ _ (67, [(0, vR (b))], [], ((.inr (2, [.ref (gad g (b + 1)), .ref (gad g (b + 6)), .ref (gad g (b + 9)), .ref (gad g (b + 20)), .ref (gad g (b + 21)), .ref (gad g (b + 22)), .ref (gad g (b + 23)), .int (Int32.ofInt 0), .int (Int32.ofInt 0)]) : va_E) :: ((((((lS7 g (b + 1) ++ [arO g (b + 7) 2, arI g 8, arI g 8]) ++ lS0 g (b + 9)) ++ [arI g 8]) ++ [arI g 8]) ++ [arI g 2]) ++ [arI g 2])), 23, 151) _
  refine Rk_aload 0 dX2_init_67 rfl rfl ?_
  refine Rk_iconst (z := 0) dX2_init_68 ?_
  refine Rk_putA (i := 0) (j := 7) (v := vI 0) false cf_X2 fl_X2_43 rfl rfl rfl rfl (by decide) (Nat.le_of_ble_eq_true rfl) (fun _ => rfl) (fun _ => rfl) rfl (by omega) dX2_init_69 ?_
  show Rk _ _ _ _ _ _ (72, [(0, vR (b))], [], ((.inr (2, [.ref (gad g (b + 1)), .ref (gad g (b + 6)), .ref (gad g (b + 9)), .ref (gad g (b + 20)), .ref (gad g (b + 21)), .ref (gad g (b + 22)), .ref (gad g (b + 23)), .int (Int32.ofInt 0), .int (Int32.ofInt 0)]) : va_E) :: ((((((lS7 g (b + 1) ++ [arO g (b + 7) 2, arI g 8, arI g 8]) ++ lS0 g (b + 9)) ++ [arI g 8]) ++ [arI g 8]) ++ [arI g 2]) ++ [arI g 2])), 23, 151) _
  refine Rk_aload 0 dX2_init_72 rfl rfl ?_
  refine Rk_iconst (z := 0) dX2_init_73 ?_
  refine Rk_putA (i := 0) (j := 8) (v := vI 0) false cf_X2 fl_X2_47 rfl rfl rfl rfl (by decide) (Nat.le_of_ble_eq_true rfl) (fun _ => rfl) (fun _ => rfl) rfl (by omega) dX2_init_74 ?_
  show Rk _ _ _ _ _ _ (77, [(0, vR (b))], [], ((.inr (2, [.ref (gad g (b + 1)), .ref (gad g (b + 6)), .ref (gad g (b + 9)), .ref (gad g (b + 20)), .ref (gad g (b + 21)), .ref (gad g (b + 22)), .ref (gad g (b + 23)), .int (Int32.ofInt 0), .int (Int32.ofInt 0)]) : va_E) :: ((((((lS7 g (b + 1) ++ [arO g (b + 7) 2, arI g 8, arI g 8]) ++ lS0 g (b + 9)) ++ [arI g 8]) ++ [arI g 8]) ++ [arI g 2]) ++ [arI g 2])), 23, 151) _
  exact Rk.rf
def lS6 (g : AG) (b : Nat) : List va_E := .inr (6, [.ref (gad g (b + 1)), .ref (gad g (b + 2)), .ref (gad g (b + 3)), .ref (gad g (b + 4)), .ref (gad g (b + 5)), .ref (gad g (b + 6)), .int (Int32.ofInt 0), .int (Int32.ofInt 0)]) :: ((((([arI g 16] ++ [arI g 16]) ++ [arI g 16]) ++ [arI g 16]) ++ [arI g 16]) ++ [arO g (b + 7) 2, arI g 8, arI g 8])
set_option maxRecDepth 100000 in
set_option maxHeartbeats 4000000 in
theorem k_X6 {g : AG} {d b : Nat} (hG : Ga g) (hb : b + 9 ≤ 108) : MetK g mX6_init (d + 1) b 8 98 (.inr (6, [.null, .null, .null, .null, .null, .null, .int (Int32.ofInt 0), .int (Int32.ofInt 0)]) : va_E) (lS6 g b) := by
  refine MetK.of (pcR := 65) (lsE := [(0, vR (b))]) (by decide) (by decide) rfl dX6_init_65 hG ?_
  refine Rk_aload 0 dX6_init_0 rfl rfl ?_
  refine Rk_objInit oi_X6 dX6_init_1 (by omega) (Nat.le_of_ble_eq_true rfl) ?_
  refine Rk_aload 0 dX6_init_4 rfl rfl ?_
  refine Rk_bipush (z := 16) dX6_init_5 (by decide) ?_
  refine Rk_newaQ (N := 16) (q := b + 1) rfl dX6_init_7 (by decide) (by decide) (by decide) (by omega) ?_
  show Rk _ _ _ _ _ _ (9, [(0, vR (b))], [vR (b + 1), vR (b)], ((.inr (6, [.null, .null, .null, .null, .null, .null, .int (Int32.ofInt 0), .int (Int32.ofInt 0)]) : va_E) :: [arI g 16]), 1, 16) _
  refine Rk_putA (i := 0) (j := 0) (v := vR (b + 1)) true cf_X6 fl_X6_9 rfl rfl rfl rfl (by decide) (Nat.le_of_ble_eq_true rfl) (fun _ => rfl) (fun _ => rfl) rfl (by omega) dX6_init_9 ?_
  show Rk _ _ _ _ _ _ (12, [(0, vR (b))], [], ((.inr (6, [.ref (gad g (b + 1)), .null, .null, .null, .null, .null, .int (Int32.ofInt 0), .int (Int32.ofInt 0)]) : va_E) :: [arI g 16]), 1, 16) _
  refine Rk_aload 0 dX6_init_12 rfl rfl ?_
  refine Rk_bipush (z := 16) dX6_init_13 (by decide) ?_
  refine Rk_newaQ (N := 16) (q := b + 2) rfl dX6_init_15 (by decide) (by decide) (by decide) (by omega) ?_
  show Rk _ _ _ _ _ _ (17, [(0, vR (b))], [vR (b + 2), vR (b)], ((.inr (6, [.ref (gad g (b + 1)), .null, .null, .null, .null, .null, .int (Int32.ofInt 0), .int (Int32.ofInt 0)]) : va_E) :: ([arI g 16] ++ [arI g 16])), 2, 32) _
  refine Rk_putA (i := 0) (j := 1) (v := vR (b + 2)) true cf_X6 fl_X6_15 rfl rfl rfl rfl (by decide) (Nat.le_of_ble_eq_true rfl) (fun _ => rfl) (fun _ => rfl) rfl (by omega) dX6_init_17 ?_
  show Rk _ _ _ _ _ _ (20, [(0, vR (b))], [], ((.inr (6, [.ref (gad g (b + 1)), .ref (gad g (b + 2)), .null, .null, .null, .null, .int (Int32.ofInt 0), .int (Int32.ofInt 0)]) : va_E) :: ([arI g 16] ++ [arI g 16])), 2, 32) _
  refine Rk_aload 0 dX6_init_20 rfl rfl ?_
  refine Rk_bipush (z := 16) dX6_init_21 (by decide) ?_
  refine Rk_newaQ (N := 16) (q := b + 3) rfl dX6_init_23 (by decide) (by decide) (by decide) (by omega) ?_
  show Rk _ _ _ _ _ _ (25, [(0, vR (b))], [vR (b + 3), vR (b)], ((.inr (6, [.ref (gad g (b + 1)), .ref (gad g (b + 2)), .null, .null, .null, .null, .int (Int32.ofInt 0), .int (Int32.ofInt 0)]) : va_E) :: (([arI g 16] ++ [arI g 16]) ++ [arI g 16])), 3, 48) _
  refine Rk_putA (i := 0) (j := 2) (v := vR (b + 3)) true cf_X6 fl_X6_18 rfl rfl rfl rfl (by decide) (Nat.le_of_ble_eq_true rfl) (fun _ => rfl) (fun _ => rfl) rfl (by omega) dX6_init_25 ?_
  show Rk _ _ _ _ _ _ (28, [(0, vR (b))], [], ((.inr (6, [.ref (gad g (b + 1)), .ref (gad g (b + 2)), .ref (gad g (b + 3)), .null, .null, .null, .int (Int32.ofInt 0), .int (Int32.ofInt 0)]) : va_E) :: (([arI g 16] ++ [arI g 16]) ++ [arI g 16])), 3, 48) _
  refine Rk_aload 0 dX6_init_28 rfl rfl ?_
  refine Rk_bipush (z := 16) dX6_init_29 (by decide) ?_
  refine Rk_newaQ (N := 16) (q := b + 4) rfl dX6_init_31 (by decide) (by decide) (by decide) (by omega) ?_
  show Rk _ _ _ _ _ _ (33, [(0, vR (b))], [vR (b + 4), vR (b)], ((.inr (6, [.ref (gad g (b + 1)), .ref (gad g (b + 2)), .ref (gad g (b + 3)), .null, .null, .null, .int (Int32.ofInt 0), .int (Int32.ofInt 0)]) : va_E) :: ((([arI g 16] ++ [arI g 16]) ++ [arI g 16]) ++ [arI g 16])), 4, 64) _
  refine Rk_putA (i := 0) (j := 3) (v := vR (b + 4)) true cf_X6 fl_X6_21 rfl rfl rfl rfl (by decide) (Nat.le_of_ble_eq_true rfl) (fun _ => rfl) (fun _ => rfl) rfl (by omega) dX6_init_33 ?_
  show Rk _ _ _ _ _ _ (36, [(0, vR (b))], [], ((.inr (6, [.ref (gad g (b + 1)), .ref (gad g (b + 2)), .ref (gad g (b + 3)), .ref (gad g (b + 4)), .null, .null, .int (Int32.ofInt 0), .int (Int32.ofInt 0)]) : va_E) :: ((([arI g 16] ++ [arI g 16]) ++ [arI g 16]) ++ [arI g 16])), 4, 64) _
  refine Rk_aload 0 dX6_init_36 rfl rfl ?_
  refine Rk_bipush (z := 16) dX6_init_37 (by decide) ?_
  refine Rk_newaQ (N := 16) (q := b + 5) rfl dX6_init_39 (by decide) (by decide) (by decide) (by omega) ?_
  show Rk _ _ _ _ _ _ (41, [(0, vR (b))], [vR (b + 5), vR (b)], ((.inr (6, [.ref (gad g (b + 1)), .ref (gad g (b + 2)), .ref (gad g (b + 3)), .ref (gad g (b + 4)), .null, .null, .int (Int32.ofInt 0), .int (Int32.ofInt 0)]) : va_E) :: (((([arI g 16] ++ [arI g 16]) ++ [arI g 16]) ++ [arI g 16]) ++ [arI g 16])), 5, 80) _
  refine Rk_putA (i := 0) (j := 4) (v := vR (b + 5)) true cf_X6 fl_X6_24 rfl rfl rfl rfl (by decide) (Nat.le_of_ble_eq_true rfl) (fun _ => rfl) (fun _ => rfl) rfl (by omega) dX6_init_41 ?_
  show Rk _ _ _ _ _ _ (44, [(0, vR (b))], [], ((.inr (6, [.ref (gad g (b + 1)), .ref (gad g (b + 2)), .ref (gad g (b + 3)), .ref (gad g (b + 4)), .ref (gad g (b + 5)), .null, .int (Int32.ofInt 0), .int (Int32.ofInt 0)]) : va_E) :: (((([arI g 16] ++ [arI g 16]) ++ [arI g 16]) ++ [arI g 16]) ++ [arI g 16])), 5, 80) _
  refine Rk_aload 0 dX6_init_44 rfl rfl ?_
  refine Rk_iconst (z := 2) dX6_init_45 ?_
  refine Rk_bipush (z := 8) dX6_init_46 (by decide) ?_
  refine Rk_mnaQ (N := 2) (K := 8) (q := b + 6) rfl cl_X6_27 dX6_init_48 (by decide) (by decide) (by decide) (by decide) (by omega) ?_
  show Rk _ _ _ _ _ _ (52, [(0, vR (b))], [vR (b + 6), vR (b)], ((.inr (6, [.ref (gad g (b + 1)), .ref (gad g (b + 2)), .ref (gad g (b + 3)), .ref (gad g (b + 4)), .ref (gad g (b + 5)), .null, .int (Int32.ofInt 0), .int (Int32.ofInt 0)]) : va_E) :: ((((([arI g 16] ++ [arI g 16]) ++ [arI g 16]) ++ [arI g 16]) ++ [arI g 16]) ++ [arO g (b + 7) 2, arI g 8, arI g 8])), 8, 98) _
  refine Rk_putA (i := 0) (j := 5) (v := vR (b + 6)) true cf_X6 fl_X6_29 rfl rfl rfl rfl (by decide) (Nat.le_of_ble_eq_true rfl) (fun _ => rfl) (fun _ => rfl) rfl (by omega) dX6_init_52 ?_
  show Rk _ _ _ _ _ _ (55, [(0, vR (b))], [], ((.inr (6, [.ref (gad g (b + 1)), .ref (gad g (b + 2)), .ref (gad g (b + 3)), .ref (gad g (b + 4)), .ref (gad g (b + 5)), .ref (gad g (b + 6)), .int (Int32.ofInt 0), .int (Int32.ofInt 0)]) : va_E) :: ((((([arI g 16] ++ [arI g 16]) ++ [arI g 16]) ++ [arI g 16]) ++ [arI g 16]) ++ [arO g (b + 7) 2, arI g 8, arI g 8])), 8, 98) _
  refine Rk_aload 0 dX6_init_55 rfl rfl ?_
  refine Rk_iconst (z := 0) dX6_init_56 ?_
  refine Rk_putA (i := 0) (j := 6) (v := vI 0) false cf_X6 fl_X6_32 rfl rfl rfl rfl (by decide) (Nat.le_of_ble_eq_true rfl) (fun _ => rfl) (fun _ => rfl) rfl (by omega) dX6_init_57 ?_
  show Rk _ _ _ _ _ _ (60, [(0, vR (b))], [], ((.inr (6, [.ref (gad g (b + 1)), .ref (gad g (b + 2)), .ref (gad g (b + 3)), .ref (gad g (b + 4)), .ref (gad g (b + 5)), .ref (gad g (b + 6)), .int (Int32.ofInt 0), .int (Int32.ofInt 0)]) : va_E) :: ((((([arI g 16] ++ [arI g 16]) ++ [arI g 16]) ++ [arI g 16]) ++ [arI g 16]) ++ [arO g (b + 7) 2, arI g 8, arI g 8])), 8, 98) _
  refine Rk_aload 0 dX6_init_60 rfl rfl ?_
  refine Rk_iconst (z := 0) dX6_init_61 ?_
  refine Rk_putA (i := 0) (j := 7) (v := vI 0) false cf_X6 fl_X6_36 rfl rfl rfl rfl (by decide) (Nat.le_of_ble_eq_true rfl) (fun _ => rfl) (fun _ => rfl) rfl (by omega) dX6_init_62 ?_
  show Rk _ _ _ _ _ _ (65, [(0, vR (b))], [], ((.inr (6, [.ref (gad g (b + 1)), .ref (gad g (b + 2)), .ref (gad g (b + 3)), .ref (gad g (b + 4)), .ref (gad g (b + 5)), .ref (gad g (b + 6)), .int (Int32.ofInt 0), .int (Int32.ofInt 0)]) : va_E) :: ((((([arI g 16] ++ [arI g 16]) ++ [arI g 16]) ++ [arI g 16]) ++ [arI g 16]) ++ [arO g (b + 7) 2, arI g 8, arI g 8])), 8, 98) _
  exact Rk.rf
def lS4 (g : AG) (b : Nat) : List va_E := .inr (4, [.ref (gad g (b + 1)), .ref (gad g (b + 7))]) :: ([arO g (b + 2) 5, arI g 3, arI g 3, arI g 3, arI g 3, arI g 3] ++ [arI g 5])
set_option maxRecDepth 100000 in
set_option maxHeartbeats 4000000 in
theorem k_X4 {g : AG} {d b : Nat} (hG : Ga g) (hb : b + 8 ≤ 108) : MetK g mX4_init (d + 1) b 7 25 (.inr (4, [.null, .null]) : va_E) (lS4 g b) := by
  refine MetK.of (pcR := 21) (lsE := [(0, vR (b))]) (by decide) (by decide) rfl dX4_init_21 hG ?_
  refine Rk_aload 0 dX4_init_0 rfl rfl ?_
  refine Rk_objInit oi_X4 dX4_init_1 (by omega) (Nat.le_of_ble_eq_true rfl) ?_
  refine Rk_aload 0 dX4_init_4 rfl rfl ?_
  refine Rk_iconst (z := 5) dX4_init_5 ?_
  refine Rk_iconst (z := 3) dX4_init_6 ?_
  refine Rk_mnaQ (N := 5) (K := 3) (q := b + 1) rfl cl_X4_9 dX4_init_7 (by decide) (by decide) (by decide) (by decide) (by omega) ?_
  show Rk _ _ _ _ _ _ (11, [(0, vR (b))], [vR (b + 1), vR (b)], ((.inr (4, [.null, .null]) : va_E) :: [arO g (b + 2) 5, arI g 3, arI g 3, arI g 3, arI g 3, arI g 3]), 6, 20) _
  refine Rk_putA (i := 0) (j := 0) (v := vR (b + 1)) true cf_X4 fl_X4_11 rfl rfl rfl rfl (by decide) (Nat.le_of_ble_eq_true rfl) (fun _ => rfl) (fun _ => rfl) rfl (by omega) dX4_init_11 ?_
  show Rk _ _ _ _ _ _ (14, [(0, vR (b))], [], ((.inr (4, [.ref (gad g (b + 1)), .null]) : va_E) :: [arO g (b + 2) 5, arI g 3, arI g 3, arI g 3, arI g 3, arI g 3]), 6, 20) _
  refine Rk_aload 0 dX4_init_14 rfl rfl ?_
  refine Rk_iconst (z := 5) dX4_init_15 ?_
  refine Rk_newaQ (N := 5) (q := b + 7) rfl dX4_init_16 (by decide) (by decide) (by decide) (by omega) ?_
  show Rk _ _ _ _ _ _ (18, [(0, vR (b))], [vR (b + 7), vR (b)], ((.inr (4, [.ref (gad g (b + 1)), .null]) : va_E) :: ([arO g (b + 2) 5, arI g 3, arI g 3, arI g 3, arI g 3, arI g 3] ++ [arI g 5])), 7, 25) _
  refine Rk_putA (i := 0) (j := 1) (v := vR (b + 7)) true cf_X4 fl_X4_16 rfl rfl rfl rfl (by decide) (Nat.le_of_ble_eq_true rfl) (fun _ => rfl) (fun _ => rfl) rfl (by omega) dX4_init_18 ?_
  show Rk _ _ _ _ _ _ (21, [(0, vR (b))], [], ((.inr (4, [.ref (gad g (b + 1)), .ref (gad g (b + 7))]) : va_E) :: ([arO g (b + 2) 5, arI g 3, arI g 3, arI g 3, arI g 3, arI g 3] ++ [arI g 5])), 7, 25) _
  exact Rk.rf
