def lS8 (g : AG) : List va_E := .inr (8, [.ref (gad g (1)), .ref (gad g (4)), .ref (gad g 5), .ref (gad g (28)), .ref (gad g (52)), .ref (gad g (57)), .ref (gad g (71)), .ref (gad g (80)), .int (Int32.ofInt 0), .int (Int32.ofInt 0), .int (Int32.ofInt 0)]) :: ((((((lS3 g (1) ++ lS2 g (4)) ++ lS2 g (28)) ++ lS7 g (52)) ++ lS1 g (57)) ++ lS6 g (71)) ++ lS4 g (80))
set_option maxRecDepth 100000 in
set_option maxHeartbeats 4000000 in
theorem k_X8 {g : AG} {d : Nat} (hG : Ga g) : MetK g mX8_init (d + 3) 0 87 645 (.inr (8, [.null, .null, .null, .null, .null, .null, .null, .null, .int (Int32.ofInt 0), .int (Int32.ofInt 0), .int (Int32.ofInt 0)]) : va_E) (lS8 g) := by
  refine MetK.of (pcR := 107) (lsE := [(0, vR (0))]) (by decide) (by decide) rfl dX8_init_107 hG ?_
  refine Rk_aload 0 dX8_init_0 rfl rfl ?_
  refine Rk_objInit oi_X8 dX8_init_1 (by omega) (Nat.le_of_ble_eq_true rfl) ?_
  refine Rk_aload 0 dX8_init_4 rfl rfl ?_
  refine Rk_newQ (q := 1) (fs := [.null, .null, .int (Int32.ofInt 0)]) rfl cf_X3 cl_X8_7 it_X3 ii_X3 (dv_X3) dX8_init_5 (by decide) (by decide) (by omega) ?_
  show Rk _ _ _ _ _ _ (8, [(0, vR (0))], [vR (1), vR (0)], ((.inr (8, [.null, .null, .null, .null, .null, .null, .null, .null, .int (Int32.ofInt 0), .int (Int32.ofInt 0), .int (Int32.ofInt 0)]) : va_E) :: []) ++ [(.inr (3, [.null, .null, .int (Int32.ofInt 0)]) : va_E)], 1, 3) _
  refine Rk_dup dX8_init_8 rfl ?_
  refine Rk_callQ (q := 1) rfl li_X8_9 ci_X3 im_X3 rfl rfl (Nat.le_refl _) (Nat.le_of_ble_eq_true rfl) dX8_init_9 (k_X3 hG (by omega)) (by decide) (by decide) rfl ?_
  show Rk _ _ _ _ _ _ (12, [(0, vR (0))], [vR (1), vR (0)], ((.inr (8, [.null, .null, .null, .null, .null, .null, .null, .null, .int (Int32.ofInt 0), .int (Int32.ofInt 0), .int (Int32.ofInt 0)]) : va_E) :: lS3 g (1)), 3, 70) _
  refine Rk_putA (i := 0) (j := 0) (v := vR (1)) true cf_X8 fl_X8_10 rfl rfl rfl rfl (by decide) (Nat.le_of_ble_eq_true rfl) (fun _ => rfl) (fun _ => rfl) rfl (by omega) dX8_init_12 ?_
  show Rk _ _ _ _ _ _ (15, [(0, vR (0))], [], ((.inr (8, [.ref (gad g (1)), .null, .null, .null, .null, .null, .null, .null, .int (Int32.ofInt 0), .int (Int32.ofInt 0), .int (Int32.ofInt 0)]) : va_E) :: lS3 g (1)), 3, 70) _
  refine Rk_aload 0 dX8_init_15 rfl rfl ?_
  refine Rk_newQ (q := 4) (fs := [.null, .null, .null, .null, .null, .null, .null, .int (Int32.ofInt 0), .int (Int32.ofInt 0)]) rfl cf_X2 cl_X8_16 it_X2 ii_X2 (dv_X2) dX8_init_16 (by decide) (by decide) (by omega) ?_
  show Rk _ _ _ _ _ _ (19, [(0, vR (0))], [vR (4), vR (0)], ((.inr (8, [.ref (gad g (1)), .null, .null, .null, .null, .null, .null, .null, .int (Int32.ofInt 0), .int (Int32.ofInt 0), .int (Int32.ofInt 0)]) : va_E) :: lS3 g (1)) ++ [(.inr (2, [.null, .null, .null, .null, .null, .null, .null, .int (Int32.ofInt 0), .int (Int32.ofInt 0)]) : va_E)], 4, 79) _
  refine Rk_dup dX8_init_19 rfl ?_
  refine Rk_callQ (q := 4) rfl li_X8_18 ci_X2 im_X2 rfl rfl (Nat.le_refl _) (Nat.le_of_ble_eq_true rfl) dX8_init_20 (k_X2 hG (by omega)) (by decide) (by decide) rfl ?_
  show Rk _ _ _ _ _ _ (23, [(0, vR (0))], [vR (4), vR (0)], ((.inr (8, [.ref (gad g (1)), .null, .null, .null, .null, .null, .null, .null, .int (Int32.ofInt 0), .int (Int32.ofInt 0), .int (Int32.ofInt 0)]) : va_E) :: (lS3 g (1) ++ lS2 g (4))), 27, 230) _
  refine Rk_putA (i := 0) (j := 1) (v := vR (4)) true cf_X8 fl_X8_19 rfl rfl rfl rfl (by decide) (Nat.le_of_ble_eq_true rfl) (fun _ => rfl) (fun _ => rfl) rfl (by omega) dX8_init_23 ?_
  show Rk _ _ _ _ _ _ (26, [(0, vR (0))], [], ((.inr (8, [.ref (gad g (1)), .ref (gad g (4)), .null, .null, .null, .null, .null, .null, .int (Int32.ofInt 0), .int (Int32.ofInt 0), .int (Int32.ofInt 0)]) : va_E) :: (lS3 g (1) ++ lS2 g (4))), 27, 230) _
  refine Rk_aload 0 dX8_init_26 rfl rfl ?_
  refine Rk_aload 0 dX8_init_27 rfl rfl ?_
  refine Rk_getR (i := 0) (j := 1) (r := 4) cf_X8 lk_X8_19 rfl (by decide) rfl rfl (by omega) dX8_init_28 ?_
  refine Rk_getR (i := 4) (j := 0) (r := 5) cf_X2 lk_X8_23 rfl (by decide) rfl rfl (by omega) dX8_init_31 ?_
  refine Rk_putA (i := 0) (j := 2) (v := vR 5) true cf_X8 fl_X8_27 rfl rfl rfl rfl (by decide) (Nat.le_of_ble_eq_true rfl) (fun _ => rfl) (fun _ => rfl) rfl (by omega) dX8_init_34 ?_
  show Rk _ _ _ _ _ _ (37, [(0, vR (0))], [], ((.inr (8, [.ref (gad g (1)), .ref (gad g (4)), .ref (gad g 5), .null, .null, .null, .null, .null, .int (Int32.ofInt 0), .int (Int32.ofInt 0), .int (Int32.ofInt 0)]) : va_E) :: (lS3 g (1) ++ lS2 g (4))), 27, 230) _
  refine Rk_aload 0 dX8_init_37 rfl rfl ?_
  refine Rk_newQ (q := 28) (fs := [.null, .null, .null, .null, .null, .null, .null, .int (Int32.ofInt 0), .int (Int32.ofInt 0)]) rfl cf_X2 cl_X8_16 it_X2 ii_X2 (dv_X2) dX8_init_38 (by decide) (by decide) (by omega) ?_
  show Rk _ _ _ _ _ _ (41, [(0, vR (0))], [vR (28), vR (0)], ((.inr (8, [.ref (gad g (1)), .ref (gad g (4)), .ref (gad g 5), .null, .null, .null, .null, .null, .int (Int32.ofInt 0), .int (Int32.ofInt 0), .int (Int32.ofInt 0)]) : va_E) :: (lS3 g (1) ++ lS2 g (4))) ++ [(.inr (2, [.null, .null, .null, .null, .null, .null, .null, .int (Int32.ofInt 0), .int (Int32.ofInt 0)]) : va_E)], 28, 239) _
  refine Rk_dup dX8_init_41 rfl ?_
  refine Rk_callQ (q := 28) rfl li_X8_18 ci_X2 im_X2 rfl rfl (Nat.le_refl _) (Nat.le_of_ble_eq_true rfl) dX8_init_42 (k_X2 hG (by omega)) (by decide) (by decide) rfl ?_
  show Rk _ _ _ _ _ _ (45, [(0, vR (0))], [vR (28), vR (0)], ((.inr (8, [.ref (gad g (1)), .ref (gad g (4)), .ref (gad g 5), .null, .null, .null, .null, .null, .int (Int32.ofInt 0), .int (Int32.ofInt 0), .int (Int32.ofInt 0)]) : va_E) :: ((lS3 g (1) ++ lS2 g (4)) ++ lS2 g (28))), 51, 390) _
  refine Rk_putA (i := 0) (j := 3) (v := vR (28)) true cf_X8 fl_X8_28 rfl rfl rfl rfl (by decide) (Nat.le_of_ble_eq_true rfl) (fun _ => rfl) (fun _ => rfl) rfl (by omega) dX8_init_45 ?_
  show Rk _ _ _ _ _ _ (48, [(0, vR (0))], [], ((.inr (8, [.ref (gad g (1)), .ref (gad g (4)), .ref (gad g 5), .ref (gad g (28)), .null, .null, .null, .null, .int (Int32.ofInt 0), .int (Int32.ofInt 0), .int (Int32.ofInt 0)]) : va_E) :: ((lS3 g (1) ++ lS2 g (4)) ++ lS2 g (28))), 51, 390) _
  refine Rk_aload 0 dX8_init_48 rfl rfl ?_
  refine Rk_newQ (q := 52) (fs := [.null, .null]) rfl cf_X7 cl_X8_31 it_X7 ii_X7 (dv_X7) dX8_init_49 (by decide) (by decide) (by omega) ?_
  show Rk _ _ _ _ _ _ (52, [(0, vR (0))], [vR (52), vR (0)], ((.inr (8, [.ref (gad g (1)), .ref (gad g (4)), .ref (gad g 5), .ref (gad g (28)), .null, .null, .null, .null, .int (Int32.ofInt 0), .int (Int32.ofInt 0), .int (Int32.ofInt 0)]) : va_E) :: ((lS3 g (1) ++ lS2 g (4)) ++ lS2 g (28))) ++ [(.inr (7, [.null, .null]) : va_E)], 52, 392) _
  refine Rk_dup dX8_init_52 rfl ?_
  refine Rk_callQ (q := 52) rfl li_X8_33 ci_X7 im_X7 rfl rfl (Nat.le_refl _) (Nat.le_of_ble_eq_true rfl) dX8_init_53 (k_X7 hG (by omega)) (by decide) (by decide) rfl ?_
  show Rk _ _ _ _ _ _ (56, [(0, vR (0))], [vR (52), vR (0)], ((.inr (8, [.ref (gad g (1)), .ref (gad g (4)), .ref (gad g 5), .ref (gad g (28)), .null, .null, .null, .null, .int (Int32.ofInt 0), .int (Int32.ofInt 0), .int (Int32.ofInt 0)]) : va_E) :: (((lS3 g (1) ++ lS2 g (4)) ++ lS2 g (28)) ++ lS7 g (52))), 56, 412) _
  refine Rk_putA (i := 0) (j := 4) (v := vR (52)) true cf_X8 fl_X8_34 rfl rfl rfl rfl (by decide) (Nat.le_of_ble_eq_true rfl) (fun _ => rfl) (fun _ => rfl) rfl (by omega) dX8_init_56 ?_
  show Rk _ _ _ _ _ _ (59, [(0, vR (0))], [], ((.inr (8, [.ref (gad g (1)), .ref (gad g (4)), .ref (gad g 5), .ref (gad g (28)), .ref (gad g (52)), .null, .null, .null, .int (Int32.ofInt 0), .int (Int32.ofInt 0), .int (Int32.ofInt 0)]) : va_E) :: (((lS3 g (1) ++ lS2 g (4)) ++ lS2 g (28)) ++ lS7 g (52))), 56, 412) _
  refine Rk_aload 0 dX8_init_59 rfl rfl ?_
  refine Rk_newQ (q := 57) (fs := [.null, .null, .null]) rfl cf_X1 cl_X8_37 it_X1 ii_X1 (dv_X1) dX8_init_60 (by decide) (by decide) (by omega) ?_
  show Rk _ _ _ _ _ _ (63, [(0, vR (0))], [vR (57), vR (0)], ((.inr (8, [.ref (gad g (1)), .ref (gad g (4)), .ref (gad g 5), .ref (gad g (28)), .ref (gad g (52)), .null, .null, .null, .int (Int32.ofInt 0), .int (Int32.ofInt 0), .int (Int32.ofInt 0)]) : va_E) :: (((lS3 g (1) ++ lS2 g (4)) ++ lS2 g (28)) ++ lS7 g (52))) ++ [(.inr (1, [.null, .null, .null]) : va_E)], 57, 415) _
  refine Rk_dup dX8_init_63 rfl ?_
  refine Rk_callQ (q := 57) rfl li_X8_39 ci_X1 im_X1 rfl rfl (Nat.le_refl _) (Nat.le_of_ble_eq_true rfl) dX8_init_64 (k_X1 hG (by omega)) (by decide) (by decide) rfl ?_
  show Rk _ _ _ _ _ _ (67, [(0, vR (0))], [vR (57), vR (0)], ((.inr (8, [.ref (gad g (1)), .ref (gad g (4)), .ref (gad g 5), .ref (gad g (28)), .ref (gad g (52)), .null, .null, .null, .int (Int32.ofInt 0), .int (Int32.ofInt 0), .int (Int32.ofInt 0)]) : va_E) :: ((((lS3 g (1) ++ lS2 g (4)) ++ lS2 g (28)) ++ lS7 g (52)) ++ lS1 g (57))), 70, 512) _
  refine Rk_putA (i := 0) (j := 5) (v := vR (57)) true cf_X8 fl_X8_40 rfl rfl rfl rfl (by decide) (Nat.le_of_ble_eq_true rfl) (fun _ => rfl) (fun _ => rfl) rfl (by omega) dX8_init_67 ?_
  show Rk _ _ _ _ _ _ (70, [(0, vR (0))], [], ((.inr (8, [.ref (gad g (1)), .ref (gad g (4)), .ref (gad g 5), .ref (gad g (28)), .ref (gad g (52)), .ref (gad g (57)), .null, .null, .int (Int32.ofInt 0), .int (Int32.ofInt 0), .int (Int32.ofInt 0)]) : va_E) :: ((((lS3 g (1) ++ lS2 g (4)) ++ lS2 g (28)) ++ lS7 g (52)) ++ lS1 g (57))), 70, 512) _
  refine Rk_aload 0 dX8_init_70 rfl rfl ?_
  refine Rk_newQ (q := 71) (fs := [.null, .null, .null, .null, .null, .null, .int (Int32.ofInt 0), .int (Int32.ofInt 0)]) rfl cf_X6 cl_X8_44 it_X6 ii_X6 (dv_X6) dX8_init_71 (by decide) (by decide) (by omega) ?_
  show Rk _ _ _ _ _ _ (74, [(0, vR (0))], [vR (71), vR (0)], ((.inr (8, [.ref (gad g (1)), .ref (gad g (4)), .ref (gad g 5), .ref (gad g (28)), .ref (gad g (52)), .ref (gad g (57)), .null, .null, .int (Int32.ofInt 0), .int (Int32.ofInt 0), .int (Int32.ofInt 0)]) : va_E) :: ((((lS3 g (1) ++ lS2 g (4)) ++ lS2 g (28)) ++ lS7 g (52)) ++ lS1 g (57))) ++ [(.inr (6, [.null, .null, .null, .null, .null, .null, .int (Int32.ofInt 0), .int (Int32.ofInt 0)]) : va_E)], 71, 520) _
  refine Rk_dup dX8_init_74 rfl ?_
  refine Rk_callQ (q := 71) rfl li_X8_46 ci_X6 im_X6 rfl rfl (Nat.le_refl _) (Nat.le_of_ble_eq_true rfl) dX8_init_75 (k_X6 hG (by omega)) (by decide) (by decide) rfl ?_
  show Rk _ _ _ _ _ _ (78, [(0, vR (0))], [vR (71), vR (0)], ((.inr (8, [.ref (gad g (1)), .ref (gad g (4)), .ref (gad g 5), .ref (gad g (28)), .ref (gad g (52)), .ref (gad g (57)), .null, .null, .int (Int32.ofInt 0), .int (Int32.ofInt 0), .int (Int32.ofInt 0)]) : va_E) :: (((((lS3 g (1) ++ lS2 g (4)) ++ lS2 g (28)) ++ lS7 g (52)) ++ lS1 g (57)) ++ lS6 g (71))), 79, 618) _
  refine Rk_putA (i := 0) (j := 6) (v := vR (71)) true cf_X8 fl_X8_47 rfl rfl rfl rfl (by decide) (Nat.le_of_ble_eq_true rfl) (fun _ => rfl) (fun _ => rfl) rfl (by omega) dX8_init_78 ?_
  show Rk _ _ _ _ _ _ (81, [(0, vR (0))], [], ((.inr (8, [.ref (gad g (1)), .ref (gad g (4)), .ref (gad g 5), .ref (gad g (28)), .ref (gad g (52)), .ref (gad g (57)), .ref (gad g (71)), .null, .int (Int32.ofInt 0), .int (Int32.ofInt 0), .int (Int32.ofInt 0)]) : va_E) :: (((((lS3 g (1) ++ lS2 g (4)) ++ lS2 g (28)) ++ lS7 g (52)) ++ lS1 g (57)) ++ lS6 g (71))), 79, 618) _
  refine Rk_aload 0 dX8_init_81 rfl rfl ?_
  refine Rk_newQ (q := 80) (fs := [.null, .null]) rfl cf_X4 cl_X8_51 it_X4 ii_X4 (dv_X4) dX8_init_82 (by decide) (by decide) (by omega) ?_
  show Rk _ _ _ _ _ _ (85, [(0, vR (0))], [vR (80), vR (0)], ((.inr (8, [.ref (gad g (1)), .ref (gad g (4)), .ref (gad g 5), .ref (gad g (28)), .ref (gad g (52)), .ref (gad g (57)), .ref (gad g (71)), .null, .int (Int32.ofInt 0), .int (Int32.ofInt 0), .int (Int32.ofInt 0)]) : va_E) :: (((((lS3 g (1) ++ lS2 g (4)) ++ lS2 g (28)) ++ lS7 g (52)) ++ lS1 g (57)) ++ lS6 g (71))) ++ [(.inr (4, [.null, .null]) : va_E)], 80, 620) _
  refine Rk_dup dX8_init_85 rfl ?_
  refine Rk_callQ (q := 80) rfl li_X8_53 ci_X4 im_X4 rfl rfl (Nat.le_refl _) (Nat.le_of_ble_eq_true rfl) dX8_init_86 (k_X4 hG (by omega)) (by decide) (by decide) rfl ?_
  show Rk _ _ _ _ _ _ (89, [(0, vR (0))], [vR (80), vR (0)], ((.inr (8, [.ref (gad g (1)), .ref (gad g (4)), .ref (gad g 5), .ref (gad g (28)), .ref (gad g (52)), .ref (gad g (57)), .ref (gad g (71)), .null, .int (Int32.ofInt 0), .int (Int32.ofInt 0), .int (Int32.ofInt 0)]) : va_E) :: ((((((lS3 g (1) ++ lS2 g (4)) ++ lS2 g (28)) ++ lS7 g (52)) ++ lS1 g (57)) ++ lS6 g (71)) ++ lS4 g (80))), 87, 645) _
  refine Rk_putA (i := 0) (j := 7) (v := vR (80)) true cf_X8 fl_X8_54 rfl rfl rfl rfl (by decide) (Nat.le_of_ble_eq_true rfl) (fun _ => rfl) (fun _ => rfl) rfl (by omega) dX8_init_89 ?_
  show Rk _ _ _ _ _ _ (92, [(0, vR (0))], [], ((.inr (8, [.ref (gad g (1)), .ref (gad g (4)), .ref (gad g 5), .ref (gad g (28)), .ref (gad g (52)), .ref (gad g (57)), .ref (gad g (71)), .ref (gad g (80)), .int (Int32.ofInt 0), .int (Int32.ofInt 0), .int (Int32.ofInt 0)]) : va_E) :: ((((((lS3 g (1) ++ lS2 g (4)) ++ lS2 g (28)) ++ lS7 g (52)) ++ lS1 g (57)) ++ lS6 g (71)) ++ lS4 g (80))), 87, 645) _
  refine Rk_aload 0 dX8_init_92 rfl rfl ?_
  refine Rk_iconst (z := 0) dX8_init_93 ?_
  refine Rk_putA (i := 0) (j := 8) (v := vI 0) false cf_X8 fl_X8_58 rfl rfl rfl rfl (by decide) (Nat.le_of_ble_eq_true rfl) (fun _ => nar_bool (Or.inl rfl)) (fun _ => fit_bool (Or.inl rfl)) rfl (by omega) dX8_init_94 ?_
  show Rk _ _ _ _ _ _ (97, [(0, vR (0))], [], ((.inr (8, [.ref (gad g (1)), .ref (gad g (4)), .ref (gad g 5), .ref (gad g (28)), .ref (gad g (52)), .ref (gad g (57)), .ref (gad g (71)), .ref (gad g (80)), .int (Int32.ofInt 0), .int (Int32.ofInt 0), .int (Int32.ofInt 0)]) : va_E) :: ((((((lS3 g (1) ++ lS2 g (4)) ++ lS2 g (28)) ++ lS7 g (52)) ++ lS1 g (57)) ++ lS6 g (71)) ++ lS4 g (80))), 87, 645) _
  refine Rk_aload 0 dX8_init_97 rfl rfl ?_
  refine Rk_iconst (z := 0) dX8_init_98 ?_
  refine Rk_putA (i := 0) (j := 9) (v := vI 0) false cf_X8 fl_X8_62 rfl rfl rfl rfl (by decide) (Nat.le_of_ble_eq_true rfl) (fun _ => nar_bool (Or.inl rfl)) (fun _ => fit_bool (Or.inl rfl)) rfl (by omega) dX8_init_99 ?_
  show Rk _ _ _ _ _ _ (102, [(0, vR (0))], [], ((.inr (8, [.ref (gad g (1)), .ref (gad g (4)), .ref (gad g 5), .ref (gad g (28)), .ref (gad g (52)), .ref (gad g (57)), .ref (gad g (71)), .ref (gad g (80)), .int (Int32.ofInt 0), .int (Int32.ofInt 0), .int (Int32.ofInt 0)]) : va_E) :: ((((((lS3 g (1) ++ lS2 g (4)) ++ lS2 g (28)) ++ lS7 g (52)) ++ lS1 g (57)) ++ lS6 g (71)) ++ lS4 g (80))), 87, 645) _
  refine Rk_aload 0 dX8_init_102 rfl rfl ?_
  refine Rk_iconst (z := 0) dX8_init_103 ?_
  refine Rk_putA (i := 0) (j := 10) (v := vI 0) false cf_X8 fl_X8_65 rfl rfl rfl rfl (by decide) (Nat.le_of_ble_eq_true rfl) (fun _ => rfl) (fun _ => rfl) rfl (by omega) dX8_init_104 ?_
  show Rk _ _ _ _ _ _ (107, [(0, vR (0))], [], ((.inr (8, [.ref (gad g (1)), .ref (gad g (4)), .ref (gad g 5), .ref (gad g (28)), .ref (gad g (52)), .ref (gad g (57)), .ref (gad g (71)), .ref (gad g (80)), .int (Int32.ofInt 0), .int (Int32.ofInt 0), .int (Int32.ofInt 0)]) : va_E) :: ((((((lS3 g (1) ++ lS2 g (4)) ++ lS2 g (28)) ++ lS7 g (52)) ++ lS1 g (57)) ++ lS6 g (71)) ++ lS4 g (80))), 87, 645) _
  exact Rk.rf
