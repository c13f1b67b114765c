theorem dX6_addStep_28 : decode cX6_addStep 28 = .ok (.getfield 32, 3) := by decide +kernel
theorem dX6_addStep_31 : decode cX6_addStep 31 = .ok (.iload_n 2, 1) := by decide +kernel
theorem dX6_addStep_32 : decode cX6_addStep 32 = .ok (.iastore, 1) := by decide +kernel
theorem dX6_addStep_33 : decode cX6_addStep 33 = .ok (.aload_n 0, 1) := by decide +kernel
theorem dX6_addStep_34 : decode cX6_addStep 34 = .ok (.getfield 18, 3) := by decide +kernel
theorem dX6_addStep_37 : decode cX6_addStep 37 = .ok (.aload_n 0, 1) := by decide +kernel
theorem dX6_addStep_38 : decode cX6_addStep 38 = .ok (.getfield 32, 3) := by decide +kernel
theorem dX6_addStep_41 : decode cX6_addStep 41 = .ok (.iload_n 3, 1) := by decide +kernel
theorem dX6_addStep_42 : decode cX6_addStep 42 = .ok (.iastore, 1) := by decide +kernel
theorem dX6_addStep_43 : decode cX6_addStep 43 = .ok (.aload_n 0, 1) := by decide +kernel
theorem dX6_addStep_44 : decode cX6_addStep 44 = .ok (.getfield 21, 3) := by decide +kernel
theorem dX6_addStep_47 : decode cX6_addStep 47 = .ok (.aload_n 0, 1) := by decide +kernel
theorem dX6_addStep_48 : decode cX6_addStep 48 = .ok (.getfield 32, 3) := by decide +kernel
theorem dX6_addStep_51 : decode cX6_addStep 51 = .ok (.fload 4, 2) := by decide +kernel
theorem dX6_addStep_53 : decode cX6_addStep 53 = .ok (.invokestatic 89, 3) := by decide +kernel
theorem dX6_addStep_56 : decode cX6_addStep 56 = .ok (.iastore, 1) := by decide +kernel
theorem dX6_addStep_57 : decode cX6_addStep 57 = .ok (.aload_n 0, 1) := by decide +kernel
theorem dX6_addStep_58 : decode cX6_addStep 58 = .ok (.getfield 24, 3) := by decide +kernel
theorem dX6_addStep_61 : decode cX6_addStep 61 = .ok (.aload_n 0, 1) := by decide +kernel
theorem dX6_addStep_62 : decode cX6_addStep 62 = .ok (.getfield 32, 3) := by decide +kernel
theorem dX6_addStep_65 : decode cX6_addStep 65 = .ok (.iload 5, 2) := by decide +kernel
theorem dX6_addStep_67 : decode cX6_addStep 67 = .ok (.iastore, 1) := by decide +kernel
theorem dX6_addStep_68 : decode cX6_addStep 68 = .ok (.aload_n 0, 1) := by decide +kernel
theorem dX6_addStep_69 : decode cX6_addStep 69 = .ok (.dup, 1) := by decide +kernel
theorem dX6_addStep_70 : decode cX6_addStep 70 = .ok (.getfield 32, 3) := by decide +kernel
theorem dX6_addStep_73 : decode cX6_addStep 73 = .ok (.iconst 1, 1) := by decide +kernel
theorem dX6_addStep_74 : decode cX6_addStep 74 = .ok (.iadd, 1) := by decide +kernel
theorem dX6_addStep_75 : decode cX6_addStep 75 = .ok (.putfield 32, 3) := by decide +kernel
theorem dX6_addStep_78 : decode cX6_addStep 78 = .ok (.return_, 1) := by decide +kernel
theorem dX7_init_0 : decode cX7_init 0 = .ok (.aload_n 0, 1) := by decide +kernel
theorem dX7_init_1 : decode cX7_init 1 = .ok (.invokespecial 3, 3) := by decide +kernel
theorem dX7_init_4 : decode cX7_init 4 = .ok (.aload_n 0, 1) := by decide +kernel
theorem dX7_init_5 : decode cX7_init 5 = .ok (.iconst 2, 1) := by decide +kernel
theorem dX7_init_6 : decode cX7_init 6 = .ok (.bipush 8, 2) := by decide +kernel
theorem dX7_init_8 : decode cX7_init 8 = .ok (.multianewarray 9 2, 4) := by decide +kernel
theorem dX7_init_12 : decode cX7_init 12 = .ok (.putfield 11, 3) := by decide +kernel
theorem dX7_init_15 : decode cX7_init 15 = .ok (.aload_n 0, 1) := by decide +kernel
theorem dX7_init_16 : decode cX7_init 16 = .ok (.iconst 2, 1) := by decide +kernel
theorem dX7_init_17 : decode cX7_init 17 = .ok (.newarray .int, 2) := by decide +kernel
theorem dX7_init_19 : decode cX7_init 19 = .ok (.putfield 16, 3) := by decide +kernel
theorem dX7_init_22 : decode cX7_init 22 = .ok (.return_, 1) := by decide +kernel
theorem dX7_has_0 : decode cX7_has 0 = .ok (.iload_n 1, 1) := by decide +kernel
theorem dX7_has_1 : decode cX7_has 1 = .ok (.invokestatic 20, 3) := by decide +kernel
theorem dX7_has_4 : decode cX7_has 4 = .ok (.ifCond .eq 21, 3) := by decide +kernel
theorem dX7_has_7 : decode cX7_has 7 = .ok (.iload_n 2, 1) := by decide +kernel
theorem dX7_has_8 : decode cX7_has 8 = .ok (.ifCond .lt 17, 3) := by decide +kernel
theorem dX7_has_11 : decode cX7_has 11 = .ok (.iload_n 2, 1) := by decide +kernel
theorem dX7_has_12 : decode cX7_has 12 = .ok (.aload_n 0, 1) := by decide +kernel
theorem dX7_has_13 : decode cX7_has 13 = .ok (.getfield 16, 3) := by decide +kernel
theorem dX7_has_16 : decode cX7_has 16 = .ok (.iload_n 1, 1) := by decide +kernel
theorem dX7_has_17 : decode cX7_has 17 = .ok (.iaload, 1) := by decide +kernel
theorem dX7_has_18 : decode cX7_has 18 = .ok (.if_icmp .ge 7, 3) := by decide +kernel
theorem dX7_has_21 : decode cX7_has 21 = .ok (.iconst 1, 1) := by decide +kernel
theorem dX7_has_22 : decode cX7_has 22 = .ok (.goto 4, 3) := by decide +kernel
theorem dX7_has_25 : decode cX7_has 25 = .ok (.iconst 0, 1) := by decide +kernel
theorem dX7_has_26 : decode cX7_has 26 = .ok (.ireturn, 1) := by decide +kernel
theorem dX7_total_0 : decode cX7_total 0 = .ok (.aload_n 0, 1) := by decide +kernel
theorem dX7_total_1 : decode cX7_total 1 = .ok (.getfield 16, 3) := by decide +kernel
theorem dX7_total_4 : decode cX7_total 4 = .ok (.iconst 0, 1) := by decide +kernel
theorem dX7_total_5 : decode cX7_total 5 = .ok (.iaload, 1) := by decide +kernel
theorem dX7_total_6 : decode cX7_total 6 = .ok (.aload_n 0, 1) := by decide +kernel
theorem dX7_total_7 : decode cX7_total 7 = .ok (.getfield 16, 3) := by decide +kernel
theorem dX7_total_10 : decode cX7_total 10 = .ok (.iconst 1, 1) := by decide +kernel
theorem dX7_total_11 : decode cX7_total 11 = .ok (.iaload, 1) := by decide +kernel
theorem dX7_total_12 : decode cX7_total 12 = .ok (.iadd, 1) := by decide +kernel
theorem dX7_total_13 : decode cX7_total 13 = .ok (.ireturn, 1) := by decide +kernel
theorem dX7_clear_0 : decode cX7_clear 0 = .ok (.aload_n 0, 1) := by decide +kernel
theorem dX7_clear_1 : decode cX7_clear 1 = .ok (.getfield 16, 3) := by decide +kernel
theorem dX7_clear_4 : decode cX7_clear 4 = .ok (.iconst 0, 1) := by decide +kernel
theorem dX7_clear_5 : decode cX7_clear 5 = .ok (.iconst 0, 1) := by decide +kernel
theorem dX7_clear_6 : decode cX7_clear 6 = .ok (.iastore, 1) := by decide +kernel
theorem dX7_clear_7 : decode cX7_clear 7 = .ok (.aload_n 0, 1) := by decide +kernel
theorem dX7_clear_8 : decode cX7_clear 8 = .ok (.getfield 16, 3) := by decide +kernel
theorem dX7_clear_11 : decode cX7_clear 11 = .ok (.iconst 1, 1) := by decide +kernel
theorem dX7_clear_12 : decode cX7_clear 12 = .ok (.iconst 0, 1) := by decide +kernel
theorem dX7_clear_13 : decode cX7_clear 13 = .ok (.iastore, 1) := by decide +kernel
theorem dX7_clear_14 : decode cX7_clear 14 = .ok (.return_, 1) := by decide +kernel
theorem dX7_copyFrom_0 : decode cX7_copyFrom 0 = .ok (.iconst 0, 1) := by decide +kernel
theorem dX7_copyFrom_1 : decode cX7_copyFrom 1 = .ok (.istore_n 2, 1) := by decide +kernel
theorem dX7_copyFrom_2 : decode cX7_copyFrom 2 = .ok (.iload_n 2, 1) := by decide +kernel
theorem dX7_copyFrom_3 : decode cX7_copyFrom 3 = .ok (.iconst 2, 1) := by decide +kernel
theorem dX7_copyFrom_4 : decode cX7_copyFrom 4 = .ok (.if_icmp .ge 40, 3) := by decide +kernel
theorem dX7_copyFrom_7 : decode cX7_copyFrom 7 = .ok (.aload_n 0, 1) := by decide +kernel
theorem dX7_copyFrom_8 : decode cX7_copyFrom 8 = .ok (.getfield 16, 3) := by decide +kernel
theorem dX7_copyFrom_11 : decode cX7_copyFrom 11 = .ok (.iload_n 2, 1) := by decide +kernel
theorem dX7_copyFrom_12 : decode cX7_copyFrom 12 = .ok (.aload_n 1, 1) := by decide +kernel
theorem dX7_copyFrom_13 : decode cX7_copyFrom 13 = .ok (.getfield 16, 3) := by decide +kernel
theorem dX7_copyFrom_16 : decode cX7_copyFrom 16 = .ok (.iload_n 2, 1) := by decide +kernel
theorem dX7_copyFrom_17 : decode cX7_copyFrom 17 = .ok (.iaload, 1) := by decide +kernel
theorem dX7_copyFrom_18 : decode cX7_copyFrom 18 = .ok (.iastore, 1) := by decide +kernel
theorem dX7_copyFrom_19 : decode cX7_copyFrom 19 = .ok (.aload_n 1, 1) := by decide +kernel
theorem dX7_copyFrom_20 : decode cX7_copyFrom 20 = .ok (.getfield 11, 3) := by decide +kernel
theorem dX7_copyFrom_23 : decode cX7_copyFrom 23 = .ok (.iload_n 2, 1) := by decide +kernel
theorem dX7_copyFrom_24 : decode cX7_copyFrom 24 = .ok (.aaload, 1) := by decide +kernel
theorem dX7_copyFrom_25 : decode cX7_copyFrom 25 = .ok (.iconst 0, 1) := by decide +kernel
theorem dX7_copyFrom_26 : decode cX7_copyFrom 26 = .ok (.aload_n 0, 1) := by decide +kernel
theorem dX7_copyFrom_27 : decode cX7_copyFrom 27 = .ok (.getfield 11, 3) := by decide +kernel
theorem dX7_copyFrom_30 : decode cX7_copyFrom 30 = .ok (.iload_n 2, 1) := by decide +kernel
theorem dX7_copyFrom_31 : decode cX7_copyFrom 31 = .ok (.aaload, 1) := by decide +kernel
theorem dX7_copyFrom_32 : decode cX7_copyFrom 32 = .ok (.iconst 0, 1) := by decide +kernel
theorem dX7_copyFrom_33 : decode cX7_copyFrom 33 = .ok (.bipush 8, 2) := by decide +kernel
theorem dX7_copyFrom_35 : decode cX7_copyFrom 35 = .ok (.invokestatic 24, 3) := by decide +kernel
theorem dX7_copyFrom_38 : decode cX7_copyFrom 38 = .ok (.iinc 2 1, 3) := by decide +kernel
theorem dX7_copyFrom_41 : decode cX7_copyFrom 41 = .ok (.goto (-39), 3) := by decide +kernel
theorem dX7_copyFrom_44 : decode cX7_copyFrom 44 = .ok (.return_, 1) := by decide +kernel
theorem dX7_appendLine_0 : decode cX7_appendLine 0 = .ok (.iload_n 2, 1) := by decide +kernel
theorem dX7_appendLine_1 : decode cX7_appendLine 1 = .ok (.ifCond .eq 15, 3) := by decide +kernel
theorem dX7_appendLine_4 : decode cX7_appendLine 4 = .ok (.aload_n 0, 1) := by decide +kernel
theorem dX7_appendLine_5 : decode cX7_appendLine 5 = .ok (.iload_n 1, 1) := by decide +kernel
theorem dX7_appendLine_6 : decode cX7_appendLine 6 = .ok (.aload_n 0, 1) := by decide +kernel
theorem dX7_appendLine_7 : decode cX7_appendLine 7 = .ok (.getfield 16, 3) := by decide +kernel
theorem dX7_appendLine_10 : decode cX7_appendLine 10 = .ok (.iload_n 1, 1) := by decide +kernel
theorem dX7_appendLine_11 : decode cX7_appendLine 11 = .ok (.iaload, 1) := by decide +kernel
theorem dX7_appendLine_12 : decode cX7_appendLine 12 = .ok (.iload_n 2, 1) := by decide +kernel
theorem dX7_appendLine_13 : decode cX7_appendLine 13 = .ok (.invokevirtual 30, 3) := by decide +kernel
theorem dX7_appendLine_16 : decode cX7_appendLine 16 = .ok (.return_, 1) := by decide +kernel
theorem dX7_insert_0 : decode cX7_insert 0 = .ok (.iload_n 1, 1) := by decide +kernel
theorem dX7_insert_1 : decode cX7_insert 1 = .ok (.invokestatic 20, 3) := by decide +kernel
theorem dX7_insert_4 : decode cX7_insert 4 = .ok (.ifCond .eq 28, 3) := by decide +kernel
theorem dX7_insert_7 : decode cX7_insert 7 = .ok (.iload_n 2, 1) := by decide +kernel
theorem dX7_insert_8 : decode cX7_insert 8 = .ok (.ifCond .lt 24, 3) := by decide +kernel
theorem dX7_insert_11 : decode cX7_insert 11 = .ok (.iload_n 2, 1) := by decide +kernel
theorem dX7_insert_12 : decode cX7_insert 12 = .ok (.aload_n 0, 1) := by decide +kernel
theorem dX7_insert_13 : decode cX7_insert 13 = .ok (.getfield 16, 3) := by decide +kernel
theorem dX7_insert_16 : decode cX7_insert 16 = .ok (.iload_n 1, 1) := by decide +kernel
theorem dX7_insert_17 : decode cX7_insert 17 = .ok (.iaload, 1) := by decide +kernel
theorem dX7_insert_18 : decode cX7_insert 18 = .ok (.if_icmp .gt 14, 3) := by decide +kernel
theorem dX7_insert_21 : decode cX7_insert 21 = .ok (.aload_n 0, 1) := by decide +kernel
theorem dX7_insert_22 : decode cX7_insert 22 = .ok (.getfield 16, 3) := by decide +kernel
theorem dX7_insert_25 : decode cX7_insert 25 = .ok (.iload_n 1, 1) := by decide +kernel
theorem dX7_insert_26 : decode cX7_insert 26 = .ok (.iaload, 1) := by decide +kernel
theorem dX7_insert_27 : decode cX7_insert 27 = .ok (.bipush 8, 2) := by decide +kernel
theorem dX7_insert_29 : decode cX7_insert 29 = .ok (.if_icmp .lt 4, 3) := by decide +kernel
theorem dX7_insert_32 : decode cX7_insert 32 = .ok (.return_, 1) := by decide +kernel
theorem dX7_insert_33 : decode cX7_insert 33 = .ok (.aload_n 0, 1) := by decide +kernel
theorem dX7_insert_34 : decode cX7_insert 34 = .ok (.getfield 11, 3) := by decide +kernel
theorem dX7_insert_37 : decode cX7_insert 37 = .ok (.iload_n 1, 1) := by decide +kernel
theorem dX7_insert_38 : decode cX7_insert 38 = .ok (.aaload, 1) := by decide +kernel
theorem dX7_insert_39 : decode cX7_insert 39 = .ok (.astore 4, 2) := by decide +kernel
theorem dX7_insert_41 : decode cX7_insert 41 = .ok (.aload_n 0, 1) := by decide +kernel
theorem dX7_insert_42 : decode cX7_insert 42 = .ok (.getfield 16, 3) := by decide +kernel
theorem dX7_insert_45 : decode cX7_insert 45 = .ok (.iload_n 1, 1) := by decide +kernel
theorem dX7_insert_46 : decode cX7_insert 46 = .ok (.iaload, 1) := by decide +kernel
theorem dX7_insert_47 : decode cX7_insert 47 = .ok (.istore 5, 2) := by decide +kernel
theorem dX7_insert_49 : decode cX7_insert 49 = .ok (.iload 5, 2) := by decide +kernel
theorem dX7_insert_51 : decode cX7_insert 51 = .ok (.iload_n 2, 1) := by decide +kernel
theorem dX7_insert_52 : decode cX7_insert 52 = .ok (.if_icmp .le 21, 3) := by decide +kernel
theorem dX7_insert_55 : decode cX7_insert 55 = .ok (.aload 4, 2) := by decide +kernel
theorem dX7_insert_57 : decode cX7_insert 57 = .ok (.iload 5, 2) := by decide +kernel
theorem dX7_insert_59 : decode cX7_insert 59 = .ok (.aload 4, 2) := by decide +kernel
theorem dX7_insert_61 : decode cX7_insert 61 = .ok (.iload 5, 2) := by decide +kernel
theorem dX7_insert_63 : decode cX7_insert 63 = .ok (.iconst 1, 1) := by decide +kernel
theorem dX7_insert_64 : decode cX7_insert 64 = .ok (.isub, 1) := by decide +kernel
theorem dX7_insert_65 : decode cX7_insert 65 = .ok (.iaload, 1) := by decide +kernel
theorem dX7_insert_66 : decode cX7_insert 66 = .ok (.iastore, 1) := by decide +kernel
theorem dX7_insert_67 : decode cX7_insert 67 = .ok (.iinc 5 (-1), 3) := by decide +kernel
theorem dX7_insert_70 : decode cX7_insert 70 = .ok (.goto (-21), 3) := by decide +kernel
theorem dX7_insert_73 : decode cX7_insert 73 = .ok (.aload 4, 2) := by decide +kernel
theorem dX7_insert_75 : decode cX7_insert 75 = .ok (.iload_n 2, 1) := by decide +kernel
theorem dX7_insert_76 : decode cX7_insert 76 = .ok (.iload_n 3, 1) := by decide +kernel
theorem dX7_insert_77 : decode cX7_insert 77 = .ok (.iastore, 1) := by decide +kernel
theorem dX7_insert_78 : decode cX7_insert 78 = .ok (.aload_n 0, 1) := by decide +kernel
theorem dX7_insert_79 : decode cX7_insert 79 = .ok (.getfield 16, 3) := by decide +kernel
theorem dX7_insert_82 : decode cX7_insert 82 = .ok (.iload_n 1, 1) := by decide +kernel
theorem dX7_insert_83 : decode cX7_insert 83 = .ok (.dup2, 1) := by decide +kernel
theorem dX7_insert_84 : decode cX7_insert 84 = .ok (.iaload, 1) := by decide +kernel
theorem dX7_insert_85 : decode cX7_insert 85 = .ok (.iconst 1, 1) := by decide +kernel
theorem dX7_insert_86 : decode cX7_insert 86 = .ok (.iadd, 1) := by decide +kernel
theorem dX7_insert_87 : decode cX7_insert 87 = .ok (.iastore, 1) := by decide +kernel
theorem dX7_insert_88 : decode cX7_insert 88 = .ok (.return_, 1) := by decide +kernel
theorem dX7_remove_0 : decode cX7_remove 0 = .ok (.aload_n 0, 1) := by decide +kernel
theorem dX7_remove_1 : decode cX7_remove 1 = .ok (.iload_n 1, 1) := by decide +kernel
theorem dX7_remove_2 : decode cX7_remove 2 = .ok (.iload_n 2, 1) := by decide +kernel
theorem dX7_remove_3 : decode cX7_remove 3 = .ok (.invokevirtual 34, 3) := by decide +kernel
theorem dX7_remove_6 : decode cX7_remove 6 = .ok (.ifCond .ne 4, 3) := by decide +kernel
theorem dX7_remove_9 : decode cX7_remove 9 = .ok (.return_, 1) := by decide +kernel
theorem dX7_remove_10 : decode cX7_remove 10 = .ok (.aload_n 0, 1) := by decide +kernel
theorem dX7_remove_11 : decode cX7_remove 11 = .ok (.getfield 11, 3) := by decide +kernel
theorem dX7_remove_14 : decode cX7_remove 14 = .ok (.iload_n 1, 1) := by decide +kernel
theorem dX7_remove_15 : decode cX7_remove 15 = .ok (.aaload, 1) := by decide +kernel
theorem dX7_remove_16 : decode cX7_remove 16 = .ok (.astore_n 3, 1) := by decide +kernel
theorem dX7_remove_17 : decode cX7_remove 17 = .ok (.aload_n 0, 1) := by decide +kernel
theorem dX7_remove_18 : decode cX7_remove 18 = .ok (.getfield 16, 3) := by decide +kernel
theorem dX7_remove_21 : decode cX7_remove 21 = .ok (.iload_n 1, 1) := by decide +kernel
theorem dX7_remove_22 : decode cX7_remove 22 = .ok (.dup2, 1) := by decide +kernel
theorem dX7_remove_23 : decode cX7_remove 23 = .ok (.iaload, 1) := by decide +kernel
theorem dX7_remove_24 : decode cX7_remove 24 = .ok (.iconst 1, 1) := by decide +kernel
theorem dX7_remove_25 : decode cX7_remove 25 = .ok (.isub, 1) := by decide +kernel
theorem dX7_remove_26 : decode cX7_remove 26 = .ok (.iastore, 1) := by decide +kernel
theorem dX7_remove_27 : decode cX7_remove 27 = .ok (.iload_n 2, 1) := by decide +kernel
theorem dX7_remove_28 : decode cX7_remove 28 = .ok (.istore 4, 2) := by decide +kernel
theorem dX7_remove_30 : decode cX7_remove 30 = .ok (.iload 4, 2) := by decide +kernel
theorem dX7_remove_32 : decode cX7_remove 32 = .ok (.aload_n 0, 1) := by decide +kernel
theorem dX7_remove_33 : decode cX7_remove 33 = .ok (.getfield 16, 3) := by decide +kernel
theorem dX7_remove_36 : decode cX7_remove 36 = .ok (.iload_n 1, 1) := by decide +kernel
theorem dX7_remove_37 : decode cX7_remove 37 = .ok (.iaload, 1) := by decide +kernel
theorem dX7_remove_38 : decode cX7_remove 38 = .ok (.if_icmp .ge 19, 3) := by decide +kernel
theorem dX7_remove_41 : decode cX7_remove 41 = .ok (.aload_n 3, 1) := by decide +kernel
theorem dX7_remove_42 : decode cX7_remove 42 = .ok (.iload 4, 2) := by decide +kernel
theorem dX7_remove_44 : decode cX7_remove 44 = .ok (.aload_n 3, 1) := by decide +kernel
theorem dX7_remove_45 : decode cX7_remove 45 = .ok (.iload 4, 2) := by decide +kernel
theorem dX7_remove_47 : decode cX7_remove 47 = .ok (.iconst 1, 1) := by decide +kernel
theorem dX7_remove_48 : decode cX7_remove 48 = .ok (.iadd, 1) := by decide +kernel
theorem dX7_remove_49 : decode cX7_remove 49 = .ok (.iaload, 1) := by decide +kernel
theorem dX7_remove_50 : decode cX7_remove 50 = .ok (.iastore, 1) := by decide +kernel
theorem dX7_remove_51 : decode cX7_remove 51 = .ok (.iinc 4 1, 3) := by decide +kernel
theorem dX7_remove_54 : decode cX7_remove 54 = .ok (.goto (-24), 3) := by decide +kernel
theorem dX7_remove_57 : decode cX7_remove 57 = .ok (.return_, 1) := by decide +kernel
theorem dX7_exchangeLines_0 : decode cX7_exchangeLines 0 = .ok (.aload_n 0, 1) := by decide +kernel
theorem dX7_exchangeLines_1 : decode cX7_exchangeLines 1 = .ok (.iload_n 1, 1) := by decide +kernel
theorem dX7_exchangeLines_2 : decode cX7_exchangeLines 2 = .ok (.iload_n 2, 1) := by decide +kernel
theorem dX7_exchangeLines_3 : decode cX7_exchangeLines 3 = .ok (.invokevirtual 34, 3) := by decide +kernel
theorem dX7_exchangeLines_6 : decode cX7_exchangeLines 6 = .ok (.ifCond .eq 12, 3) := by decide +kernel
theorem dX7_exchangeLines_9 : decode cX7_exchangeLines 9 = .ok (.aload_n 0, 1) := by decide +kernel
theorem dX7_exchangeLines_10 : decode cX7_exchangeLines 10 = .ok (.iload_n 1, 1) := by decide +kernel
theorem dX7_exchangeLines_11 : decode cX7_exchangeLines 11 = .ok (.iload_n 3, 1) := by decide +kernel
theorem dX7_exchangeLines_12 : decode cX7_exchangeLines 12 = .ok (.invokevirtual 34, 3) := by decide +kernel
theorem dX7_exchangeLines_15 : decode cX7_exchangeLines 15 = .ok (.ifCond .ne 4, 3) := by decide +kernel
theorem dX7_exchangeLines_18 : decode cX7_exchangeLines 18 = .ok (.return_, 1) := by decide +kernel
theorem dX7_exchangeLines_19 : decode cX7_exchangeLines 19 = .ok (.aload_n 0, 1) := by decide +kernel
theorem dX7_exchangeLines_20 : decode cX7_exchangeLines 20 = .ok (.getfield 11, 3) := by decide +kernel
theorem dX7_exchangeLines_23 : decode cX7_exchangeLines 23 = .ok (.iload_n 1, 1) := by decide +kernel
theorem dX7_exchangeLines_24 : decode cX7_exchangeLines 24 = .ok (.aaload, 1) := by decide +kernel
theorem dX7_exchangeLines_25 : decode cX7_exchangeLines 25 = .ok (.iload_n 2, 1) := by decide +kernel
theorem dX7_exchangeLines_26 : decode cX7_exchangeLines 26 = .ok (.iaload, 1) := by decide +kernel
theorem dX7_exchangeLines_27 : decode cX7_exchangeLines 27 = .ok (.istore 4, 2) := by decide +kernel
theorem dX7_exchangeLines_29 : decode cX7_exchangeLines 29 = .ok (.aload_n 0, 1) := by decide +kernel
theorem dX7_exchangeLines_30 : decode cX7_exchangeLines 30 = .ok (.getfield 11, 3) := by decide +kernel
theorem dX7_exchangeLines_33 : decode cX7_exchangeLines 33 = .ok (.iload_n 1, 1) := by decide +kernel
theorem dX7_exchangeLines_34 : decode cX7_exchangeLines 34 = .ok (.aaload, 1) := by decide +kernel
theorem dX7_exchangeLines_35 : decode cX7_exchangeLines 35 = .ok (.iload_n 2, 1) := by decide +kernel
theorem dX7_exchangeLines_36 : decode cX7_exchangeLines 36 = .ok (.aload_n 0, 1) := by decide +kernel
theorem dX7_exchangeLines_37 : decode cX7_exchangeLines 37 = .ok (.getfield 11, 3) := by decide +kernel
theorem dX7_exchangeLines_40 : decode cX7_exchangeLines 40 = .ok (.iload_n 1, 1) := by decide +kernel
theorem dX7_exchangeLines_41 : decode cX7_exchangeLines 41 = .ok (.aaload, 1) := by decide +kernel
theorem dX7_exchangeLines_42 : decode cX7_exchangeLines 42 = .ok (.iload_n 3, 1) := by decide +kernel
theorem dX7_exchangeLines_43 : decode cX7_exchangeLines 43 = .ok (.iaload, 1) := by decide +kernel
theorem dX7_exchangeLines_44 : decode cX7_exchangeLines 44 = .ok (.iastore, 1) := by decide +kernel
theorem dX7_exchangeLines_45 : decode cX7_exchangeLines 45 = .ok (.aload_n 0, 1) := by decide +kernel
theorem dX7_exchangeLines_46 : decode cX7_exchangeLines 46 = .ok (.getfield 11, 3) := by decide +kernel
theorem dX7_exchangeLines_49 : decode cX7_exchangeLines 49 = .ok (.iload_n 1, 1) := by decide +kernel
theorem dX7_exchangeLines_50 : decode cX7_exchangeLines 50 = .ok (.aaload, 1) := by decide +kernel
theorem dX7_exchangeLines_51 : decode cX7_exchangeLines 51 = .ok (.iload_n 3, 1) := by decide +kernel
theorem dX7_exchangeLines_52 : decode cX7_exchangeLines 52 = .ok (.iload 4, 2) := by decide +kernel
theorem dX7_exchangeLines_54 : decode cX7_exchangeLines 54 = .ok (.iastore, 1) := by decide +kernel
theorem dX7_exchangeLines_55 : decode cX7_exchangeLines 55 = .ok (.return_, 1) := by decide +kernel
theorem dX7_exchangeSides_0 : decode cX7_exchangeSides 0 = .ok (.iconst 0, 1) := by decide +kernel
theorem dX7_exchangeSides_1 : decode cX7_exchangeSides 1 = .ok (.istore_n 1, 1) := by decide +kernel
theorem dX7_exchangeSides_2 : decode cX7_exchangeSides 2 = .ok (.iload_n 1, 1) := by decide +kernel
theorem dX7_exchangeSides_3 : decode cX7_exchangeSides 3 = .ok (.bipush 8, 2) := by decide +kernel
theorem dX7_exchangeSides_5 : decode cX7_exchangeSides 5 = .ok (.if_icmp .ge 43, 3) := by decide +kernel
theorem dX7_exchangeSides_8 : decode cX7_exchangeSides 8 = .ok (.aload_n 0, 1) := by decide +kernel
theorem dX7_exchangeSides_9 : decode cX7_exchangeSides 9 = .ok (.getfield 11, 3) := by decide +kernel
theorem dX7_exchangeSides_12 : decode cX7_exchangeSides 12 = .ok (.iconst 0, 1) := by decide +kernel
theorem dX7_exchangeSides_13 : decode cX7_exchangeSides 13 = .ok (.aaload, 1) := by decide +kernel
theorem dX7_exchangeSides_14 : decode cX7_exchangeSides 14 = .ok (.iload_n 1, 1) := by decide +kernel
theorem dX7_exchangeSides_15 : decode cX7_exchangeSides 15 = .ok (.iaload, 1) := by decide +kernel
theorem dX7_exchangeSides_16 : decode cX7_exchangeSides 16 = .ok (.istore_n 2, 1) := by decide +kernel
theorem dX7_exchangeSides_17 : decode cX7_exchangeSides 17 = .ok (.aload_n 0, 1) := by decide +kernel
theorem dX7_exchangeSides_18 : decode cX7_exchangeSides 18 = .ok (.getfield 11, 3) := by decide +kernel
theorem dX7_exchangeSides_21 : decode cX7_exchangeSides 21 = .ok (.iconst 0, 1) := by decide +kernel
theorem dX7_exchangeSides_22 : decode cX7_exchangeSides 22 = .ok (.aaload, 1) := by decide +kernel
theorem dX7_exchangeSides_23 : decode cX7_exchangeSides 23 = .ok (.iload_n 1, 1) := by decide +kernel
theorem dX7_exchangeSides_24 : decode cX7_exchangeSides 24 = .ok (.aload_n 0, 1) := by decide +kernel
theorem dX7_exchangeSides_25 : decode cX7_exchangeSides 25 = .ok (.getfield 11, 3) := by decide +kernel
theorem dX7_exchangeSides_28 : decode cX7_exchangeSides 28 = .ok (.iconst 1, 1) := by decide +kernel
theorem dX7_exchangeSides_29 : decode cX7_exchangeSides 29 = .ok (.aaload, 1) := by decide +kernel
theorem dX7_exchangeSides_30 : decode cX7_exchangeSides 30 = .ok (.iload_n 1, 1) := by decide +kernel
theorem dX7_exchangeSides_31 : decode cX7_exchangeSides 31 = .ok (.iaload, 1) := by decide +kernel
theorem dX7_exchangeSides_32 : decode cX7_exchangeSides 32 = .ok (.iastore, 1) := by decide +kernel
theorem dX7_exchangeSides_33 : decode cX7_exchangeSides 33 = .ok (.aload_n 0, 1) := by decide +kernel
theorem dX7_exchangeSides_34 : decode cX7_exchangeSides 34 = .ok (.getfield 11, 3) := by decide +kernel
theorem dX7_exchangeSides_37 : decode cX7_exchangeSides 37 = .ok (.iconst 1, 1) := by decide +kernel
theorem dX7_exchangeSides_38 : decode cX7_exchangeSides 38 = .ok (.aaload, 1) := by decide +kernel
theorem dX7_exchangeSides_39 : decode cX7_exchangeSides 39 = .ok (.iload_n 1, 1) := by decide +kernel
theorem dX7_exchangeSides_40 : decode cX7_exchangeSides 40 = .ok (.iload_n 2, 1) := by decide +kernel
theorem dX7_exchangeSides_41 : decode cX7_exchangeSides 41 = .ok (.iastore, 1) := by decide +kernel
theorem dX7_exchangeSides_42 : decode cX7_exchangeSides 42 = .ok (.iinc 1 1, 3) := by decide +kernel
theorem dX7_exchangeSides_45 : decode cX7_exchangeSides 45 = .ok (.goto (-43), 3) := by decide +kernel
theorem dX7_exchangeSides_48 : decode cX7_exchangeSides 48 = .ok (.aload_n 0, 1) := by decide +kernel
theorem dX7_exchangeSides_49 : decode cX7_exchangeSides 49 = .ok (.getfield 16, 3) := by decide +kernel
theorem dX7_exchangeSides_52 : decode cX7_exchangeSides 52 = .ok (.iconst 0, 1) := by decide +kernel
theorem dX7_exchangeSides_53 : decode cX7_exchangeSides 53 = .ok (.iaload, 1) := by decide +kernel
theorem dX7_exchangeSides_54 : decode cX7_exchangeSides 54 = .ok (.istore_n 1, 1) := by decide +kernel
theorem dX7_exchangeSides_55 : decode cX7_exchangeSides 55 = .ok (.aload_n 0, 1) := by decide +kernel
theorem dX7_exchangeSides_56 : decode cX7_exchangeSides 56 = .ok (.getfield 16, 3) := by decide +kernel
theorem dX7_exchangeSides_59 : decode cX7_exchangeSides 59 = .ok (.iconst 0, 1) := by decide +kernel
theorem dX7_exchangeSides_60 : decode cX7_exchangeSides 60 = .ok (.aload_n 0, 1) := by decide +kernel
theorem dX7_exchangeSides_61 : decode cX7_exchangeSides 61 = .ok (.getfield 16, 3) := by decide +kernel
theorem dX7_exchangeSides_64 : decode cX7_exchangeSides 64 = .ok (.iconst 1, 1) := by decide +kernel
theorem dX7_exchangeSides_65 : decode cX7_exchangeSides 65 = .ok (.iaload, 1) := by decide +kernel
theorem dX7_exchangeSides_66 : decode cX7_exchangeSides 66 = .ok (.iastore, 1) := by decide +kernel
theorem dX7_exchangeSides_67 : decode cX7_exchangeSides 67 = .ok (.aload_n 0, 1) := by decide +kernel
theorem dX7_exchangeSides_68 : decode cX7_exchangeSides 68 = .ok (.getfield 16, 3) := by decide +kernel
theorem dX7_exchangeSides_71 : decode cX7_exchangeSides 71 = .ok (.iconst 1, 1) := by decide +kernel
theorem dX7_exchangeSides_72 : decode cX7_exchangeSides 72 = .ok (.iload_n 1, 1) := by decide +kernel
theorem dX7_exchangeSides_73 : decode cX7_exchangeSides 73 = .ok (.iastore, 1) := by decide +kernel
theorem dX7_exchangeSides_74 : decode cX7_exchangeSides 74 = .ok (.return_, 1) := by decide +kernel
theorem dX8_init_0 : decode cX8_init 0 = .ok (.aload_n 0, 1) := by decide +kernel
theorem dX8_init_1 : decode cX8_init 1 = .ok (.invokespecial 1, 3) := by decide +kernel
theorem dX8_init_4 : decode cX8_init 4 = .ok (.aload_n 0, 1) := by decide +kernel
theorem dX8_init_5 : decode cX8_init 5 = .ok (.new 7, 3) := by decide +kernel
theorem dX8_init_8 : decode cX8_init 8 = .ok (.dup, 1) := by decide +kernel
theorem dX8_init_9 : decode cX8_init 9 = .ok (.invokespecial 9, 3) := by decide +kernel
theorem dX8_init_12 : decode cX8_init 12 = .ok (.putfield 10, 3) := by decide +kernel
theorem dX8_init_15 : decode cX8_init 15 = .ok (.aload_n 0, 1) := by decide +kernel
theorem dX8_init_16 : decode cX8_init 16 = .ok (.new 16, 3) := by decide +kernel
theorem dX8_init_19 : decode cX8_init 19 = .ok (.dup, 1) := by decide +kernel
theorem dX8_init_20 : decode cX8_init 20 = .ok (.invokespecial 18, 3) := by decide +kernel
theorem dX8_init_23 : decode cX8_init 23 = .ok (.putfield 19, 3) := by decide +kernel
theorem dX8_init_26 : decode cX8_init 26 = .ok (.aload_n 0, 1) := by decide +kernel
theorem dX8_init_27 : decode cX8_init 27 = .ok (.aload_n 0, 1) := by decide +kernel
theorem dX8_init_28 : decode cX8_init 28 = .ok (.getfield 19, 3) := by decide +kernel
theorem dX8_init_31 : decode cX8_init 31 = .ok (.getfield 23, 3) := by decide +kernel
theorem dX8_init_34 : decode cX8_init 34 = .ok (.putfield 27, 3) := by decide +kernel
theorem dX8_init_37 : decode cX8_init 37 = .ok (.aload_n 0, 1) := by decide +kernel
theorem dX8_init_38 : decode cX8_init 38 = .ok (.new 16, 3) := by decide +kernel
theorem dX8_init_41 : decode cX8_init 41 = .ok (.dup, 1) := by decide +kernel
theorem dX8_init_42 : decode cX8_init 42 = .ok (.invokespecial 18, 3) := by decide +kernel
theorem dX8_init_45 : decode cX8_init 45 = .ok (.putfield 28, 3) := by decide +kernel
theorem dX8_init_48 : decode cX8_init 48 = .ok (.aload_n 0, 1) := by decide +kernel
theorem dX8_init_49 : decode cX8_init 49 = .ok (.new 31, 3) := by decide +kernel
theorem dX8_init_52 : decode cX8_init 52 = .ok (.dup, 1) := by decide +kernel
theorem dX8_init_53 : decode cX8_init 53 = .ok (.invokespecial 33, 3) := by decide +kernel
theorem dX8_init_56 : decode cX8_init 56 = .ok (.putfield 34, 3) := by decide +kernel
theorem dX8_init_59 : decode cX8_init 59 = .ok (.aload_n 0, 1) := by decide +kernel
theorem dX8_init_60 : decode cX8_init 60 = .ok (.new 37, 3) := by decide +kernel
theorem dX8_init_63 : decode cX8_init 63 = .ok (.dup, 1) := by decide +kernel
theorem dX8_init_64 : decode cX8_init 64 = .ok (.invokespecial 39, 3) := by decide +kernel
theorem dX8_init_67 : decode cX8_init 67 = .ok (.putfield 40, 3) := by decide +kernel
theorem dX8_init_70 : decode cX8_init 70 = .ok (.aload_n 0, 1) := by decide +kernel
theorem dX8_init_71 : decode cX8_init 71 = .ok (.new 44, 3) := by decide +kernel
theorem dX8_init_74 : decode cX8_init 74 = .ok (.dup, 1) := by decide +kernel
theorem dX8_init_75 : decode cX8_init 75 = .ok (.invokespecial 46, 3) := by decide +kernel
theorem dX8_init_78 : decode cX8_init 78 = .ok (.putfield 47, 3) := by decide +kernel
theorem dX8_init_81 : decode cX8_init 81 = .ok (.aload_n 0, 1) := by decide +kernel
theorem dX8_init_82 : decode cX8_init 82 = .ok (.new 51, 3) := by decide +kernel
theorem dX8_init_85 : decode cX8_init 85 = .ok (.dup, 1) := by decide +kernel
theorem dX8_init_86 : decode cX8_init 86 = .ok (.invokespecial 53, 3) := by decide +kernel
theorem dX8_init_89 : decode cX8_init 89 = .ok (.putfield 54, 3) := by decide +kernel
theorem dX8_init_92 : decode cX8_init 92 = .ok (.aload_n 0, 1) := by decide +kernel
theorem dX8_init_93 : decode cX8_init 93 = .ok (.iconst 0, 1) := by decide +kernel
theorem dX8_init_94 : decode cX8_init 94 = .ok (.putfield 58, 3) := by decide +kernel
theorem dX8_init_97 : decode cX8_init 97 = .ok (.aload_n 0, 1) := by decide +kernel
theorem dX8_init_98 : decode cX8_init 98 = .ok (.iconst 0, 1) := by decide +kernel
theorem dX8_init_99 : decode cX8_init 99 = .ok (.putfield 62, 3) := by decide +kernel
theorem dX8_init_102 : decode cX8_init 102 = .ok (.aload_n 0, 1) := by decide +kernel
theorem dX8_init_103 : decode cX8_init 103 = .ok (.iconst 0, 1) := by decide +kernel
theorem dX8_init_104 : decode cX8_init 104 = .ok (.putfield 65, 3) := by decide +kernel
theorem dX8_init_107 : decode cX8_init 107 = .ok (.return_, 1) := by decide +kernel
theorem dX8_letter_0 : decode cX8_letter 0 = .ok (.iload_n 1, 1) := by decide +kernel
theorem dX8_letter_1 : decode cX8_letter 1 = .ok (.iconst 1, 1) := by decide +kernel
theorem dX8_letter_2 : decode cX8_letter 2 = .ok (.if_icmp .lt 9, 3) := by decide +kernel
theorem dX8_letter_5 : decode cX8_letter 5 = .ok (.iload_n 1, 1) := by decide +kernel
theorem dX8_letter_6 : decode cX8_letter 6 = .ok (.bipush 126, 2) := by decide +kernel
theorem dX8_letter_8 : decode cX8_letter 8 = .ok (.if_icmp .le 6, 3) := by decide +kernel
theorem dX8_letter_11 : decode cX8_letter 11 = .ok (.bipush (-102), 2) := by decide +kernel
theorem dX8_letter_13 : decode cX8_letter 13 = .ok (.ireturn, 1) := by decide +kernel
theorem dX8_letter_14 : decode cX8_letter 14 = .ok (.aload_n 0, 1) := by decide +kernel
theorem dX8_letter_15 : decode cX8_letter 15 = .ok (.getfield 10, 3) := by decide +kernel
theorem dX8_letter_18 : decode cX8_letter 18 = .ok (.iload_n 1, 1) := by decide +kernel
theorem dX8_letter_19 : decode cX8_letter 19 = .ok (.invokevirtual 69, 3) := by decide +kernel
theorem dX8_letter_22 : decode cX8_letter 22 = .ok (.ifCond .eq 13, 3) := by decide +kernel
theorem dX8_letter_25 : decode cX8_letter 25 = .ok (.aload_n 0, 1) := by decide +kernel
theorem dX8_letter_26 : decode cX8_letter 26 = .ok (.getfield 10, 3) := by decide +kernel
theorem dX8_letter_29 : decode cX8_letter 29 = .ok (.getfield 73, 3) := by decide +kernel
theorem dX8_letter_32 : decode cX8_letter 32 = .ok (.goto 5, 3) := by decide +kernel
theorem dX8_letter_35 : decode cX8_letter 35 = .ok (.bipush (-104), 2) := by decide +kernel
theorem dX8_letter_37 : decode cX8_letter 37 = .ok (.ireturn, 1) := by decide +kernel
theorem dX8_blank_0 : decode cX8_blank 0 = .ok (.aload_n 0, 1) := by decide +kernel
theorem dX8_blank_1 : decode cX8_blank 1 = .ok (.getfield 10, 3) := by decide +kernel
theorem dX8_blank_4 : decode cX8_blank 4 = .ok (.getfield 73, 3) := by decide +kernel
theorem dX8_blank_7 : decode cX8_blank 7 = .ok (.istore_n 1, 1) := by decide +kernel
theorem dX8_blank_8 : decode cX8_blank 8 = .ok (.aload_n 0, 1) := by decide +kernel
theorem dX8_blank_9 : decode cX8_blank 9 = .ok (.getfield 10, 3) := by decide +kernel
theorem dX8_blank_12 : decode cX8_blank 12 = .ok (.iconst 0, 1) := by decide +kernel
theorem dX8_blank_13 : decode cX8_blank 13 = .ok (.putfield 73, 3) := by decide +kernel
theorem dX8_blank_16 : decode cX8_blank 16 = .ok (.iload_n 1, 1) := by decide +kernel
theorem dX8_blank_17 : decode cX8_blank 17 = .ok (.ireturn, 1) := by decide +kernel
theorem dX8_fault_0 : decode cX8_fault 0 = .ok (.aload_n 0, 1) := by decide +kernel
theorem dX8_fault_1 : decode cX8_fault 1 = .ok (.getfield 10, 3) := by decide +kernel
theorem dX8_fault_4 : decode cX8_fault 4 = .ok (.invokevirtual 76, 3) := by decide +kernel
theorem dX8_fault_7 : decode cX8_fault 7 = .ok (.ireturn, 1) := by decide +kernel
theorem dX8_text_0 : decode cX8_text 0 = .ok (.aload_n 0, 1) := by decide +kernel
theorem dX8_text_1 : decode cX8_text 1 = .ok (.getfield 10, 3) := by decide +kernel
theorem dX8_text_4 : decode cX8_text 4 = .ok (.invokevirtual 80, 3) := by decide +kernel
theorem dX8_text_7 : decode cX8_text 7 = .ok (.ifCond .ne 6, 3) := by decide +kernel
theorem dX8_text_10 : decode cX8_text 10 = .ok (.bipush (-103), 2) := by decide +kernel
theorem dX8_text_12 : decode cX8_text 12 = .ok (.ireturn, 1) := by decide +kernel
theorem dX8_text_13 : decode cX8_text 13 = .ok (.aload_n 0, 1) := by decide +kernel
theorem dX8_text_14 : decode cX8_text 14 = .ok (.getfield 10, 3) := by decide +kernel
theorem dX8_text_17 : decode cX8_text 17 = .ok (.aload_n 0, 1) := by decide +kernel
theorem dX8_text_18 : decode cX8_text 18 = .ok (.getfield 27, 3) := by decide +kernel
theorem dX8_text_21 : decode cX8_text 21 = .ok (.invokevirtual 84, 3) := by decide +kernel
theorem dX8_text_24 : decode cX8_text 24 = .ok (.aload_n 0, 1) := by decide +kernel
theorem dX8_text_25 : decode cX8_text 25 = .ok (.getfield 10, 3) := by decide +kernel
theorem dX8_text_28 : decode cX8_text 28 = .ok (.iconst 0, 1) := by decide +kernel
theorem dX8_text_29 : decode cX8_text 29 = .ok (.putfield 73, 3) := by decide +kernel
theorem dX8_text_32 : decode cX8_text 32 = .ok (.aload_n 0, 1) := by decide +kernel
theorem dX8_text_33 : decode cX8_text 33 = .ok (.iconst 1, 1) := by decide +kernel
theorem dX8_text_34 : decode cX8_text 34 = .ok (.putfield 58, 3) := by decide +kernel
theorem dX8_text_37 : decode cX8_text 37 = .ok (.aload_n 0, 1) := by decide +kernel
theorem dX8_text_38 : decode cX8_text 38 = .ok (.iconst 0, 1) := by decide +kernel
theorem dX8_text_39 : decode cX8_text 39 = .ok (.putfield 62, 3) := by decide +kernel
theorem dX8_text_42 : decode cX8_text 42 = .ok (.aload_n 0, 1) := by decide +kernel
theorem dX8_text_43 : decode cX8_text 43 = .ok (.dup, 1) := by decide +kernel
theorem dX8_text_44 : decode cX8_text 44 = .ok (.getfield 65, 3) := by decide +kernel
theorem dX8_text_47 : decode cX8_text 47 = .ok (.iconst 1, 1) := by decide +kernel
theorem dX8_text_48 : decode cX8_text 48 = .ok (.iadd, 1) := by decide +kernel
theorem dX8_text_49 : decode cX8_text 49 = .ok (.putfield 65, 3) := by decide +kernel
theorem dX8_text_52 : decode cX8_text 52 = .ok (.aload_n 0, 1) := by decide +kernel
theorem dX8_text_53 : decode cX8_text 53 = .ok (.invokevirtual 88, 3) := by decide +kernel
theorem dX8_text_56 : decode cX8_text 56 = .ok (.pop, 1) := by decide +kernel
theorem dX8_text_57 : decode cX8_text 57 = .ok (.aload_n 0, 1) := by decide +kernel
theorem dX8_text_58 : decode cX8_text 58 = .ok (.getfield 27, 3) := by decide +kernel
theorem dX8_text_61 : decode cX8_text 61 = .ok (.invokevirtual 91, 3) := by decide +kernel
theorem dX8_text_64 : decode cX8_text 64 = .ok (.ireturn, 1) := by decide +kernel
theorem dX8_line_0 : decode cX8_line 0 = .ok (.aload_n 0, 1) := by decide +kernel
theorem dX8_line_1 : decode cX8_line 1 = .ok (.getfield 27, 3) := by decide +kernel
theorem dX8_line_4 : decode cX8_line 4 = .ok (.iload_n 1, 1) := by decide +kernel
theorem dX8_line_5 : decode cX8_line 5 = .ok (.iload_n 2, 1) := by decide +kernel
theorem dX8_line_6 : decode cX8_line 6 = .ok (.invokevirtual 94, 3) := by decide +kernel
theorem dX8_line_9 : decode cX8_line 9 = .ok (.ifCond .ne 6, 3) := by decide +kernel
theorem dX8_line_12 : decode cX8_line 12 = .ok (.bipush (-101), 2) := by decide +kernel
theorem dX8_line_14 : decode cX8_line 14 = .ok (.ireturn, 1) := by decide +kernel
theorem dX8_line_15 : decode cX8_line 15 = .ok (.iload_n 3, 1) := by decide +kernel
theorem dX8_line_16 : decode cX8_line 16 = .ok (.ifCond .lt 9, 3) := by decide +kernel
theorem dX8_line_19 : decode cX8_line 19 = .ok (.iload_n 3, 1) := by decide +kernel
theorem dX8_line_20 : decode cX8_line 20 = .ok (.bipush 6, 2) := by decide +kernel
theorem dX8_line_22 : decode cX8_line 22 = .ok (.if_icmp .lt 6, 3) := by decide +kernel
theorem dX8_line_25 : decode cX8_line 25 = .ok (.bipush (-102), 2) := by decide +kernel
theorem dX8_line_27 : decode cX8_line 27 = .ok (.ireturn, 1) := by decide +kernel
theorem dX8_line_28 : decode cX8_line 28 = .ok (.aload_n 0, 1) := by decide +kernel
theorem dX8_line_29 : decode cX8_line 29 = .ok (.getfield 27, 3) := by decide +kernel
theorem dX8_line_32 : decode cX8_line 32 = .ok (.getfield 98, 3) := by decide +kernel
theorem dX8_line_35 : decode cX8_line 35 = .ok (.iload_n 1, 1) := by decide +kernel
theorem dX8_line_36 : decode cX8_line 36 = .ok (.aaload, 1) := by decide +kernel
theorem dX8_line_37 : decode cX8_line 37 = .ok (.iload_n 2, 1) := by decide +kernel
theorem dX8_line_38 : decode cX8_line 38 = .ok (.iaload, 1) := by decide +kernel
theorem dX8_line_39 : decode cX8_line 39 = .ok (.istore 4, 2) := by decide +kernel
theorem dX8_line_41 : decode cX8_line 41 = .ok (.iload_n 3, 1) := by decide +kernel
theorem dX8_line_42 : decode cX8_line 42 = .ok (.ifCond .ne 9, 3) := by decide +kernel
theorem dX8_line_45 : decode cX8_line 45 = .ok (.iload 4, 2) := by decide +kernel
theorem dX8_line_47 : decode cX8_line 47 = .ok (.invokestatic 102, 3) := by decide +kernel
theorem dX8_line_50 : decode cX8_line 50 = .ok (.ireturn, 1) := by decide +kernel
theorem dX8_line_51 : decode cX8_line 51 = .ok (.iload_n 3, 1) := by decide +kernel
theorem dX8_line_52 : decode cX8_line 52 = .ok (.iconst 3, 1) := by decide +kernel
theorem dX8_line_53 : decode cX8_line 53 = .ok (.if_icmp .gt 12, 3) := by decide +kernel
theorem dX8_line_56 : decode cX8_line 56 = .ok (.iload 4, 2) := by decide +kernel
theorem dX8_line_58 : decode cX8_line 58 = .ok (.iload_n 3, 1) := by decide +kernel
theorem dX8_line_59 : decode cX8_line 59 = .ok (.iconst 1, 1) := by decide +kernel
theorem dX8_line_60 : decode cX8_line 60 = .ok (.isub, 1) := by decide +kernel
theorem dX8_line_61 : decode cX8_line 61 = .ok (.invokestatic 106, 3) := by decide +kernel
theorem dX8_line_64 : decode cX8_line 64 = .ok (.ireturn, 1) := by decide +kernel
theorem dX8_line_65 : decode cX8_line 65 = .ok (.aload_n 0, 1) := by decide +kernel
theorem dX8_line_66 : decode cX8_line 66 = .ok (.getfield 19, 3) := by decide +kernel
theorem dX8_line_69 : decode cX8_line 69 = .ok (.getfield 110, 3) := by decide +kernel
theorem dX8_line_72 : decode cX8_line 72 = .ok (.iload_n 1, 1) := by decide +kernel
theorem dX8_line_73 : decode cX8_line 73 = .ok (.aaload, 1) := by decide +kernel
theorem dX8_line_74 : decode cX8_line 74 = .ok (.iload_n 2, 1) := by decide +kernel
theorem dX8_line_75 : decode cX8_line 75 = .ok (.iaload, 1) := by decide +kernel
theorem dX8_line_76 : decode cX8_line 76 = .ok (.istore 5, 2) := by decide +kernel
theorem dX8_line_78 : decode cX8_line 78 = .ok (.iload_n 3, 1) := by decide +kernel
theorem dX8_line_79 : decode cX8_line 79 = .ok (.iconst 5, 1) := by decide +kernel
theorem dX8_line_80 : decode cX8_line 80 = .ok (.if_icmp .ne 15, 3) := by decide +kernel
theorem dX8_line_83 : decode cX8_line 83 = .ok (.iload 5, 2) := by decide +kernel
theorem dX8_line_85 : decode cX8_line 85 = .ok (.iconst (-1), 1) := by decide +kernel
theorem dX8_line_86 : decode cX8_line 86 = .ok (.if_icmp .ne 7, 3) := by decide +kernel
theorem dX8_line_89 : decode cX8_line 89 = .ok (.iconst 0, 1) := by decide +kernel
theorem dX8_line_90 : decode cX8_line 90 = .ok (.goto 4, 3) := by decide +kernel
theorem dX8_line_93 : decode cX8_line 93 = .ok (.iconst 1, 1) := by decide +kernel
theorem dX8_line_94 : decode cX8_line 94 = .ok (.ireturn, 1) := by decide +kernel
theorem dX8_line_95 : decode cX8_line 95 = .ok (.iload 5, 2) := by decide +kernel
theorem dX8_line_97 : decode cX8_line 97 = .ok (.iconst (-1), 1) := by decide +kernel
theorem dX8_line_98 : decode cX8_line 98 = .ok (.if_icmp .ne 17, 3) := by decide +kernel
theorem dX8_line_101 : decode cX8_line 101 = .ok (.aload_n 0, 1) := by decide +kernel
theorem dX8_line_102 : decode cX8_line 102 = .ok (.getfield 47, 3) := by decide +kernel
theorem dX8_line_105 : decode cX8_line 105 = .ok (.getfield 113, 3) := by decide +kernel
theorem dX8_line_108 : decode cX8_line 108 = .ok (.iload_n 1, 1) := by decide +kernel
theorem dX8_line_109 : decode cX8_line 109 = .ok (.aaload, 1) := by decide +kernel
theorem dX8_line_110 : decode cX8_line 110 = .ok (.iload_n 2, 1) := by decide +kernel
theorem dX8_line_111 : decode cX8_line 111 = .ok (.iaload, 1) := by decide +kernel
theorem dX8_line_112 : decode cX8_line 112 = .ok (.goto 5, 3) := by decide +kernel
theorem dX8_line_115 : decode cX8_line 115 = .ok (.iload 5, 2) := by decide +kernel
theorem dX8_line_117 : decode cX8_line 117 = .ok (.ireturn, 1) := by decide +kernel
theorem dX8_step_0 : decode cX8_step 0 = .ok (.aload_n 0, 1) := by decide +kernel
theorem dX8_step_1 : decode cX8_step 1 = .ok (.getfield 47, 3) := by decide +kernel
theorem dX8_step_4 : decode cX8_step 4 = .ok (.iload_n 1, 1) := by decide +kernel
theorem dX8_step_5 : decode cX8_step 5 = .ok (.invokevirtual 116, 3) := by decide +kernel
theorem dX8_step_8 : decode cX8_step 8 = .ok (.ifCond .ne 6, 3) := by decide +kernel
theorem dX8_step_11 : decode cX8_step 11 = .ok (.bipush (-101), 2) := by decide +kernel
theorem dX8_step_13 : decode cX8_step 13 = .ok (.ireturn, 1) := by decide +kernel
theorem dX8_step_14 : decode cX8_step 14 = .ok (.iload_n 2, 1) := by decide +kernel
theorem dX8_step_15 : decode cX8_step 15 = .ok (.tableswitch 83 0 4 #[33, 43, 53, 63, 73], 33) := by decide +kernel
theorem dX8_step_48 : decode cX8_step 48 = .ok (.aload_n 0, 1) := by decide +kernel
theorem dX8_step_49 : decode cX8_step 49 = .ok (.getfield 47, 3) := by decide +kernel
theorem dX8_step_52 : decode cX8_step 52 = .ok (.getfield 118, 3) := by decide +kernel
theorem dX8_step_55 : decode cX8_step 55 = .ok (.iload_n 1, 1) := by decide +kernel
theorem dX8_step_56 : decode cX8_step 56 = .ok (.iaload, 1) := by decide +kernel
theorem dX8_step_57 : decode cX8_step 57 = .ok (.ireturn, 1) := by decide +kernel
theorem dX8_step_58 : decode cX8_step 58 = .ok (.aload_n 0, 1) := by decide +kernel
theorem dX8_step_59 : decode cX8_step 59 = .ok (.getfield 47, 3) := by decide +kernel
theorem dX8_step_62 : decode cX8_step 62 = .ok (.getfield 122, 3) := by decide +kernel
theorem dX8_step_65 : decode cX8_step 65 = .ok (.iload_n 1, 1) := by decide +kernel
theorem dX8_step_66 : decode cX8_step 66 = .ok (.iaload, 1) := by decide +kernel
theorem dX8_step_67 : decode cX8_step 67 = .ok (.ireturn, 1) := by decide +kernel
theorem dX8_step_68 : decode cX8_step 68 = .ok (.aload_n 0, 1) := by decide +kernel
theorem dX8_step_69 : decode cX8_step 69 = .ok (.getfield 47, 3) := by decide +kernel
theorem dX8_step_72 : decode cX8_step 72 = .ok (.getfield 125, 3) := by decide +kernel
theorem dX8_step_75 : decode cX8_step 75 = .ok (.iload_n 1, 1) := by decide +kernel
theorem dX8_step_76 : decode cX8_step 76 = .ok (.iaload, 1) := by decide +kernel
theorem dX8_step_77 : decode cX8_step 77 = .ok (.ireturn, 1) := by decide +kernel
theorem dX8_step_78 : decode cX8_step 78 = .ok (.aload_n 0, 1) := by decide +kernel
theorem dX8_step_79 : decode cX8_step 79 = .ok (.getfield 47, 3) := by decide +kernel
theorem dX8_step_82 : decode cX8_step 82 = .ok (.getfield 128, 3) := by decide +kernel
theorem dX8_step_85 : decode cX8_step 85 = .ok (.iload_n 1, 1) := by decide +kernel
theorem dX8_step_86 : decode cX8_step 86 = .ok (.iaload, 1) := by decide +kernel
theorem dX8_step_87 : decode cX8_step 87 = .ok (.ireturn, 1) := by decide +kernel
theorem dX8_step_88 : decode cX8_step 88 = .ok (.aload_n 0, 1) := by decide +kernel
theorem dX8_step_89 : decode cX8_step 89 = .ok (.getfield 47, 3) := by decide +kernel
theorem dX8_step_92 : decode cX8_step 92 = .ok (.getfield 131, 3) := by decide +kernel
theorem dX8_step_95 : decode cX8_step 95 = .ok (.iload_n 1, 1) := by decide +kernel
theorem dX8_step_96 : decode cX8_step 96 = .ok (.iaload, 1) := by decide +kernel
theorem dX8_step_97 : decode cX8_step 97 = .ok (.ireturn, 1) := by decide +kernel
theorem dX8_step_98 : decode cX8_step 98 = .ok (.bipush (-102), 2) := by decide +kernel
theorem dX8_step_100 : decode cX8_step 100 = .ok (.ireturn, 1) := by decide +kernel
theorem dX8_letters_0 : decode cX8_letters 0 = .ok (.aload_n 0, 1) := by decide +kernel
theorem dX8_letters_1 : decode cX8_letters 1 = .ok (.getfield 47, 3) := by decide +kernel
theorem dX8_letters_4 : decode cX8_letters 4 = .ok (.iload_n 1, 1) := by decide +kernel
theorem dX8_letters_5 : decode cX8_letters 5 = .ok (.invokevirtual 116, 3) := by decide +kernel
theorem dX8_letters_8 : decode cX8_letters 8 = .ok (.ifCond .ne 6, 3) := by decide +kernel
theorem dX8_letters_11 : decode cX8_letters 11 = .ok (.bipush (-101), 2) := by decide +kernel
theorem dX8_letters_13 : decode cX8_letters 13 = .ok (.ireturn, 1) := by decide +kernel
theorem dX8_letters_14 : decode cX8_letters 14 = .ok (.aload_n 0, 1) := by decide +kernel
theorem dX8_letters_15 : decode cX8_letters 15 = .ok (.getfield 47, 3) := by decide +kernel
theorem dX8_letters_18 : decode cX8_letters 18 = .ok (.getfield 118, 3) := by decide +kernel
theorem dX8_letters_21 : decode cX8_letters 21 = .ok (.iload_n 1, 1) := by decide +kernel
theorem dX8_letters_22 : decode cX8_letters 22 = .ok (.iaload, 1) := by decide +kernel
theorem dX8_letters_23 : decode cX8_letters 23 = .ok (.iconst 3, 1) := by decide +kernel
theorem dX8_letters_24 : decode cX8_letters 24 = .ok (.invokestatic 134, 3) := by decide +kernel
theorem dX8_letters_27 : decode cX8_letters 27 = .ok (.ifCond .ne 6, 3) := by decide +kernel
theorem dX8_letters_30 : decode cX8_letters 30 = .ok (.bipush (-103), 2) := by decide +kernel
theorem dX8_letters_32 : decode cX8_letters 32 = .ok (.ireturn, 1) := by decide +kernel
theorem dX8_letters_33 : decode cX8_letters 33 = .ok (.aload_n 0, 1) := by decide +kernel
theorem dX8_letters_34 : decode cX8_letters 34 = .ok (.getfield 27, 3) := by decide +kernel
theorem dX8_letters_37 : decode cX8_letters 37 = .ok (.getfield 98, 3) := by decide +kernel
theorem dX8_letters_40 : decode cX8_letters 40 = .ok (.iconst 0, 1) := by decide +kernel
theorem dX8_letters_41 : decode cX8_letters 41 = .ok (.aaload, 1) := by decide +kernel
theorem dX8_letters_42 : decode cX8_letters 42 = .ok (.aload_n 0, 1) := by decide +kernel
theorem dX8_letters_43 : decode cX8_letters 43 = .ok (.getfield 47, 3) := by decide +kernel
theorem dX8_letters_46 : decode cX8_letters 46 = .ok (.getfield 122, 3) := by decide +kernel
theorem dX8_letters_49 : decode cX8_letters 49 = .ok (.iload_n 1, 1) := by decide +kernel
theorem dX8_letters_50 : decode cX8_letters 50 = .ok (.iaload, 1) := by decide +kernel
theorem dX8_letters_51 : decode cX8_letters 51 = .ok (.iaload, 1) := by decide +kernel
theorem dX8_letters_52 : decode cX8_letters 52 = .ok (.istore_n 3, 1) := by decide +kernel
theorem dX8_letters_53 : decode cX8_letters 53 = .ok (.aload_n 0, 1) := by decide +kernel
theorem dX8_letters_54 : decode cX8_letters 54 = .ok (.getfield 27, 3) := by decide +kernel
theorem dX8_letters_57 : decode cX8_letters 57 = .ok (.getfield 98, 3) := by decide +kernel
theorem dX8_letters_60 : decode cX8_letters 60 = .ok (.iconst 1, 1) := by decide +kernel
theorem dX8_letters_61 : decode cX8_letters 61 = .ok (.aaload, 1) := by decide +kernel
theorem dX8_letters_62 : decode cX8_letters 62 = .ok (.aload_n 0, 1) := by decide +kernel
theorem dX8_letters_63 : decode cX8_letters 63 = .ok (.getfield 47, 3) := by decide +kernel
theorem dX8_letters_66 : decode cX8_letters 66 = .ok (.getfield 125, 3) := by decide +kernel
theorem dX8_letters_69 : decode cX8_letters 69 = .ok (.iload_n 1, 1) := by decide +kernel
theorem dX8_letters_70 : decode cX8_letters 70 = .ok (.iaload, 1) := by decide +kernel
theorem dX8_letters_71 : decode cX8_letters 71 = .ok (.iaload, 1) := by decide +kernel
theorem dX8_letters_72 : decode cX8_letters 72 = .ok (.istore 4, 2) := by decide +kernel
theorem dX8_letters_74 : decode cX8_letters 74 = .ok (.aload_n 0, 1) := by decide +kernel
theorem dX8_letters_75 : decode cX8_letters 75 = .ok (.getfield 40, 3) := by decide +kernel
theorem dX8_letters_78 : decode cX8_letters 78 = .ok (.iload_n 3, 1) := by decide +kernel
theorem dX8_letters_79 : decode cX8_letters 79 = .ok (.iload 4, 2) := by decide +kernel
theorem dX8_letters_81 : decode cX8_letters 81 = .ok (.invokevirtual 137, 3) := by decide +kernel
theorem dX8_letters_84 : decode cX8_letters 84 = .ok (.istore 5, 2) := by decide +kernel
theorem dX8_letters_86 : decode cX8_letters 86 = .ok (.iload_n 2, 1) := by decide +kernel
theorem dX8_letters_87 : decode cX8_letters 87 = .ok (.tableswitch 45 0 2 #[25, 28, 36], 25) := by decide +kernel
theorem dX8_letters_112 : decode cX8_letters 112 = .ok (.iload 5, 2) := by decide +kernel
theorem dX8_letters_114 : decode cX8_letters 114 = .ok (.ireturn, 1) := by decide +kernel
theorem dX8_letters_115 : decode cX8_letters 115 = .ok (.iload_n 3, 1) := by decide +kernel
theorem dX8_letters_116 : decode cX8_letters 116 = .ok (.invokestatic 102, 3) := by decide +kernel
theorem dX8_letters_119 : decode cX8_letters 119 = .ok (.iload 5, 2) := by decide +kernel
theorem dX8_letters_121 : decode cX8_letters 121 = .ok (.isub, 1) := by decide +kernel
theorem dX8_letters_122 : decode cX8_letters 122 = .ok (.ireturn, 1) := by decide +kernel
theorem dX8_letters_123 : decode cX8_letters 123 = .ok (.iload 4, 2) := by decide +kernel
theorem dX8_letters_125 : decode cX8_letters 125 = .ok (.invokestatic 102, 3) := by decide +kernel
theorem dX8_letters_128 : decode cX8_letters 128 = .ok (.iload 5, 2) := by decide +kernel
theorem dX8_letters_130 : decode cX8_letters 130 = .ok (.isub, 1) := by decide +kernel
theorem dX8_letters_131 : decode cX8_letters 131 = .ok (.ireturn, 1) := by decide +kernel
theorem dX8_letters_132 : decode cX8_letters 132 = .ok (.bipush (-102), 2) := by decide +kernel
theorem dX8_letters_134 : decode cX8_letters 134 = .ok (.ireturn, 1) := by decide +kernel
theorem dX8_like_0 : decode cX8_like 0 = .ok (.aload_n 0, 1) := by decide +kernel
theorem dX8_like_1 : decode cX8_like 1 = .ok (.getfield 27, 3) := by decide +kernel
theorem dX8_like_4 : decode cX8_like 4 = .ok (.iconst 0, 1) := by decide +kernel
theorem dX8_like_5 : decode cX8_like 5 = .ok (.iload_n 1, 1) := by decide +kernel
theorem dX8_like_6 : decode cX8_like 6 = .ok (.invokevirtual 94, 3) := by decide +kernel
theorem dX8_like_9 : decode cX8_like 9 = .ok (.ifCond .eq 15, 3) := by decide +kernel
theorem dX8_like_12 : decode cX8_like 12 = .ok (.aload_n 0, 1) := by decide +kernel
theorem dX8_like_13 : decode cX8_like 13 = .ok (.getfield 27, 3) := by decide +kernel
theorem dX8_like_16 : decode cX8_like 16 = .ok (.iconst 1, 1) := by decide +kernel
theorem dX8_like_17 : decode cX8_like 17 = .ok (.iload_n 2, 1) := by decide +kernel
theorem dX8_like_18 : decode cX8_like 18 = .ok (.invokevirtual 94, 3) := by decide +kernel
theorem dX8_like_21 : decode cX8_like 21 = .ok (.ifCond .ne 6, 3) := by decide +kernel
theorem dX8_like_24 : decode cX8_like 24 = .ok (.bipush (-101), 2) := by decide +kernel
theorem dX8_like_26 : decode cX8_like 26 = .ok (.ireturn, 1) := by decide +kernel
theorem dX8_like_27 : decode cX8_like 27 = .ok (.aload_n 0, 1) := by decide +kernel
theorem dX8_like_28 : decode cX8_like 28 = .ok (.getfield 40, 3) := by decide +kernel
theorem dX8_like_31 : decode cX8_like 31 = .ok (.aload_n 0, 1) := by decide +kernel
theorem dX8_like_32 : decode cX8_like 32 = .ok (.getfield 27, 3) := by decide +kernel
theorem dX8_like_35 : decode cX8_like 35 = .ok (.getfield 98, 3) := by decide +kernel
theorem dX8_like_38 : decode cX8_like 38 = .ok (.iconst 0, 1) := by decide +kernel
theorem dX8_like_39 : decode cX8_like 39 = .ok (.aaload, 1) := by decide +kernel
theorem dX8_like_40 : decode cX8_like 40 = .ok (.iload_n 1, 1) := by decide +kernel
theorem dX8_like_41 : decode cX8_like 41 = .ok (.iaload, 1) := by decide +kernel
theorem dX8_like_42 : decode cX8_like 42 = .ok (.aload_n 0, 1) := by decide +kernel
theorem dX8_like_43 : decode cX8_like 43 = .ok (.getfield 27, 3) := by decide +kernel
theorem dX8_like_46 : decode cX8_like 46 = .ok (.getfield 98, 3) := by decide +kernel
theorem dX8_like_49 : decode cX8_like 49 = .ok (.iconst 1, 1) := by decide +kernel
theorem dX8_like_50 : decode cX8_like 50 = .ok (.aaload, 1) := by decide +kernel
theorem dX8_like_51 : decode cX8_like 51 = .ok (.iload_n 2, 1) := by decide +kernel
theorem dX8_like_52 : decode cX8_like 52 = .ok (.iaload, 1) := by decide +kernel
theorem dX8_like_53 : decode cX8_like 53 = .ok (.invokevirtual 140, 3) := by decide +kernel
theorem dX8_like_56 : decode cX8_like 56 = .ok (.invokestatic 144, 3) := by decide +kernel
theorem dX8_like_59 : decode cX8_like 59 = .ok (.ireturn, 1) := by decide +kernel
theorem dX8_rack_0 : decode cX8_rack 0 = .ok (.aload_n 0, 1) := by decide +kernel
theorem dX8_rack_1 : decode cX8_rack 1 = .ok (.getfield 47, 3) := by decide +kernel
theorem dX8_rack_4 : decode cX8_rack 4 = .ok (.iload_n 1, 1) := by decide +kernel
theorem dX8_rack_5 : decode cX8_rack 5 = .ok (.invokevirtual 116, 3) := by decide +kernel
theorem dX8_rack_8 : decode cX8_rack 8 = .ok (.ifCond .ne 6, 3) := by decide +kernel
theorem dX8_rack_11 : decode cX8_rack 11 = .ok (.bipush (-101), 2) := by decide +kernel
theorem dX8_rack_13 : decode cX8_rack 13 = .ok (.ireturn, 1) := by decide +kernel
theorem dX8_rack_14 : decode cX8_rack 14 = .ok (.iload_n 2, 1) := by decide +kernel
theorem dX8_rack_15 : decode cX8_rack 15 = .ok (.ifCond .lt 8, 3) := by decide +kernel
theorem dX8_rack_18 : decode cX8_rack 18 = .ok (.iload_n 2, 1) := by decide +kernel
theorem dX8_rack_19 : decode cX8_rack 19 = .ok (.iconst 5, 1) := by decide +kernel
theorem dX8_rack_20 : decode cX8_rack 20 = .ok (.if_icmp .lt 6, 3) := by decide +kernel
theorem dX8_rack_23 : decode cX8_rack 23 = .ok (.bipush (-102), 2) := by decide +kernel
theorem dX8_rack_25 : decode cX8_rack 25 = .ok (.ireturn, 1) := by decide +kernel
theorem dX8_rack_26 : decode cX8_rack 26 = .ok (.aload_n 0, 1) := by decide +kernel
theorem dX8_rack_27 : decode cX8_rack 27 = .ok (.getfield 54, 3) := by decide +kernel
theorem dX8_rack_30 : decode cX8_rack 30 = .ok (.getfield 148, 3) := by decide +kernel
theorem dX8_rack_33 : decode cX8_rack 33 = .ok (.iload_n 2, 1) := by decide +kernel
theorem dX8_rack_34 : decode cX8_rack 34 = .ok (.iaload, 1) := by decide +kernel
theorem dX8_rack_35 : decode cX8_rack 35 = .ok (.iconst 3, 1) := by decide +kernel
theorem dX8_rack_36 : decode cX8_rack 36 = .ok (.if_icmp .lt 6, 3) := by decide +kernel
theorem dX8_rack_39 : decode cX8_rack 39 = .ok (.bipush (-104), 2) := by decide +kernel
theorem dX8_rack_41 : decode cX8_rack 41 = .ok (.ireturn, 1) := by decide +kernel
theorem dX8_rack_42 : decode cX8_rack 42 = .ok (.aload_n 0, 1) := by decide +kernel
theorem dX8_rack_43 : decode cX8_rack 43 = .ok (.getfield 47, 3) := by decide +kernel
theorem dX8_rack_46 : decode cX8_rack 46 = .ok (.getfield 118, 3) := by decide +kernel
theorem dX8_rack_49 : decode cX8_rack 49 = .ok (.iload_n 1, 1) := by decide +kernel
theorem dX8_rack_50 : decode cX8_rack 50 = .ok (.iaload, 1) := by decide +kernel
theorem dX8_rack_51 : decode cX8_rack 51 = .ok (.iload_n 2, 1) := by decide +kernel
theorem dX8_rack_52 : decode cX8_rack 52 = .ok (.invokestatic 134, 3) := by decide +kernel
theorem dX8_rack_55 : decode cX8_rack 55 = .ok (.ifCond .ne 5, 3) := by decide +kernel
theorem dX8_rack_58 : decode cX8_rack 58 = .ok (.iconst (-1), 1) := by decide +kernel
theorem dX8_rack_59 : decode cX8_rack 59 = .ok (.ireturn, 1) := by decide +kernel
theorem dX8_rack_60 : decode cX8_rack 60 = .ok (.aload_n 0, 1) := by decide +kernel
theorem dX8_rack_61 : decode cX8_rack 61 = .ok (.getfield 54, 3) := by decide +kernel
theorem dX8_rack_64 : decode cX8_rack 64 = .ok (.iload_n 2, 1) := by decide +kernel
theorem dX8_rack_65 : decode cX8_rack 65 = .ok (.iload_n 1, 1) := by decide +kernel
theorem dX8_rack_66 : decode cX8_rack 66 = .ok (.invokevirtual 150, 3) := by decide +kernel
theorem dX8_rack_69 : decode cX8_rack 69 = .ok (.ireturn, 1) := by decide +kernel
theorem dX8_racked_0 : decode cX8_racked 0 = .ok (.iload_n 1, 1) := by decide +kernel
theorem dX8_racked_1 : decode cX8_racked 1 = .ok (.ifCond .lt 17, 3) := by decide +kernel
theorem dX8_racked_4 : decode cX8_racked 4 = .ok (.iload_n 1, 1) := by decide +kernel
theorem dX8_racked_5 : decode cX8_racked 5 = .ok (.iconst 5, 1) := by decide +kernel
theorem dX8_racked_6 : decode cX8_racked 6 = .ok (.if_icmp .ge 12, 3) := by decide +kernel
theorem dX8_racked_9 : decode cX8_racked 9 = .ok (.iload_n 2, 1) := by decide +kernel
theorem dX8_racked_10 : decode cX8_racked 10 = .ok (.ifCond .lt 8, 3) := by decide +kernel
theorem dX8_racked_13 : decode cX8_racked 13 = .ok (.iload_n 2, 1) := by decide +kernel
theorem dX8_racked_14 : decode cX8_racked 14 = .ok (.iconst 3, 1) := by decide +kernel
theorem dX8_racked_15 : decode cX8_racked 15 = .ok (.if_icmp .lt 6, 3) := by decide +kernel
theorem dX8_racked_18 : decode cX8_racked 18 = .ok (.bipush (-102), 2) := by decide +kernel
theorem dX8_racked_20 : decode cX8_racked 20 = .ok (.ireturn, 1) := by decide +kernel
theorem dX8_racked_21 : decode cX8_racked 21 = .ok (.iload_n 2, 1) := by decide +kernel
theorem dX8_racked_22 : decode cX8_racked 22 = .ok (.aload_n 0, 1) := by decide +kernel
theorem dX8_racked_23 : decode cX8_racked 23 = .ok (.getfield 54, 3) := by decide +kernel
theorem dX8_racked_26 : decode cX8_racked 26 = .ok (.getfield 148, 3) := by decide +kernel
theorem dX8_racked_29 : decode cX8_racked 29 = .ok (.iload_n 1, 1) := by decide +kernel
theorem dX8_racked_30 : decode cX8_racked 30 = .ok (.iaload, 1) := by decide +kernel
theorem dX8_racked_31 : decode cX8_racked 31 = .ok (.if_icmp .ge 17, 3) := by decide +kernel
theorem dX8_racked_34 : decode cX8_racked 34 = .ok (.aload_n 0, 1) := by decide +kernel
theorem dX8_racked_35 : decode cX8_racked 35 = .ok (.getfield 54, 3) := by decide +kernel
theorem dX8_racked_38 : decode cX8_racked 38 = .ok (.getfield 152, 3) := by decide +kernel
theorem dX8_racked_41 : decode cX8_racked 41 = .ok (.iload_n 1, 1) := by decide +kernel
theorem dX8_racked_42 : decode cX8_racked 42 = .ok (.aaload, 1) := by decide +kernel
theorem dX8_racked_43 : decode cX8_racked 43 = .ok (.iload_n 2, 1) := by decide +kernel
theorem dX8_racked_44 : decode cX8_racked 44 = .ok (.iaload, 1) := by decide +kernel
theorem dX8_racked_45 : decode cX8_racked 45 = .ok (.goto 4, 3) := by decide +kernel
theorem dX8_racked_48 : decode cX8_racked 48 = .ok (.iconst (-1), 1) := by decide +kernel
theorem dX8_racked_49 : decode cX8_racked 49 = .ok (.ireturn, 1) := by decide +kernel
theorem dX8_put_0 : decode cX8_put 0 = .ok (.iload_n 1, 1) := by decide +kernel
theorem dX8_put_1 : decode cX8_put 1 = .ok (.invokestatic 155, 3) := by decide +kernel
theorem dX8_put_4 : decode cX8_put 4 = .ok (.ifCond .eq 20, 3) := by decide +kernel
theorem dX8_put_7 : decode cX8_put 7 = .ok (.iload_n 2, 1) := by decide +kernel
theorem dX8_put_8 : decode cX8_put 8 = .ok (.ifCond .lt 16, 3) := by decide +kernel
theorem dX8_put_11 : decode cX8_put 11 = .ok (.iload_n 2, 1) := by decide +kernel
theorem dX8_put_12 : decode cX8_put 12 = .ok (.aload_n 0, 1) := by decide +kernel
theorem dX8_put_13 : decode cX8_put 13 = .ok (.getfield 27, 3) := by decide +kernel
theorem dX8_put_16 : decode cX8_put 16 = .ok (.getfield 158, 3) := by decide +kernel
theorem dX8_put_19 : decode cX8_put 19 = .ok (.iload_n 1, 1) := by decide +kernel
theorem dX8_put_20 : decode cX8_put 20 = .ok (.iaload, 1) := by decide +kernel
theorem dX8_put_21 : decode cX8_put 21 = .ok (.if_icmp .le 6, 3) := by decide +kernel
theorem dX8_put_24 : decode cX8_put 24 = .ok (.bipush (-101), 2) := by decide +kernel
theorem dX8_put_26 : decode cX8_put 26 = .ok (.ireturn, 1) := by decide +kernel
theorem dX8_put_27 : decode cX8_put 27 = .ok (.iload_n 3, 1) := by decide +kernel
theorem dX8_put_28 : decode cX8_put 28 = .ok (.invokestatic 159, 3) := by decide +kernel
theorem dX8_put_31 : decode cX8_put 31 = .ok (.ifCond .ne 6, 3) := by decide +kernel
theorem dX8_put_34 : decode cX8_put 34 = .ok (.bipush (-102), 2) := by decide +kernel
theorem dX8_put_36 : decode cX8_put 36 = .ok (.ireturn, 1) := by decide +kernel
theorem dX8_put_37 : decode cX8_put 37 = .ok (.aload_n 0, 1) := by decide +kernel
theorem dX8_put_38 : decode cX8_put 38 = .ok (.getfield 58, 3) := by decide +kernel
theorem dX8_put_41 : decode cX8_put 41 = .ok (.ifCond .ne 6, 3) := by decide +kernel
theorem dX8_put_44 : decode cX8_put 44 = .ok (.bipush (-103), 2) := by decide +kernel
theorem dX8_put_46 : decode cX8_put 46 = .ok (.ireturn, 1) := by decide +kernel
theorem dX8_put_47 : decode cX8_put 47 = .ok (.aload_n 0, 1) := by decide +kernel
theorem dX8_put_48 : decode cX8_put 48 = .ok (.getfield 27, 3) := by decide +kernel
theorem dX8_put_51 : decode cX8_put 51 = .ok (.getfield 158, 3) := by decide +kernel
theorem dX8_put_54 : decode cX8_put 54 = .ok (.iload_n 1, 1) := by decide +kernel
theorem dX8_put_55 : decode cX8_put 55 = .ok (.iaload, 1) := by decide +kernel
theorem dX8_put_56 : decode cX8_put 56 = .ok (.bipush 8, 2) := by decide +kernel
theorem dX8_put_58 : decode cX8_put 58 = .ok (.if_icmp .lt 6, 3) := by decide +kernel
theorem dX8_put_61 : decode cX8_put 61 = .ok (.bipush (-104), 2) := by decide +kernel
theorem dX8_put_63 : decode cX8_put 63 = .ok (.ireturn, 1) := by decide +kernel
theorem dX8_put_64 : decode cX8_put 64 = .ok (.aload_n 0, 1) := by decide +kernel
theorem dX8_put_65 : decode cX8_put 65 = .ok (.getfield 27, 3) := by decide +kernel
theorem dX8_put_68 : decode cX8_put 68 = .ok (.iload_n 1, 1) := by decide +kernel
theorem dX8_put_69 : decode cX8_put 69 = .ok (.iload_n 2, 1) := by decide +kernel
theorem dX8_put_70 : decode cX8_put 70 = .ok (.iload_n 3, 1) := by decide +kernel
theorem dX8_put_71 : decode cX8_put 71 = .ok (.invokevirtual 162, 3) := by decide +kernel
theorem dX8_put_74 : decode cX8_put 74 = .ok (.aload_n 0, 1) := by decide +kernel
theorem dX8_put_75 : decode cX8_put 75 = .ok (.invokevirtual 88, 3) := by decide +kernel
theorem dX8_put_78 : decode cX8_put 78 = .ok (.ireturn, 1) := by decide +kernel
theorem dX8_take_0 : decode cX8_take 0 = .ok (.aload_n 0, 1) := by decide +kernel
theorem dX8_take_1 : decode cX8_take 1 = .ok (.getfield 27, 3) := by decide +kernel
theorem dX8_take_4 : decode cX8_take 4 = .ok (.iload_n 1, 1) := by decide +kernel
theorem dX8_take_5 : decode cX8_take 5 = .ok (.iload_n 2, 1) := by decide +kernel
theorem dX8_take_6 : decode cX8_take 6 = .ok (.invokevirtual 94, 3) := by decide +kernel
theorem dX8_take_9 : decode cX8_take 9 = .ok (.ifCond .ne 6, 3) := by decide +kernel
theorem dX8_take_12 : decode cX8_take 12 = .ok (.bipush (-101), 2) := by decide +kernel
theorem dX8_take_14 : decode cX8_take 14 = .ok (.ireturn, 1) := by decide +kernel
theorem dX8_take_15 : decode cX8_take 15 = .ok (.aload_n 0, 1) := by decide +kernel
theorem dX8_take_16 : decode cX8_take 16 = .ok (.getfield 27, 3) := by decide +kernel
theorem dX8_take_19 : decode cX8_take 19 = .ok (.iload_n 1, 1) := by decide +kernel
theorem dX8_take_20 : decode cX8_take 20 = .ok (.iload_n 2, 1) := by decide +kernel
theorem dX8_take_21 : decode cX8_take 21 = .ok (.invokevirtual 166, 3) := by decide +kernel
theorem dX8_take_24 : decode cX8_take 24 = .ok (.aload_n 0, 1) := by decide +kernel
theorem dX8_take_25 : decode cX8_take 25 = .ok (.invokevirtual 88, 3) := by decide +kernel
theorem dX8_take_28 : decode cX8_take 28 = .ok (.ireturn, 1) := by decide +kernel
theorem dX8_swap_0 : decode cX8_swap 0 = .ok (.aload_n 0, 1) := by decide +kernel
theorem dX8_swap_1 : decode cX8_swap 1 = .ok (.getfield 27, 3) := by decide +kernel
theorem dX8_swap_4 : decode cX8_swap 4 = .ok (.iload_n 1, 1) := by decide +kernel
theorem dX8_swap_5 : decode cX8_swap 5 = .ok (.iload_n 2, 1) := by decide +kernel
theorem dX8_swap_6 : decode cX8_swap 6 = .ok (.invokevirtual 94, 3) := by decide +kernel
theorem dX8_swap_9 : decode cX8_swap 9 = .ok (.ifCond .eq 20, 3) := by decide +kernel
theorem dX8_swap_12 : decode cX8_swap 12 = .ok (.aload_n 0, 1) := by decide +kernel
theorem dX8_swap_13 : decode cX8_swap 13 = .ok (.getfield 27, 3) := by decide +kernel
theorem dX8_swap_16 : decode cX8_swap 16 = .ok (.iload_n 1, 1) := by decide +kernel
theorem dX8_swap_17 : decode cX8_swap 17 = .ok (.iload_n 3, 1) := by decide +kernel
theorem dX8_swap_18 : decode cX8_swap 18 = .ok (.invokevirtual 94, 3) := by decide +kernel
theorem dX8_swap_21 : decode cX8_swap 21 = .ok (.ifCond .eq 8, 3) := by decide +kernel
theorem dX8_swap_24 : decode cX8_swap 24 = .ok (.iload_n 2, 1) := by decide +kernel
theorem dX8_swap_25 : decode cX8_swap 25 = .ok (.iload_n 3, 1) := by decide +kernel
theorem dX8_swap_26 : decode cX8_swap 26 = .ok (.if_icmp .ne 6, 3) := by decide +kernel
theorem dX8_swap_29 : decode cX8_swap 29 = .ok (.bipush (-101), 2) := by decide +kernel
theorem dX8_swap_31 : decode cX8_swap 31 = .ok (.ireturn, 1) := by decide +kernel
theorem dX8_swap_32 : decode cX8_swap 32 = .ok (.aload_n 0, 1) := by decide +kernel
theorem dX8_swap_33 : decode cX8_swap 33 = .ok (.getfield 27, 3) := by decide +kernel
theorem dX8_swap_36 : decode cX8_swap 36 = .ok (.iload_n 1, 1) := by decide +kernel
theorem dX8_swap_37 : decode cX8_swap 37 = .ok (.iload_n 2, 1) := by decide +kernel
theorem dX8_swap_38 : decode cX8_swap 38 = .ok (.iload_n 3, 1) := by decide +kernel
theorem dX8_swap_39 : decode cX8_swap 39 = .ok (.invokevirtual 170, 3) := by decide +kernel
theorem dX8_swap_42 : decode cX8_swap 42 = .ok (.aload_n 0, 1) := by decide +kernel
theorem dX8_swap_43 : decode cX8_swap 43 = .ok (.invokevirtual 88, 3) := by decide +kernel
theorem dX8_swap_46 : decode cX8_swap 46 = .ok (.ireturn, 1) := by decide +kernel
theorem dX8_turn_0 : decode cX8_turn 0 = .ok (.aload_n 0, 1) := by decide +kernel
theorem dX8_turn_1 : decode cX8_turn 1 = .ok (.getfield 58, 3) := by decide +kernel
theorem dX8_turn_4 : decode cX8_turn 4 = .ok (.ifCond .ne 6, 3) := by decide +kernel
theorem dX8_turn_7 : decode cX8_turn 7 = .ok (.bipush (-103), 2) := by decide +kernel
theorem dX8_turn_9 : decode cX8_turn 9 = .ok (.ireturn, 1) := by decide +kernel
theorem dX8_turn_10 : decode cX8_turn 10 = .ok (.aload_n 0, 1) := by decide +kernel
theorem dX8_turn_11 : decode cX8_turn 11 = .ok (.getfield 27, 3) := by decide +kernel
theorem dX8_turn_14 : decode cX8_turn 14 = .ok (.invokevirtual 173, 3) := by decide +kernel
theorem dX8_turn_17 : decode cX8_turn 17 = .ok (.aload_n 0, 1) := by decide +kernel
theorem dX8_turn_18 : decode cX8_turn 18 = .ok (.invokevirtual 88, 3) := by decide +kernel
theorem dX8_turn_21 : decode cX8_turn 21 = .ok (.ireturn, 1) := by decide +kernel
theorem dX8_cost_0 : decode cX8_cost 0 = .ok (.iload_n 1, 1) := by decide +kernel
theorem dX8_cost_1 : decode cX8_cost 1 = .ok (.ifCond .lt 8, 3) := by decide +kernel
theorem dX8_cost_4 : decode cX8_cost 4 = .ok (.iload_n 1, 1) := by decide +kernel
theorem dX8_cost_5 : decode cX8_cost 5 = .ok (.iconst 5, 1) := by decide +kernel
theorem dX8_cost_6 : decode cX8_cost 6 = .ok (.if_icmp .lt 6, 3) := by decide +kernel
theorem dX8_cost_9 : decode cX8_cost 9 = .ok (.bipush (-102), 2) := by decide +kernel
theorem dX8_cost_11 : decode cX8_cost 11 = .ok (.ireturn, 1) := by decide +kernel
theorem dX8_cost_12 : decode cX8_cost 12 = .ok (.aload_n 0, 1) := by decide +kernel
theorem dX8_cost_13 : decode cX8_cost 13 = .ok (.getfield 58, 3) := by decide +kernel
theorem dX8_cost_16 : decode cX8_cost 16 = .ok (.ifCond .ne 6, 3) := by decide +kernel
theorem dX8_cost_19 : decode cX8_cost 19 = .ok (.bipush (-103), 2) := by decide +kernel
theorem dX8_cost_21 : decode cX8_cost 21 = .ok (.ireturn, 1) := by decide +kernel
theorem dX8_cost_22 : decode cX8_cost 22 = .ok (.iload_n 1, 1) := by decide +kernel
theorem dX8_cost_23 : decode cX8_cost 23 = .ok (.tableswitch 61 0 3 #[29, 37, 45, 53], 29) := by decide +kernel
theorem dX8_cost_52 : decode cX8_cost 52 = .ok (.aload_n 0, 1) := by decide +kernel
theorem dX8_cost_53 : decode cX8_cost 53 = .ok (.getfield 19, 3) := by decide +kernel
theorem dX8_cost_56 : decode cX8_cost 56 = .ok (.invokevirtual 176, 3) := by decide +kernel
theorem dX8_cost_59 : decode cX8_cost 59 = .ok (.ireturn, 1) := by decide +kernel
theorem dX8_cost_60 : decode cX8_cost 60 = .ok (.aload_n 0, 1) := by decide +kernel
theorem dX8_cost_61 : decode cX8_cost 61 = .ok (.getfield 19, 3) := by decide +kernel
theorem dX8_cost_64 : decode cX8_cost 64 = .ok (.invokevirtual 179, 3) := by decide +kernel
theorem dX8_cost_67 : decode cX8_cost 67 = .ok (.ireturn, 1) := by decide +kernel
theorem dX8_cost_68 : decode cX8_cost 68 = .ok (.aload_n 0, 1) := by decide +kernel
theorem dX8_cost_69 : decode cX8_cost 69 = .ok (.getfield 19, 3) := by decide +kernel
theorem dX8_cost_72 : decode cX8_cost 72 = .ok (.getfield 182, 3) := by decide +kernel
theorem dX8_cost_75 : decode cX8_cost 75 = .ok (.ireturn, 1) := by decide +kernel
theorem dX8_cost_76 : decode cX8_cost 76 = .ok (.aload_n 0, 1) := by decide +kernel
theorem dX8_cost_77 : decode cX8_cost 77 = .ok (.getfield 19, 3) := by decide +kernel
theorem dX8_cost_80 : decode cX8_cost 80 = .ok (.getfield 185, 3) := by decide +kernel
theorem dX8_cost_83 : decode cX8_cost 83 = .ok (.ireturn, 1) := by decide +kernel
theorem dX8_cost_84 : decode cX8_cost 84 = .ok (.aload_n 0, 1) := by decide +kernel
theorem dX8_cost_85 : decode cX8_cost 85 = .ok (.getfield 47, 3) := by decide +kernel
theorem dX8_cost_88 : decode cX8_cost 88 = .ok (.getfield 188, 3) := by decide +kernel
theorem dX8_cost_91 : decode cX8_cost 91 = .ok (.ireturn, 1) := by decide +kernel
theorem dX8_best_0 : decode cX8_best 0 = .ok (.iload_n 1, 1) := by decide +kernel
theorem dX8_best_1 : decode cX8_best 1 = .ok (.invokestatic 159, 3) := by decide +kernel
theorem dX8_best_4 : decode cX8_best 4 = .ok (.ifCond .ne 6, 3) := by decide +kernel
theorem dX8_best_7 : decode cX8_best 7 = .ok (.bipush (-102), 2) := by decide +kernel
theorem dX8_best_9 : decode cX8_best 9 = .ok (.ireturn, 1) := by decide +kernel
theorem dX8_best_10 : decode cX8_best 10 = .ok (.aload_n 0, 1) := by decide +kernel
theorem dX8_best_11 : decode cX8_best 11 = .ok (.getfield 58, 3) := by decide +kernel
theorem dX8_best_14 : decode cX8_best 14 = .ok (.ifCond .ne 6, 3) := by decide +kernel
theorem dX8_best_17 : decode cX8_best 17 = .ok (.bipush (-103), 2) := by decide +kernel
theorem dX8_best_19 : decode cX8_best 19 = .ok (.ireturn, 1) := by decide +kernel
theorem dX8_best_20 : decode cX8_best 20 = .ok (.aload_n 0, 1) := by decide +kernel
theorem dX8_best_21 : decode cX8_best 21 = .ok (.getfield 27, 3) := by decide +kernel
theorem dX8_best_24 : decode cX8_best 24 = .ok (.getfield 158, 3) := by decide +kernel
theorem dX8_best_27 : decode cX8_best 27 = .ok (.iconst 1, 1) := by decide +kernel
theorem dX8_best_28 : decode cX8_best 28 = .ok (.iaload, 1) := by decide +kernel
theorem dX8_best_29 : decode cX8_best 29 = .ok (.bipush 8, 2) := by decide +kernel
theorem dX8_best_31 : decode cX8_best 31 = .ok (.if_icmp .lt 6, 3) := by decide +kernel
theorem dX8_best_34 : decode cX8_best 34 = .ok (.bipush (-104), 2) := by decide +kernel
theorem dX8_best_36 : decode cX8_best 36 = .ok (.ireturn, 1) := by decide +kernel
theorem dX8_best_37 : decode cX8_best 37 = .ok (.iconst 0, 1) := by decide +kernel
theorem dX8_best_38 : decode cX8_best 38 = .ok (.istore_n 2, 1) := by decide +kernel
theorem dX8_best_39 : decode cX8_best 39 = .ok (.aload_n 0, 1) := by decide +kernel
theorem dX8_best_40 : decode cX8_best 40 = .ok (.iconst 0, 1) := by decide +kernel
theorem dX8_best_41 : decode cX8_best 41 = .ok (.iload_n 1, 1) := by decide +kernel
theorem dX8_best_42 : decode cX8_best 42 = .ok (.invokevirtual 191, 3) := by decide +kernel
theorem dX8_best_45 : decode cX8_best 45 = .ok (.istore_n 3, 1) := by decide +kernel
theorem dX8_best_46 : decode cX8_best 46 = .ok (.iconst 1, 1) := by decide +kernel
theorem dX8_best_47 : decode cX8_best 47 = .ok (.istore 4, 2) := by decide +kernel
theorem dX8_best_49 : decode cX8_best 49 = .ok (.iload 4, 2) := by decide +kernel
theorem dX8_best_51 : decode cX8_best 51 = .ok (.aload_n 0, 1) := by decide +kernel
theorem dX8_best_52 : decode cX8_best 52 = .ok (.getfield 27, 3) := by decide +kernel
theorem dX8_best_55 : decode cX8_best 55 = .ok (.getfield 158, 3) := by decide +kernel
theorem dX8_best_58 : decode cX8_best 58 = .ok (.iconst 1, 1) := by decide +kernel
theorem dX8_best_59 : decode cX8_best 59 = .ok (.iaload, 1) := by decide +kernel
theorem dX8_best_60 : decode cX8_best 60 = .ok (.if_icmp .gt 30, 3) := by decide +kernel
theorem dX8_best_63 : decode cX8_best 63 = .ok (.aload_n 0, 1) := by decide +kernel
theorem dX8_best_64 : decode cX8_best 64 = .ok (.iload 4, 2) := by decide +kernel
theorem dX8_best_66 : decode cX8_best 66 = .ok (.iload_n 1, 1) := by decide +kernel
theorem dX8_best_67 : decode cX8_best 67 = .ok (.invokevirtual 191, 3) := by decide +kernel
theorem dX8_best_70 : decode cX8_best 70 = .ok (.istore 5, 2) := by decide +kernel
theorem dX8_best_72 : decode cX8_best 72 = .ok (.iload 5, 2) := by decide +kernel
theorem dX8_best_74 : decode cX8_best 74 = .ok (.iload_n 3, 1) := by decide +kernel
theorem dX8_best_75 : decode cX8_best 75 = .ok (.if_icmp .ge 9, 3) := by decide +kernel
theorem dX8_best_78 : decode cX8_best 78 = .ok (.iload 5, 2) := by decide +kernel
theorem dX8_best_80 : decode cX8_best 80 = .ok (.istore_n 3, 1) := by decide +kernel
theorem dX8_best_81 : decode cX8_best 81 = .ok (.iload 4, 2) := by decide +kernel
theorem dX8_best_83 : decode cX8_best 83 = .ok (.istore_n 2, 1) := by decide +kernel
theorem dX8_best_84 : decode cX8_best 84 = .ok (.iinc 4 1, 3) := by decide +kernel
theorem dX8_best_87 : decode cX8_best 87 = .ok (.goto (-38), 3) := by decide +kernel
theorem dX8_best_90 : decode cX8_best 90 = .ok (.iload_n 2, 1) := by decide +kernel
theorem dX8_best_91 : decode cX8_best 91 = .ok (.ireturn, 1) := by decide +kernel
theorem dX8_all_0 : decode cX8_all 0 = .ok (.aload_n 0, 1) := by decide +kernel
theorem dX8_all_1 : decode cX8_all 1 = .ok (.getfield 58, 3) := by decide +kernel
theorem dX8_all_4 : decode cX8_all 4 = .ok (.ifCond .ne 7, 3) := by decide +kernel
theorem dX8_all_7 : decode cX8_all 7 = .ok (.ldc2_w 194, 3) := by decide +kernel
theorem dX8_all_10 : decode cX8_all 10 = .ok (.lreturn, 1) := by decide +kernel
theorem dX8_all_11 : decode cX8_all 11 = .ok (.aload_n 0, 1) := by decide +kernel
theorem dX8_all_12 : decode cX8_all 12 = .ok (.getfield 27, 3) := by decide +kernel
theorem dX8_all_15 : decode cX8_all 15 = .ok (.invokevirtual 91, 3) := by decide +kernel
theorem dX8_all_18 : decode cX8_all 18 = .ok (.istore_n 1, 1) := by decide +kernel
theorem dX8_all_19 : decode cX8_all 19 = .ok (.iload_n 1, 1) := by decide +kernel
theorem dX8_all_20 : decode cX8_all 20 = .ok (.ifCond .ne 7, 3) := by decide +kernel
theorem dX8_all_23 : decode cX8_all 23 = .ok (.dconst 1, 1) := by decide +kernel
theorem dX8_all_24 : decode cX8_all 24 = .ok (.goto 16, 3) := by decide +kernel
theorem dX8_all_27 : decode cX8_all 27 = .ok (.iconst 2, 1) := by decide +kernel
theorem dX8_all_28 : decode cX8_all 28 = .ok (.aload_n 0, 1) := by decide +kernel
theorem dX8_all_29 : decode cX8_all 29 = .ok (.getfield 19, 3) := by decide +kernel
theorem dX8_all_32 : decode cX8_all 32 = .ok (.invokevirtual 196, 3) := by decide +kernel
theorem dX8_all_35 : decode cX8_all 35 = .ok (.imul, 1) := by decide +kernel
theorem dX8_all_36 : decode cX8_all 36 = .ok (.i2d, 1) := by decide +kernel
theorem dX8_all_37 : decode cX8_all 37 = .ok (.iload_n 1, 1) := by decide +kernel
theorem dX8_all_38 : decode cX8_all 38 = .ok (.i2d, 1) := by decide +kernel
theorem dX8_all_39 : decode cX8_all 39 = .ok (.ddiv, 1) := by decide +kernel
theorem dX8_all_40 : decode cX8_all 40 = .ok (.invokestatic 199, 3) := by decide +kernel
theorem dX8_all_43 : decode cX8_all 43 = .ok (.lreturn, 1) := by decide +kernel
theorem dX8_drawn_0 : decode cX8_drawn 0 = .ok (.iload_n 1, 1) := by decide +kernel
theorem dX8_drawn_1 : decode cX8_drawn 1 = .ok (.iconst 1, 1) := by decide +kernel
theorem dX8_drawn_2 : decode cX8_drawn 2 = .ok (.if_icmp .lt 22, 3) := by decide +kernel
theorem dX8_drawn_5 : decode cX8_drawn 5 = .ok (.iload_n 1, 1) := by decide +kernel
theorem dX8_drawn_6 : decode cX8_drawn 6 = .ok (.bipush 30, 2) := by decide +kernel
theorem dX8_drawn_8 : decode cX8_drawn 8 = .ok (.if_icmp .gt 16, 3) := by decide +kernel
theorem dX8_drawn_11 : decode cX8_drawn 11 = .ok (.iload_n 2, 1) := by decide +kernel
theorem dX8_drawn_12 : decode cX8_drawn 12 = .ok (.ifCond .lt 12, 3) := by decide +kernel
theorem dX8_drawn_15 : decode cX8_drawn 15 = .ok (.iload_n 3, 1) := by decide +kernel
theorem dX8_drawn_16 : decode cX8_drawn 16 = .ok (.ifCond .lt 8, 3) := by decide +kernel
theorem dX8_drawn_19 : decode cX8_drawn 19 = .ok (.iload_n 3, 1) := by decide +kernel
theorem dX8_drawn_20 : decode cX8_drawn 20 = .ok (.iconst 3, 1) := by decide +kernel
theorem dX8_drawn_21 : decode cX8_drawn 21 = .ok (.if_icmp .lt 6, 3) := by decide +kernel
theorem dX8_drawn_24 : decode cX8_drawn 24 = .ok (.bipush (-102), 2) := by decide +kernel
theorem dX8_drawn_26 : decode cX8_drawn 26 = .ok (.ireturn, 1) := by decide +kernel
theorem dX8_drawn_27 : decode cX8_drawn 27 = .ok (.iload_n 2, 1) := by decide +kernel
theorem dX8_drawn_28 : decode cX8_drawn 28 = .ok (.istore 4, 2) := by decide +kernel
theorem dX8_drawn_30 : decode cX8_drawn 30 = .ok (.iconst 0, 1) := by decide +kernel
theorem dX8_drawn_31 : decode cX8_drawn 31 = .ok (.istore 5, 2) := by decide +kernel
theorem dX8_drawn_33 : decode cX8_drawn 33 = .ok (.iconst 0, 1) := by decide +kernel
theorem dX8_drawn_34 : decode cX8_drawn 34 = .ok (.istore 6, 2) := by decide +kernel
theorem dX8_drawn_36 : decode cX8_drawn 36 = .ok (.iconst 0, 1) := by decide +kernel
theorem dX8_drawn_37 : decode cX8_drawn 37 = .ok (.istore 7, 2) := by decide +kernel
theorem dX8_drawn_39 : decode cX8_drawn 39 = .ok (.iload 7, 2) := by decide +kernel
theorem dX8_drawn_41 : decode cX8_drawn 41 = .ok (.iload_n 1, 1) := by decide +kernel
theorem dX8_drawn_42 : decode cX8_drawn 42 = .ok (.if_icmp .ge 41, 3) := by decide +kernel
theorem dX8_drawn_45 : decode cX8_drawn 45 = .ok (.aload_n 0, 1) := by decide +kernel
theorem dX8_drawn_46 : decode cX8_drawn 46 = .ok (.iload 4, 2) := by decide +kernel
theorem dX8_drawn_48 : decode cX8_drawn 48 = .ok (.invokevirtual 203, 3) := by decide +kernel
theorem dX8_drawn_51 : decode cX8_drawn 51 = .ok (.istore 4, 2) := by decide +kernel
theorem dX8_drawn_53 : decode cX8_drawn 53 = .ok (.iload 5, 2) := by decide +kernel
theorem dX8_drawn_55 : decode cX8_drawn 55 = .ok (.aload_n 0, 1) := by decide +kernel
theorem dX8_drawn_56 : decode cX8_drawn 56 = .ok (.getfield 28, 3) := by decide +kernel
theorem dX8_drawn_59 : decode cX8_drawn 59 = .ok (.invokevirtual 176, 3) := by decide +kernel
theorem dX8_drawn_62 : decode cX8_drawn 62 = .ok (.iadd, 1) := by decide +kernel
theorem dX8_drawn_63 : decode cX8_drawn 63 = .ok (.istore 5, 2) := by decide +kernel
theorem dX8_drawn_65 : decode cX8_drawn 65 = .ok (.iload 6, 2) := by decide +kernel
theorem dX8_drawn_67 : decode cX8_drawn 67 = .ok (.aload_n 0, 1) := by decide +kernel
theorem dX8_drawn_68 : decode cX8_drawn 68 = .ok (.getfield 28, 3) := by decide +kernel
theorem dX8_drawn_71 : decode cX8_drawn 71 = .ok (.getfield 182, 3) := by decide +kernel
theorem dX8_drawn_74 : decode cX8_drawn 74 = .ok (.iadd, 1) := by decide +kernel
theorem dX8_drawn_75 : decode cX8_drawn 75 = .ok (.istore 6, 2) := by decide +kernel
theorem dX8_drawn_77 : decode cX8_drawn 77 = .ok (.iinc 7 1, 3) := by decide +kernel
theorem dX8_drawn_80 : decode cX8_drawn 80 = .ok (.goto (-41), 3) := by decide +kernel
theorem dX8_drawn_83 : decode cX8_drawn 83 = .ok (.iload_n 3, 1) := by decide +kernel
theorem dX8_drawn_84 : decode cX8_drawn 84 = .ok (.ifCond .ne 8, 3) := by decide +kernel
theorem dX8_drawn_87 : decode cX8_drawn 87 = .ok (.iload 5, 2) := by decide +kernel
theorem dX8_drawn_89 : decode cX8_drawn 89 = .ok (.goto 15, 3) := by decide +kernel
theorem dX8_drawn_92 : decode cX8_drawn 92 = .ok (.iload_n 3, 1) := by decide +kernel
theorem dX8_drawn_93 : decode cX8_drawn 93 = .ok (.iconst 1, 1) := by decide +kernel
theorem dX8_drawn_94 : decode cX8_drawn 94 = .ok (.if_icmp .ne 8, 3) := by decide +kernel
theorem dX8_drawn_97 : decode cX8_drawn 97 = .ok (.iload 6, 2) := by decide +kernel
theorem dX8_drawn_99 : decode cX8_drawn 99 = .ok (.goto 5, 3) := by decide +kernel
theorem dX8_drawn_102 : decode cX8_drawn 102 = .ok (.iload 4, 2) := by decide +kernel
theorem dX8_drawn_104 : decode cX8_drawn 104 = .ok (.ireturn, 1) := by decide +kernel
theorem dX8_image_0 : decode cX8_image 0 = .ok (.aload_n 0, 1) := by decide +kernel
theorem dX8_image_1 : decode cX8_image 1 = .ok (.getfield 58, 3) := by decide +kernel
theorem dX8_image_4 : decode cX8_image 4 = .ok (.ifCond .ne 6, 3) := by decide +kernel
theorem dX8_image_7 : decode cX8_image 7 = .ok (.bipush (-103), 2) := by decide +kernel
theorem dX8_image_9 : decode cX8_image 9 = .ok (.ireturn, 1) := by decide +kernel
theorem dX8_image_10 : decode cX8_image 10 = .ok (.aload_n 0, 1) := by decide +kernel
theorem dX8_image_11 : decode cX8_image 11 = .ok (.getfield 34, 3) := by decide +kernel
theorem dX8_image_14 : decode cX8_image 14 = .ok (.aload_n 0, 1) := by decide +kernel
theorem dX8_image_15 : decode cX8_image 15 = .ok (.getfield 27, 3) := by decide +kernel
theorem dX8_image_18 : decode cX8_image 18 = .ok (.invokevirtual 206, 3) := by decide +kernel
theorem dX8_image_21 : decode cX8_image 21 = .ok (.aload_n 0, 1) := by decide +kernel
theorem dX8_image_22 : decode cX8_image 22 = .ok (.iconst 1, 1) := by decide +kernel
theorem dX8_image_23 : decode cX8_image 23 = .ok (.putfield 62, 3) := by decide +kernel
theorem dX8_image_26 : decode cX8_image 26 = .ok (.aload_n 0, 1) := by decide +kernel
theorem dX8_image_27 : decode cX8_image 27 = .ok (.getfield 27, 3) := by decide +kernel
theorem dX8_image_30 : decode cX8_image 30 = .ok (.invokevirtual 91, 3) := by decide +kernel
theorem dX8_image_33 : decode cX8_image 33 = .ok (.ireturn, 1) := by decide +kernel
theorem dX8_restore_0 : decode cX8_restore 0 = .ok (.aload_n 0, 1) := by decide +kernel
theorem dX8_restore_1 : decode cX8_restore 1 = .ok (.getfield 62, 3) := by decide +kernel
theorem dX8_restore_4 : decode cX8_restore 4 = .ok (.ifCond .ne 6, 3) := by decide +kernel
theorem dX8_restore_7 : decode cX8_restore 7 = .ok (.bipush (-103), 2) := by decide +kernel
theorem dX8_restore_9 : decode cX8_restore 9 = .ok (.ireturn, 1) := by decide +kernel
theorem dX8_restore_10 : decode cX8_restore 10 = .ok (.aload_n 0, 1) := by decide +kernel
theorem dX8_restore_11 : decode cX8_restore 11 = .ok (.getfield 27, 3) := by decide +kernel
theorem dX8_restore_14 : decode cX8_restore 14 = .ok (.aload_n 0, 1) := by decide +kernel
theorem dX8_restore_15 : decode cX8_restore 15 = .ok (.getfield 34, 3) := by decide +kernel
theorem dX8_restore_18 : decode cX8_restore 18 = .ok (.invokevirtual 206, 3) := by decide +kernel
theorem dX8_restore_21 : decode cX8_restore 21 = .ok (.aload_n 0, 1) := by decide +kernel
theorem dX8_restore_22 : decode cX8_restore 22 = .ok (.invokevirtual 88, 3) := by decide +kernel
theorem dX8_restore_25 : decode cX8_restore 25 = .ok (.pop, 1) := by decide +kernel
theorem dX8_restore_26 : decode cX8_restore 26 = .ok (.aload_n 0, 1) := by decide +kernel
theorem dX8_restore_27 : decode cX8_restore 27 = .ok (.getfield 27, 3) := by decide +kernel
theorem dX8_restore_30 : decode cX8_restore 30 = .ok (.invokevirtual 91, 3) := by decide +kernel
theorem dX8_restore_33 : decode cX8_restore 33 = .ok (.ireturn, 1) := by decide +kernel
theorem dX8_count_0 : decode cX8_count 0 = .ok (.iload_n 1, 1) := by decide +kernel
theorem dX8_count_1 : decode cX8_count 1 = .ok (.tableswitch 109 0 10 #[59, 59, 69, 77, 77, 77, 77, 77, 88, 96, 104], 59) := by decide +kernel
theorem dX8_count_60 : decode cX8_count 60 = .ok (.aload_n 0, 1) := by decide +kernel
theorem dX8_count_61 : decode cX8_count 61 = .ok (.getfield 27, 3) := by decide +kernel
theorem dX8_count_64 : decode cX8_count 64 = .ok (.getfield 158, 3) := by decide +kernel
theorem dX8_count_67 : decode cX8_count 67 = .ok (.iload_n 1, 1) := by decide +kernel
theorem dX8_count_68 : decode cX8_count 68 = .ok (.iaload, 1) := by decide +kernel
theorem dX8_count_69 : decode cX8_count 69 = .ok (.ireturn, 1) := by decide +kernel
theorem dX8_count_70 : decode cX8_count 70 = .ok (.aload_n 0, 1) := by decide +kernel
theorem dX8_count_71 : decode cX8_count 71 = .ok (.getfield 47, 3) := by decide +kernel
theorem dX8_count_74 : decode cX8_count 74 = .ok (.getfield 209, 3) := by decide +kernel
theorem dX8_count_77 : decode cX8_count 77 = .ok (.ireturn, 1) := by decide +kernel
theorem dX8_count_78 : decode cX8_count 78 = .ok (.aload_n 0, 1) := by decide +kernel
theorem dX8_count_79 : decode cX8_count 79 = .ok (.getfield 47, 3) := by decide +kernel
theorem dX8_count_82 : decode cX8_count 82 = .ok (.iload_n 1, 1) := by decide +kernel
theorem dX8_count_83 : decode cX8_count 83 = .ok (.iconst 3, 1) := by decide +kernel
theorem dX8_count_84 : decode cX8_count 84 = .ok (.isub, 1) := by decide +kernel
theorem dX8_count_85 : decode cX8_count 85 = .ok (.invokevirtual 210, 3) := by decide +kernel
theorem dX8_count_88 : decode cX8_count 88 = .ok (.ireturn, 1) := by decide +kernel
theorem dX8_count_89 : decode cX8_count 89 = .ok (.aload_n 0, 1) := by decide +kernel
theorem dX8_count_90 : decode cX8_count 90 = .ok (.getfield 54, 3) := by decide +kernel
theorem dX8_count_93 : decode cX8_count 93 = .ok (.invokevirtual 213, 3) := by decide +kernel
theorem dX8_count_96 : decode cX8_count 96 = .ok (.ireturn, 1) := by decide +kernel
theorem dX8_count_97 : decode cX8_count 97 = .ok (.aload_n 0, 1) := by decide +kernel
theorem dX8_count_98 : decode cX8_count 98 = .ok (.getfield 10, 3) := by decide +kernel
theorem dX8_count_101 : decode cX8_count 101 = .ok (.getfield 73, 3) := by decide +kernel
theorem dX8_count_104 : decode cX8_count 104 = .ok (.ireturn, 1) := by decide +kernel
theorem dX8_count_105 : decode cX8_count 105 = .ok (.aload_n 0, 1) := by decide +kernel
theorem dX8_count_106 : decode cX8_count 106 = .ok (.getfield 65, 3) := by decide +kernel
theorem dX8_count_109 : decode cX8_count 109 = .ok (.ireturn, 1) := by decide +kernel
theorem dX8_count_110 : decode cX8_count 110 = .ok (.bipush (-102), 2) := by decide +kernel
theorem dX8_count_112 : decode cX8_count 112 = .ok (.ireturn, 1) := by decide +kernel
theorem dX8_digest_0 : decode cX8_digest 0 = .ok (.aload_n 0, 1) := by decide +kernel
theorem dX8_digest_1 : decode cX8_digest 1 = .ok (.aload_n 0, 1) := by decide +kernel
theorem dX8_digest_2 : decode cX8_digest 2 = .ok (.ldc2_w 214, 3) := by decide +kernel
theorem dX8_digest_5 : decode cX8_digest 5 = .ok (.invokevirtual 216, 3) := by decide +kernel
theorem dX8_digest_8 : decode cX8_digest 8 = .ok (.invokevirtual 220, 3) := by decide +kernel
theorem dX8_digest_11 : decode cX8_digest 11 = .ok (.lstore_n 1, 1) := by decide +kernel
theorem dX8_digest_12 : decode cX8_digest 12 = .ok (.aload_n 0, 1) := by decide +kernel
theorem dX8_digest_13 : decode cX8_digest 13 = .ok (.getfield 58, 3) := by decide +kernel
theorem dX8_digest_16 : decode cX8_digest 16 = .ok (.ifCond .eq 40, 3) := by decide +kernel
theorem dX8_digest_19 : decode cX8_digest 19 = .ok (.iconst 0, 1) := by decide +kernel
theorem dX8_digest_20 : decode cX8_digest 20 = .ok (.istore_n 3, 1) := by decide +kernel
theorem dX8_digest_21 : decode cX8_digest 21 = .ok (.iload_n 3, 1) := by decide +kernel
theorem dX8_digest_22 : decode cX8_digest 22 = .ok (.iconst 5, 1) := by decide +kernel
theorem dX8_digest_23 : decode cX8_digest 23 = .ok (.if_icmp .ge 22, 3) := by decide +kernel
theorem dX8_digest_26 : decode cX8_digest 26 = .ok (.ldc2_w 223, 3) := by decide +kernel
theorem dX8_digest_29 : decode cX8_digest 29 = .ok (.lload_n 1, 1) := by decide +kernel
theorem dX8_digest_30 : decode cX8_digest 30 = .ok (.lmul, 1) := by decide +kernel
theorem dX8_digest_31 : decode cX8_digest 31 = .ok (.aload_n 0, 1) := by decide +kernel
theorem dX8_digest_32 : decode cX8_digest 32 = .ok (.iload_n 3, 1) := by decide +kernel
theorem dX8_digest_33 : decode cX8_digest 33 = .ok (.invokevirtual 225, 3) := by decide +kernel
theorem dX8_digest_36 : decode cX8_digest 36 = .ok (.i2l, 1) := by decide +kernel
theorem dX8_digest_37 : decode cX8_digest 37 = .ok (.ladd, 1) := by decide +kernel
theorem dX8_digest_38 : decode cX8_digest 38 = .ok (.lstore_n 1, 1) := by decide +kernel
theorem dX8_digest_39 : decode cX8_digest 39 = .ok (.iinc 3 1, 3) := by decide +kernel
theorem dX8_digest_42 : decode cX8_digest 42 = .ok (.goto (-21), 3) := by decide +kernel
theorem dX8_digest_45 : decode cX8_digest 45 = .ok (.ldc2_w 223, 3) := by decide +kernel
theorem dX8_digest_48 : decode cX8_digest 48 = .ok (.lload_n 1, 1) := by decide +kernel
theorem dX8_digest_49 : decode cX8_digest 49 = .ok (.lmul, 1) := by decide +kernel
theorem dX8_digest_50 : decode cX8_digest 50 = .ok (.aload_n 0, 1) := by decide +kernel
theorem dX8_digest_51 : decode cX8_digest 51 = .ok (.invokevirtual 228, 3) := by decide +kernel
theorem dX8_digest_54 : decode cX8_digest 54 = .ok (.ladd, 1) := by decide +kernel
theorem dX8_digest_55 : decode cX8_digest 55 = .ok (.lstore_n 1, 1) := by decide +kernel
theorem dX8_digest_56 : decode cX8_digest 56 = .ok (.iconst 0, 1) := by decide +kernel
theorem dX8_digest_57 : decode cX8_digest 57 = .ok (.istore_n 3, 1) := by decide +kernel
theorem dX8_digest_58 : decode cX8_digest 58 = .ok (.iload_n 3, 1) := by decide +kernel
theorem dX8_digest_59 : decode cX8_digest 59 = .ok (.iconst 5, 1) := by decide +kernel
theorem dX8_digest_60 : decode cX8_digest 60 = .ok (.if_icmp .ge 39, 3) := by decide +kernel
theorem dX8_digest_63 : decode cX8_digest 63 = .ok (.iconst 0, 1) := by decide +kernel
theorem dX8_digest_64 : decode cX8_digest 64 = .ok (.istore 4, 2) := by decide +kernel
theorem dX8_digest_66 : decode cX8_digest 66 = .ok (.iload 4, 2) := by decide +kernel
theorem dX8_digest_68 : decode cX8_digest 68 = .ok (.iconst 3, 1) := by decide +kernel
theorem dX8_digest_69 : decode cX8_digest 69 = .ok (.if_icmp .ge 24, 3) := by decide +kernel
theorem dX8_digest_72 : decode cX8_digest 72 = .ok (.ldc2_w 223, 3) := by decide +kernel
theorem dX8_digest_75 : decode cX8_digest 75 = .ok (.lload_n 1, 1) := by decide +kernel
theorem dX8_digest_76 : decode cX8_digest 76 = .ok (.lmul, 1) := by decide +kernel
theorem dX8_digest_77 : decode cX8_digest 77 = .ok (.aload_n 0, 1) := by decide +kernel
theorem dX8_digest_78 : decode cX8_digest 78 = .ok (.iload_n 3, 1) := by decide +kernel
theorem dX8_digest_79 : decode cX8_digest 79 = .ok (.iload 4, 2) := by decide +kernel
theorem dX8_digest_81 : decode cX8_digest 81 = .ok (.invokevirtual 232, 3) := by decide +kernel
theorem dX8_digest_84 : decode cX8_digest 84 = .ok (.i2l, 1) := by decide +kernel
theorem dX8_digest_85 : decode cX8_digest 85 = .ok (.ladd, 1) := by decide +kernel
theorem dX8_digest_86 : decode cX8_digest 86 = .ok (.lstore_n 1, 1) := by decide +kernel
theorem dX8_digest_87 : decode cX8_digest 87 = .ok (.iinc 4 1, 3) := by decide +kernel
theorem dX8_digest_90 : decode cX8_digest 90 = .ok (.goto (-24), 3) := by decide +kernel
theorem dX8_digest_93 : decode cX8_digest 93 = .ok (.iinc 3 1, 3) := by decide +kernel
theorem dX8_digest_96 : decode cX8_digest 96 = .ok (.goto (-38), 3) := by decide +kernel
theorem dX8_digest_99 : decode cX8_digest 99 = .ok (.iconst 0, 1) := by decide +kernel
theorem dX8_digest_100 : decode cX8_digest 100 = .ok (.istore_n 3, 1) := by decide +kernel
theorem dX8_digest_101 : decode cX8_digest 101 = .ok (.iload_n 3, 1) := by decide +kernel
theorem dX8_digest_102 : decode cX8_digest 102 = .ok (.aload_n 0, 1) := by decide +kernel
theorem dX8_digest_103 : decode cX8_digest 103 = .ok (.getfield 10, 3) := by decide +kernel
theorem dX8_digest_106 : decode cX8_digest 106 = .ok (.getfield 73, 3) := by decide +kernel
theorem dX8_digest_109 : decode cX8_digest 109 = .ok (.if_icmp .ge 26, 3) := by decide +kernel
theorem dX8_digest_112 : decode cX8_digest 112 = .ok (.ldc2_w 223, 3) := by decide +kernel
theorem dX8_digest_115 : decode cX8_digest 115 = .ok (.lload_n 1, 1) := by decide +kernel
theorem dX8_digest_116 : decode cX8_digest 116 = .ok (.lmul, 1) := by decide +kernel
theorem dX8_digest_117 : decode cX8_digest 117 = .ok (.aload_n 0, 1) := by decide +kernel
theorem dX8_digest_118 : decode cX8_digest 118 = .ok (.getfield 10, 3) := by decide +kernel
theorem dX8_digest_121 : decode cX8_digest 121 = .ok (.getfield 235, 3) := by decide +kernel
theorem dX8_digest_124 : decode cX8_digest 124 = .ok (.iload_n 3, 1) := by decide +kernel
theorem dX8_digest_125 : decode cX8_digest 125 = .ok (.iaload, 1) := by decide +kernel
theorem dX8_digest_126 : decode cX8_digest 126 = .ok (.i2l, 1) := by decide +kernel
theorem dX8_digest_127 : decode cX8_digest 127 = .ok (.ladd, 1) := by decide +kernel
theorem dX8_digest_128 : decode cX8_digest 128 = .ok (.lstore_n 1, 1) := by decide +kernel
theorem dX8_digest_129 : decode cX8_digest 129 = .ok (.iinc 3 1, 3) := by decide +kernel
theorem dX8_digest_132 : decode cX8_digest 132 = .ok (.goto (-31), 3) := by decide +kernel
theorem dX8_digest_135 : decode cX8_digest 135 = .ok (.iconst 0, 1) := by decide +kernel
theorem dX8_digest_136 : decode cX8_digest 136 = .ok (.istore_n 3, 1) := by decide +kernel
theorem dX8_digest_137 : decode cX8_digest 137 = .ok (.iload_n 3, 1) := by decide +kernel
theorem dX8_digest_138 : decode cX8_digest 138 = .ok (.bipush 11, 2) := by decide +kernel
theorem dX8_digest_140 : decode cX8_digest 140 = .ok (.if_icmp .ge 22, 3) := by decide +kernel
theorem dX8_digest_143 : decode cX8_digest 143 = .ok (.ldc2_w 223, 3) := by decide +kernel
theorem dX8_digest_146 : decode cX8_digest 146 = .ok (.lload_n 1, 1) := by decide +kernel
theorem dX8_digest_147 : decode cX8_digest 147 = .ok (.lmul, 1) := by decide +kernel
theorem dX8_digest_148 : decode cX8_digest 148 = .ok (.aload_n 0, 1) := by decide +kernel
theorem dX8_digest_149 : decode cX8_digest 149 = .ok (.iload_n 3, 1) := by decide +kernel
theorem dX8_digest_150 : decode cX8_digest 150 = .ok (.invokevirtual 238, 3) := by decide +kernel
theorem dX8_digest_153 : decode cX8_digest 153 = .ok (.i2l, 1) := by decide +kernel
theorem dX8_digest_154 : decode cX8_digest 154 = .ok (.ladd, 1) := by decide +kernel
theorem dX8_digest_155 : decode cX8_digest 155 = .ok (.lstore_n 1, 1) := by decide +kernel
theorem dX8_digest_156 : decode cX8_digest 156 = .ok (.iinc 3 1, 3) := by decide +kernel
theorem dX8_digest_159 : decode cX8_digest 159 = .ok (.goto (-22), 3) := by decide +kernel
theorem dX8_digest_162 : decode cX8_digest 162 = .ok (.lload_n 1, 1) := by decide +kernel
theorem dX8_digest_163 : decode cX8_digest 163 = .ok (.lreturn, 1) := by decide +kernel
theorem dX8_digestOfLines_0 : decode cX8_digestOfLines 0 = .ok (.lload_n 1, 1) := by decide +kernel
theorem dX8_digestOfLines_1 : decode cX8_digestOfLines 1 = .ok (.lstore_n 3, 1) := by decide +kernel
theorem dX8_digestOfLines_2 : decode cX8_digestOfLines 2 = .ok (.iconst 0, 1) := by decide +kernel
theorem dX8_digestOfLines_3 : decode cX8_digestOfLines 3 = .ok (.istore 5, 2) := by decide +kernel
theorem dX8_digestOfLines_5 : decode cX8_digestOfLines 5 = .ok (.iload 5, 2) := by decide +kernel
theorem dX8_digestOfLines_7 : decode cX8_digestOfLines 7 = .ok (.iconst 2, 1) := by decide +kernel
theorem dX8_digestOfLines_8 : decode cX8_digestOfLines 8 = .ok (.if_icmp .ge 67, 3) := by decide +kernel
theorem dX8_digestOfLines_11 : decode cX8_digestOfLines 11 = .ok (.iconst 0, 1) := by decide +kernel
theorem dX8_digestOfLines_12 : decode cX8_digestOfLines 12 = .ok (.istore 6, 2) := by decide +kernel
theorem dX8_digestOfLines_14 : decode cX8_digestOfLines 14 = .ok (.iload 6, 2) := by decide +kernel
theorem dX8_digestOfLines_16 : decode cX8_digestOfLines 16 = .ok (.aload_n 0, 1) := by decide +kernel
theorem dX8_digestOfLines_17 : decode cX8_digestOfLines 17 = .ok (.getfield 27, 3) := by decide +kernel
theorem dX8_digestOfLines_20 : decode cX8_digestOfLines 20 = .ok (.getfield 158, 3) := by decide +kernel
theorem dX8_digestOfLines_23 : decode cX8_digestOfLines 23 = .ok (.iload 5, 2) := by decide +kernel
theorem dX8_digestOfLines_25 : decode cX8_digestOfLines 25 = .ok (.iaload, 1) := by decide +kernel
theorem dX8_digestOfLines_26 : decode cX8_digestOfLines 26 = .ok (.if_icmp .ge 43, 3) := by decide +kernel
theorem dX8_digestOfLines_29 : decode cX8_digestOfLines 29 = .ok (.iconst 0, 1) := by decide +kernel
theorem dX8_digestOfLines_30 : decode cX8_digestOfLines 30 = .ok (.istore 7, 2) := by decide +kernel
theorem dX8_digestOfLines_32 : decode cX8_digestOfLines 32 = .ok (.iload 7, 2) := by decide +kernel
theorem dX8_digestOfLines_34 : decode cX8_digestOfLines 34 = .ok (.bipush 6, 2) := by decide +kernel
theorem dX8_digestOfLines_36 : decode cX8_digestOfLines 36 = .ok (.if_icmp .ge 27, 3) := by decide +kernel
theorem dX8_digestOfLines_39 : decode cX8_digestOfLines 39 = .ok (.ldc2_w 223, 3) := by decide +kernel
theorem dX8_digestOfLines_42 : decode cX8_digestOfLines 42 = .ok (.lload_n 3, 1) := by decide +kernel
theorem dX8_digestOfLines_43 : decode cX8_digestOfLines 43 = .ok (.lmul, 1) := by decide +kernel
theorem dX8_digestOfLines_44 : decode cX8_digestOfLines 44 = .ok (.aload_n 0, 1) := by decide +kernel
theorem dX8_digestOfLines_45 : decode cX8_digestOfLines 45 = .ok (.iload 5, 2) := by decide +kernel
theorem dX8_digestOfLines_47 : decode cX8_digestOfLines 47 = .ok (.iload 6, 2) := by decide +kernel
theorem dX8_digestOfLines_49 : decode cX8_digestOfLines 49 = .ok (.iload 7, 2) := by decide +kernel
theorem dX8_digestOfLines_51 : decode cX8_digestOfLines 51 = .ok (.invokevirtual 241, 3) := by decide +kernel
theorem dX8_digestOfLines_54 : decode cX8_digestOfLines 54 = .ok (.i2l, 1) := by decide +kernel
theorem dX8_digestOfLines_55 : decode cX8_digestOfLines 55 = .ok (.ladd, 1) := by decide +kernel
theorem dX8_digestOfLines_56 : decode cX8_digestOfLines 56 = .ok (.lstore_n 3, 1) := by decide +kernel
theorem dX8_digestOfLines_57 : decode cX8_digestOfLines 57 = .ok (.iinc 7 1, 3) := by decide +kernel
theorem dX8_digestOfLines_60 : decode cX8_digestOfLines 60 = .ok (.goto (-28), 3) := by decide +kernel
theorem dX8_digestOfLines_63 : decode cX8_digestOfLines 63 = .ok (.iinc 6 1, 3) := by decide +kernel
theorem dX8_digestOfLines_66 : decode cX8_digestOfLines 66 = .ok (.goto (-52), 3) := by decide +kernel
theorem dX8_digestOfLines_69 : decode cX8_digestOfLines 69 = .ok (.iinc 5 1, 3) := by decide +kernel
theorem dX8_digestOfLines_72 : decode cX8_digestOfLines 72 = .ok (.goto (-67), 3) := by decide +kernel
theorem dX8_digestOfLines_75 : decode cX8_digestOfLines 75 = .ok (.lload_n 3, 1) := by decide +kernel
theorem dX8_digestOfLines_76 : decode cX8_digestOfLines 76 = .ok (.lreturn, 1) := by decide +kernel
theorem dX8_digestOfScript_0 : decode cX8_digestOfScript 0 = .ok (.lload_n 1, 1) := by decide +kernel
theorem dX8_digestOfScript_1 : decode cX8_digestOfScript 1 = .ok (.lstore_n 3, 1) := by decide +kernel
theorem dX8_digestOfScript_2 : decode cX8_digestOfScript 2 = .ok (.iconst 0, 1) := by decide +kernel
theorem dX8_digestOfScript_3 : decode cX8_digestOfScript 3 = .ok (.istore 5, 2) := by decide +kernel
theorem dX8_digestOfScript_5 : decode cX8_digestOfScript 5 = .ok (.iload 5, 2) := by decide +kernel
theorem dX8_digestOfScript_7 : decode cX8_digestOfScript 7 = .ok (.aload_n 0, 1) := by decide +kernel
theorem dX8_digestOfScript_8 : decode cX8_digestOfScript 8 = .ok (.getfield 47, 3) := by decide +kernel
theorem dX8_digestOfScript_11 : decode cX8_digestOfScript 11 = .ok (.getfield 209, 3) := by decide +kernel
theorem dX8_digestOfScript_14 : decode cX8_digestOfScript 14 = .ok (.if_icmp .ge 40, 3) := by decide +kernel
theorem dX8_digestOfScript_17 : decode cX8_digestOfScript 17 = .ok (.iconst 0, 1) := by decide +kernel
theorem dX8_digestOfScript_18 : decode cX8_digestOfScript 18 = .ok (.istore 6, 2) := by decide +kernel
theorem dX8_digestOfScript_20 : decode cX8_digestOfScript 20 = .ok (.iload 6, 2) := by decide +kernel
theorem dX8_digestOfScript_22 : decode cX8_digestOfScript 22 = .ok (.iconst 5, 1) := by decide +kernel
theorem dX8_digestOfScript_23 : decode cX8_digestOfScript 23 = .ok (.if_icmp .ge 25, 3) := by decide +kernel
theorem dX8_digestOfScript_26 : decode cX8_digestOfScript 26 = .ok (.ldc2_w 223, 3) := by decide +kernel
theorem dX8_digestOfScript_29 : decode cX8_digestOfScript 29 = .ok (.lload_n 3, 1) := by decide +kernel
theorem dX8_digestOfScript_30 : decode cX8_digestOfScript 30 = .ok (.lmul, 1) := by decide +kernel
theorem dX8_digestOfScript_31 : decode cX8_digestOfScript 31 = .ok (.aload_n 0, 1) := by decide +kernel
theorem dX8_digestOfScript_32 : decode cX8_digestOfScript 32 = .ok (.iload 5, 2) := by decide +kernel
theorem dX8_digestOfScript_34 : decode cX8_digestOfScript 34 = .ok (.iload 6, 2) := by decide +kernel
theorem dX8_digestOfScript_36 : decode cX8_digestOfScript 36 = .ok (.invokevirtual 245, 3) := by decide +kernel
theorem dX8_digestOfScript_39 : decode cX8_digestOfScript 39 = .ok (.i2l, 1) := by decide +kernel
theorem dX8_digestOfScript_40 : decode cX8_digestOfScript 40 = .ok (.ladd, 1) := by decide +kernel
theorem dX8_digestOfScript_41 : decode cX8_digestOfScript 41 = .ok (.lstore_n 3, 1) := by decide +kernel
theorem dX8_digestOfScript_42 : decode cX8_digestOfScript 42 = .ok (.iinc 6 1, 3) := by decide +kernel
theorem dX8_digestOfScript_45 : decode cX8_digestOfScript 45 = .ok (.goto (-25), 3) := by decide +kernel
theorem dX8_digestOfScript_48 : decode cX8_digestOfScript 48 = .ok (.iinc 5 1, 3) := by decide +kernel
theorem dX8_digestOfScript_51 : decode cX8_digestOfScript 51 = .ok (.goto (-46), 3) := by decide +kernel
theorem dX8_digestOfScript_54 : decode cX8_digestOfScript 54 = .ok (.lload_n 3, 1) := by decide +kernel
theorem dX8_digestOfScript_55 : decode cX8_digestOfScript 55 = .ok (.lreturn, 1) := by decide +kernel
theorem dX8_compareAnew_0 : decode cX8_compareAnew 0 = .ok (.aload_n 0, 1) := by decide +kernel
theorem dX8_compareAnew_1 : decode cX8_compareAnew 1 = .ok (.getfield 19, 3) := by decide +kernel
theorem dX8_compareAnew_4 : decode cX8_compareAnew 4 = .ok (.invokevirtual 248, 3) := by decide +kernel
theorem dX8_compareAnew_7 : decode cX8_compareAnew 7 = .ok (.aload_n 0, 1) := by decide +kernel
theorem dX8_compareAnew_8 : decode cX8_compareAnew 8 = .ok (.getfield 47, 3) := by decide +kernel
theorem dX8_compareAnew_11 : decode cX8_compareAnew 11 = .ok (.aload_n 0, 1) := by decide +kernel
theorem dX8_compareAnew_12 : decode cX8_compareAnew 12 = .ok (.getfield 19, 3) := by decide +kernel
theorem dX8_compareAnew_15 : decode cX8_compareAnew 15 = .ok (.aload_n 0, 1) := by decide +kernel
theorem dX8_compareAnew_16 : decode cX8_compareAnew 16 = .ok (.getfield 40, 3) := by decide +kernel
theorem dX8_compareAnew_19 : decode cX8_compareAnew 19 = .ok (.invokevirtual 251, 3) := by decide +kernel
theorem dX8_compareAnew_22 : decode cX8_compareAnew 22 = .ok (.aload_n 0, 1) := by decide +kernel
theorem dX8_compareAnew_23 : decode cX8_compareAnew 23 = .ok (.getfield 54, 3) := by decide +kernel
theorem dX8_compareAnew_26 : decode cX8_compareAnew 26 = .ok (.invokevirtual 255, 3) := by decide +kernel
theorem dX8_compareAnew_29 : decode cX8_compareAnew 29 = .ok (.aload_n 0, 1) := by decide +kernel
theorem dX8_compareAnew_30 : decode cX8_compareAnew 30 = .ok (.getfield 47, 3) := by decide +kernel
theorem dX8_compareAnew_33 : decode cX8_compareAnew 33 = .ok (.getfield 209, 3) := by decide +kernel
theorem dX8_compareAnew_36 : decode cX8_compareAnew 36 = .ok (.ireturn, 1) := by decide +kernel
theorem dX8_costOfPutting_0 : decode cX8_costOfPutting 0 = .ok (.aload_n 0, 1) := by decide +kernel
theorem dX8_costOfPutting_1 : decode cX8_costOfPutting 1 = .ok (.getfield 28, 3) := by decide +kernel
theorem dX8_costOfPutting_4 : decode cX8_costOfPutting 4 = .ok (.getfield 23, 3) := by decide +kernel
theorem dX8_costOfPutting_7 : decode cX8_costOfPutting 7 = .ok (.aload_n 0, 1) := by decide +kernel
theorem dX8_costOfPutting_8 : decode cX8_costOfPutting 8 = .ok (.getfield 27, 3) := by decide +kernel
theorem dX8_costOfPutting_11 : decode cX8_costOfPutting 11 = .ok (.invokevirtual 206, 3) := by decide +kernel
theorem dX8_costOfPutting_14 : decode cX8_costOfPutting 14 = .ok (.aload_n 0, 1) := by decide +kernel
theorem dX8_costOfPutting_15 : decode cX8_costOfPutting 15 = .ok (.getfield 28, 3) := by decide +kernel
theorem dX8_costOfPutting_18 : decode cX8_costOfPutting 18 = .ok (.getfield 23, 3) := by decide +kernel
theorem dX8_costOfPutting_21 : decode cX8_costOfPutting 21 = .ok (.iconst 1, 1) := by decide +kernel
theorem dX8_costOfPutting_22 : decode cX8_costOfPutting 22 = .ok (.iload_n 1, 1) := by decide +kernel
theorem dX8_costOfPutting_23 : decode cX8_costOfPutting 23 = .ok (.iload_n 2, 1) := by decide +kernel
theorem dX8_costOfPutting_24 : decode cX8_costOfPutting 24 = .ok (.invokevirtual 162, 3) := by decide +kernel
theorem dX8_costOfPutting_27 : decode cX8_costOfPutting 27 = .ok (.aload_n 0, 1) := by decide +kernel
theorem dX8_costOfPutting_28 : decode cX8_costOfPutting 28 = .ok (.getfield 28, 3) := by decide +kernel
theorem dX8_costOfPutting_31 : decode cX8_costOfPutting 31 = .ok (.invokevirtual 248, 3) := by decide +kernel
theorem dX8_costOfPutting_34 : decode cX8_costOfPutting 34 = .ok (.aload_n 0, 1) := by decide +kernel
theorem dX8_costOfPutting_35 : decode cX8_costOfPutting 35 = .ok (.getfield 28, 3) := by decide +kernel
theorem dX8_costOfPutting_38 : decode cX8_costOfPutting 38 = .ok (.invokevirtual 176, 3) := by decide +kernel
theorem dX8_costOfPutting_41 : decode cX8_costOfPutting 41 = .ok (.ireturn, 1) := by decide +kernel
theorem dX8_drawTrial_0 : decode cX8_drawTrial 0 = .ok (.iload_n 1, 1) := by decide +kernel
theorem dX8_drawTrial_1 : decode cX8_drawTrial 1 = .ok (.istore_n 2, 1) := by decide +kernel
theorem dX8_drawTrial_2 : decode cX8_drawTrial 2 = .ok (.aload_n 0, 1) := by decide +kernel
theorem dX8_drawTrial_3 : decode cX8_drawTrial 3 = .ok (.getfield 28, 3) := by decide +kernel
theorem dX8_drawTrial_6 : decode cX8_drawTrial 6 = .ok (.getfield 23, 3) := by decide +kernel
theorem dX8_drawTrial_9 : decode cX8_drawTrial 9 = .ok (.invokevirtual 258, 3) := by decide +kernel
theorem dX8_drawTrial_12 : decode cX8_drawTrial 12 = .ok (.iconst 0, 1) := by decide +kernel
theorem dX8_drawTrial_13 : decode cX8_drawTrial 13 = .ok (.istore_n 3, 1) := by decide +kernel
theorem dX8_drawTrial_14 : decode cX8_drawTrial 14 = .ok (.iload_n 3, 1) := by decide +kernel
theorem dX8_drawTrial_15 : decode cX8_drawTrial 15 = .ok (.iconst 2, 1) := by decide +kernel
theorem dX8_drawTrial_16 : decode cX8_drawTrial 16 = .ok (.if_icmp .ge 63, 3) := by decide +kernel
theorem dX8_drawTrial_19 : decode cX8_drawTrial 19 = .ok (.iconst 0, 1) := by decide +kernel
theorem dX8_drawTrial_20 : decode cX8_drawTrial 20 = .ok (.istore 4, 2) := by decide +kernel
theorem dX8_drawTrial_22 : decode cX8_drawTrial 22 = .ok (.iload 4, 2) := by decide +kernel
theorem dX8_drawTrial_24 : decode cX8_drawTrial 24 = .ok (.iconst 4, 1) := by decide +kernel
theorem dX8_drawTrial_25 : decode cX8_drawTrial 25 = .ok (.if_icmp .ge 48, 3) := by decide +kernel
theorem dX8_drawTrial_28 : decode cX8_drawTrial 28 = .ok (.ldc2_w 259, 3) := by decide +kernel
theorem dX8_drawTrial_31 : decode cX8_drawTrial 31 = .ok (.iload_n 2, 1) := by decide +kernel
theorem dX8_drawTrial_32 : decode cX8_drawTrial 32 = .ok (.i2l, 1) := by decide +kernel
theorem dX8_drawTrial_33 : decode cX8_drawTrial 33 = .ok (.lmul, 1) := by decide +kernel
theorem dX8_drawTrial_34 : decode cX8_drawTrial 34 = .ok (.ldc2_w 261, 3) := by decide +kernel
theorem dX8_drawTrial_37 : decode cX8_drawTrial 37 = .ok (.ladd, 1) := by decide +kernel
theorem dX8_drawTrial_38 : decode cX8_drawTrial 38 = .ok (.ldc2_w 263, 3) := by decide +kernel
theorem dX8_drawTrial_41 : decode cX8_drawTrial 41 = .ok (.lrem, 1) := by decide +kernel
theorem dX8_drawTrial_42 : decode cX8_drawTrial 42 = .ok (.l2i, 1) := by decide +kernel
theorem dX8_drawTrial_43 : decode cX8_drawTrial 43 = .ok (.istore_n 2, 1) := by decide +kernel
theorem dX8_drawTrial_44 : decode cX8_drawTrial 44 = .ok (.aload_n 0, 1) := by decide +kernel
theorem dX8_drawTrial_45 : decode cX8_drawTrial 45 = .ok (.getfield 28, 3) := by decide +kernel
theorem dX8_drawTrial_48 : decode cX8_drawTrial 48 = .ok (.getfield 23, 3) := by decide +kernel
theorem dX8_drawTrial_51 : decode cX8_drawTrial 51 = .ok (.iload_n 3, 1) := by decide +kernel
theorem dX8_drawTrial_52 : decode cX8_drawTrial 52 = .ok (.iload 4, 2) := by decide +kernel
theorem dX8_drawTrial_54 : decode cX8_drawTrial 54 = .ok (.bipush 97, 2) := by decide +kernel
theorem dX8_drawTrial_56 : decode cX8_drawTrial 56 = .ok (.iload_n 2, 1) := by decide +kernel
theorem dX8_drawTrial_57 : decode cX8_drawTrial 57 = .ok (.ldc_w 265, 3) := by decide +kernel
theorem dX8_drawTrial_60 : decode cX8_drawTrial 60 = .ok (.idiv, 1) := by decide +kernel
theorem dX8_drawTrial_61 : decode cX8_drawTrial 61 = .ok (.iconst 5, 1) := by decide +kernel
theorem dX8_drawTrial_62 : decode cX8_drawTrial 62 = .ok (.irem, 1) := by decide +kernel
theorem dX8_drawTrial_63 : decode cX8_drawTrial 63 = .ok (.iadd, 1) := by decide +kernel
theorem dX8_drawTrial_64 : decode cX8_drawTrial 64 = .ok (.invokevirtual 162, 3) := by decide +kernel
theorem dX8_drawTrial_67 : decode cX8_drawTrial 67 = .ok (.iinc 4 1, 3) := by decide +kernel
theorem dX8_drawTrial_70 : decode cX8_drawTrial 70 = .ok (.goto (-48), 3) := by decide +kernel
theorem dX8_drawTrial_73 : decode cX8_drawTrial 73 = .ok (.iinc 3 1, 3) := by decide +kernel
theorem dX8_drawTrial_76 : decode cX8_drawTrial 76 = .ok (.goto (-62), 3) := by decide +kernel
theorem dX8_drawTrial_79 : decode cX8_drawTrial 79 = .ok (.aload_n 0, 1) := by decide +kernel
theorem dX8_drawTrial_80 : decode cX8_drawTrial 80 = .ok (.getfield 28, 3) := by decide +kernel
theorem dX8_drawTrial_83 : decode cX8_drawTrial 83 = .ok (.invokevirtual 248, 3) := by decide +kernel
theorem dX8_drawTrial_86 : decode cX8_drawTrial 86 = .ok (.iload_n 2, 1) := by decide +kernel
theorem dX8_drawTrial_87 : decode cX8_drawTrial 87 = .ok (.ireturn, 1) := by decide +kernel
theorem dX8_isSide_0 : decode cX8_isSide 0 = .ok (.iload_n 0, 1) := by decide +kernel
theorem dX8_isSide_1 : decode cX8_isSide 1 = .ok (.ifCond .eq 8, 3) := by decide +kernel
theorem dX8_isSide_4 : decode cX8_isSide 4 = .ok (.iload_n 0, 1) := by decide +kernel
theorem dX8_isSide_5 : decode cX8_isSide 5 = .ok (.iconst 1, 1) := by decide +kernel
theorem dX8_isSide_6 : decode cX8_isSide 6 = .ok (.if_icmp .ne 7, 3) := by decide +kernel
theorem dX8_isSide_9 : decode cX8_isSide 9 = .ok (.iconst 1, 1) := by decide +kernel
theorem dX8_isSide_10 : decode cX8_isSide 10 = .ok (.goto 4, 3) := by decide +kernel
theorem dX8_isSide_13 : decode cX8_isSide 13 = .ok (.iconst 0, 1) := by decide +kernel
theorem dX8_isSide_14 : decode cX8_isSide 14 = .ok (.ireturn, 1) := by decide +kernel
theorem dX8_isLetter_0 : decode cX8_isLetter 0 = .ok (.iload_n 0, 1) := by decide +kernel
theorem dX8_isLetter_1 : decode cX8_isLetter 1 = .ok (.bipush 97, 2) := by decide +kernel
theorem dX8_isLetter_3 : decode cX8_isLetter 3 = .ok (.if_icmp .lt 13, 3) := by decide +kernel
theorem dX8_isLetter_6 : decode cX8_isLetter 6 = .ok (.iload_n 0, 1) := by decide +kernel
theorem dX8_isLetter_7 : decode cX8_isLetter 7 = .ok (.bipush 101, 2) := by decide +kernel
theorem dX8_isLetter_9 : decode cX8_isLetter 9 = .ok (.if_icmp .gt 7, 3) := by decide +kernel
theorem dX8_isLetter_12 : decode cX8_isLetter 12 = .ok (.iconst 1, 1) := by decide +kernel
theorem dX8_isLetter_13 : decode cX8_isLetter 13 = .ok (.goto 4, 3) := by decide +kernel
theorem dX8_isLetter_16 : decode cX8_isLetter 16 = .ok (.iconst 0, 1) := by decide +kernel
theorem dX8_isLetter_17 : decode cX8_isLetter 17 = .ok (.ireturn, 1) := by decide +kernel
theorem dX8_isLine_0 : decode cX8_isLine 0 = .ok (.iload_n 0, 1) := by decide +kernel
theorem dX8_isLine_1 : decode cX8_isLine 1 = .ok (.istore_n 1, 1) := by decide +kernel
theorem dX8_isLine_2 : decode cX8_isLine 2 = .ok (.iconst 0, 1) := by decide +kernel
theorem dX8_isLine_3 : decode cX8_isLine 3 = .ok (.istore_n 2, 1) := by decide +kernel
theorem dX8_isLine_4 : decode cX8_isLine 4 = .ok (.iload_n 2, 1) := by decide +kernel
theorem dX8_isLine_5 : decode cX8_isLine 5 = .ok (.iconst 3, 1) := by decide +kernel
theorem dX8_isLine_6 : decode cX8_isLine 6 = .ok (.if_icmp .ge 30, 3) := by decide +kernel
theorem dX8_isLine_9 : decode cX8_isLine 9 = .ok (.iload_n 1, 1) := by decide +kernel
theorem dX8_isLine_10 : decode cX8_isLine 10 = .ok (.bipush 127, 2) := by decide +kernel
theorem dX8_isLine_12 : decode cX8_isLine 12 = .ok (.iand, 1) := by decide +kernel
theorem dX8_isLine_13 : decode cX8_isLine 13 = .ok (.invokestatic 266, 3) := by decide +kernel
theorem dX8_isLine_16 : decode cX8_isLine 16 = .ok (.ifCond .eq 20, 3) := by decide +kernel
theorem dX8_isLine_19 : decode cX8_isLine 19 = .ok (.iload_n 1, 1) := by decide +kernel
theorem dX8_isLine_20 : decode cX8_isLine 20 = .ok (.bipush 7, 2) := by decide +kernel
theorem dX8_isLine_22 : decode cX8_isLine 22 = .ok (.ishr, 1) := by decide +kernel
theorem dX8_isLine_23 : decode cX8_isLine 23 = .ok (.istore_n 1, 1) := by decide +kernel
theorem dX8_isLine_24 : decode cX8_isLine 24 = .ok (.iload_n 1, 1) := by decide +kernel
theorem dX8_isLine_25 : decode cX8_isLine 25 = .ok (.ifCond .ne 5, 3) := by decide +kernel
theorem dX8_isLine_28 : decode cX8_isLine 28 = .ok (.iconst 1, 1) := by decide +kernel
theorem dX8_isLine_29 : decode cX8_isLine 29 = .ok (.ireturn, 1) := by decide +kernel
theorem dX8_isLine_30 : decode cX8_isLine 30 = .ok (.iinc 2 1, 3) := by decide +kernel
theorem dX8_isLine_33 : decode cX8_isLine 33 = .ok (.goto (-29), 3) := by decide +kernel
theorem dX8_isLine_36 : decode cX8_isLine 36 = .ok (.iconst 0, 1) := by decide +kernel
theorem dX8_isLine_37 : decode cX8_isLine 37 = .ok (.ireturn, 1) := by decide +kernel
theorem dX8_lettersIn_0 : decode cX8_lettersIn 0 = .ok (.iload_n 0, 1) := by decide +kernel
theorem dX8_lettersIn_1 : decode cX8_lettersIn 1 = .ok (.sipush 128, 3) := by decide +kernel
theorem dX8_lettersIn_4 : decode cX8_lettersIn 4 = .ok (.if_icmp .ge 7, 3) := by decide +kernel
theorem dX8_lettersIn_7 : decode cX8_lettersIn 7 = .ok (.iconst 1, 1) := by decide +kernel
theorem dX8_lettersIn_8 : decode cX8_lettersIn 8 = .ok (.goto 15, 3) := by decide +kernel
theorem dX8_lettersIn_11 : decode cX8_lettersIn 11 = .ok (.iload_n 0, 1) := by decide +kernel
theorem dX8_lettersIn_12 : decode cX8_lettersIn 12 = .ok (.sipush 16384, 3) := by decide +kernel
theorem dX8_lettersIn_15 : decode cX8_lettersIn 15 = .ok (.if_icmp .ge 7, 3) := by decide +kernel
theorem dX8_lettersIn_18 : decode cX8_lettersIn 18 = .ok (.iconst 2, 1) := by decide +kernel
theorem dX8_lettersIn_19 : decode cX8_lettersIn 19 = .ok (.goto 4, 3) := by decide +kernel
theorem dX8_lettersIn_22 : decode cX8_lettersIn 22 = .ok (.iconst 3, 1) := by decide +kernel
theorem dX8_lettersIn_23 : decode cX8_lettersIn 23 = .ok (.ireturn, 1) := by decide +kernel
theorem dX8_codeAt_0 : decode cX8_codeAt 0 = .ok (.iload_n 0, 1) := by decide +kernel
theorem dX8_codeAt_1 : decode cX8_codeAt 1 = .ok (.invokestatic 102, 3) := by decide +kernel
theorem dX8_codeAt_4 : decode cX8_codeAt 4 = .ok (.iconst 1, 1) := by decide +kernel
theorem dX8_codeAt_5 : decode cX8_codeAt 5 = .ok (.isub, 1) := by decide +kernel
theorem dX8_codeAt_6 : decode cX8_codeAt 6 = .ok (.iload_n 1, 1) := by decide +kernel
theorem dX8_codeAt_7 : decode cX8_codeAt 7 = .ok (.isub, 1) := by decide +kernel
theorem dX8_codeAt_8 : decode cX8_codeAt 8 = .ok (.istore_n 2, 1) := by decide +kernel
theorem dX8_codeAt_9 : decode cX8_codeAt 9 = .ok (.iload_n 2, 1) := by decide +kernel
theorem dX8_codeAt_10 : decode cX8_codeAt 10 = .ok (.ifCond .ge 7, 3) := by decide +kernel
theorem dX8_codeAt_13 : decode cX8_codeAt 13 = .ok (.iconst (-1), 1) := by decide +kernel
theorem dX8_codeAt_14 : decode cX8_codeAt 14 = .ok (.goto 12, 3) := by decide +kernel
theorem dX8_codeAt_17 : decode cX8_codeAt 17 = .ok (.iload_n 0, 1) := by decide +kernel
theorem dX8_codeAt_18 : decode cX8_codeAt 18 = .ok (.bipush 7, 2) := by decide +kernel
theorem dX8_codeAt_20 : decode cX8_codeAt 20 = .ok (.iload_n 2, 1) := by decide +kernel
theorem dX8_codeAt_21 : decode cX8_codeAt 21 = .ok (.imul, 1) := by decide +kernel
theorem dX8_codeAt_22 : decode cX8_codeAt 22 = .ok (.ishr, 1) := by decide +kernel
theorem dX8_codeAt_23 : decode cX8_codeAt 23 = .ok (.bipush 127, 2) := by decide +kernel
theorem dX8_codeAt_25 : decode cX8_codeAt 25 = .ok (.iand, 1) := by decide +kernel
theorem dX8_codeAt_26 : decode cX8_codeAt 26 = .ok (.ireturn, 1) := by decide +kernel
theorem dX8_isOfKind_0 : decode cX8_isOfKind 0 = .ok (.iload_n 0, 1) := by decide +kernel
theorem dX8_isOfKind_1 : decode cX8_isOfKind 1 = .ok (.istore_n 2, 1) := by decide +kernel
theorem dX8_isOfKind_2 : decode cX8_isOfKind 2 = .ok (.iconst 0, 1) := by decide +kernel
theorem dX8_isOfKind_3 : decode cX8_isOfKind 3 = .ok (.istore_n 3, 1) := by decide +kernel
theorem dX8_isOfKind_4 : decode cX8_isOfKind 4 = .ok (.iload_n 3, 1) := by decide +kernel
theorem dX8_isOfKind_5 : decode cX8_isOfKind 5 = .ok (.iconst 5, 1) := by decide +kernel
theorem dX8_isOfKind_6 : decode cX8_isOfKind 6 = .ok (.if_icmp .ge 31, 3) := by decide +kernel
theorem dX8_isOfKind_9 : decode cX8_isOfKind 9 = .ok (.iload_n 2, 1) := by decide +kernel
theorem dX8_isOfKind_10 : decode cX8_isOfKind 10 = .ok (.ifCond .lt 27, 3) := by decide +kernel
theorem dX8_isOfKind_13 : decode cX8_isOfKind 13 = .ok (.iload_n 2, 1) := by decide +kernel
theorem dX8_isOfKind_14 : decode cX8_isOfKind 14 = .ok (.iconst 5, 1) := by decide +kernel
theorem dX8_isOfKind_15 : decode cX8_isOfKind 15 = .ok (.if_icmp .ge 22, 3) := by decide +kernel
theorem dX8_isOfKind_18 : decode cX8_isOfKind 18 = .ok (.iload_n 2, 1) := by decide +kernel
theorem dX8_isOfKind_19 : decode cX8_isOfKind 19 = .ok (.iload_n 1, 1) := by decide +kernel
theorem dX8_isOfKind_20 : decode cX8_isOfKind 20 = .ok (.if_icmp .ne 5, 3) := by decide +kernel
theorem dX8_isOfKind_23 : decode cX8_isOfKind 23 = .ok (.iconst 1, 1) := by decide +kernel
theorem dX8_isOfKind_24 : decode cX8_isOfKind 24 = .ok (.ireturn, 1) := by decide +kernel
theorem dX8_isOfKind_25 : decode cX8_isOfKind 25 = .ok (.getstatic 269, 3) := by decide +kernel
theorem dX8_isOfKind_28 : decode cX8_isOfKind 28 = .ok (.iload_n 2, 1) := by decide +kernel
theorem dX8_isOfKind_29 : decode cX8_isOfKind 29 = .ok (.iaload, 1) := by decide +kernel
theorem dX8_isOfKind_30 : decode cX8_isOfKind 30 = .ok (.istore_n 2, 1) := by decide +kernel
theorem dX8_isOfKind_31 : decode cX8_isOfKind 31 = .ok (.iinc 3 1, 3) := by decide +kernel
theorem dX8_isOfKind_34 : decode cX8_isOfKind 34 = .ok (.goto (-30), 3) := by decide +kernel
theorem dX8_isOfKind_37 : decode cX8_isOfKind 37 = .ok (.iconst 0, 1) := by decide +kernel
theorem dX8_isOfKind_38 : decode cX8_isOfKind 38 = .ok (.ireturn, 1) := by decide +kernel
theorem dX8_singleBits_0 : decode cX8_singleBits 0 = .ok (.fload_n 0, 1) := by decide +kernel
theorem dX8_singleBits_1 : decode cX8_singleBits 1 = .ok (.fconst 0, 1) := by decide +kernel
theorem dX8_singleBits_2 : decode cX8_singleBits 2 = .ok (.fcmp .l, 1) := by decide +kernel
theorem dX8_singleBits_3 : decode cX8_singleBits 3 = .ok (.ifCond .gt 5, 3) := by decide +kernel
theorem dX8_singleBits_6 : decode cX8_singleBits 6 = .ok (.iconst 0, 1) := by decide +kernel
theorem dX8_singleBits_7 : decode cX8_singleBits 7 = .ok (.ireturn, 1) := by decide +kernel
theorem dX8_singleBits_8 : decode cX8_singleBits 8 = .ok (.fload_n 0, 1) := by decide +kernel
theorem dX8_singleBits_9 : decode cX8_singleBits 9 = .ok (.fstore_n 1, 1) := by decide +kernel
theorem dX8_singleBits_10 : decode cX8_singleBits 10 = .ok (.sipush 150, 3) := by decide +kernel
theorem dX8_singleBits_13 : decode cX8_singleBits 13 = .ok (.istore_n 2, 1) := by decide +kernel
theorem dX8_singleBits_14 : decode cX8_singleBits 14 = .ok (.iconst 0, 1) := by decide +kernel
theorem dX8_singleBits_15 : decode cX8_singleBits 15 = .ok (.istore_n 3, 1) := by decide +kernel
theorem dX8_singleBits_16 : decode cX8_singleBits 16 = .ok (.iload_n 3, 1) := by decide +kernel
theorem dX8_singleBits_17 : decode cX8_singleBits 17 = .ok (.bipush 127, 2) := by decide +kernel
theorem dX8_singleBits_19 : decode cX8_singleBits 19 = .ok (.if_icmp .ge 24, 3) := by decide +kernel
theorem dX8_singleBits_22 : decode cX8_singleBits 22 = .ok (.fload_n 1, 1) := by decide +kernel
theorem dX8_singleBits_23 : decode cX8_singleBits 23 = .ok (.ldc_w 272, 3) := by decide +kernel
theorem dX8_singleBits_26 : decode cX8_singleBits 26 = .ok (.fcmp .g, 1) := by decide +kernel
theorem dX8_singleBits_27 : decode cX8_singleBits 27 = .ok (.ifCond .ge 16, 3) := by decide +kernel
theorem dX8_singleBits_30 : decode cX8_singleBits 30 = .ok (.fload_n 1, 1) := by decide +kernel
theorem dX8_singleBits_31 : decode cX8_singleBits 31 = .ok (.fconst 2, 1) := by decide +kernel
theorem dX8_singleBits_32 : decode cX8_singleBits 32 = .ok (.fmul, 1) := by decide +kernel
theorem dX8_singleBits_33 : decode cX8_singleBits 33 = .ok (.fstore_n 1, 1) := by decide +kernel
theorem dX8_singleBits_34 : decode cX8_singleBits 34 = .ok (.iinc 2 (-1), 3) := by decide +kernel
theorem dX8_singleBits_37 : decode cX8_singleBits 37 = .ok (.iinc 3 1, 3) := by decide +kernel
theorem dX8_singleBits_40 : decode cX8_singleBits 40 = .ok (.goto (-24), 3) := by decide +kernel
theorem dX8_singleBits_43 : decode cX8_singleBits 43 = .ok (.iload_n 2, 1) := by decide +kernel
theorem dX8_singleBits_44 : decode cX8_singleBits 44 = .ok (.bipush 23, 2) := by decide +kernel
theorem dX8_singleBits_46 : decode cX8_singleBits 46 = .ok (.ishl, 1) := by decide +kernel
theorem dX8_singleBits_47 : decode cX8_singleBits 47 = .ok (.fload_n 1, 1) := by decide +kernel
theorem dX8_singleBits_48 : decode cX8_singleBits 48 = .ok (.f2i, 1) := by decide +kernel
theorem dX8_singleBits_49 : decode cX8_singleBits 49 = .ok (.ldc_w 273, 3) := by decide +kernel
theorem dX8_singleBits_52 : decode cX8_singleBits 52 = .ok (.iand, 1) := by decide +kernel
theorem dX8_singleBits_53 : decode cX8_singleBits 53 = .ok (.ior, 1) := by decide +kernel
theorem dX8_singleBits_54 : decode cX8_singleBits 54 = .ok (.ireturn, 1) := by decide +kernel
theorem dX8_doubleBits_0 : decode cX8_doubleBits 0 = .ok (.dload_n 0, 1) := by decide +kernel
theorem dX8_doubleBits_1 : decode cX8_doubleBits 1 = .ok (.dconst 0, 1) := by decide +kernel
theorem dX8_doubleBits_2 : decode cX8_doubleBits 2 = .ok (.dcmp .l, 1) := by decide +kernel
theorem dX8_doubleBits_3 : decode cX8_doubleBits 3 = .ok (.ifCond .gt 5, 3) := by decide +kernel
theorem dX8_doubleBits_6 : decode cX8_doubleBits 6 = .ok (.lconst 0, 1) := by decide +kernel
theorem dX8_doubleBits_7 : decode cX8_doubleBits 7 = .ok (.lreturn, 1) := by decide +kernel
theorem dX8_doubleBits_8 : decode cX8_doubleBits 8 = .ok (.dload_n 0, 1) := by decide +kernel
theorem dX8_doubleBits_9 : decode cX8_doubleBits 9 = .ok (.dstore_n 2, 1) := by decide +kernel
theorem dX8_doubleBits_10 : decode cX8_doubleBits 10 = .ok (.ldc2_w 274, 3) := by decide +kernel
theorem dX8_doubleBits_13 : decode cX8_doubleBits 13 = .ok (.lstore 4, 2) := by decide +kernel
theorem dX8_doubleBits_15 : decode cX8_doubleBits 15 = .ok (.iconst 0, 1) := by decide +kernel
theorem dX8_doubleBits_16 : decode cX8_doubleBits 16 = .ok (.istore 6, 2) := by decide +kernel
theorem dX8_doubleBits_18 : decode cX8_doubleBits 18 = .ok (.iload 6, 2) := by decide +kernel
theorem dX8_doubleBits_20 : decode cX8_doubleBits 20 = .ok (.sipush 1023, 3) := by decide +kernel
theorem dX8_doubleBits_23 : decode cX8_doubleBits 23 = .ok (.if_icmp .ge 29, 3) := by decide +kernel
theorem dX8_doubleBits_26 : decode cX8_doubleBits 26 = .ok (.dload_n 2, 1) := by decide +kernel
theorem dX8_doubleBits_27 : decode cX8_doubleBits 27 = .ok (.ldc2_w 276, 3) := by decide +kernel
theorem dX8_doubleBits_30 : decode cX8_doubleBits 30 = .ok (.dcmp .g, 1) := by decide +kernel
theorem dX8_doubleBits_31 : decode cX8_doubleBits 31 = .ok (.ifCond .ge 21, 3) := by decide +kernel
theorem dX8_doubleBits_34 : decode cX8_doubleBits 34 = .ok (.dload_n 2, 1) := by decide +kernel
theorem dX8_doubleBits_35 : decode cX8_doubleBits 35 = .ok (.ldc2_w 278, 3) := by decide +kernel
theorem dX8_doubleBits_38 : decode cX8_doubleBits 38 = .ok (.dmul, 1) := by decide +kernel
theorem dX8_doubleBits_39 : decode cX8_doubleBits 39 = .ok (.dstore_n 2, 1) := by decide +kernel
theorem dX8_doubleBits_40 : decode cX8_doubleBits 40 = .ok (.lload 4, 2) := by decide +kernel
theorem dX8_doubleBits_42 : decode cX8_doubleBits 42 = .ok (.lconst 1, 1) := by decide +kernel
theorem dX8_doubleBits_43 : decode cX8_doubleBits 43 = .ok (.lsub, 1) := by decide +kernel
theorem dX8_doubleBits_44 : decode cX8_doubleBits 44 = .ok (.lstore 4, 2) := by decide +kernel
theorem dX8_doubleBits_46 : decode cX8_doubleBits 46 = .ok (.iinc 6 1, 3) := by decide +kernel
theorem dX8_doubleBits_49 : decode cX8_doubleBits 49 = .ok (.goto (-31), 3) := by decide +kernel
theorem dX8_doubleBits_52 : decode cX8_doubleBits 52 = .ok (.lload 4, 2) := by decide +kernel
theorem dX8_doubleBits_54 : decode cX8_doubleBits 54 = .ok (.bipush 52, 2) := by decide +kernel
theorem dX8_doubleBits_56 : decode cX8_doubleBits 56 = .ok (.lshl, 1) := by decide +kernel
theorem dX8_doubleBits_57 : decode cX8_doubleBits 57 = .ok (.dload_n 2, 1) := by decide +kernel
theorem dX8_doubleBits_58 : decode cX8_doubleBits 58 = .ok (.d2l, 1) := by decide +kernel
theorem dX8_doubleBits_59 : decode cX8_doubleBits 59 = .ok (.ldc2_w 280, 3) := by decide +kernel
theorem dX8_doubleBits_62 : decode cX8_doubleBits 62 = .ok (.land, 1) := by decide +kernel
theorem dX8_doubleBits_63 : decode cX8_doubleBits 63 = .ok (.lor, 1) := by decide +kernel
theorem dX8_doubleBits_64 : decode cX8_doubleBits 64 = .ok (.lreturn, 1) := by decide +kernel
theorem dX9_init_0 : decode cX9_init 0 = .ok (.aload_n 0, 1) := by decide +kernel
theorem dX9_init_1 : decode cX9_init 1 = .ok (.invokespecial 1, 3) := by decide +kernel
theorem dX9_init_4 : decode cX9_init 4 = .ok (.aload_n 0, 1) := by decide +kernel
theorem dX9_init_5 : decode cX9_init 5 = .ok (.bipush 64, 2) := by decide +kernel
theorem dX9_init_7 : decode cX9_init 7 = .ok (.newarray .int, 2) := by decide +kernel
theorem dX9_init_9 : decode cX9_init 9 = .ok (.putfield 7, 3) := by decide +kernel
theorem dX9_init_12 : decode cX9_init 12 = .ok (.aload_n 0, 1) := by decide +kernel
theorem dX9_init_13 : decode cX9_init 13 = .ok (.iconst 2, 1) := by decide +kernel
theorem dX9_init_14 : decode cX9_init 14 = .ok (.newarray .int, 2) := by decide +kernel
theorem dX9_init_16 : decode cX9_init 16 = .ok (.putfield 13, 3) := by decide +kernel
theorem dX9_init_19 : decode cX9_init 19 = .ok (.aload_n 0, 1) := by decide +kernel
theorem dX9_init_20 : decode cX9_init 20 = .ok (.bipush 32, 2) := by decide +kernel
theorem dX9_init_22 : decode cX9_init 22 = .ok (.newarray .int, 2) := by decide +kernel
theorem dX9_init_24 : decode cX9_init 24 = .ok (.putfield 16, 3) := by decide +kernel
theorem dX9_init_27 : decode cX9_init 27 = .ok (.aload_n 0, 1) := by decide +kernel
theorem dX9_init_28 : decode cX9_init 28 = .ok (.bipush 32, 2) := by decide +kernel
theorem dX9_init_30 : decode cX9_init 30 = .ok (.newarray .int, 2) := by decide +kernel
theorem dX9_init_32 : decode cX9_init 32 = .ok (.putfield 19, 3) := by decide +kernel
theorem dX9_init_35 : decode cX9_init 35 = .ok (.aload_n 0, 1) := by decide +kernel
theorem dX9_init_36 : decode cX9_init 36 = .ok (.iconst 2, 1) := by decide +kernel
theorem dX9_init_37 : decode cX9_init 37 = .ok (.newarray .int, 2) := by decide +kernel
theorem dX9_init_39 : decode cX9_init 39 = .ok (.putfield 22, 3) := by decide +kernel
theorem dX9_init_42 : decode cX9_init 42 = .ok (.aload_n 0, 1) := by decide +kernel
theorem dX9_init_43 : decode cX9_init 43 = .ok (.bipush 32, 2) := by decide +kernel
theorem dX9_init_45 : decode cX9_init 45 = .ok (.newarray .int, 2) := by decide +kernel
theorem dX9_init_47 : decode cX9_init 47 = .ok (.putfield 25, 3) := by decide +kernel
theorem dX9_init_50 : decode cX9_init 50 = .ok (.aload_n 0, 1) := by decide +kernel
theorem dX9_init_51 : decode cX9_init 51 = .ok (.sipush 200, 3) := by decide +kernel
theorem dX9_init_54 : decode cX9_init 54 = .ok (.newarray .int, 2) := by decide +kernel
theorem dX9_init_56 : decode cX9_init 56 = .ok (.putfield 28, 3) := by decide +kernel
theorem dX9_init_59 : decode cX9_init 59 = .ok (.aload_n 0, 1) := by decide +kernel
theorem dX9_init_60 : decode cX9_init 60 = .ok (.bipush 8, 2) := by decide +kernel
theorem dX9_init_62 : decode cX9_init 62 = .ok (.newarray .int, 2) := by decide +kernel
theorem dX9_init_64 : decode cX9_init 64 = .ok (.putfield 31, 3) := by decide +kernel
theorem dX9_init_67 : decode cX9_init 67 = .ok (.aload_n 0, 1) := by decide +kernel
theorem dX9_init_68 : decode cX9_init 68 = .ok (.bipush 8, 2) := by decide +kernel
theorem dX9_init_70 : decode cX9_init 70 = .ok (.newarray .int, 2) := by decide +kernel
theorem dX9_init_72 : decode cX9_init 72 = .ok (.putfield 34, 3) := by decide +kernel
theorem dX9_init_75 : decode cX9_init 75 = .ok (.aload_n 0, 1) := by decide +kernel
theorem dX9_init_76 : decode cX9_init 76 = .ok (.bipush 8, 2) := by decide +kernel
theorem dX9_init_78 : decode cX9_init 78 = .ok (.newarray .int, 2) := by decide +kernel
theorem dX9_init_80 : decode cX9_init 80 = .ok (.putfield 37, 3) := by decide +kernel
theorem dX9_init_83 : decode cX9_init 83 = .ok (.aload_n 0, 1) := by decide +kernel
theorem dX9_init_84 : decode cX9_init 84 = .ok (.bipush 81, 2) := by decide +kernel
theorem dX9_init_86 : decode cX9_init 86 = .ok (.newarray .int, 2) := by decide +kernel
theorem dX9_init_88 : decode cX9_init 88 = .ok (.putfield 40, 3) := by decide +kernel
theorem dX9_init_91 : decode cX9_init 91 = .ok (.aload_n 0, 1) := by decide +kernel
theorem dX9_init_92 : decode cX9_init 92 = .ok (.bipush 16, 2) := by decide +kernel
theorem dX9_init_94 : decode cX9_init 94 = .ok (.newarray .int, 2) := by decide +kernel
theorem dX9_init_96 : decode cX9_init 96 = .ok (.putfield 43, 3) := by decide +kernel
theorem dX9_init_99 : decode cX9_init 99 = .ok (.aload_n 0, 1) := by decide +kernel
theorem dX9_init_100 : decode cX9_init 100 = .ok (.bipush 80, 2) := by decide +kernel
theorem dX9_init_102 : decode cX9_init 102 = .ok (.newarray .int, 2) := by decide +kernel
theorem dX9_init_104 : decode cX9_init 104 = .ok (.putfield 46, 3) := by decide +kernel
theorem dX9_init_107 : decode cX9_init 107 = .ok (.aload_n 0, 1) := by decide +kernel
theorem dX9_init_108 : decode cX9_init 108 = .ok (.bipush 32, 2) := by decide +kernel
theorem dX9_init_110 : decode cX9_init 110 = .ok (.newarray .int, 2) := by decide +kernel
theorem dX9_init_112 : decode cX9_init 112 = .ok (.putfield 49, 3) := by decide +kernel
theorem dX9_init_115 : decode cX9_init 115 = .ok (.aload_n 0, 1) := by decide +kernel
theorem dX9_init_116 : decode cX9_init 116 = .ok (.bipush 15, 2) := by decide +kernel
theorem dX9_init_118 : decode cX9_init 118 = .ok (.newarray .int, 2) := by decide +kernel
theorem dX9_init_120 : decode cX9_init 120 = .ok (.putfield 52, 3) := by decide +kernel
theorem dX9_init_123 : decode cX9_init 123 = .ok (.aload_n 0, 1) := by decide +kernel
theorem dX9_init_124 : decode cX9_init 124 = .ok (.bipush 32, 2) := by decide +kernel
theorem dX9_init_126 : decode cX9_init 126 = .ok (.newarray .int, 2) := by decide +kernel
theorem dX9_init_128 : decode cX9_init 128 = .ok (.putfield 55, 3) := by decide +kernel
theorem dX9_init_131 : decode cX9_init 131 = .ok (.aload_n 0, 1) := by decide +kernel
theorem dX9_init_132 : decode cX9_init 132 = .ok (.iconst 2, 1) := by decide +kernel
theorem dX9_init_133 : decode cX9_init 133 = .ok (.newarray .int, 2) := by decide +kernel
theorem dX9_init_135 : decode cX9_init 135 = .ok (.putfield 58, 3) := by decide +kernel
theorem dX9_init_138 : decode cX9_init 138 = .ok (.aload_n 0, 1) := by decide +kernel
theorem dX9_init_139 : decode cX9_init 139 = .ok (.bipush 32, 2) := by decide +kernel
theorem dX9_init_141 : decode cX9_init 141 = .ok (.newarray .int, 2) := by decide +kernel
theorem dX9_init_143 : decode cX9_init 143 = .ok (.putfield 61, 3) := by decide +kernel
theorem dX9_init_146 : decode cX9_init 146 = .ok (.aload_n 0, 1) := by decide +kernel
theorem dX9_init_147 : decode cX9_init 147 = .ok (.iconst 2, 1) := by decide +kernel
theorem dX9_init_148 : decode cX9_init 148 = .ok (.newarray .int, 2) := by decide +kernel
theorem dX9_init_150 : decode cX9_init 150 = .ok (.putfield 64, 3) := by decide +kernel
theorem dX9_init_153 : decode cX9_init 153 = .ok (.aload_n 0, 1) := by decide +kernel
theorem dX9_init_154 : decode cX9_init 154 = .ok (.iconst (-1), 1) := by decide +kernel
theorem dX9_init_155 : decode cX9_init 155 = .ok (.putfield 67, 3) := by decide +kernel
theorem dX9_init_158 : decode cX9_init 158 = .ok (.iconst 0, 1) := by decide +kernel
theorem dX9_init_159 : decode cX9_init 159 = .ok (.istore_n 1, 1) := by decide +kernel
theorem dX9_init_160 : decode cX9_init 160 = .ok (.iload_n 1, 1) := by decide +kernel
theorem dX9_init_161 : decode cX9_init 161 = .ok (.bipush 15, 2) := by decide +kernel
theorem dX9_init_163 : decode cX9_init 163 = .ok (.if_icmp .ge 16, 3) := by decide +kernel
theorem dX9_init_166 : decode cX9_init 166 = .ok (.aload_n 0, 1) := by decide +kernel
theorem dX9_init_167 : decode cX9_init 167 = .ok (.getfield 52, 3) := by decide +kernel
theorem dX9_init_170 : decode cX9_init 170 = .ok (.iload_n 1, 1) := by decide +kernel
theorem dX9_init_171 : decode cX9_init 171 = .ok (.iconst (-1), 1) := by decide +kernel
theorem dX9_init_172 : decode cX9_init 172 = .ok (.iastore, 1) := by decide +kernel
theorem dX9_init_173 : decode cX9_init 173 = .ok (.iinc 1 1, 3) := by decide +kernel
theorem dX9_init_176 : decode cX9_init 176 = .ok (.goto (-16), 3) := by decide +kernel
theorem dX9_init_179 : decode cX9_init 179 = .ok (.return_, 1) := by decide +kernel
theorem dX9_in_0 : decode cX9_in 0 = .ok (.lload_n 0, 1) := by decide +kernel
theorem dX9_in_1 : decode cX9_in 1 = .ok (.lload_n 2, 1) := by decide +kernel
theorem dX9_in_2 : decode cX9_in 2 = .ok (.lcmp, 1) := by decide +kernel
theorem dX9_in_3 : decode cX9_in 3 = .ok (.ifCond .lt 14, 3) := by decide +kernel
theorem dX9_in_6 : decode cX9_in 6 = .ok (.lload_n 0, 1) := by decide +kernel
theorem dX9_in_7 : decode cX9_in 7 = .ok (.lload 4, 2) := by decide +kernel
theorem dX9_in_9 : decode cX9_in 9 = .ok (.lcmp, 1) := by decide +kernel
theorem dX9_in_10 : decode cX9_in 10 = .ok (.ifCond .gt 7, 3) := by decide +kernel
theorem dX9_in_13 : decode cX9_in 13 = .ok (.iconst 1, 1) := by decide +kernel
theorem dX9_in_14 : decode cX9_in 14 = .ok (.goto 4, 3) := by decide +kernel
theorem dX9_in_17 : decode cX9_in 17 = .ok (.iconst 0, 1) := by decide +kernel
theorem dX9_in_18 : decode cX9_in 18 = .ok (.ireturn, 1) := by decide +kernel
theorem dX9_copy_0 : decode cX9_copy 0 = .ok (.iconst 0, 1) := by decide +kernel
theorem dX9_copy_1 : decode cX9_copy 1 = .ok (.istore_n 2, 1) := by decide +kernel
theorem dX9_copy_2 : decode cX9_copy 2 = .ok (.iload_n 2, 1) := by decide +kernel
theorem dX9_copy_3 : decode cX9_copy 3 = .ok (.aload_n 0, 1) := by decide +kernel
theorem dX9_copy_4 : decode cX9_copy 4 = .ok (.arraylength, 1) := by decide +kernel
theorem dX9_copy_5 : decode cX9_copy 5 = .ok (.if_icmp .ge 15, 3) := by decide +kernel
theorem dX9_copy_8 : decode cX9_copy 8 = .ok (.aload_n 1, 1) := by decide +kernel
theorem dX9_copy_9 : decode cX9_copy 9 = .ok (.iload_n 2, 1) := by decide +kernel
theorem dX9_copy_10 : decode cX9_copy 10 = .ok (.aload_n 0, 1) := by decide +kernel
theorem dX9_copy_11 : decode cX9_copy 11 = .ok (.iload_n 2, 1) := by decide +kernel
theorem dX9_copy_12 : decode cX9_copy 12 = .ok (.iaload, 1) := by decide +kernel
theorem dX9_copy_13 : decode cX9_copy 13 = .ok (.iastore, 1) := by decide +kernel
theorem dX9_copy_14 : decode cX9_copy 14 = .ok (.iinc 2 1, 3) := by decide +kernel
theorem dX9_copy_17 : decode cX9_copy 17 = .ok (.goto (-15), 3) := by decide +kernel
theorem dX9_copy_20 : decode cX9_copy 20 = .ok (.return_, 1) := by decide +kernel
theorem dX9_letter_0 : decode cX9_letter 0 = .ok (.iload_n 1, 1) := by decide +kernel
theorem dX9_letter_1 : decode cX9_letter 1 = .ok (.i2l, 1) := by decide +kernel
theorem dX9_letter_2 : decode cX9_letter 2 = .ok (.lconst 1, 1) := by decide +kernel
theorem dX9_letter_3 : decode cX9_letter 3 = .ok (.ldc2_w 71, 3) := by decide +kernel
theorem dX9_letter_6 : decode cX9_letter 6 = .ok (.invokestatic 73, 3) := by decide +kernel
theorem dX9_letter_9 : decode cX9_letter 9 = .ok (.ifCond .ne 6, 3) := by decide +kernel
theorem dX9_letter_12 : decode cX9_letter 12 = .ok (.bipush (-102), 2) := by decide +kernel
theorem dX9_letter_14 : decode cX9_letter 14 = .ok (.ireturn, 1) := by decide +kernel
theorem dX9_letter_15 : decode cX9_letter 15 = .ok (.aload_n 0, 1) := by decide +kernel
theorem dX9_letter_16 : decode cX9_letter 16 = .ok (.getfield 77, 3) := by decide +kernel
theorem dX9_letter_19 : decode cX9_letter 19 = .ok (.bipush 64, 2) := by decide +kernel
theorem dX9_letter_21 : decode cX9_letter 21 = .ok (.if_icmp .ne 6, 3) := by decide +kernel
theorem dX9_letter_24 : decode cX9_letter 24 = .ok (.bipush (-104), 2) := by decide +kernel
theorem dX9_letter_26 : decode cX9_letter 26 = .ok (.ireturn, 1) := by decide +kernel
theorem dX9_letter_27 : decode cX9_letter 27 = .ok (.aload_n 0, 1) := by decide +kernel
theorem dX9_letter_28 : decode cX9_letter 28 = .ok (.getfield 7, 3) := by decide +kernel
theorem dX9_letter_31 : decode cX9_letter 31 = .ok (.aload_n 0, 1) := by decide +kernel
theorem dX9_letter_32 : decode cX9_letter 32 = .ok (.getfield 77, 3) := by decide +kernel
theorem dX9_letter_35 : decode cX9_letter 35 = .ok (.iload_n 1, 1) := by decide +kernel
theorem dX9_letter_36 : decode cX9_letter 36 = .ok (.iastore, 1) := by decide +kernel
theorem dX9_letter_37 : decode cX9_letter 37 = .ok (.aload_n 0, 1) := by decide +kernel
theorem dX9_letter_38 : decode cX9_letter 38 = .ok (.dup, 1) := by decide +kernel
theorem dX9_letter_39 : decode cX9_letter 39 = .ok (.getfield 77, 3) := by decide +kernel
theorem dX9_letter_42 : decode cX9_letter 42 = .ok (.iconst 1, 1) := by decide +kernel
theorem dX9_letter_43 : decode cX9_letter 43 = .ok (.iadd, 1) := by decide +kernel
theorem dX9_letter_44 : decode cX9_letter 44 = .ok (.putfield 77, 3) := by decide +kernel
theorem dX9_letter_47 : decode cX9_letter 47 = .ok (.aload_n 0, 1) := by decide +kernel
theorem dX9_letter_48 : decode cX9_letter 48 = .ok (.getfield 77, 3) := by decide +kernel
theorem dX9_letter_51 : decode cX9_letter 51 = .ok (.ireturn, 1) := by decide +kernel
theorem dX9_blank_0 : decode cX9_blank 0 = .ok (.aload_n 0, 1) := by decide +kernel
theorem dX9_blank_1 : decode cX9_blank 1 = .ok (.getfield 77, 3) := by decide +kernel
theorem dX9_blank_4 : decode cX9_blank 4 = .ok (.istore_n 1, 1) := by decide +kernel
theorem dX9_blank_5 : decode cX9_blank 5 = .ok (.aload_n 0, 1) := by decide +kernel
theorem dX9_blank_6 : decode cX9_blank 6 = .ok (.iconst 0, 1) := by decide +kernel
theorem dX9_blank_7 : decode cX9_blank 7 = .ok (.putfield 77, 3) := by decide +kernel
theorem dX9_blank_10 : decode cX9_blank 10 = .ok (.iload_n 1, 1) := by decide +kernel
theorem dX9_blank_11 : decode cX9_blank 11 = .ok (.ireturn, 1) := by decide +kernel
theorem dX9_isGood_0 : decode cX9_isGood 0 = .ok (.iload_n 1, 1) := by decide +kernel
theorem dX9_isGood_1 : decode cX9_isGood 1 = .ok (.i2l, 1) := by decide +kernel
theorem dX9_isGood_2 : decode cX9_isGood 2 = .ok (.ldc2_w 80, 3) := by decide +kernel
theorem dX9_isGood_5 : decode cX9_isGood 5 = .ok (.ldc2_w 82, 3) := by decide +kernel
theorem dX9_isGood_8 : decode cX9_isGood 8 = .ok (.invokestatic 73, 3) := by decide +kernel
theorem dX9_isGood_11 : decode cX9_isGood 11 = .ok (.ifCond .eq 108, 3) := by decide +kernel
theorem dX9_isGood_14 : decode cX9_isGood 14 = .ok (.aload_n 0, 1) := by decide +kernel
theorem dX9_isGood_15 : decode cX9_isGood 15 = .ok (.getfield 84, 3) := by decide +kernel
theorem dX9_isGood_18 : decode cX9_isGood 18 = .ok (.ifCond .ne 39, 3) := by decide +kernel
theorem dX9_isGood_21 : decode cX9_isGood 21 = .ok (.aload_n 0, 1) := by decide +kernel
theorem dX9_isGood_22 : decode cX9_isGood 22 = .ok (.getfield 16, 3) := by decide +kernel
theorem dX9_isGood_25 : decode cX9_isGood 25 = .ok (.bipush 16, 2) := by decide +kernel
theorem dX9_isGood_27 : decode cX9_isGood 27 = .ok (.aload_n 0, 1) := by decide +kernel
theorem dX9_isGood_28 : decode cX9_isGood 28 = .ok (.getfield 87, 3) := by decide +kernel
theorem dX9_isGood_31 : decode cX9_isGood 31 = .ok (.imul, 1) := by decide +kernel
theorem dX9_isGood_32 : decode cX9_isGood 32 = .ok (.aload_n 0, 1) := by decide +kernel
theorem dX9_isGood_33 : decode cX9_isGood 33 = .ok (.getfield 13, 3) := by decide +kernel
theorem dX9_isGood_36 : decode cX9_isGood 36 = .ok (.aload_n 0, 1) := by decide +kernel
theorem dX9_isGood_37 : decode cX9_isGood 37 = .ok (.getfield 87, 3) := by decide +kernel
theorem dX9_isGood_40 : decode cX9_isGood 40 = .ok (.iaload, 1) := by decide +kernel
theorem dX9_isGood_41 : decode cX9_isGood 41 = .ok (.iadd, 1) := by decide +kernel
theorem dX9_isGood_42 : decode cX9_isGood 42 = .ok (.iconst 0, 1) := by decide +kernel
theorem dX9_isGood_43 : decode cX9_isGood 43 = .ok (.iastore, 1) := by decide +kernel
theorem dX9_isGood_44 : decode cX9_isGood 44 = .ok (.aload_n 0, 1) := by decide +kernel
theorem dX9_isGood_45 : decode cX9_isGood 45 = .ok (.getfield 13, 3) := by decide +kernel
theorem dX9_isGood_48 : decode cX9_isGood 48 = .ok (.aload_n 0, 1) := by decide +kernel
theorem dX9_isGood_49 : decode cX9_isGood 49 = .ok (.getfield 87, 3) := by decide +kernel
theorem dX9_isGood_52 : decode cX9_isGood 52 = .ok (.dup2, 1) := by decide +kernel
theorem dX9_isGood_53 : decode cX9_isGood 53 = .ok (.iaload, 1) := by decide +kernel
theorem dX9_isGood_54 : decode cX9_isGood 54 = .ok (.iconst 1, 1) := by decide +kernel
theorem dX9_isGood_55 : decode cX9_isGood 55 = .ok (.iadd, 1) := by decide +kernel
theorem dX9_isGood_56 : decode cX9_isGood 56 = .ok (.iastore, 1) := by decide +kernel
theorem dX9_isGood_57 : decode cX9_isGood 57 = .ok (.bipush 16, 2) := by decide +kernel
theorem dX9_isGood_59 : decode cX9_isGood 59 = .ok (.aload_n 0, 1) := by decide +kernel
theorem dX9_isGood_60 : decode cX9_isGood 60 = .ok (.getfield 87, 3) := by decide +kernel
theorem dX9_isGood_63 : decode cX9_isGood 63 = .ok (.imul, 1) := by decide +kernel
theorem dX9_isGood_64 : decode cX9_isGood 64 = .ok (.aload_n 0, 1) := by decide +kernel
theorem dX9_isGood_65 : decode cX9_isGood 65 = .ok (.getfield 13, 3) := by decide +kernel
theorem dX9_isGood_68 : decode cX9_isGood 68 = .ok (.aload_n 0, 1) := by decide +kernel
theorem dX9_isGood_69 : decode cX9_isGood 69 = .ok (.getfield 87, 3) := by decide +kernel
theorem dX9_isGood_72 : decode cX9_isGood 72 = .ok (.iaload, 1) := by decide +kernel
theorem dX9_isGood_73 : decode cX9_isGood 73 = .ok (.iadd, 1) := by decide +kernel
theorem dX9_isGood_74 : decode cX9_isGood 74 = .ok (.iconst 1, 1) := by decide +kernel
theorem dX9_isGood_75 : decode cX9_isGood 75 = .ok (.isub, 1) := by decide +kernel
theorem dX9_isGood_76 : decode cX9_isGood 76 = .ok (.istore_n 2, 1) := by decide +kernel
theorem dX9_isGood_77 : decode cX9_isGood 77 = .ok (.aload_n 0, 1) := by decide +kernel
theorem dX9_isGood_78 : decode cX9_isGood 78 = .ok (.getfield 16, 3) := by decide +kernel
theorem dX9_isGood_81 : decode cX9_isGood 81 = .ok (.iload_n 2, 1) := by decide +kernel
theorem dX9_isGood_82 : decode cX9_isGood 82 = .ok (.sipush 128, 3) := by decide +kernel
theorem dX9_isGood_85 : decode cX9_isGood 85 = .ok (.aload_n 0, 1) := by decide +kernel
theorem dX9_isGood_86 : decode cX9_isGood 86 = .ok (.getfield 16, 3) := by decide +kernel
theorem dX9_isGood_89 : decode cX9_isGood 89 = .ok (.iload_n 2, 1) := by decide +kernel
theorem dX9_isGood_90 : decode cX9_isGood 90 = .ok (.iaload, 1) := by decide +kernel
theorem dX9_isGood_91 : decode cX9_isGood 91 = .ok (.imul, 1) := by decide +kernel
theorem dX9_isGood_92 : decode cX9_isGood 92 = .ok (.iload_n 1, 1) := by decide +kernel
theorem dX9_isGood_93 : decode cX9_isGood 93 = .ok (.iadd, 1) := by decide +kernel
theorem dX9_isGood_94 : decode cX9_isGood 94 = .ok (.iastore, 1) := by decide +kernel
theorem dX9_isGood_95 : decode cX9_isGood 95 = .ok (.aload_n 0, 1) := by decide +kernel
theorem dX9_isGood_96 : decode cX9_isGood 96 = .ok (.dup, 1) := by decide +kernel
theorem dX9_isGood_97 : decode cX9_isGood 97 = .ok (.getfield 84, 3) := by decide +kernel
theorem dX9_isGood_100 : decode cX9_isGood 100 = .ok (.iconst 1, 1) := by decide +kernel
theorem dX9_isGood_101 : decode cX9_isGood 101 = .ok (.iadd, 1) := by decide +kernel
theorem dX9_isGood_102 : decode cX9_isGood 102 = .ok (.putfield 84, 3) := by decide +kernel
theorem dX9_isGood_105 : decode cX9_isGood 105 = .ok (.aload_n 0, 1) := by decide +kernel
theorem dX9_isGood_106 : decode cX9_isGood 106 = .ok (.getfield 84, 3) := by decide +kernel
theorem dX9_isGood_109 : decode cX9_isGood 109 = .ok (.iconst 3, 1) := by decide +kernel
theorem dX9_isGood_110 : decode cX9_isGood 110 = .ok (.if_icmp .gt 7, 3) := by decide +kernel
theorem dX9_isGood_113 : decode cX9_isGood 113 = .ok (.iconst 1, 1) := by decide +kernel
theorem dX9_isGood_114 : decode cX9_isGood 114 = .ok (.goto 4, 3) := by decide +kernel
theorem dX9_isGood_117 : decode cX9_isGood 117 = .ok (.iconst 0, 1) := by decide +kernel
theorem dX9_isGood_118 : decode cX9_isGood 118 = .ok (.ireturn, 1) := by decide +kernel
theorem dX9_isGood_119 : decode cX9_isGood 119 = .ok (.iload_n 1, 1) := by decide +kernel
theorem dX9_isGood_120 : decode cX9_isGood 120 = .ok (.bipush 44, 2) := by decide +kernel
theorem dX9_isGood_122 : decode cX9_isGood 122 = .ok (.if_icmp .ne 42, 3) := by decide +kernel
theorem dX9_isGood_125 : decode cX9_isGood 125 = .ok (.aload_n 0, 1) := by decide +kernel
theorem dX9_isGood_126 : decode cX9_isGood 126 = .ok (.getfield 84, 3) := by decide +kernel
theorem dX9_isGood_129 : decode cX9_isGood 129 = .ok (.ifCond .le 21, 3) := by decide +kernel
theorem dX9_isGood_132 : decode cX9_isGood 132 = .ok (.aload_n 0, 1) := by decide +kernel
theorem dX9_isGood_133 : decode cX9_isGood 133 = .ok (.getfield 13, 3) := by decide +kernel
theorem dX9_isGood_136 : decode cX9_isGood 136 = .ok (.aload_n 0, 1) := by decide +kernel
theorem dX9_isGood_137 : decode cX9_isGood 137 = .ok (.getfield 87, 3) := by decide +kernel
theorem dX9_isGood_140 : decode cX9_isGood 140 = .ok (.iaload, 1) := by decide +kernel
theorem dX9_isGood_141 : decode cX9_isGood 141 = .ok (.bipush 8, 2) := by decide +kernel
theorem dX9_isGood_143 : decode cX9_isGood 143 = .ok (.if_icmp .ge 7, 3) := by decide +kernel
theorem dX9_isGood_146 : decode cX9_isGood 146 = .ok (.iconst 1, 1) := by decide +kernel
theorem dX9_isGood_147 : decode cX9_isGood 147 = .ok (.goto 4, 3) := by decide +kernel
theorem dX9_isGood_150 : decode cX9_isGood 150 = .ok (.iconst 0, 1) := by decide +kernel
theorem dX9_isGood_151 : decode cX9_isGood 151 = .ok (.istore_n 2, 1) := by decide +kernel
theorem dX9_isGood_152 : decode cX9_isGood 152 = .ok (.aload_n 0, 1) := by decide +kernel
theorem dX9_isGood_153 : decode cX9_isGood 153 = .ok (.iconst 0, 1) := by decide +kernel
theorem dX9_isGood_154 : decode cX9_isGood 154 = .ok (.putfield 84, 3) := by decide +kernel
theorem dX9_isGood_157 : decode cX9_isGood 157 = .ok (.aload_n 0, 1) := by decide +kernel
theorem dX9_isGood_158 : decode cX9_isGood 158 = .ok (.iconst 1, 1) := by decide +kernel
theorem dX9_isGood_159 : decode cX9_isGood 159 = .ok (.putfield 90, 3) := by decide +kernel
theorem dX9_isGood_162 : decode cX9_isGood 162 = .ok (.iload_n 2, 1) := by decide +kernel
theorem dX9_isGood_163 : decode cX9_isGood 163 = .ok (.ireturn, 1) := by decide +kernel
theorem dX9_isGood_164 : decode cX9_isGood 164 = .ok (.iload_n 1, 1) := by decide +kernel
theorem dX9_isGood_165 : decode cX9_isGood 165 = .ok (.bipush 59, 2) := by decide +kernel
theorem dX9_isGood_167 : decode cX9_isGood 167 = .ok (.if_icmp .ne 30, 3) := by decide +kernel
theorem dX9_isGood_170 : decode cX9_isGood 170 = .ok (.aload_n 0, 1) := by decide +kernel
theorem dX9_isGood_171 : decode cX9_isGood 171 = .ok (.getfield 87, 3) := by decide +kernel
theorem dX9_isGood_174 : decode cX9_isGood 174 = .ok (.ifCond .ne 23, 3) := by decide +kernel
theorem dX9_isGood_177 : decode cX9_isGood 177 = .ok (.aload_n 0, 1) := by decide +kernel
theorem dX9_isGood_178 : decode cX9_isGood 178 = .ok (.getfield 84, 3) := by decide +kernel
theorem dX9_isGood_181 : decode cX9_isGood 181 = .ok (.ifCond .gt 12, 3) := by decide +kernel
theorem dX9_isGood_184 : decode cX9_isGood 184 = .ok (.aload_n 0, 1) := by decide +kernel
