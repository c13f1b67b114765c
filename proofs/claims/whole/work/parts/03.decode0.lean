theorem dX0_init_0 : decode cX0_init 0 = .ok (.aload_n 0, 1) := by decide +kernel
theorem dX0_init_1 : decode cX0_init 1 = .ok (.invokespecial 3, 3) := by decide +kernel
theorem dX0_init_4 : decode cX0_init 4 = .ok (.aload_n 0, 1) := by decide +kernel
theorem dX0_init_5 : decode cX0_init 5 = .ok (.bipush 9, 2) := by decide +kernel
theorem dX0_init_7 : decode cX0_init 7 = .ok (.bipush 9, 2) := by decide +kernel
theorem dX0_init_9 : decode cX0_init 9 = .ok (.multianewarray 9 2, 4) := by decide +kernel
theorem dX0_init_13 : decode cX0_init 13 = .ok (.putfield 11, 3) := by decide +kernel
theorem dX0_init_16 : decode cX0_init 16 = .ok (.return_, 1) := by decide +kernel
theorem dX0_most_0 : decode cX0_most 0 = .ok (.iload_n 3, 1) := by decide +kernel
theorem dX0_most_1 : decode cX0_most 1 = .ok (.istore 7, 2) := by decide +kernel
theorem dX0_most_3 : decode cX0_most 3 = .ok (.iload 7, 2) := by decide +kernel
theorem dX0_most_5 : decode cX0_most 5 = .ok (.iload_n 2, 1) := by decide +kernel
theorem dX0_most_6 : decode cX0_most 6 = .ok (.if_icmp .lt 131, 3) := by decide +kernel
theorem dX0_most_9 : decode cX0_most 9 = .ok (.iload 6, 2) := by decide +kernel
theorem dX0_most_11 : decode cX0_most 11 = .ok (.istore 8, 2) := by decide +kernel
theorem dX0_most_13 : decode cX0_most 13 = .ok (.iload 8, 2) := by decide +kernel
theorem dX0_most_15 : decode cX0_most 15 = .ok (.iload 5, 2) := by decide +kernel
theorem dX0_most_17 : decode cX0_most 17 = .ok (.if_icmp .lt 114, 3) := by decide +kernel
theorem dX0_most_20 : decode cX0_most 20 = .ok (.iload 7, 2) := by decide +kernel
theorem dX0_most_22 : decode cX0_most 22 = .ok (.iload_n 3, 1) := by decide +kernel
theorem dX0_most_23 : decode cX0_most 23 = .ok (.if_icmp .eq 10, 3) := by decide +kernel
theorem dX0_most_26 : decode cX0_most 26 = .ok (.iload 8, 2) := by decide +kernel
theorem dX0_most_28 : decode cX0_most 28 = .ok (.iload 6, 2) := by decide +kernel
theorem dX0_most_30 : decode cX0_most 30 = .ok (.if_icmp .ne 17, 3) := by decide +kernel
theorem dX0_most_33 : decode cX0_most 33 = .ok (.aload_n 0, 1) := by decide +kernel
theorem dX0_most_34 : decode cX0_most 34 = .ok (.getfield 11, 3) := by decide +kernel
theorem dX0_most_37 : decode cX0_most 37 = .ok (.iload 7, 2) := by decide +kernel
theorem dX0_most_39 : decode cX0_most 39 = .ok (.aaload, 1) := by decide +kernel
theorem dX0_most_40 : decode cX0_most 40 = .ok (.iload 8, 2) := by decide +kernel
theorem dX0_most_42 : decode cX0_most 42 = .ok (.iconst 0, 1) := by decide +kernel
theorem dX0_most_43 : decode cX0_most 43 = .ok (.iastore, 1) := by decide +kernel
theorem dX0_most_44 : decode cX0_most 44 = .ok (.goto 81, 3) := by decide +kernel
theorem dX0_most_47 : decode cX0_most 47 = .ok (.aload_n 1, 1) := by decide +kernel
theorem dX0_most_48 : decode cX0_most 48 = .ok (.iload 7, 2) := by decide +kernel
theorem dX0_most_50 : decode cX0_most 50 = .ok (.iaload, 1) := by decide +kernel
theorem dX0_most_51 : decode cX0_most 51 = .ok (.aload 4, 2) := by decide +kernel
theorem dX0_most_53 : decode cX0_most 53 = .ok (.iload 8, 2) := by decide +kernel
theorem dX0_most_55 : decode cX0_most 55 = .ok (.iaload, 1) := by decide +kernel
theorem dX0_most_56 : decode cX0_most 56 = .ok (.if_icmp .ne 32, 3) := by decide +kernel
theorem dX0_most_59 : decode cX0_most 59 = .ok (.aload_n 0, 1) := by decide +kernel
theorem dX0_most_60 : decode cX0_most 60 = .ok (.getfield 11, 3) := by decide +kernel
theorem dX0_most_63 : decode cX0_most 63 = .ok (.iload 7, 2) := by decide +kernel
theorem dX0_most_65 : decode cX0_most 65 = .ok (.aaload, 1) := by decide +kernel
theorem dX0_most_66 : decode cX0_most 66 = .ok (.iload 8, 2) := by decide +kernel
theorem dX0_most_68 : decode cX0_most 68 = .ok (.aload_n 0, 1) := by decide +kernel
theorem dX0_most_69 : decode cX0_most 69 = .ok (.getfield 11, 3) := by decide +kernel
theorem dX0_most_72 : decode cX0_most 72 = .ok (.iload 7, 2) := by decide +kernel
theorem dX0_most_74 : decode cX0_most 74 = .ok (.iconst 1, 1) := by decide +kernel
theorem dX0_most_75 : decode cX0_most 75 = .ok (.iadd, 1) := by decide +kernel
theorem dX0_most_76 : decode cX0_most 76 = .ok (.aaload, 1) := by decide +kernel
theorem dX0_most_77 : decode cX0_most 77 = .ok (.iload 8, 2) := by decide +kernel
theorem dX0_most_79 : decode cX0_most 79 = .ok (.iconst 1, 1) := by decide +kernel
theorem dX0_most_80 : decode cX0_most 80 = .ok (.iadd, 1) := by decide +kernel
theorem dX0_most_81 : decode cX0_most 81 = .ok (.iaload, 1) := by decide +kernel
theorem dX0_most_82 : decode cX0_most 82 = .ok (.iconst 1, 1) := by decide +kernel
theorem dX0_most_83 : decode cX0_most 83 = .ok (.iadd, 1) := by decide +kernel
theorem dX0_most_84 : decode cX0_most 84 = .ok (.iastore, 1) := by decide +kernel
theorem dX0_most_85 : decode cX0_most 85 = .ok (.goto 40, 3) := by decide +kernel
theorem dX0_most_88 : decode cX0_most 88 = .ok (.aload_n 0, 1) := by decide +kernel
theorem dX0_most_89 : decode cX0_most 89 = .ok (.getfield 11, 3) := by decide +kernel
theorem dX0_most_92 : decode cX0_most 92 = .ok (.iload 7, 2) := by decide +kernel
theorem dX0_most_94 : decode cX0_most 94 = .ok (.aaload, 1) := by decide +kernel
theorem dX0_most_95 : decode cX0_most 95 = .ok (.iload 8, 2) := by decide +kernel
theorem dX0_most_97 : decode cX0_most 97 = .ok (.aload_n 0, 1) := by decide +kernel
theorem dX0_most_98 : decode cX0_most 98 = .ok (.getfield 11, 3) := by decide +kernel
theorem dX0_most_101 : decode cX0_most 101 = .ok (.iload 7, 2) := by decide +kernel
theorem dX0_most_103 : decode cX0_most 103 = .ok (.iconst 1, 1) := by decide +kernel
theorem dX0_most_104 : decode cX0_most 104 = .ok (.iadd, 1) := by decide +kernel
theorem dX0_most_105 : decode cX0_most 105 = .ok (.aaload, 1) := by decide +kernel
theorem dX0_most_106 : decode cX0_most 106 = .ok (.iload 8, 2) := by decide +kernel
theorem dX0_most_108 : decode cX0_most 108 = .ok (.iaload, 1) := by decide +kernel
theorem dX0_most_109 : decode cX0_most 109 = .ok (.aload_n 0, 1) := by decide +kernel
theorem dX0_most_110 : decode cX0_most 110 = .ok (.getfield 11, 3) := by decide +kernel
theorem dX0_most_113 : decode cX0_most 113 = .ok (.iload 7, 2) := by decide +kernel
theorem dX0_most_115 : decode cX0_most 115 = .ok (.aaload, 1) := by decide +kernel
theorem dX0_most_116 : decode cX0_most 116 = .ok (.iload 8, 2) := by decide +kernel
theorem dX0_most_118 : decode cX0_most 118 = .ok (.iconst 1, 1) := by decide +kernel
theorem dX0_most_119 : decode cX0_most 119 = .ok (.iadd, 1) := by decide +kernel
theorem dX0_most_120 : decode cX0_most 120 = .ok (.iaload, 1) := by decide +kernel
theorem dX0_most_121 : decode cX0_most 121 = .ok (.invokestatic 16, 3) := by decide +kernel
theorem dX0_most_124 : decode cX0_most 124 = .ok (.iastore, 1) := by decide +kernel
theorem dX0_most_125 : decode cX0_most 125 = .ok (.iinc 8 (-1), 3) := by decide +kernel
theorem dX0_most_128 : decode cX0_most 128 = .ok (.goto (-115), 3) := by decide +kernel
theorem dX0_most_131 : decode cX0_most 131 = .ok (.iinc 7 (-1), 3) := by decide +kernel
theorem dX0_most_134 : decode cX0_most 134 = .ok (.goto (-131), 3) := by decide +kernel
theorem dX0_most_137 : decode cX0_most 137 = .ok (.aload_n 0, 1) := by decide +kernel
theorem dX0_most_138 : decode cX0_most 138 = .ok (.getfield 11, 3) := by decide +kernel
theorem dX0_most_141 : decode cX0_most 141 = .ok (.iload_n 2, 1) := by decide +kernel
theorem dX0_most_142 : decode cX0_most 142 = .ok (.aaload, 1) := by decide +kernel
theorem dX0_most_143 : decode cX0_most 143 = .ok (.iload 5, 2) := by decide +kernel
theorem dX0_most_145 : decode cX0_most 145 = .ok (.iaload, 1) := by decide +kernel
theorem dX0_most_146 : decode cX0_most 146 = .ok (.ireturn, 1) := by decide +kernel
theorem dX1_init_0 : decode cX1_init 0 = .ok (.aload_n 0, 1) := by decide +kernel
theorem dX1_init_1 : decode cX1_init 1 = .ok (.invokespecial 3, 3) := by decide +kernel
theorem dX1_init_4 : decode cX1_init 4 = .ok (.aload_n 0, 1) := by decide +kernel
theorem dX1_init_5 : decode cX1_init 5 = .ok (.new 9, 3) := by decide +kernel
theorem dX1_init_8 : decode cX1_init 8 = .ok (.dup, 1) := by decide +kernel
theorem dX1_init_9 : decode cX1_init 9 = .ok (.invokespecial 11, 3) := by decide +kernel
theorem dX1_init_12 : decode cX1_init 12 = .ok (.putfield 12, 3) := by decide +kernel
theorem dX1_init_15 : decode cX1_init 15 = .ok (.aload_n 0, 1) := by decide +kernel
theorem dX1_init_16 : decode cX1_init 16 = .ok (.iconst 3, 1) := by decide +kernel
theorem dX1_init_17 : decode cX1_init 17 = .ok (.newarray .int, 2) := by decide +kernel
theorem dX1_init_19 : decode cX1_init 19 = .ok (.putfield 18, 3) := by decide +kernel
theorem dX1_init_22 : decode cX1_init 22 = .ok (.aload_n 0, 1) := by decide +kernel
theorem dX1_init_23 : decode cX1_init 23 = .ok (.iconst 3, 1) := by decide +kernel
theorem dX1_init_24 : decode cX1_init 24 = .ok (.newarray .int, 2) := by decide +kernel
theorem dX1_init_26 : decode cX1_init 26 = .ok (.putfield 22, 3) := by decide +kernel
theorem dX1_init_29 : decode cX1_init 29 = .ok (.return_, 1) := by decide +kernel
theorem dX1_commonLetters_0 : decode cX1_commonLetters 0 = .ok (.iconst 0, 1) := by decide +kernel
theorem dX1_commonLetters_1 : decode cX1_commonLetters 1 = .ok (.istore_n 3, 1) := by decide +kernel
theorem dX1_commonLetters_2 : decode cX1_commonLetters 2 = .ok (.iload_n 3, 1) := by decide +kernel
theorem dX1_commonLetters_3 : decode cX1_commonLetters 3 = .ok (.iconst 3, 1) := by decide +kernel
theorem dX1_commonLetters_4 : decode cX1_commonLetters 4 = .ok (.if_icmp .ge 31, 3) := by decide +kernel
theorem dX1_commonLetters_7 : decode cX1_commonLetters 7 = .ok (.aload_n 0, 1) := by decide +kernel
theorem dX1_commonLetters_8 : decode cX1_commonLetters 8 = .ok (.getfield 18, 3) := by decide +kernel
theorem dX1_commonLetters_11 : decode cX1_commonLetters 11 = .ok (.iload_n 3, 1) := by decide +kernel
theorem dX1_commonLetters_12 : decode cX1_commonLetters 12 = .ok (.iload_n 1, 1) := by decide +kernel
theorem dX1_commonLetters_13 : decode cX1_commonLetters 13 = .ok (.iload_n 3, 1) := by decide +kernel
theorem dX1_commonLetters_14 : decode cX1_commonLetters 14 = .ok (.invokestatic 25, 3) := by decide +kernel
theorem dX1_commonLetters_17 : decode cX1_commonLetters 17 = .ok (.iastore, 1) := by decide +kernel
theorem dX1_commonLetters_18 : decode cX1_commonLetters 18 = .ok (.aload_n 0, 1) := by decide +kernel
theorem dX1_commonLetters_19 : decode cX1_commonLetters 19 = .ok (.getfield 22, 3) := by decide +kernel
theorem dX1_commonLetters_22 : decode cX1_commonLetters 22 = .ok (.iload_n 3, 1) := by decide +kernel
theorem dX1_commonLetters_23 : decode cX1_commonLetters 23 = .ok (.iload_n 2, 1) := by decide +kernel
theorem dX1_commonLetters_24 : decode cX1_commonLetters 24 = .ok (.iload_n 3, 1) := by decide +kernel
theorem dX1_commonLetters_25 : decode cX1_commonLetters 25 = .ok (.invokestatic 25, 3) := by decide +kernel
theorem dX1_commonLetters_28 : decode cX1_commonLetters 28 = .ok (.iastore, 1) := by decide +kernel
theorem dX1_commonLetters_29 : decode cX1_commonLetters 29 = .ok (.iinc 3 1, 3) := by decide +kernel
theorem dX1_commonLetters_32 : decode cX1_commonLetters 32 = .ok (.goto (-30), 3) := by decide +kernel
theorem dX1_commonLetters_35 : decode cX1_commonLetters 35 = .ok (.aload_n 0, 1) := by decide +kernel
theorem dX1_commonLetters_36 : decode cX1_commonLetters 36 = .ok (.getfield 12, 3) := by decide +kernel
theorem dX1_commonLetters_39 : decode cX1_commonLetters 39 = .ok (.aload_n 0, 1) := by decide +kernel
theorem dX1_commonLetters_40 : decode cX1_commonLetters 40 = .ok (.getfield 18, 3) := by decide +kernel
theorem dX1_commonLetters_43 : decode cX1_commonLetters 43 = .ok (.iconst 0, 1) := by decide +kernel
theorem dX1_commonLetters_44 : decode cX1_commonLetters 44 = .ok (.iload_n 1, 1) := by decide +kernel
theorem dX1_commonLetters_45 : decode cX1_commonLetters 45 = .ok (.invokestatic 29, 3) := by decide +kernel
theorem dX1_commonLetters_48 : decode cX1_commonLetters 48 = .ok (.aload_n 0, 1) := by decide +kernel
theorem dX1_commonLetters_49 : decode cX1_commonLetters 49 = .ok (.getfield 22, 3) := by decide +kernel
theorem dX1_commonLetters_52 : decode cX1_commonLetters 52 = .ok (.iconst 0, 1) := by decide +kernel
theorem dX1_commonLetters_53 : decode cX1_commonLetters 53 = .ok (.iload_n 2, 1) := by decide +kernel
theorem dX1_commonLetters_54 : decode cX1_commonLetters 54 = .ok (.invokestatic 29, 3) := by decide +kernel
theorem dX1_commonLetters_57 : decode cX1_commonLetters 57 = .ok (.invokevirtual 33, 3) := by decide +kernel
theorem dX1_commonLetters_60 : decode cX1_commonLetters 60 = .ok (.ireturn, 1) := by decide +kernel
theorem dX1_fraction_0 : decode cX1_fraction 0 = .ok (.iload_n 1, 1) := by decide +kernel
theorem dX1_fraction_1 : decode cX1_fraction 1 = .ok (.invokestatic 29, 3) := by decide +kernel
theorem dX1_fraction_4 : decode cX1_fraction 4 = .ok (.iload_n 2, 1) := by decide +kernel
theorem dX1_fraction_5 : decode cX1_fraction 5 = .ok (.invokestatic 29, 3) := by decide +kernel
theorem dX1_fraction_8 : decode cX1_fraction 8 = .ok (.iadd, 1) := by decide +kernel
theorem dX1_fraction_9 : decode cX1_fraction 9 = .ok (.istore_n 3, 1) := by decide +kernel
theorem dX1_fraction_10 : decode cX1_fraction 10 = .ok (.iload_n 3, 1) := by decide +kernel
theorem dX1_fraction_11 : decode cX1_fraction 11 = .ok (.ifCond .gt 5, 3) := by decide +kernel
theorem dX1_fraction_14 : decode cX1_fraction 14 = .ok (.fconst 0, 1) := by decide +kernel
theorem dX1_fraction_15 : decode cX1_fraction 15 = .ok (.freturn, 1) := by decide +kernel
theorem dX1_fraction_16 : decode cX1_fraction 16 = .ok (.iconst 2, 1) := by decide +kernel
theorem dX1_fraction_17 : decode cX1_fraction 17 = .ok (.aload_n 0, 1) := by decide +kernel
theorem dX1_fraction_18 : decode cX1_fraction 18 = .ok (.iload_n 1, 1) := by decide +kernel
theorem dX1_fraction_19 : decode cX1_fraction 19 = .ok (.iload_n 2, 1) := by decide +kernel
theorem dX1_fraction_20 : decode cX1_fraction 20 = .ok (.invokevirtual 37, 3) := by decide +kernel
theorem dX1_fraction_23 : decode cX1_fraction 23 = .ok (.imul, 1) := by decide +kernel
theorem dX1_fraction_24 : decode cX1_fraction 24 = .ok (.i2f, 1) := by decide +kernel
theorem dX1_fraction_25 : decode cX1_fraction 25 = .ok (.iload_n 3, 1) := by decide +kernel
theorem dX1_fraction_26 : decode cX1_fraction 26 = .ok (.i2f, 1) := by decide +kernel
theorem dX1_fraction_27 : decode cX1_fraction 27 = .ok (.fdiv, 1) := by decide +kernel
theorem dX1_fraction_28 : decode cX1_fraction 28 = .ok (.freturn, 1) := by decide +kernel
theorem dX2_init_0 : decode cX2_init 0 = .ok (.aload_n 0, 1) := by decide +kernel
theorem dX2_init_1 : decode cX2_init 1 = .ok (.invokespecial 3, 3) := by decide +kernel
theorem dX2_init_4 : decode cX2_init 4 = .ok (.aload_n 0, 1) := by decide +kernel
theorem dX2_init_5 : decode cX2_init 5 = .ok (.new 9, 3) := by decide +kernel
theorem dX2_init_8 : decode cX2_init 8 = .ok (.dup, 1) := by decide +kernel
theorem dX2_init_9 : decode cX2_init 9 = .ok (.invokespecial 11, 3) := by decide +kernel
theorem dX2_init_12 : decode cX2_init 12 = .ok (.putfield 12, 3) := by decide +kernel
theorem dX2_init_15 : decode cX2_init 15 = .ok (.aload_n 0, 1) := by decide +kernel
theorem dX2_init_16 : decode cX2_init 16 = .ok (.iconst 2, 1) := by decide +kernel
theorem dX2_init_17 : decode cX2_init 17 = .ok (.bipush 8, 2) := by decide +kernel
theorem dX2_init_19 : decode cX2_init 19 = .ok (.multianewarray 18 2, 4) := by decide +kernel
theorem dX2_init_23 : decode cX2_init 23 = .ok (.putfield 20, 3) := by decide +kernel
theorem dX2_init_26 : decode cX2_init 26 = .ok (.aload_n 0, 1) := by decide +kernel
theorem dX2_init_27 : decode cX2_init 27 = .ok (.new 23, 3) := by decide +kernel
theorem dX2_init_30 : decode cX2_init 30 = .ok (.dup, 1) := by decide +kernel
theorem dX2_init_31 : decode cX2_init 31 = .ok (.invokespecial 25, 3) := by decide +kernel
theorem dX2_init_34 : decode cX2_init 34 = .ok (.putfield 26, 3) := by decide +kernel
theorem dX2_init_37 : decode cX2_init 37 = .ok (.aload_n 0, 1) := by decide +kernel
theorem dX2_init_38 : decode cX2_init 38 = .ok (.bipush 8, 2) := by decide +kernel
theorem dX2_init_40 : decode cX2_init 40 = .ok (.newarray .int, 2) := by decide +kernel
theorem dX2_init_42 : decode cX2_init 42 = .ok (.putfield 30, 3) := by decide +kernel
theorem dX2_init_45 : decode cX2_init 45 = .ok (.aload_n 0, 1) := by decide +kernel
theorem dX2_init_46 : decode cX2_init 46 = .ok (.bipush 8, 2) := by decide +kernel
theorem dX2_init_48 : decode cX2_init 48 = .ok (.newarray .int, 2) := by decide +kernel
theorem dX2_init_50 : decode cX2_init 50 = .ok (.putfield 34, 3) := by decide +kernel
theorem dX2_init_53 : decode cX2_init 53 = .ok (.aload_n 0, 1) := by decide +kernel
theorem dX2_init_54 : decode cX2_init 54 = .ok (.iconst 2, 1) := by decide +kernel
theorem dX2_init_55 : decode cX2_init 55 = .ok (.newarray .int, 2) := by decide +kernel
theorem dX2_init_57 : decode cX2_init 57 = .ok (.putfield 37, 3) := by decide +kernel
theorem dX2_init_60 : decode cX2_init 60 = .ok (.aload_n 0, 1) := by decide +kernel
theorem dX2_init_61 : decode cX2_init 61 = .ok (.iconst 2, 1) := by decide +kernel
theorem dX2_init_62 : decode cX2_init 62 = .ok (.newarray .int, 2) := by decide +kernel
theorem dX2_init_64 : decode cX2_init 64 = .ok (.putfield 40, 3) := by decide +kernel
theorem dX2_init_67 : decode cX2_init 67 = .ok (.aload_n 0, 1) := by decide +kernel
theorem dX2_init_68 : decode cX2_init 68 = .ok (.iconst 0, 1) := by decide +kernel
theorem dX2_init_69 : decode cX2_init 69 = .ok (.putfield 43, 3) := by decide +kernel
theorem dX2_init_72 : decode cX2_init 72 = .ok (.aload_n 0, 1) := by decide +kernel
theorem dX2_init_73 : decode cX2_init 73 = .ok (.iconst 0, 1) := by decide +kernel
theorem dX2_init_74 : decode cX2_init 74 = .ok (.putfield 47, 3) := by decide +kernel
theorem dX2_init_77 : decode cX2_init 77 = .ok (.return_, 1) := by decide +kernel
theorem dX2_compare_0 : decode cX2_compare 0 = .ok (.aload_n 0, 1) := by decide +kernel
theorem dX2_compare_1 : decode cX2_compare 1 = .ok (.iconst 0, 1) := by decide +kernel
theorem dX2_compare_2 : decode cX2_compare 2 = .ok (.putfield 43, 3) := by decide +kernel
theorem dX2_compare_5 : decode cX2_compare 5 = .ok (.aload_n 0, 1) := by decide +kernel
theorem dX2_compare_6 : decode cX2_compare 6 = .ok (.iconst 0, 1) := by decide +kernel
theorem dX2_compare_7 : decode cX2_compare 7 = .ok (.putfield 47, 3) := by decide +kernel
theorem dX2_compare_10 : decode cX2_compare 10 = .ok (.iconst 0, 1) := by decide +kernel
theorem dX2_compare_11 : decode cX2_compare 11 = .ok (.istore_n 1, 1) := by decide +kernel
theorem dX2_compare_12 : decode cX2_compare 12 = .ok (.iload_n 1, 1) := by decide +kernel
theorem dX2_compare_13 : decode cX2_compare 13 = .ok (.bipush 8, 2) := by decide +kernel
theorem dX2_compare_15 : decode cX2_compare 15 = .ok (.if_icmp .ge 27, 3) := by decide +kernel
theorem dX2_compare_18 : decode cX2_compare 18 = .ok (.aload_n 0, 1) := by decide +kernel
theorem dX2_compare_19 : decode cX2_compare 19 = .ok (.getfield 20, 3) := by decide +kernel
theorem dX2_compare_22 : decode cX2_compare 22 = .ok (.iconst 0, 1) := by decide +kernel
theorem dX2_compare_23 : decode cX2_compare 23 = .ok (.aaload, 1) := by decide +kernel
theorem dX2_compare_24 : decode cX2_compare 24 = .ok (.iload_n 1, 1) := by decide +kernel
theorem dX2_compare_25 : decode cX2_compare 25 = .ok (.iconst (-1), 1) := by decide +kernel
theorem dX2_compare_26 : decode cX2_compare 26 = .ok (.iastore, 1) := by decide +kernel
theorem dX2_compare_27 : decode cX2_compare 27 = .ok (.aload_n 0, 1) := by decide +kernel
theorem dX2_compare_28 : decode cX2_compare 28 = .ok (.getfield 20, 3) := by decide +kernel
theorem dX2_compare_31 : decode cX2_compare 31 = .ok (.iconst 1, 1) := by decide +kernel
theorem dX2_compare_32 : decode cX2_compare 32 = .ok (.aaload, 1) := by decide +kernel
theorem dX2_compare_33 : decode cX2_compare 33 = .ok (.iload_n 1, 1) := by decide +kernel
theorem dX2_compare_34 : decode cX2_compare 34 = .ok (.iconst (-1), 1) := by decide +kernel
theorem dX2_compare_35 : decode cX2_compare 35 = .ok (.iastore, 1) := by decide +kernel
theorem dX2_compare_36 : decode cX2_compare 36 = .ok (.iinc 1 1, 3) := by decide +kernel
theorem dX2_compare_39 : decode cX2_compare 39 = .ok (.goto (-27), 3) := by decide +kernel
theorem dX2_compare_42 : decode cX2_compare 42 = .ok (.aload_n 0, 1) := by decide +kernel
theorem dX2_compare_43 : decode cX2_compare 43 = .ok (.iconst 0, 1) := by decide +kernel
theorem dX2_compare_44 : decode cX2_compare 44 = .ok (.aload_n 0, 1) := by decide +kernel
theorem dX2_compare_45 : decode cX2_compare 45 = .ok (.getfield 12, 3) := by decide +kernel
theorem dX2_compare_48 : decode cX2_compare 48 = .ok (.getfield 50, 3) := by decide +kernel
theorem dX2_compare_51 : decode cX2_compare 51 = .ok (.iconst 0, 1) := by decide +kernel
theorem dX2_compare_52 : decode cX2_compare 52 = .ok (.iaload, 1) := by decide +kernel
theorem dX2_compare_53 : decode cX2_compare 53 = .ok (.iconst 0, 1) := by decide +kernel
theorem dX2_compare_54 : decode cX2_compare 54 = .ok (.aload_n 0, 1) := by decide +kernel
theorem dX2_compare_55 : decode cX2_compare 55 = .ok (.getfield 12, 3) := by decide +kernel
theorem dX2_compare_58 : decode cX2_compare 58 = .ok (.getfield 50, 3) := by decide +kernel
theorem dX2_compare_61 : decode cX2_compare 61 = .ok (.iconst 1, 1) := by decide +kernel
theorem dX2_compare_62 : decode cX2_compare 62 = .ok (.iaload, 1) := by decide +kernel
theorem dX2_compare_63 : decode cX2_compare 63 = .ok (.iconst 0, 1) := by decide +kernel
theorem dX2_compare_64 : decode cX2_compare 64 = .ok (.invokevirtual 53, 3) := by decide +kernel
theorem dX2_compare_67 : decode cX2_compare 67 = .ok (.aload_n 0, 1) := by decide +kernel
theorem dX2_compare_68 : decode cX2_compare 68 = .ok (.invokevirtual 57, 3) := by decide +kernel
theorem dX2_compare_71 : decode cX2_compare 71 = .ok (.return_, 1) := by decide +kernel
theorem dX2_kept_0 : decode cX2_kept 0 = .ok (.iconst 0, 1) := by decide +kernel
theorem dX2_kept_1 : decode cX2_kept 1 = .ok (.istore_n 1, 1) := by decide +kernel
theorem dX2_kept_2 : decode cX2_kept 2 = .ok (.iconst 0, 1) := by decide +kernel
theorem dX2_kept_3 : decode cX2_kept 3 = .ok (.istore_n 2, 1) := by decide +kernel
theorem dX2_kept_4 : decode cX2_kept 4 = .ok (.iload_n 2, 1) := by decide +kernel
theorem dX2_kept_5 : decode cX2_kept 5 = .ok (.aload_n 0, 1) := by decide +kernel
theorem dX2_kept_6 : decode cX2_kept 6 = .ok (.getfield 12, 3) := by decide +kernel
theorem dX2_kept_9 : decode cX2_kept 9 = .ok (.getfield 50, 3) := by decide +kernel
theorem dX2_kept_12 : decode cX2_kept 12 = .ok (.iconst 0, 1) := by decide +kernel
theorem dX2_kept_13 : decode cX2_kept 13 = .ok (.iaload, 1) := by decide +kernel
theorem dX2_kept_14 : decode cX2_kept 14 = .ok (.if_icmp .ge 29, 3) := by decide +kernel
theorem dX2_kept_17 : decode cX2_kept 17 = .ok (.iload_n 1, 1) := by decide +kernel
theorem dX2_kept_18 : decode cX2_kept 18 = .ok (.aload_n 0, 1) := by decide +kernel
theorem dX2_kept_19 : decode cX2_kept 19 = .ok (.getfield 20, 3) := by decide +kernel
theorem dX2_kept_22 : decode cX2_kept 22 = .ok (.iconst 0, 1) := by decide +kernel
theorem dX2_kept_23 : decode cX2_kept 23 = .ok (.aaload, 1) := by decide +kernel
theorem dX2_kept_24 : decode cX2_kept 24 = .ok (.iload_n 2, 1) := by decide +kernel
theorem dX2_kept_25 : decode cX2_kept 25 = .ok (.iaload, 1) := by decide +kernel
theorem dX2_kept_26 : decode cX2_kept 26 = .ok (.iconst (-1), 1) := by decide +kernel
theorem dX2_kept_27 : decode cX2_kept 27 = .ok (.if_icmp .ne 7, 3) := by decide +kernel
theorem dX2_kept_30 : decode cX2_kept 30 = .ok (.iconst 0, 1) := by decide +kernel
theorem dX2_kept_31 : decode cX2_kept 31 = .ok (.goto 4, 3) := by decide +kernel
theorem dX2_kept_34 : decode cX2_kept 34 = .ok (.iconst 1, 1) := by decide +kernel
theorem dX2_kept_35 : decode cX2_kept 35 = .ok (.iadd, 1) := by decide +kernel
theorem dX2_kept_36 : decode cX2_kept 36 = .ok (.istore_n 1, 1) := by decide +kernel
theorem dX2_kept_37 : decode cX2_kept 37 = .ok (.iinc 2 1, 3) := by decide +kernel
theorem dX2_kept_40 : decode cX2_kept 40 = .ok (.goto (-36), 3) := by decide +kernel
theorem dX2_kept_43 : decode cX2_kept 43 = .ok (.iload_n 1, 1) := by decide +kernel
theorem dX2_kept_44 : decode cX2_kept 44 = .ok (.ireturn, 1) := by decide +kernel
theorem dX2_notKept_0 : decode cX2_notKept 0 = .ok (.aload_n 0, 1) := by decide +kernel
theorem dX2_notKept_1 : decode cX2_notKept 1 = .ok (.getfield 12, 3) := by decide +kernel
theorem dX2_notKept_4 : decode cX2_notKept 4 = .ok (.invokevirtual 60, 3) := by decide +kernel
theorem dX2_notKept_7 : decode cX2_notKept 7 = .ok (.iconst 2, 1) := by decide +kernel
theorem dX2_notKept_8 : decode cX2_notKept 8 = .ok (.aload_n 0, 1) := by decide +kernel
theorem dX2_notKept_9 : decode cX2_notKept 9 = .ok (.invokevirtual 64, 3) := by decide +kernel
theorem dX2_notKept_12 : decode cX2_notKept 12 = .ok (.imul, 1) := by decide +kernel
theorem dX2_notKept_13 : decode cX2_notKept 13 = .ok (.isub, 1) := by decide +kernel
theorem dX2_notKept_14 : decode cX2_notKept 14 = .ok (.ireturn, 1) := by decide +kernel
theorem dX2_shortest_0 : decode cX2_shortest 0 = .ok (.aload_n 0, 1) := by decide +kernel
theorem dX2_shortest_1 : decode cX2_shortest 1 = .ok (.getfield 26, 3) := by decide +kernel
theorem dX2_shortest_4 : decode cX2_shortest 4 = .ok (.aload_n 0, 1) := by decide +kernel
theorem dX2_shortest_5 : decode cX2_shortest 5 = .ok (.getfield 12, 3) := by decide +kernel
theorem dX2_shortest_8 : decode cX2_shortest 8 = .ok (.getfield 67, 3) := by decide +kernel
theorem dX2_shortest_11 : decode cX2_shortest 11 = .ok (.iconst 0, 1) := by decide +kernel
theorem dX2_shortest_12 : decode cX2_shortest 12 = .ok (.aaload, 1) := by decide +kernel
theorem dX2_shortest_13 : decode cX2_shortest 13 = .ok (.iconst 0, 1) := by decide +kernel
theorem dX2_shortest_14 : decode cX2_shortest 14 = .ok (.aload_n 0, 1) := by decide +kernel
theorem dX2_shortest_15 : decode cX2_shortest 15 = .ok (.getfield 12, 3) := by decide +kernel
theorem dX2_shortest_18 : decode cX2_shortest 18 = .ok (.getfield 50, 3) := by decide +kernel
theorem dX2_shortest_21 : decode cX2_shortest 21 = .ok (.iconst 0, 1) := by decide +kernel
theorem dX2_shortest_22 : decode cX2_shortest 22 = .ok (.iaload, 1) := by decide +kernel
theorem dX2_shortest_23 : decode cX2_shortest 23 = .ok (.aload_n 0, 1) := by decide +kernel
theorem dX2_shortest_24 : decode cX2_shortest 24 = .ok (.getfield 12, 3) := by decide +kernel
theorem dX2_shortest_27 : decode cX2_shortest 27 = .ok (.getfield 67, 3) := by decide +kernel
theorem dX2_shortest_30 : decode cX2_shortest 30 = .ok (.iconst 1, 1) := by decide +kernel
theorem dX2_shortest_31 : decode cX2_shortest 31 = .ok (.aaload, 1) := by decide +kernel
theorem dX2_shortest_32 : decode cX2_shortest 32 = .ok (.iconst 0, 1) := by decide +kernel
theorem dX2_shortest_33 : decode cX2_shortest 33 = .ok (.aload_n 0, 1) := by decide +kernel
theorem dX2_shortest_34 : decode cX2_shortest 34 = .ok (.getfield 12, 3) := by decide +kernel
theorem dX2_shortest_37 : decode cX2_shortest 37 = .ok (.getfield 50, 3) := by decide +kernel
theorem dX2_shortest_40 : decode cX2_shortest 40 = .ok (.iconst 1, 1) := by decide +kernel
theorem dX2_shortest_41 : decode cX2_shortest 41 = .ok (.iaload, 1) := by decide +kernel
theorem dX2_shortest_42 : decode cX2_shortest 42 = .ok (.invokevirtual 70, 3) := by decide +kernel
theorem dX2_shortest_45 : decode cX2_shortest 45 = .ok (.istore_n 1, 1) := by decide +kernel
theorem dX2_shortest_46 : decode cX2_shortest 46 = .ok (.aload_n 0, 1) := by decide +kernel
theorem dX2_shortest_47 : decode cX2_shortest 47 = .ok (.getfield 12, 3) := by decide +kernel
theorem dX2_shortest_50 : decode cX2_shortest 50 = .ok (.invokevirtual 60, 3) := by decide +kernel
theorem dX2_shortest_53 : decode cX2_shortest 53 = .ok (.iconst 2, 1) := by decide +kernel
theorem dX2_shortest_54 : decode cX2_shortest 54 = .ok (.iload_n 1, 1) := by decide +kernel
theorem dX2_shortest_55 : decode cX2_shortest 55 = .ok (.imul, 1) := by decide +kernel
theorem dX2_shortest_56 : decode cX2_shortest 56 = .ok (.isub, 1) := by decide +kernel
theorem dX2_shortest_57 : decode cX2_shortest 57 = .ok (.ireturn, 1) := by decide +kernel
theorem dX2_keep_0 : decode cX2_keep 0 = .ok (.aload_n 0, 1) := by decide +kernel
theorem dX2_keep_1 : decode cX2_keep 1 = .ok (.getfield 20, 3) := by decide +kernel
theorem dX2_keep_4 : decode cX2_keep 4 = .ok (.iconst 0, 1) := by decide +kernel
theorem dX2_keep_5 : decode cX2_keep 5 = .ok (.aaload, 1) := by decide +kernel
theorem dX2_keep_6 : decode cX2_keep 6 = .ok (.iload_n 1, 1) := by decide +kernel
theorem dX2_keep_7 : decode cX2_keep 7 = .ok (.iload_n 2, 1) := by decide +kernel
theorem dX2_keep_8 : decode cX2_keep 8 = .ok (.iastore, 1) := by decide +kernel
theorem dX2_keep_9 : decode cX2_keep 9 = .ok (.aload_n 0, 1) := by decide +kernel
theorem dX2_keep_10 : decode cX2_keep 10 = .ok (.getfield 20, 3) := by decide +kernel
theorem dX2_keep_13 : decode cX2_keep 13 = .ok (.iconst 1, 1) := by decide +kernel
theorem dX2_keep_14 : decode cX2_keep 14 = .ok (.aaload, 1) := by decide +kernel
theorem dX2_keep_15 : decode cX2_keep 15 = .ok (.iload_n 2, 1) := by decide +kernel
theorem dX2_keep_16 : decode cX2_keep 16 = .ok (.iload_n 1, 1) := by decide +kernel
theorem dX2_keep_17 : decode cX2_keep 17 = .ok (.iastore, 1) := by decide +kernel
theorem dX2_keep_18 : decode cX2_keep 18 = .ok (.return_, 1) := by decide +kernel
theorem dX2_same_0 : decode cX2_same 0 = .ok (.aload_n 0, 1) := by decide +kernel
theorem dX2_same_1 : decode cX2_same 1 = .ok (.getfield 12, 3) := by decide +kernel
theorem dX2_same_4 : decode cX2_same 4 = .ok (.getfield 67, 3) := by decide +kernel
theorem dX2_same_7 : decode cX2_same 7 = .ok (.iconst 0, 1) := by decide +kernel
theorem dX2_same_8 : decode cX2_same 8 = .ok (.aaload, 1) := by decide +kernel
theorem dX2_same_9 : decode cX2_same 9 = .ok (.iload_n 1, 1) := by decide +kernel
theorem dX2_same_10 : decode cX2_same 10 = .ok (.iaload, 1) := by decide +kernel
theorem dX2_same_11 : decode cX2_same 11 = .ok (.aload_n 0, 1) := by decide +kernel
theorem dX2_same_12 : decode cX2_same 12 = .ok (.getfield 12, 3) := by decide +kernel
theorem dX2_same_15 : decode cX2_same 15 = .ok (.getfield 67, 3) := by decide +kernel
theorem dX2_same_18 : decode cX2_same 18 = .ok (.iconst 1, 1) := by decide +kernel
theorem dX2_same_19 : decode cX2_same 19 = .ok (.aaload, 1) := by decide +kernel
theorem dX2_same_20 : decode cX2_same 20 = .ok (.iload_n 2, 1) := by decide +kernel
theorem dX2_same_21 : decode cX2_same 21 = .ok (.iaload, 1) := by decide +kernel
theorem dX2_same_22 : decode cX2_same 22 = .ok (.if_icmp .ne 7, 3) := by decide +kernel
theorem dX2_same_25 : decode cX2_same 25 = .ok (.iconst 1, 1) := by decide +kernel
theorem dX2_same_26 : decode cX2_same 26 = .ok (.goto 4, 3) := by decide +kernel
theorem dX2_same_29 : decode cX2_same 29 = .ok (.iconst 0, 1) := by decide +kernel
theorem dX2_same_30 : decode cX2_same 30 = .ok (.ireturn, 1) := by decide +kernel
theorem dX2_matchParts_0 : decode cX2_matchParts 0 = .ok (.iload 5, 2) := by decide +kernel
theorem dX2_matchParts_2 : decode cX2_matchParts 2 = .ok (.bipush 8, 2) := by decide +kernel
theorem dX2_matchParts_4 : decode cX2_matchParts 4 = .ok (.if_icmp .le 4, 3) := by decide +kernel
theorem dX2_matchParts_7 : decode cX2_matchParts 7 = .ok (.return_, 1) := by decide +kernel
theorem dX2_matchParts_8 : decode cX2_matchParts 8 = .ok (.iload_n 1, 1) := by decide +kernel
theorem dX2_matchParts_9 : decode cX2_matchParts 9 = .ok (.istore 6, 2) := by decide +kernel
theorem dX2_matchParts_11 : decode cX2_matchParts 11 = .ok (.iload_n 3, 1) := by decide +kernel
theorem dX2_matchParts_12 : decode cX2_matchParts 12 = .ok (.istore 7, 2) := by decide +kernel
theorem dX2_matchParts_14 : decode cX2_matchParts 14 = .ok (.iload 6, 2) := by decide +kernel
theorem dX2_matchParts_16 : decode cX2_matchParts 16 = .ok (.iload_n 2, 1) := by decide +kernel
theorem dX2_matchParts_17 : decode cX2_matchParts 17 = .ok (.if_icmp .ge 38, 3) := by decide +kernel
theorem dX2_matchParts_20 : decode cX2_matchParts 20 = .ok (.iload 7, 2) := by decide +kernel
theorem dX2_matchParts_22 : decode cX2_matchParts 22 = .ok (.iload 4, 2) := by decide +kernel
theorem dX2_matchParts_24 : decode cX2_matchParts 24 = .ok (.if_icmp .ge 31, 3) := by decide +kernel
theorem dX2_matchParts_27 : decode cX2_matchParts 27 = .ok (.aload_n 0, 1) := by decide +kernel
theorem dX2_matchParts_28 : decode cX2_matchParts 28 = .ok (.iload 6, 2) := by decide +kernel
theorem dX2_matchParts_30 : decode cX2_matchParts 30 = .ok (.iload 7, 2) := by decide +kernel
theorem dX2_matchParts_32 : decode cX2_matchParts 32 = .ok (.invokevirtual 74, 3) := by decide +kernel
theorem dX2_matchParts_35 : decode cX2_matchParts 35 = .ok (.ifCond .eq 20, 3) := by decide +kernel
theorem dX2_matchParts_38 : decode cX2_matchParts 38 = .ok (.aload_n 0, 1) := by decide +kernel
theorem dX2_matchParts_39 : decode cX2_matchParts 39 = .ok (.iload 6, 2) := by decide +kernel
theorem dX2_matchParts_41 : decode cX2_matchParts 41 = .ok (.iload 7, 2) := by decide +kernel
theorem dX2_matchParts_43 : decode cX2_matchParts 43 = .ok (.invokevirtual 78, 3) := by decide +kernel
theorem dX2_matchParts_46 : decode cX2_matchParts 46 = .ok (.iinc 6 1, 3) := by decide +kernel
theorem dX2_matchParts_49 : decode cX2_matchParts 49 = .ok (.iinc 7 1, 3) := by decide +kernel
theorem dX2_matchParts_52 : decode cX2_matchParts 52 = .ok (.goto (-38), 3) := by decide +kernel
theorem dX2_matchParts_55 : decode cX2_matchParts 55 = .ok (.iload_n 2, 1) := by decide +kernel
theorem dX2_matchParts_56 : decode cX2_matchParts 56 = .ok (.istore 8, 2) := by decide +kernel
theorem dX2_matchParts_58 : decode cX2_matchParts 58 = .ok (.iload 4, 2) := by decide +kernel
theorem dX2_matchParts_60 : decode cX2_matchParts 60 = .ok (.istore 9, 2) := by decide +kernel
theorem dX2_matchParts_62 : decode cX2_matchParts 62 = .ok (.iload 8, 2) := by decide +kernel
theorem dX2_matchParts_64 : decode cX2_matchParts 64 = .ok (.iload 6, 2) := by decide +kernel
theorem dX2_matchParts_66 : decode cX2_matchParts 66 = .ok (.if_icmp .le 42, 3) := by decide +kernel
theorem dX2_matchParts_69 : decode cX2_matchParts 69 = .ok (.iload 9, 2) := by decide +kernel
theorem dX2_matchParts_71 : decode cX2_matchParts 71 = .ok (.iload 7, 2) := by decide +kernel
theorem dX2_matchParts_73 : decode cX2_matchParts 73 = .ok (.if_icmp .le 35, 3) := by decide +kernel
theorem dX2_matchParts_76 : decode cX2_matchParts 76 = .ok (.aload_n 0, 1) := by decide +kernel
theorem dX2_matchParts_77 : decode cX2_matchParts 77 = .ok (.iload 8, 2) := by decide +kernel
theorem dX2_matchParts_79 : decode cX2_matchParts 79 = .ok (.iconst 1, 1) := by decide +kernel
theorem dX2_matchParts_80 : decode cX2_matchParts 80 = .ok (.isub, 1) := by decide +kernel
theorem dX2_matchParts_81 : decode cX2_matchParts 81 = .ok (.iload 9, 2) := by decide +kernel
theorem dX2_matchParts_83 : decode cX2_matchParts 83 = .ok (.iconst 1, 1) := by decide +kernel
theorem dX2_matchParts_84 : decode cX2_matchParts 84 = .ok (.isub, 1) := by decide +kernel
theorem dX2_matchParts_85 : decode cX2_matchParts 85 = .ok (.invokevirtual 74, 3) := by decide +kernel
theorem dX2_matchParts_88 : decode cX2_matchParts 88 = .ok (.ifCond .eq 20, 3) := by decide +kernel
theorem dX2_matchParts_91 : decode cX2_matchParts 91 = .ok (.iinc 8 (-1), 3) := by decide +kernel
theorem dX2_matchParts_94 : decode cX2_matchParts 94 = .ok (.iinc 9 (-1), 3) := by decide +kernel
theorem dX2_matchParts_97 : decode cX2_matchParts 97 = .ok (.aload_n 0, 1) := by decide +kernel
theorem dX2_matchParts_98 : decode cX2_matchParts 98 = .ok (.iload 8, 2) := by decide +kernel
theorem dX2_matchParts_100 : decode cX2_matchParts 100 = .ok (.iload 9, 2) := by decide +kernel
theorem dX2_matchParts_102 : decode cX2_matchParts 102 = .ok (.invokevirtual 78, 3) := by decide +kernel
theorem dX2_matchParts_105 : decode cX2_matchParts 105 = .ok (.goto (-43), 3) := by decide +kernel
theorem dX2_matchParts_108 : decode cX2_matchParts 108 = .ok (.iload 6, 2) := by decide +kernel
theorem dX2_matchParts_110 : decode cX2_matchParts 110 = .ok (.iload 8, 2) := by decide +kernel
theorem dX2_matchParts_112 : decode cX2_matchParts 112 = .ok (.if_icmp .eq 10, 3) := by decide +kernel
theorem dX2_matchParts_115 : decode cX2_matchParts 115 = .ok (.iload 7, 2) := by decide +kernel
theorem dX2_matchParts_117 : decode cX2_matchParts 117 = .ok (.iload 9, 2) := by decide +kernel
theorem dX2_matchParts_119 : decode cX2_matchParts 119 = .ok (.if_icmp .ne 4, 3) := by decide +kernel
theorem dX2_matchParts_122 : decode cX2_matchParts 122 = .ok (.return_, 1) := by decide +kernel
theorem dX2_matchParts_123 : decode cX2_matchParts 123 = .ok (.aload_n 0, 1) := by decide +kernel
theorem dX2_matchParts_124 : decode cX2_matchParts 124 = .ok (.iload 6, 2) := by decide +kernel
theorem dX2_matchParts_126 : decode cX2_matchParts 126 = .ok (.iload 8, 2) := by decide +kernel
theorem dX2_matchParts_128 : decode cX2_matchParts 128 = .ok (.iload 7, 2) := by decide +kernel
theorem dX2_matchParts_130 : decode cX2_matchParts 130 = .ok (.iload 9, 2) := by decide +kernel
theorem dX2_matchParts_132 : decode cX2_matchParts 132 = .ok (.invokevirtual 82, 3) := by decide +kernel
theorem dX2_matchParts_135 : decode cX2_matchParts 135 = .ok (.aload_n 0, 1) := by decide +kernel
theorem dX2_matchParts_136 : decode cX2_matchParts 136 = .ok (.iload 6, 2) := by decide +kernel
theorem dX2_matchParts_138 : decode cX2_matchParts 138 = .ok (.iload 8, 2) := by decide +kernel
theorem dX2_matchParts_140 : decode cX2_matchParts 140 = .ok (.invokevirtual 86, 3) := by decide +kernel
theorem dX2_matchParts_143 : decode cX2_matchParts 143 = .ok (.ifCond .eq 20, 3) := by decide +kernel
theorem dX2_matchParts_146 : decode cX2_matchParts 146 = .ok (.aload_n 0, 1) := by decide +kernel
theorem dX2_matchParts_147 : decode cX2_matchParts 147 = .ok (.iload 6, 2) := by decide +kernel
theorem dX2_matchParts_149 : decode cX2_matchParts 149 = .ok (.iload 8, 2) := by decide +kernel
theorem dX2_matchParts_151 : decode cX2_matchParts 151 = .ok (.iload 7, 2) := by decide +kernel
theorem dX2_matchParts_153 : decode cX2_matchParts 153 = .ok (.iload 9, 2) := by decide +kernel
theorem dX2_matchParts_155 : decode cX2_matchParts 155 = .ok (.iload 5, 2) := by decide +kernel
theorem dX2_matchParts_157 : decode cX2_matchParts 157 = .ok (.invokevirtual 89, 3) := by decide +kernel
theorem dX2_matchParts_160 : decode cX2_matchParts 160 = .ok (.goto 15, 3) := by decide +kernel
theorem dX2_matchParts_163 : decode cX2_matchParts 163 = .ok (.aload_n 0, 1) := by decide +kernel
theorem dX2_matchParts_164 : decode cX2_matchParts 164 = .ok (.iload 6, 2) := by decide +kernel
theorem dX2_matchParts_166 : decode cX2_matchParts 166 = .ok (.iload 8, 2) := by decide +kernel
theorem dX2_matchParts_168 : decode cX2_matchParts 168 = .ok (.iload 7, 2) := by decide +kernel
theorem dX2_matchParts_170 : decode cX2_matchParts 170 = .ok (.iload 9, 2) := by decide +kernel
theorem dX2_matchParts_172 : decode cX2_matchParts 172 = .ok (.invokevirtual 92, 3) := by decide +kernel
theorem dX2_matchParts_175 : decode cX2_matchParts 175 = .ok (.return_, 1) := by decide +kernel
theorem dX2_findAnchors_0 : decode cX2_findAnchors 0 = .ok (.iload_n 1, 1) := by decide +kernel
theorem dX2_findAnchors_1 : decode cX2_findAnchors 1 = .ok (.istore 5, 2) := by decide +kernel
theorem dX2_findAnchors_3 : decode cX2_findAnchors 3 = .ok (.iload 5, 2) := by decide +kernel
theorem dX2_findAnchors_5 : decode cX2_findAnchors 5 = .ok (.iload_n 2, 1) := by decide +kernel
theorem dX2_findAnchors_6 : decode cX2_findAnchors 6 = .ok (.if_icmp .ge 70, 3) := by decide +kernel
theorem dX2_findAnchors_9 : decode cX2_findAnchors 9 = .ok (.aload_n 0, 1) := by decide +kernel
theorem dX2_findAnchors_10 : decode cX2_findAnchors 10 = .ok (.getfield 12, 3) := by decide +kernel
theorem dX2_findAnchors_13 : decode cX2_findAnchors 13 = .ok (.getfield 67, 3) := by decide +kernel
theorem dX2_findAnchors_16 : decode cX2_findAnchors 16 = .ok (.iconst 0, 1) := by decide +kernel
theorem dX2_findAnchors_17 : decode cX2_findAnchors 17 = .ok (.aaload, 1) := by decide +kernel
theorem dX2_findAnchors_18 : decode cX2_findAnchors 18 = .ok (.iload 5, 2) := by decide +kernel
theorem dX2_findAnchors_20 : decode cX2_findAnchors 20 = .ok (.iaload, 1) := by decide +kernel
theorem dX2_findAnchors_21 : decode cX2_findAnchors 21 = .ok (.istore 6, 2) := by decide +kernel
theorem dX2_findAnchors_23 : decode cX2_findAnchors 23 = .ok (.aload_n 0, 1) := by decide +kernel
theorem dX2_findAnchors_24 : decode cX2_findAnchors 24 = .ok (.iload 6, 2) := by decide +kernel
theorem dX2_findAnchors_26 : decode cX2_findAnchors 26 = .ok (.iconst 0, 1) := by decide +kernel
theorem dX2_findAnchors_27 : decode cX2_findAnchors 27 = .ok (.iload_n 1, 1) := by decide +kernel
theorem dX2_findAnchors_28 : decode cX2_findAnchors 28 = .ok (.iload_n 2, 1) := by decide +kernel
theorem dX2_findAnchors_29 : decode cX2_findAnchors 29 = .ok (.invokevirtual 95, 3) := by decide +kernel
theorem dX2_findAnchors_32 : decode cX2_findAnchors 32 = .ok (.iload 5, 2) := by decide +kernel
theorem dX2_findAnchors_34 : decode cX2_findAnchors 34 = .ok (.if_icmp .ne 7, 3) := by decide +kernel
theorem dX2_findAnchors_37 : decode cX2_findAnchors 37 = .ok (.iconst 1, 1) := by decide +kernel
theorem dX2_findAnchors_38 : decode cX2_findAnchors 38 = .ok (.goto 4, 3) := by decide +kernel
theorem dX2_findAnchors_41 : decode cX2_findAnchors 41 = .ok (.iconst 0, 1) := by decide +kernel
theorem dX2_findAnchors_42 : decode cX2_findAnchors 42 = .ok (.istore 7, 2) := by decide +kernel
theorem dX2_findAnchors_44 : decode cX2_findAnchors 44 = .ok (.aload_n 0, 1) := by decide +kernel
theorem dX2_findAnchors_45 : decode cX2_findAnchors 45 = .ok (.getfield 30, 3) := by decide +kernel
theorem dX2_findAnchors_48 : decode cX2_findAnchors 48 = .ok (.iload 5, 2) := by decide +kernel
theorem dX2_findAnchors_50 : decode cX2_findAnchors 50 = .ok (.iload 7, 2) := by decide +kernel
theorem dX2_findAnchors_52 : decode cX2_findAnchors 52 = .ok (.ifCond .eq 16, 3) := by decide +kernel
theorem dX2_findAnchors_55 : decode cX2_findAnchors 55 = .ok (.aload_n 0, 1) := by decide +kernel
theorem dX2_findAnchors_56 : decode cX2_findAnchors 56 = .ok (.iload 6, 2) := by decide +kernel
theorem dX2_findAnchors_58 : decode cX2_findAnchors 58 = .ok (.iconst 1, 1) := by decide +kernel
theorem dX2_findAnchors_59 : decode cX2_findAnchors 59 = .ok (.iload_n 3, 1) := by decide +kernel
theorem dX2_findAnchors_60 : decode cX2_findAnchors 60 = .ok (.iload 4, 2) := by decide +kernel
theorem dX2_findAnchors_62 : decode cX2_findAnchors 62 = .ok (.invokevirtual 95, 3) := by decide +kernel
theorem dX2_findAnchors_65 : decode cX2_findAnchors 65 = .ok (.goto 4, 3) := by decide +kernel
theorem dX2_findAnchors_68 : decode cX2_findAnchors 68 = .ok (.iconst (-1), 1) := by decide +kernel
theorem dX2_findAnchors_69 : decode cX2_findAnchors 69 = .ok (.iastore, 1) := by decide +kernel
theorem dX2_findAnchors_70 : decode cX2_findAnchors 70 = .ok (.iinc 5 1, 3) := by decide +kernel
theorem dX2_findAnchors_73 : decode cX2_findAnchors 73 = .ok (.goto (-70), 3) := by decide +kernel
theorem dX2_findAnchors_76 : decode cX2_findAnchors 76 = .ok (.return_, 1) := by decide +kernel
theorem dX2_onlyPlaceOf_0 : decode cX2_onlyPlaceOf 0 = .ok (.iconst (-1), 1) := by decide +kernel
theorem dX2_onlyPlaceOf_1 : decode cX2_onlyPlaceOf 1 = .ok (.istore 5, 2) := by decide +kernel
theorem dX2_onlyPlaceOf_3 : decode cX2_onlyPlaceOf 3 = .ok (.iload_n 3, 1) := by decide +kernel
theorem dX2_onlyPlaceOf_4 : decode cX2_onlyPlaceOf 4 = .ok (.istore 6, 2) := by decide +kernel
theorem dX2_onlyPlaceOf_6 : decode cX2_onlyPlaceOf 6 = .ok (.iload 6, 2) := by decide +kernel
theorem dX2_onlyPlaceOf_8 : decode cX2_onlyPlaceOf 8 = .ok (.iload 4, 2) := by decide +kernel
theorem dX2_onlyPlaceOf_10 : decode cX2_onlyPlaceOf 10 = .ok (.if_icmp .ge 37, 3) := by decide +kernel
theorem dX2_onlyPlaceOf_13 : decode cX2_onlyPlaceOf 13 = .ok (.aload_n 0, 1) := by decide +kernel
theorem dX2_onlyPlaceOf_14 : decode cX2_onlyPlaceOf 14 = .ok (.getfield 12, 3) := by decide +kernel
theorem dX2_onlyPlaceOf_17 : decode cX2_onlyPlaceOf 17 = .ok (.getfield 67, 3) := by decide +kernel
theorem dX2_onlyPlaceOf_20 : decode cX2_onlyPlaceOf 20 = .ok (.iload_n 2, 1) := by decide +kernel
theorem dX2_onlyPlaceOf_21 : decode cX2_onlyPlaceOf 21 = .ok (.aaload, 1) := by decide +kernel
theorem dX2_onlyPlaceOf_22 : decode cX2_onlyPlaceOf 22 = .ok (.iload 6, 2) := by decide +kernel
theorem dX2_onlyPlaceOf_24 : decode cX2_onlyPlaceOf 24 = .ok (.iaload, 1) := by decide +kernel
theorem dX2_onlyPlaceOf_25 : decode cX2_onlyPlaceOf 25 = .ok (.iload_n 1, 1) := by decide +kernel
theorem dX2_onlyPlaceOf_26 : decode cX2_onlyPlaceOf 26 = .ok (.if_icmp .ne 15, 3) := by decide +kernel
theorem dX2_onlyPlaceOf_29 : decode cX2_onlyPlaceOf 29 = .ok (.iload 5, 2) := by decide +kernel
theorem dX2_onlyPlaceOf_31 : decode cX2_onlyPlaceOf 31 = .ok (.iconst (-1), 1) := by decide +kernel
theorem dX2_onlyPlaceOf_32 : decode cX2_onlyPlaceOf 32 = .ok (.if_icmp .eq 5, 3) := by decide +kernel
theorem dX2_onlyPlaceOf_35 : decode cX2_onlyPlaceOf 35 = .ok (.iconst (-1), 1) := by decide +kernel
theorem dX2_onlyPlaceOf_36 : decode cX2_onlyPlaceOf 36 = .ok (.ireturn, 1) := by decide +kernel
theorem dX2_onlyPlaceOf_37 : decode cX2_onlyPlaceOf 37 = .ok (.iload 6, 2) := by decide +kernel
theorem dX2_onlyPlaceOf_39 : decode cX2_onlyPlaceOf 39 = .ok (.istore 5, 2) := by decide +kernel
theorem dX2_onlyPlaceOf_41 : decode cX2_onlyPlaceOf 41 = .ok (.iinc 6 1, 3) := by decide +kernel
theorem dX2_onlyPlaceOf_44 : decode cX2_onlyPlaceOf 44 = .ok (.goto (-38), 3) := by decide +kernel
theorem dX2_onlyPlaceOf_47 : decode cX2_onlyPlaceOf 47 = .ok (.iload 5, 2) := by decide +kernel
theorem dX2_onlyPlaceOf_49 : decode cX2_onlyPlaceOf 49 = .ok (.ireturn, 1) := by decide +kernel
theorem dX2_keepLongestChain_0 : decode cX2_keepLongestChain 0 = .ok (.aload_n 0, 1) := by decide +kernel
theorem dX2_keepLongestChain_1 : decode cX2_keepLongestChain 1 = .ok (.iload_n 1, 1) := by decide +kernel
theorem dX2_keepLongestChain_2 : decode cX2_keepLongestChain 2 = .ok (.iload_n 2, 1) := by decide +kernel
theorem dX2_keepLongestChain_3 : decode cX2_keepLongestChain 3 = .ok (.invokevirtual 99, 3) := by decide +kernel
theorem dX2_keepLongestChain_6 : decode cX2_keepLongestChain 6 = .ok (.istore_n 3, 1) := by decide +kernel
theorem dX2_keepLongestChain_7 : decode cX2_keepLongestChain 7 = .ok (.iload_n 3, 1) := by decide +kernel
theorem dX2_keepLongestChain_8 : decode cX2_keepLongestChain 8 = .ok (.ifCond .le 7, 3) := by decide +kernel
theorem dX2_keepLongestChain_11 : decode cX2_keepLongestChain 11 = .ok (.iconst 1, 1) := by decide +kernel
theorem dX2_keepLongestChain_12 : decode cX2_keepLongestChain 12 = .ok (.goto 4, 3) := by decide +kernel
theorem dX2_keepLongestChain_15 : decode cX2_keepLongestChain 15 = .ok (.iconst 0, 1) := by decide +kernel
theorem dX2_keepLongestChain_16 : decode cX2_keepLongestChain 16 = .ok (.istore 4, 2) := by decide +kernel
theorem dX2_keepLongestChain_18 : decode cX2_keepLongestChain 18 = .ok (.iconst (-1), 1) := by decide +kernel
theorem dX2_keepLongestChain_19 : decode cX2_keepLongestChain 19 = .ok (.istore 5, 2) := by decide +kernel
theorem dX2_keepLongestChain_21 : decode cX2_keepLongestChain 21 = .ok (.iload_n 1, 1) := by decide +kernel
theorem dX2_keepLongestChain_22 : decode cX2_keepLongestChain 22 = .ok (.istore 6, 2) := by decide +kernel
theorem dX2_keepLongestChain_24 : decode cX2_keepLongestChain 24 = .ok (.iload 6, 2) := by decide +kernel
theorem dX2_keepLongestChain_26 : decode cX2_keepLongestChain 26 = .ok (.iload_n 2, 1) := by decide +kernel
theorem dX2_keepLongestChain_27 : decode cX2_keepLongestChain 27 = .ok (.if_icmp .ge 62, 3) := by decide +kernel
theorem dX2_keepLongestChain_30 : decode cX2_keepLongestChain 30 = .ok (.aload_n 0, 1) := by decide +kernel
theorem dX2_keepLongestChain_31 : decode cX2_keepLongestChain 31 = .ok (.getfield 30, 3) := by decide +kernel
theorem dX2_keepLongestChain_34 : decode cX2_keepLongestChain 34 = .ok (.iload 6, 2) := by decide +kernel
theorem dX2_keepLongestChain_36 : decode cX2_keepLongestChain 36 = .ok (.iaload, 1) := by decide +kernel
theorem dX2_keepLongestChain_37 : decode cX2_keepLongestChain 37 = .ok (.iload 5, 2) := by decide +kernel
theorem dX2_keepLongestChain_39 : decode cX2_keepLongestChain 39 = .ok (.if_icmp .le 44, 3) := by decide +kernel
theorem dX2_keepLongestChain_42 : decode cX2_keepLongestChain 42 = .ok (.aload_n 0, 1) := by decide +kernel
theorem dX2_keepLongestChain_43 : decode cX2_keepLongestChain 43 = .ok (.getfield 34, 3) := by decide +kernel
theorem dX2_keepLongestChain_46 : decode cX2_keepLongestChain 46 = .ok (.iload 6, 2) := by decide +kernel
theorem dX2_keepLongestChain_48 : decode cX2_keepLongestChain 48 = .ok (.iaload, 1) := by decide +kernel
theorem dX2_keepLongestChain_49 : decode cX2_keepLongestChain 49 = .ok (.iload_n 3, 1) := by decide +kernel
theorem dX2_keepLongestChain_50 : decode cX2_keepLongestChain 50 = .ok (.if_icmp .ne 33, 3) := by decide +kernel
theorem dX2_keepLongestChain_53 : decode cX2_keepLongestChain 53 = .ok (.aload_n 0, 1) := by decide +kernel
theorem dX2_keepLongestChain_54 : decode cX2_keepLongestChain 54 = .ok (.getfield 30, 3) := by decide +kernel
theorem dX2_keepLongestChain_57 : decode cX2_keepLongestChain 57 = .ok (.iload 6, 2) := by decide +kernel
theorem dX2_keepLongestChain_59 : decode cX2_keepLongestChain 59 = .ok (.iaload, 1) := by decide +kernel
theorem dX2_keepLongestChain_60 : decode cX2_keepLongestChain 60 = .ok (.istore 5, 2) := by decide +kernel
theorem dX2_keepLongestChain_62 : decode cX2_keepLongestChain 62 = .ok (.aload_n 0, 1) := by decide +kernel
theorem dX2_keepLongestChain_63 : decode cX2_keepLongestChain 63 = .ok (.iload 6, 2) := by decide +kernel
theorem dX2_keepLongestChain_65 : decode cX2_keepLongestChain 65 = .ok (.iload 5, 2) := by decide +kernel
theorem dX2_keepLongestChain_67 : decode cX2_keepLongestChain 67 = .ok (.invokevirtual 78, 3) := by decide +kernel
theorem dX2_keepLongestChain_70 : decode cX2_keepLongestChain 70 = .ok (.aload_n 0, 1) := by decide +kernel
theorem dX2_keepLongestChain_71 : decode cX2_keepLongestChain 71 = .ok (.dup, 1) := by decide +kernel
theorem dX2_keepLongestChain_72 : decode cX2_keepLongestChain 72 = .ok (.getfield 43, 3) := by decide +kernel
theorem dX2_keepLongestChain_75 : decode cX2_keepLongestChain 75 = .ok (.iconst 1, 1) := by decide +kernel
theorem dX2_keepLongestChain_76 : decode cX2_keepLongestChain 76 = .ok (.iadd, 1) := by decide +kernel
theorem dX2_keepLongestChain_77 : decode cX2_keepLongestChain 77 = .ok (.putfield 43, 3) := by decide +kernel
theorem dX2_keepLongestChain_80 : decode cX2_keepLongestChain 80 = .ok (.iinc 3 (-1), 3) := by decide +kernel
theorem dX2_keepLongestChain_83 : decode cX2_keepLongestChain 83 = .ok (.iinc 6 1, 3) := by decide +kernel
theorem dX2_keepLongestChain_86 : decode cX2_keepLongestChain 86 = .ok (.goto (-62), 3) := by decide +kernel
theorem dX2_keepLongestChain_89 : decode cX2_keepLongestChain 89 = .ok (.iload 4, 2) := by decide +kernel
theorem dX2_keepLongestChain_91 : decode cX2_keepLongestChain 91 = .ok (.ireturn, 1) := by decide +kernel
theorem dX2_measureChains_0 : decode cX2_measureChains 0 = .ok (.iconst 0, 1) := by decide +kernel
theorem dX2_measureChains_1 : decode cX2_measureChains 1 = .ok (.istore_n 3, 1) := by decide +kernel
theorem dX2_measureChains_2 : decode cX2_measureChains 2 = .ok (.iload_n 2, 1) := by decide +kernel
theorem dX2_measureChains_3 : decode cX2_measureChains 3 = .ok (.iconst 1, 1) := by decide +kernel
theorem dX2_measureChains_4 : decode cX2_measureChains 4 = .ok (.isub, 1) := by decide +kernel
theorem dX2_measureChains_5 : decode cX2_measureChains 5 = .ok (.istore 4, 2) := by decide +kernel
theorem dX2_measureChains_7 : decode cX2_measureChains 7 = .ok (.iload 4, 2) := by decide +kernel
theorem dX2_measureChains_9 : decode cX2_measureChains 9 = .ok (.iload_n 1, 1) := by decide +kernel
theorem dX2_measureChains_10 : decode cX2_measureChains 10 = .ok (.if_icmp .lt 106, 3) := by decide +kernel
theorem dX2_measureChains_13 : decode cX2_measureChains 13 = .ok (.aload_n 0, 1) := by decide +kernel
theorem dX2_measureChains_14 : decode cX2_measureChains 14 = .ok (.getfield 34, 3) := by decide +kernel
theorem dX2_measureChains_17 : decode cX2_measureChains 17 = .ok (.iload 4, 2) := by decide +kernel
theorem dX2_measureChains_19 : decode cX2_measureChains 19 = .ok (.iconst 0, 1) := by decide +kernel
theorem dX2_measureChains_20 : decode cX2_measureChains 20 = .ok (.iastore, 1) := by decide +kernel
theorem dX2_measureChains_21 : decode cX2_measureChains 21 = .ok (.aload_n 0, 1) := by decide +kernel
theorem dX2_measureChains_22 : decode cX2_measureChains 22 = .ok (.getfield 30, 3) := by decide +kernel
theorem dX2_measureChains_25 : decode cX2_measureChains 25 = .ok (.iload 4, 2) := by decide +kernel
theorem dX2_measureChains_27 : decode cX2_measureChains 27 = .ok (.iaload, 1) := by decide +kernel
theorem dX2_measureChains_28 : decode cX2_measureChains 28 = .ok (.iconst (-1), 1) := by decide +kernel
theorem dX2_measureChains_29 : decode cX2_measureChains 29 = .ok (.if_icmp .ne 6, 3) := by decide +kernel
theorem dX2_measureChains_32 : decode cX2_measureChains 32 = .ok (.goto 78, 3) := by decide +kernel
theorem dX2_measureChains_35 : decode cX2_measureChains 35 = .ok (.iconst 0, 1) := by decide +kernel
theorem dX2_measureChains_36 : decode cX2_measureChains 36 = .ok (.istore 5, 2) := by decide +kernel
theorem dX2_measureChains_38 : decode cX2_measureChains 38 = .ok (.iload 4, 2) := by decide +kernel
theorem dX2_measureChains_40 : decode cX2_measureChains 40 = .ok (.iconst 1, 1) := by decide +kernel
theorem dX2_measureChains_41 : decode cX2_measureChains 41 = .ok (.iadd, 1) := by decide +kernel
theorem dX2_measureChains_42 : decode cX2_measureChains 42 = .ok (.istore 6, 2) := by decide +kernel
theorem dX2_measureChains_44 : decode cX2_measureChains 44 = .ok (.iload 6, 2) := by decide +kernel
theorem dX2_measureChains_46 : decode cX2_measureChains 46 = .ok (.iload_n 2, 1) := by decide +kernel
theorem dX2_measureChains_47 : decode cX2_measureChains 47 = .ok (.if_icmp .ge 40, 3) := by decide +kernel
theorem dX2_measureChains_50 : decode cX2_measureChains 50 = .ok (.aload_n 0, 1) := by decide +kernel
theorem dX2_measureChains_51 : decode cX2_measureChains 51 = .ok (.getfield 30, 3) := by decide +kernel
theorem dX2_measureChains_54 : decode cX2_measureChains 54 = .ok (.iload 6, 2) := by decide +kernel
theorem dX2_measureChains_56 : decode cX2_measureChains 56 = .ok (.iaload, 1) := by decide +kernel
theorem dX2_measureChains_57 : decode cX2_measureChains 57 = .ok (.aload_n 0, 1) := by decide +kernel
theorem dX2_measureChains_58 : decode cX2_measureChains 58 = .ok (.getfield 30, 3) := by decide +kernel
theorem dX2_measureChains_61 : decode cX2_measureChains 61 = .ok (.iload 4, 2) := by decide +kernel
theorem dX2_measureChains_63 : decode cX2_measureChains 63 = .ok (.iaload, 1) := by decide +kernel
theorem dX2_measureChains_64 : decode cX2_measureChains 64 = .ok (.if_icmp .le 17, 3) := by decide +kernel
theorem dX2_measureChains_67 : decode cX2_measureChains 67 = .ok (.iload 5, 2) := by decide +kernel
theorem dX2_measureChains_69 : decode cX2_measureChains 69 = .ok (.aload_n 0, 1) := by decide +kernel
theorem dX2_measureChains_70 : decode cX2_measureChains 70 = .ok (.getfield 34, 3) := by decide +kernel
theorem dX2_measureChains_73 : decode cX2_measureChains 73 = .ok (.iload 6, 2) := by decide +kernel
theorem dX2_measureChains_75 : decode cX2_measureChains 75 = .ok (.iaload, 1) := by decide +kernel
theorem dX2_measureChains_76 : decode cX2_measureChains 76 = .ok (.invokestatic 103, 3) := by decide +kernel
theorem dX2_measureChains_79 : decode cX2_measureChains 79 = .ok (.istore 5, 2) := by decide +kernel
theorem dX2_measureChains_81 : decode cX2_measureChains 81 = .ok (.iinc 6 1, 3) := by decide +kernel
theorem dX2_measureChains_84 : decode cX2_measureChains 84 = .ok (.goto (-40), 3) := by decide +kernel
theorem dX2_measureChains_87 : decode cX2_measureChains 87 = .ok (.aload_n 0, 1) := by decide +kernel
theorem dX2_measureChains_88 : decode cX2_measureChains 88 = .ok (.getfield 34, 3) := by decide +kernel
theorem dX2_measureChains_91 : decode cX2_measureChains 91 = .ok (.iload 4, 2) := by decide +kernel
theorem dX2_measureChains_93 : decode cX2_measureChains 93 = .ok (.iload 5, 2) := by decide +kernel
theorem dX2_measureChains_95 : decode cX2_measureChains 95 = .ok (.iconst 1, 1) := by decide +kernel
theorem dX2_measureChains_96 : decode cX2_measureChains 96 = .ok (.iadd, 1) := by decide +kernel
theorem dX2_measureChains_97 : decode cX2_measureChains 97 = .ok (.iastore, 1) := by decide +kernel
theorem dX2_measureChains_98 : decode cX2_measureChains 98 = .ok (.iload_n 3, 1) := by decide +kernel
theorem dX2_measureChains_99 : decode cX2_measureChains 99 = .ok (.aload_n 0, 1) := by decide +kernel
theorem dX2_measureChains_100 : decode cX2_measureChains 100 = .ok (.getfield 34, 3) := by decide +kernel
theorem dX2_measureChains_103 : decode cX2_measureChains 103 = .ok (.iload 4, 2) := by decide +kernel
theorem dX2_measureChains_105 : decode cX2_measureChains 105 = .ok (.iaload, 1) := by decide +kernel
theorem dX2_measureChains_106 : decode cX2_measureChains 106 = .ok (.invokestatic 103, 3) := by decide +kernel
theorem dX2_measureChains_109 : decode cX2_measureChains 109 = .ok (.istore_n 3, 1) := by decide +kernel
theorem dX2_measureChains_110 : decode cX2_measureChains 110 = .ok (.iinc 4 (-1), 3) := by decide +kernel
theorem dX2_measureChains_113 : decode cX2_measureChains 113 = .ok (.goto (-106), 3) := by decide +kernel
theorem dX2_measureChains_116 : decode cX2_measureChains 116 = .ok (.iload_n 3, 1) := by decide +kernel
theorem dX2_measureChains_117 : decode cX2_measureChains 117 = .ok (.ireturn, 1) := by decide +kernel
theorem dX2_matchBetweenAnchors_0 : decode cX2_matchBetweenAnchors 0 = .ok (.iload_n 1, 1) := by decide +kernel
theorem dX2_matchBetweenAnchors_1 : decode cX2_matchBetweenAnchors 1 = .ok (.istore 6, 2) := by decide +kernel
theorem dX2_matchBetweenAnchors_3 : decode cX2_matchBetweenAnchors 3 = .ok (.iload_n 3, 1) := by decide +kernel
theorem dX2_matchBetweenAnchors_4 : decode cX2_matchBetweenAnchors 4 = .ok (.istore 7, 2) := by decide +kernel
theorem dX2_matchBetweenAnchors_6 : decode cX2_matchBetweenAnchors 6 = .ok (.iload_n 1, 1) := by decide +kernel
theorem dX2_matchBetweenAnchors_7 : decode cX2_matchBetweenAnchors 7 = .ok (.istore 8, 2) := by decide +kernel
theorem dX2_matchBetweenAnchors_9 : decode cX2_matchBetweenAnchors 9 = .ok (.iload 8, 2) := by decide +kernel
theorem dX2_matchBetweenAnchors_11 : decode cX2_matchBetweenAnchors 11 = .ok (.iload_n 2, 1) := by decide +kernel
theorem dX2_matchBetweenAnchors_12 : decode cX2_matchBetweenAnchors 12 = .ok (.if_icmp .ge 54, 3) := by decide +kernel
theorem dX2_matchBetweenAnchors_15 : decode cX2_matchBetweenAnchors 15 = .ok (.aload_n 0, 1) := by decide +kernel
theorem dX2_matchBetweenAnchors_16 : decode cX2_matchBetweenAnchors 16 = .ok (.getfield 20, 3) := by decide +kernel
theorem dX2_matchBetweenAnchors_19 : decode cX2_matchBetweenAnchors 19 = .ok (.iconst 0, 1) := by decide +kernel
theorem dX2_matchBetweenAnchors_20 : decode cX2_matchBetweenAnchors 20 = .ok (.aaload, 1) := by decide +kernel
theorem dX2_matchBetweenAnchors_21 : decode cX2_matchBetweenAnchors 21 = .ok (.iload 8, 2) := by decide +kernel
theorem dX2_matchBetweenAnchors_23 : decode cX2_matchBetweenAnchors 23 = .ok (.iaload, 1) := by decide +kernel
theorem dX2_matchBetweenAnchors_24 : decode cX2_matchBetweenAnchors 24 = .ok (.istore 9, 2) := by decide +kernel
theorem dX2_matchBetweenAnchors_26 : decode cX2_matchBetweenAnchors 26 = .ok (.iload 9, 2) := by decide +kernel
theorem dX2_matchBetweenAnchors_28 : decode cX2_matchBetweenAnchors 28 = .ok (.iconst (-1), 1) := by decide +kernel
theorem dX2_matchBetweenAnchors_29 : decode cX2_matchBetweenAnchors 29 = .ok (.if_icmp .eq 31, 3) := by decide +kernel
theorem dX2_matchBetweenAnchors_32 : decode cX2_matchBetweenAnchors 32 = .ok (.aload_n 0, 1) := by decide +kernel
theorem dX2_matchBetweenAnchors_33 : decode cX2_matchBetweenAnchors 33 = .ok (.iload 6, 2) := by decide +kernel
theorem dX2_matchBetweenAnchors_35 : decode cX2_matchBetweenAnchors 35 = .ok (.iload 8, 2) := by decide +kernel
theorem dX2_matchBetweenAnchors_37 : decode cX2_matchBetweenAnchors 37 = .ok (.iload 7, 2) := by decide +kernel
theorem dX2_matchBetweenAnchors_39 : decode cX2_matchBetweenAnchors 39 = .ok (.iload 9, 2) := by decide +kernel
theorem dX2_matchBetweenAnchors_41 : decode cX2_matchBetweenAnchors 41 = .ok (.iload 5, 2) := by decide +kernel
theorem dX2_matchBetweenAnchors_43 : decode cX2_matchBetweenAnchors 43 = .ok (.iconst 1, 1) := by decide +kernel
theorem dX2_matchBetweenAnchors_44 : decode cX2_matchBetweenAnchors 44 = .ok (.iadd, 1) := by decide +kernel
theorem dX2_matchBetweenAnchors_45 : decode cX2_matchBetweenAnchors 45 = .ok (.invokevirtual 53, 3) := by decide +kernel
theorem dX2_matchBetweenAnchors_48 : decode cX2_matchBetweenAnchors 48 = .ok (.iload 8, 2) := by decide +kernel
theorem dX2_matchBetweenAnchors_50 : decode cX2_matchBetweenAnchors 50 = .ok (.iconst 1, 1) := by decide +kernel
theorem dX2_matchBetweenAnchors_51 : decode cX2_matchBetweenAnchors 51 = .ok (.iadd, 1) := by decide +kernel
theorem dX2_matchBetweenAnchors_52 : decode cX2_matchBetweenAnchors 52 = .ok (.istore 6, 2) := by decide +kernel
theorem dX2_matchBetweenAnchors_54 : decode cX2_matchBetweenAnchors 54 = .ok (.iload 9, 2) := by decide +kernel
theorem dX2_matchBetweenAnchors_56 : decode cX2_matchBetweenAnchors 56 = .ok (.iconst 1, 1) := by decide +kernel
theorem dX2_matchBetweenAnchors_57 : decode cX2_matchBetweenAnchors 57 = .ok (.iadd, 1) := by decide +kernel
theorem dX2_matchBetweenAnchors_58 : decode cX2_matchBetweenAnchors 58 = .ok (.istore 7, 2) := by decide +kernel
theorem dX2_matchBetweenAnchors_60 : decode cX2_matchBetweenAnchors 60 = .ok (.iinc 8 1, 3) := by decide +kernel
theorem dX2_matchBetweenAnchors_63 : decode cX2_matchBetweenAnchors 63 = .ok (.goto (-54), 3) := by decide +kernel
theorem dX2_matchBetweenAnchors_66 : decode cX2_matchBetweenAnchors 66 = .ok (.aload_n 0, 1) := by decide +kernel
theorem dX2_matchBetweenAnchors_67 : decode cX2_matchBetweenAnchors 67 = .ok (.iload 6, 2) := by decide +kernel
theorem dX2_matchBetweenAnchors_69 : decode cX2_matchBetweenAnchors 69 = .ok (.iload_n 2, 1) := by decide +kernel
theorem dX2_matchBetweenAnchors_70 : decode cX2_matchBetweenAnchors 70 = .ok (.iload 7, 2) := by decide +kernel
theorem dX2_matchBetweenAnchors_72 : decode cX2_matchBetweenAnchors 72 = .ok (.iload 4, 2) := by decide +kernel
theorem dX2_matchBetweenAnchors_74 : decode cX2_matchBetweenAnchors 74 = .ok (.iload 5, 2) := by decide +kernel
theorem dX2_matchBetweenAnchors_76 : decode cX2_matchBetweenAnchors 76 = .ok (.iconst 1, 1) := by decide +kernel
theorem dX2_matchBetweenAnchors_77 : decode cX2_matchBetweenAnchors 77 = .ok (.iadd, 1) := by decide +kernel
theorem dX2_matchBetweenAnchors_78 : decode cX2_matchBetweenAnchors 78 = .ok (.invokevirtual 53, 3) := by decide +kernel
theorem dX2_matchBetweenAnchors_81 : decode cX2_matchBetweenAnchors 81 = .ok (.return_, 1) := by decide +kernel
theorem dX2_keepMost_0 : decode cX2_keepMost 0 = .ok (.aload_n 0, 1) := by decide +kernel
theorem dX2_keepMost_1 : decode cX2_keepMost 1 = .ok (.getfield 26, 3) := by decide +kernel
theorem dX2_keepMost_4 : decode cX2_keepMost 4 = .ok (.aload_n 0, 1) := by decide +kernel
theorem dX2_keepMost_5 : decode cX2_keepMost 5 = .ok (.getfield 12, 3) := by decide +kernel
theorem dX2_keepMost_8 : decode cX2_keepMost 8 = .ok (.getfield 67, 3) := by decide +kernel
theorem dX2_keepMost_11 : decode cX2_keepMost 11 = .ok (.iconst 0, 1) := by decide +kernel
theorem dX2_keepMost_12 : decode cX2_keepMost 12 = .ok (.aaload, 1) := by decide +kernel
theorem dX2_keepMost_13 : decode cX2_keepMost 13 = .ok (.iload_n 1, 1) := by decide +kernel
theorem dX2_keepMost_14 : decode cX2_keepMost 14 = .ok (.iload_n 2, 1) := by decide +kernel
theorem dX2_keepMost_15 : decode cX2_keepMost 15 = .ok (.aload_n 0, 1) := by decide +kernel
theorem dX2_keepMost_16 : decode cX2_keepMost 16 = .ok (.getfield 12, 3) := by decide +kernel
theorem dX2_keepMost_19 : decode cX2_keepMost 19 = .ok (.getfield 67, 3) := by decide +kernel
theorem dX2_keepMost_22 : decode cX2_keepMost 22 = .ok (.iconst 1, 1) := by decide +kernel
theorem dX2_keepMost_23 : decode cX2_keepMost 23 = .ok (.aaload, 1) := by decide +kernel
theorem dX2_keepMost_24 : decode cX2_keepMost 24 = .ok (.iload_n 3, 1) := by decide +kernel
theorem dX2_keepMost_25 : decode cX2_keepMost 25 = .ok (.iload 4, 2) := by decide +kernel
theorem dX2_keepMost_27 : decode cX2_keepMost 27 = .ok (.invokevirtual 70, 3) := by decide +kernel
theorem dX2_keepMost_30 : decode cX2_keepMost 30 = .ok (.pop, 1) := by decide +kernel
theorem dX2_keepMost_31 : decode cX2_keepMost 31 = .ok (.iload_n 1, 1) := by decide +kernel
theorem dX2_keepMost_32 : decode cX2_keepMost 32 = .ok (.istore 5, 2) := by decide +kernel
theorem dX2_keepMost_34 : decode cX2_keepMost 34 = .ok (.iload_n 3, 1) := by decide +kernel
theorem dX2_keepMost_35 : decode cX2_keepMost 35 = .ok (.istore 6, 2) := by decide +kernel
theorem dX2_keepMost_37 : decode cX2_keepMost 37 = .ok (.iload 5, 2) := by decide +kernel
theorem dX2_keepMost_39 : decode cX2_keepMost 39 = .ok (.iload_n 2, 1) := by decide +kernel
theorem dX2_keepMost_40 : decode cX2_keepMost 40 = .ok (.if_icmp .ge 83, 3) := by decide +kernel
theorem dX2_keepMost_43 : decode cX2_keepMost 43 = .ok (.iload 6, 2) := by decide +kernel
theorem dX2_keepMost_45 : decode cX2_keepMost 45 = .ok (.iload 4, 2) := by decide +kernel
theorem dX2_keepMost_47 : decode cX2_keepMost 47 = .ok (.if_icmp .ge 76, 3) := by decide +kernel
theorem dX2_keepMost_50 : decode cX2_keepMost 50 = .ok (.aload_n 0, 1) := by decide +kernel
theorem dX2_keepMost_51 : decode cX2_keepMost 51 = .ok (.iload 5, 2) := by decide +kernel
theorem dX2_keepMost_53 : decode cX2_keepMost 53 = .ok (.iload 6, 2) := by decide +kernel
theorem dX2_keepMost_55 : decode cX2_keepMost 55 = .ok (.invokevirtual 74, 3) := by decide +kernel
theorem dX2_keepMost_58 : decode cX2_keepMost 58 = .ok (.ifCond .eq 20, 3) := by decide +kernel
theorem dX2_keepMost_61 : decode cX2_keepMost 61 = .ok (.aload_n 0, 1) := by decide +kernel
theorem dX2_keepMost_62 : decode cX2_keepMost 62 = .ok (.iload 5, 2) := by decide +kernel
theorem dX2_keepMost_64 : decode cX2_keepMost 64 = .ok (.iload 6, 2) := by decide +kernel
theorem dX2_keepMost_66 : decode cX2_keepMost 66 = .ok (.invokevirtual 78, 3) := by decide +kernel
theorem dX2_keepMost_69 : decode cX2_keepMost 69 = .ok (.iinc 5 1, 3) := by decide +kernel
theorem dX2_keepMost_72 : decode cX2_keepMost 72 = .ok (.iinc 6 1, 3) := by decide +kernel
theorem dX2_keepMost_75 : decode cX2_keepMost 75 = .ok (.goto (-38), 3) := by decide +kernel
theorem dX2_keepMost_78 : decode cX2_keepMost 78 = .ok (.aload_n 0, 1) := by decide +kernel
theorem dX2_keepMost_79 : decode cX2_keepMost 79 = .ok (.getfield 26, 3) := by decide +kernel
theorem dX2_keepMost_82 : decode cX2_keepMost 82 = .ok (.getfield 108, 3) := by decide +kernel
theorem dX2_keepMost_85 : decode cX2_keepMost 85 = .ok (.iload 5, 2) := by decide +kernel
theorem dX2_keepMost_87 : decode cX2_keepMost 87 = .ok (.iconst 1, 1) := by decide +kernel
theorem dX2_keepMost_88 : decode cX2_keepMost 88 = .ok (.iadd, 1) := by decide +kernel
theorem dX2_keepMost_89 : decode cX2_keepMost 89 = .ok (.aaload, 1) := by decide +kernel
theorem dX2_keepMost_90 : decode cX2_keepMost 90 = .ok (.iload 6, 2) := by decide +kernel
theorem dX2_keepMost_92 : decode cX2_keepMost 92 = .ok (.iaload, 1) := by decide +kernel
theorem dX2_keepMost_93 : decode cX2_keepMost 93 = .ok (.aload_n 0, 1) := by decide +kernel
theorem dX2_keepMost_94 : decode cX2_keepMost 94 = .ok (.getfield 26, 3) := by decide +kernel
theorem dX2_keepMost_97 : decode cX2_keepMost 97 = .ok (.getfield 108, 3) := by decide +kernel
theorem dX2_keepMost_100 : decode cX2_keepMost 100 = .ok (.iload 5, 2) := by decide +kernel
theorem dX2_keepMost_102 : decode cX2_keepMost 102 = .ok (.aaload, 1) := by decide +kernel
theorem dX2_keepMost_103 : decode cX2_keepMost 103 = .ok (.iload 6, 2) := by decide +kernel
theorem dX2_keepMost_105 : decode cX2_keepMost 105 = .ok (.iconst 1, 1) := by decide +kernel
theorem dX2_keepMost_106 : decode cX2_keepMost 106 = .ok (.iadd, 1) := by decide +kernel
theorem dX2_keepMost_107 : decode cX2_keepMost 107 = .ok (.iaload, 1) := by decide +kernel
theorem dX2_keepMost_108 : decode cX2_keepMost 108 = .ok (.if_icmp .lt 9, 3) := by decide +kernel
theorem dX2_keepMost_111 : decode cX2_keepMost 111 = .ok (.iinc 5 1, 3) := by decide +kernel
theorem dX2_keepMost_114 : decode cX2_keepMost 114 = .ok (.goto (-77), 3) := by decide +kernel
theorem dX2_keepMost_117 : decode cX2_keepMost 117 = .ok (.iinc 6 1, 3) := by decide +kernel
theorem dX2_keepMost_120 : decode cX2_keepMost 120 = .ok (.goto (-83), 3) := by decide +kernel
theorem dX2_keepMost_123 : decode cX2_keepMost 123 = .ok (.return_, 1) := by decide +kernel
theorem dX2_slideGaps_0 : decode cX2_slideGaps 0 = .ok (.aload_n 0, 1) := by decide +kernel
theorem dX2_slideGaps_1 : decode cX2_slideGaps 1 = .ok (.getfield 37, 3) := by decide +kernel
theorem dX2_slideGaps_4 : decode cX2_slideGaps 4 = .ok (.iconst 0, 1) := by decide +kernel
theorem dX2_slideGaps_5 : decode cX2_slideGaps 5 = .ok (.aload_n 0, 1) := by decide +kernel
theorem dX2_slideGaps_6 : decode cX2_slideGaps 6 = .ok (.getfield 12, 3) := by decide +kernel
theorem dX2_slideGaps_9 : decode cX2_slideGaps 9 = .ok (.getfield 50, 3) := by decide +kernel
theorem dX2_slideGaps_12 : decode cX2_slideGaps 12 = .ok (.iconst 0, 1) := by decide +kernel
theorem dX2_slideGaps_13 : decode cX2_slideGaps 13 = .ok (.iaload, 1) := by decide +kernel
theorem dX2_slideGaps_14 : decode cX2_slideGaps 14 = .ok (.iconst 1, 1) := by decide +kernel
theorem dX2_slideGaps_15 : decode cX2_slideGaps 15 = .ok (.iadd, 1) := by decide +kernel
theorem dX2_slideGaps_16 : decode cX2_slideGaps 16 = .ok (.iastore, 1) := by decide +kernel
theorem dX2_slideGaps_17 : decode cX2_slideGaps 17 = .ok (.aload_n 0, 1) := by decide +kernel
theorem dX2_slideGaps_18 : decode cX2_slideGaps 18 = .ok (.getfield 37, 3) := by decide +kernel
theorem dX2_slideGaps_21 : decode cX2_slideGaps 21 = .ok (.iconst 1, 1) := by decide +kernel
theorem dX2_slideGaps_22 : decode cX2_slideGaps 22 = .ok (.aload_n 0, 1) := by decide +kernel
theorem dX2_slideGaps_23 : decode cX2_slideGaps 23 = .ok (.getfield 12, 3) := by decide +kernel
theorem dX2_slideGaps_26 : decode cX2_slideGaps 26 = .ok (.getfield 50, 3) := by decide +kernel
theorem dX2_slideGaps_29 : decode cX2_slideGaps 29 = .ok (.iconst 1, 1) := by decide +kernel
theorem dX2_slideGaps_30 : decode cX2_slideGaps 30 = .ok (.iaload, 1) := by decide +kernel
theorem dX2_slideGaps_31 : decode cX2_slideGaps 31 = .ok (.iconst 1, 1) := by decide +kernel
theorem dX2_slideGaps_32 : decode cX2_slideGaps 32 = .ok (.iadd, 1) := by decide +kernel
theorem dX2_slideGaps_33 : decode cX2_slideGaps 33 = .ok (.iastore, 1) := by decide +kernel
theorem dX2_slideGaps_34 : decode cX2_slideGaps 34 = .ok (.iconst 0, 1) := by decide +kernel
theorem dX2_slideGaps_35 : decode cX2_slideGaps 35 = .ok (.istore_n 1, 1) := by decide +kernel
theorem dX2_slideGaps_36 : decode cX2_slideGaps 36 = .ok (.iload_n 1, 1) := by decide +kernel
theorem dX2_slideGaps_37 : decode cX2_slideGaps 37 = .ok (.bipush 8, 2) := by decide +kernel
theorem dX2_slideGaps_39 : decode cX2_slideGaps 39 = .ok (.if_icmp .gt 78, 3) := by decide +kernel
theorem dX2_slideGaps_42 : decode cX2_slideGaps 42 = .ok (.aload_n 0, 1) := by decide +kernel
theorem dX2_slideGaps_43 : decode cX2_slideGaps 43 = .ok (.getfield 37, 3) := by decide +kernel
theorem dX2_slideGaps_46 : decode cX2_slideGaps 46 = .ok (.iconst 0, 1) := by decide +kernel
theorem dX2_slideGaps_47 : decode cX2_slideGaps 47 = .ok (.iaload, 1) := by decide +kernel
theorem dX2_slideGaps_48 : decode cX2_slideGaps 48 = .ok (.ifCond .le 69, 3) := by decide +kernel
theorem dX2_slideGaps_51 : decode cX2_slideGaps 51 = .ok (.aload_n 0, 1) := by decide +kernel
theorem dX2_slideGaps_52 : decode cX2_slideGaps 52 = .ok (.getfield 37, 3) := by decide +kernel
theorem dX2_slideGaps_55 : decode cX2_slideGaps 55 = .ok (.iconst 1, 1) := by decide +kernel
theorem dX2_slideGaps_56 : decode cX2_slideGaps 56 = .ok (.iaload, 1) := by decide +kernel
theorem dX2_slideGaps_57 : decode cX2_slideGaps 57 = .ok (.ifCond .le 60, 3) := by decide +kernel
theorem dX2_slideGaps_60 : decode cX2_slideGaps 60 = .ok (.iconst 0, 1) := by decide +kernel
theorem dX2_slideGaps_61 : decode cX2_slideGaps 61 = .ok (.istore_n 2, 1) := by decide +kernel
theorem dX2_slideGaps_62 : decode cX2_slideGaps 62 = .ok (.iload_n 2, 1) := by decide +kernel
theorem dX2_slideGaps_63 : decode cX2_slideGaps 63 = .ok (.iconst 2, 1) := by decide +kernel
theorem dX2_slideGaps_64 : decode cX2_slideGaps 64 = .ok (.if_icmp .ge 35, 3) := by decide +kernel
theorem dX2_slideGaps_67 : decode cX2_slideGaps 67 = .ok (.aload_n 0, 1) := by decide +kernel
theorem dX2_slideGaps_68 : decode cX2_slideGaps 68 = .ok (.getfield 40, 3) := by decide +kernel
theorem dX2_slideGaps_71 : decode cX2_slideGaps 71 = .ok (.iload_n 2, 1) := by decide +kernel
theorem dX2_slideGaps_72 : decode cX2_slideGaps 72 = .ok (.aload_n 0, 1) := by decide +kernel
theorem dX2_slideGaps_73 : decode cX2_slideGaps 73 = .ok (.getfield 37, 3) := by decide +kernel
theorem dX2_slideGaps_76 : decode cX2_slideGaps 76 = .ok (.iload_n 2, 1) := by decide +kernel
theorem dX2_slideGaps_77 : decode cX2_slideGaps 77 = .ok (.iaload, 1) := by decide +kernel
theorem dX2_slideGaps_78 : decode cX2_slideGaps 78 = .ok (.iconst 1, 1) := by decide +kernel
theorem dX2_slideGaps_79 : decode cX2_slideGaps 79 = .ok (.isub, 1) := by decide +kernel
theorem dX2_slideGaps_80 : decode cX2_slideGaps 80 = .ok (.iastore, 1) := by decide +kernel
theorem dX2_slideGaps_81 : decode cX2_slideGaps 81 = .ok (.aload_n 0, 1) := by decide +kernel
theorem dX2_slideGaps_82 : decode cX2_slideGaps 82 = .ok (.getfield 37, 3) := by decide +kernel
theorem dX2_slideGaps_85 : decode cX2_slideGaps 85 = .ok (.iload_n 2, 1) := by decide +kernel
theorem dX2_slideGaps_86 : decode cX2_slideGaps 86 = .ok (.aload_n 0, 1) := by decide +kernel
theorem dX2_slideGaps_87 : decode cX2_slideGaps 87 = .ok (.getfield 40, 3) := by decide +kernel
theorem dX2_slideGaps_90 : decode cX2_slideGaps 90 = .ok (.iload_n 2, 1) := by decide +kernel
theorem dX2_slideGaps_91 : decode cX2_slideGaps 91 = .ok (.iaload, 1) := by decide +kernel
theorem dX2_slideGaps_92 : decode cX2_slideGaps 92 = .ok (.iastore, 1) := by decide +kernel
theorem dX2_slideGaps_93 : decode cX2_slideGaps 93 = .ok (.iinc 2 1, 3) := by decide +kernel
theorem dX2_slideGaps_96 : decode cX2_slideGaps 96 = .ok (.goto (-34), 3) := by decide +kernel
theorem dX2_slideGaps_99 : decode cX2_slideGaps 99 = .ok (.aload_n 0, 1) := by decide +kernel
theorem dX2_slideGaps_100 : decode cX2_slideGaps 100 = .ok (.invokevirtual 111, 3) := by decide +kernel
theorem dX2_slideGaps_103 : decode cX2_slideGaps 103 = .ok (.aload_n 0, 1) := by decide +kernel
theorem dX2_slideGaps_104 : decode cX2_slideGaps 104 = .ok (.invokevirtual 114, 3) := by decide +kernel
theorem dX2_slideGaps_107 : decode cX2_slideGaps 107 = .ok (.aload_n 0, 1) := by decide +kernel
theorem dX2_slideGaps_108 : decode cX2_slideGaps 108 = .ok (.invokevirtual 111, 3) := by decide +kernel
theorem dX2_slideGaps_111 : decode cX2_slideGaps 111 = .ok (.iinc 1 1, 3) := by decide +kernel
theorem dX2_slideGaps_114 : decode cX2_slideGaps 114 = .ok (.goto (-78), 3) := by decide +kernel
theorem dX2_slideGaps_117 : decode cX2_slideGaps 117 = .ok (.return_, 1) := by decide +kernel
theorem dX2_widenGap_0 : decode cX2_widenGap 0 = .ok (.iconst 0, 1) := by decide +kernel
theorem dX2_widenGap_1 : decode cX2_widenGap 1 = .ok (.istore_n 1, 1) := by decide +kernel
theorem dX2_widenGap_2 : decode cX2_widenGap 2 = .ok (.iload_n 1, 1) := by decide +kernel
theorem dX2_widenGap_3 : decode cX2_widenGap 3 = .ok (.iconst 2, 1) := by decide +kernel
theorem dX2_widenGap_4 : decode cX2_widenGap 4 = .ok (.if_icmp .ge 50, 3) := by decide +kernel
theorem dX2_widenGap_7 : decode cX2_widenGap 7 = .ok (.aload_n 0, 1) := by decide +kernel
theorem dX2_widenGap_8 : decode cX2_widenGap 8 = .ok (.getfield 37, 3) := by decide +kernel
theorem dX2_widenGap_11 : decode cX2_widenGap 11 = .ok (.iload_n 1, 1) := by decide +kernel
theorem dX2_widenGap_12 : decode cX2_widenGap 12 = .ok (.iaload, 1) := by decide +kernel
theorem dX2_widenGap_13 : decode cX2_widenGap 13 = .ok (.ifCond .le 35, 3) := by decide +kernel
theorem dX2_widenGap_16 : decode cX2_widenGap 16 = .ok (.aload_n 0, 1) := by decide +kernel
theorem dX2_widenGap_17 : decode cX2_widenGap 17 = .ok (.getfield 20, 3) := by decide +kernel
theorem dX2_widenGap_20 : decode cX2_widenGap 20 = .ok (.iload_n 1, 1) := by decide +kernel
theorem dX2_widenGap_21 : decode cX2_widenGap 21 = .ok (.aaload, 1) := by decide +kernel
theorem dX2_widenGap_22 : decode cX2_widenGap 22 = .ok (.aload_n 0, 1) := by decide +kernel
theorem dX2_widenGap_23 : decode cX2_widenGap 23 = .ok (.getfield 37, 3) := by decide +kernel
theorem dX2_widenGap_26 : decode cX2_widenGap 26 = .ok (.iload_n 1, 1) := by decide +kernel
theorem dX2_widenGap_27 : decode cX2_widenGap 27 = .ok (.iaload, 1) := by decide +kernel
theorem dX2_widenGap_28 : decode cX2_widenGap 28 = .ok (.iconst 1, 1) := by decide +kernel
theorem dX2_widenGap_29 : decode cX2_widenGap 29 = .ok (.isub, 1) := by decide +kernel
theorem dX2_widenGap_30 : decode cX2_widenGap 30 = .ok (.iaload, 1) := by decide +kernel
theorem dX2_widenGap_31 : decode cX2_widenGap 31 = .ok (.iconst (-1), 1) := by decide +kernel
theorem dX2_widenGap_32 : decode cX2_widenGap 32 = .ok (.if_icmp .ne 16, 3) := by decide +kernel
theorem dX2_widenGap_35 : decode cX2_widenGap 35 = .ok (.aload_n 0, 1) := by decide +kernel
theorem dX2_widenGap_36 : decode cX2_widenGap 36 = .ok (.getfield 37, 3) := by decide +kernel
theorem dX2_widenGap_39 : decode cX2_widenGap 39 = .ok (.iload_n 1, 1) := by decide +kernel
theorem dX2_widenGap_40 : decode cX2_widenGap 40 = .ok (.dup2, 1) := by decide +kernel
theorem dX2_widenGap_41 : decode cX2_widenGap 41 = .ok (.iaload, 1) := by decide +kernel
theorem dX2_widenGap_42 : decode cX2_widenGap 42 = .ok (.iconst 1, 1) := by decide +kernel
theorem dX2_widenGap_43 : decode cX2_widenGap 43 = .ok (.isub, 1) := by decide +kernel
theorem dX2_widenGap_44 : decode cX2_widenGap 44 = .ok (.iastore, 1) := by decide +kernel
theorem dX2_widenGap_45 : decode cX2_widenGap 45 = .ok (.goto (-38), 3) := by decide +kernel
theorem dX2_widenGap_48 : decode cX2_widenGap 48 = .ok (.iinc 1 1, 3) := by decide +kernel
theorem dX2_widenGap_51 : decode cX2_widenGap 51 = .ok (.goto (-49), 3) := by decide +kernel
theorem dX2_widenGap_54 : decode cX2_widenGap 54 = .ok (.return_, 1) := by decide +kernel
theorem dX2_slideGap_0 : decode cX2_slideGap 0 = .ok (.aload_n 0, 1) := by decide +kernel
theorem dX2_slideGap_1 : decode cX2_slideGap 1 = .ok (.getfield 37, 3) := by decide +kernel
theorem dX2_slideGap_4 : decode cX2_slideGap 4 = .ok (.iconst 0, 1) := by decide +kernel
theorem dX2_slideGap_5 : decode cX2_slideGap 5 = .ok (.iaload, 1) := by decide +kernel
theorem dX2_slideGap_6 : decode cX2_slideGap 6 = .ok (.aload_n 0, 1) := by decide +kernel
theorem dX2_slideGap_7 : decode cX2_slideGap 7 = .ok (.getfield 40, 3) := by decide +kernel
theorem dX2_slideGap_10 : decode cX2_slideGap 10 = .ok (.iconst 0, 1) := by decide +kernel
theorem dX2_slideGap_11 : decode cX2_slideGap 11 = .ok (.iaload, 1) := by decide +kernel
theorem dX2_slideGap_12 : decode cX2_slideGap 12 = .ok (.if_icmp .ge 7, 3) := by decide +kernel
theorem dX2_slideGap_15 : decode cX2_slideGap 15 = .ok (.iconst 1, 1) := by decide +kernel
theorem dX2_slideGap_16 : decode cX2_slideGap 16 = .ok (.goto 4, 3) := by decide +kernel
theorem dX2_slideGap_19 : decode cX2_slideGap 19 = .ok (.iconst 0, 1) := by decide +kernel
theorem dX2_slideGap_20 : decode cX2_slideGap 20 = .ok (.istore_n 1, 1) := by decide +kernel
theorem dX2_slideGap_21 : decode cX2_slideGap 21 = .ok (.aload_n 0, 1) := by decide +kernel
theorem dX2_slideGap_22 : decode cX2_slideGap 22 = .ok (.getfield 37, 3) := by decide +kernel
theorem dX2_slideGap_25 : decode cX2_slideGap 25 = .ok (.iconst 1, 1) := by decide +kernel
theorem dX2_slideGap_26 : decode cX2_slideGap 26 = .ok (.iaload, 1) := by decide +kernel
theorem dX2_slideGap_27 : decode cX2_slideGap 27 = .ok (.aload_n 0, 1) := by decide +kernel
theorem dX2_slideGap_28 : decode cX2_slideGap 28 = .ok (.getfield 40, 3) := by decide +kernel
theorem dX2_slideGap_31 : decode cX2_slideGap 31 = .ok (.iconst 1, 1) := by decide +kernel
theorem dX2_slideGap_32 : decode cX2_slideGap 32 = .ok (.iaload, 1) := by decide +kernel
theorem dX2_slideGap_33 : decode cX2_slideGap 33 = .ok (.if_icmp .ge 7, 3) := by decide +kernel
theorem dX2_slideGap_36 : decode cX2_slideGap 36 = .ok (.iconst 1, 1) := by decide +kernel
theorem dX2_slideGap_37 : decode cX2_slideGap 37 = .ok (.goto 4, 3) := by decide +kernel
theorem dX2_slideGap_40 : decode cX2_slideGap 40 = .ok (.iconst 0, 1) := by decide +kernel
theorem dX2_slideGap_41 : decode cX2_slideGap 41 = .ok (.istore_n 2, 1) := by decide +kernel
theorem dX2_slideGap_42 : decode cX2_slideGap 42 = .ok (.iload_n 1, 1) := by decide +kernel
theorem dX2_slideGap_43 : decode cX2_slideGap 43 = .ok (.iload_n 2, 1) := by decide +kernel
theorem dX2_slideGap_44 : decode cX2_slideGap 44 = .ok (.if_icmp .ne 4, 3) := by decide +kernel
theorem dX2_slideGap_47 : decode cX2_slideGap 47 = .ok (.return_, 1) := by decide +kernel
theorem dX2_slideGap_48 : decode cX2_slideGap 48 = .ok (.iload_n 1, 1) := by decide +kernel
theorem dX2_slideGap_49 : decode cX2_slideGap 49 = .ok (.ifCond .eq 7, 3) := by decide +kernel
theorem dX2_slideGap_52 : decode cX2_slideGap 52 = .ok (.iconst 0, 1) := by decide +kernel
theorem dX2_slideGap_53 : decode cX2_slideGap 53 = .ok (.goto 4, 3) := by decide +kernel
theorem dX2_slideGap_56 : decode cX2_slideGap 56 = .ok (.iconst 1, 1) := by decide +kernel
theorem dX2_slideGap_57 : decode cX2_slideGap 57 = .ok (.istore_n 3, 1) := by decide +kernel
theorem dX2_slideGap_58 : decode cX2_slideGap 58 = .ok (.iconst 0, 1) := by decide +kernel
theorem dX2_slideGap_59 : decode cX2_slideGap 59 = .ok (.istore 4, 2) := by decide +kernel
theorem dX2_slideGap_61 : decode cX2_slideGap 61 = .ok (.iload 4, 2) := by decide +kernel
theorem dX2_slideGap_63 : decode cX2_slideGap 63 = .ok (.bipush 8, 2) := by decide +kernel
theorem dX2_slideGap_65 : decode cX2_slideGap 65 = .ok (.if_icmp .ge 22, 3) := by decide +kernel
theorem dX2_slideGap_68 : decode cX2_slideGap 68 = .ok (.aload_n 0, 1) := by decide +kernel
theorem dX2_slideGap_69 : decode cX2_slideGap 69 = .ok (.iload_n 3, 1) := by decide +kernel
theorem dX2_slideGap_70 : decode cX2_slideGap 70 = .ok (.invokevirtual 117, 3) := by decide +kernel
theorem dX2_slideGap_73 : decode cX2_slideGap 73 = .ok (.ifCond .eq 14, 3) := by decide +kernel
theorem dX2_slideGap_76 : decode cX2_slideGap 76 = .ok (.aload_n 0, 1) := by decide +kernel
theorem dX2_slideGap_77 : decode cX2_slideGap 77 = .ok (.iload_n 3, 1) := by decide +kernel
theorem dX2_slideGap_78 : decode cX2_slideGap 78 = .ok (.invokevirtual 121, 3) := by decide +kernel
theorem dX2_slideGap_81 : decode cX2_slideGap 81 = .ok (.iinc 4 1, 3) := by decide +kernel
theorem dX2_slideGap_84 : decode cX2_slideGap 84 = .ok (.goto (-23), 3) := by decide +kernel
theorem dX2_slideGap_87 : decode cX2_slideGap 87 = .ok (.return_, 1) := by decide +kernel
theorem dX2_maySlide_0 : decode cX2_maySlide 0 = .ok (.aload_n 0, 1) := by decide +kernel
theorem dX2_maySlide_1 : decode cX2_maySlide 1 = .ok (.getfield 37, 3) := by decide +kernel
theorem dX2_maySlide_4 : decode cX2_maySlide 4 = .ok (.iconst 0, 1) := by decide +kernel
theorem dX2_maySlide_5 : decode cX2_maySlide 5 = .ok (.iaload, 1) := by decide +kernel
theorem dX2_maySlide_6 : decode cX2_maySlide 6 = .ok (.iconst 1, 1) := by decide +kernel
theorem dX2_maySlide_7 : decode cX2_maySlide 7 = .ok (.if_icmp .lt 13, 3) := by decide +kernel
theorem dX2_maySlide_10 : decode cX2_maySlide 10 = .ok (.aload_n 0, 1) := by decide +kernel
theorem dX2_maySlide_11 : decode cX2_maySlide 11 = .ok (.getfield 37, 3) := by decide +kernel
theorem dX2_maySlide_14 : decode cX2_maySlide 14 = .ok (.iconst 1, 1) := by decide +kernel
theorem dX2_maySlide_15 : decode cX2_maySlide 15 = .ok (.iaload, 1) := by decide +kernel
theorem dX2_maySlide_16 : decode cX2_maySlide 16 = .ok (.iconst 1, 1) := by decide +kernel
theorem dX2_maySlide_17 : decode cX2_maySlide 17 = .ok (.if_icmp .ge 5, 3) := by decide +kernel
theorem dX2_maySlide_20 : decode cX2_maySlide 20 = .ok (.iconst 0, 1) := by decide +kernel
theorem dX2_maySlide_21 : decode cX2_maySlide 21 = .ok (.ireturn, 1) := by decide +kernel
theorem dX2_maySlide_22 : decode cX2_maySlide 22 = .ok (.aload_n 0, 1) := by decide +kernel
theorem dX2_maySlide_23 : decode cX2_maySlide 23 = .ok (.getfield 20, 3) := by decide +kernel
theorem dX2_maySlide_26 : decode cX2_maySlide 26 = .ok (.iconst 0, 1) := by decide +kernel
theorem dX2_maySlide_27 : decode cX2_maySlide 27 = .ok (.aaload, 1) := by decide +kernel
theorem dX2_maySlide_28 : decode cX2_maySlide 28 = .ok (.aload_n 0, 1) := by decide +kernel
theorem dX2_maySlide_29 : decode cX2_maySlide 29 = .ok (.getfield 37, 3) := by decide +kernel
theorem dX2_maySlide_32 : decode cX2_maySlide 32 = .ok (.iconst 0, 1) := by decide +kernel
theorem dX2_maySlide_33 : decode cX2_maySlide 33 = .ok (.iaload, 1) := by decide +kernel
theorem dX2_maySlide_34 : decode cX2_maySlide 34 = .ok (.iconst 1, 1) := by decide +kernel
theorem dX2_maySlide_35 : decode cX2_maySlide 35 = .ok (.isub, 1) := by decide +kernel
theorem dX2_maySlide_36 : decode cX2_maySlide 36 = .ok (.iaload, 1) := by decide +kernel
theorem dX2_maySlide_37 : decode cX2_maySlide 37 = .ok (.iconst (-1), 1) := by decide +kernel
theorem dX2_maySlide_38 : decode cX2_maySlide 38 = .ok (.if_icmp .eq 22, 3) := by decide +kernel
theorem dX2_maySlide_41 : decode cX2_maySlide 41 = .ok (.aload_n 0, 1) := by decide +kernel
theorem dX2_maySlide_42 : decode cX2_maySlide 42 = .ok (.getfield 20, 3) := by decide +kernel
theorem dX2_maySlide_45 : decode cX2_maySlide 45 = .ok (.iconst 1, 1) := by decide +kernel
theorem dX2_maySlide_46 : decode cX2_maySlide 46 = .ok (.aaload, 1) := by decide +kernel
theorem dX2_maySlide_47 : decode cX2_maySlide 47 = .ok (.aload_n 0, 1) := by decide +kernel
theorem dX2_maySlide_48 : decode cX2_maySlide 48 = .ok (.getfield 37, 3) := by decide +kernel
theorem dX2_maySlide_51 : decode cX2_maySlide 51 = .ok (.iconst 1, 1) := by decide +kernel
theorem dX2_maySlide_52 : decode cX2_maySlide 52 = .ok (.iaload, 1) := by decide +kernel
theorem dX2_maySlide_53 : decode cX2_maySlide 53 = .ok (.iconst 1, 1) := by decide +kernel
theorem dX2_maySlide_54 : decode cX2_maySlide 54 = .ok (.isub, 1) := by decide +kernel
theorem dX2_maySlide_55 : decode cX2_maySlide 55 = .ok (.iaload, 1) := by decide +kernel
theorem dX2_maySlide_56 : decode cX2_maySlide 56 = .ok (.iconst (-1), 1) := by decide +kernel
theorem dX2_maySlide_57 : decode cX2_maySlide 57 = .ok (.if_icmp .ne 5, 3) := by decide +kernel
theorem dX2_maySlide_60 : decode cX2_maySlide 60 = .ok (.iconst 0, 1) := by decide +kernel
theorem dX2_maySlide_61 : decode cX2_maySlide 61 = .ok (.ireturn, 1) := by decide +kernel
theorem dX2_maySlide_62 : decode cX2_maySlide 62 = .ok (.aload_n 0, 1) := by decide +kernel
theorem dX2_maySlide_63 : decode cX2_maySlide 63 = .ok (.getfield 12, 3) := by decide +kernel
theorem dX2_maySlide_66 : decode cX2_maySlide 66 = .ok (.getfield 67, 3) := by decide +kernel
theorem dX2_maySlide_69 : decode cX2_maySlide 69 = .ok (.iload_n 1, 1) := by decide +kernel
theorem dX2_maySlide_70 : decode cX2_maySlide 70 = .ok (.aaload, 1) := by decide +kernel
theorem dX2_maySlide_71 : decode cX2_maySlide 71 = .ok (.astore_n 2, 1) := by decide +kernel
theorem dX2_maySlide_72 : decode cX2_maySlide 72 = .ok (.aload_n 2, 1) := by decide +kernel
theorem dX2_maySlide_73 : decode cX2_maySlide 73 = .ok (.aload_n 0, 1) := by decide +kernel
theorem dX2_maySlide_74 : decode cX2_maySlide 74 = .ok (.getfield 37, 3) := by decide +kernel
theorem dX2_maySlide_77 : decode cX2_maySlide 77 = .ok (.iload_n 1, 1) := by decide +kernel
theorem dX2_maySlide_78 : decode cX2_maySlide 78 = .ok (.iaload, 1) := by decide +kernel
theorem dX2_maySlide_79 : decode cX2_maySlide 79 = .ok (.iconst 1, 1) := by decide +kernel
theorem dX2_maySlide_80 : decode cX2_maySlide 80 = .ok (.isub, 1) := by decide +kernel
theorem dX2_maySlide_81 : decode cX2_maySlide 81 = .ok (.iaload, 1) := by decide +kernel
theorem dX2_maySlide_82 : decode cX2_maySlide 82 = .ok (.aload_n 2, 1) := by decide +kernel
theorem dX2_maySlide_83 : decode cX2_maySlide 83 = .ok (.aload_n 0, 1) := by decide +kernel
theorem dX2_maySlide_84 : decode cX2_maySlide 84 = .ok (.getfield 40, 3) := by decide +kernel
theorem dX2_maySlide_87 : decode cX2_maySlide 87 = .ok (.iload_n 1, 1) := by decide +kernel
theorem dX2_maySlide_88 : decode cX2_maySlide 88 = .ok (.iaload, 1) := by decide +kernel
theorem dX2_maySlide_89 : decode cX2_maySlide 89 = .ok (.iconst 1, 1) := by decide +kernel
theorem dX2_maySlide_90 : decode cX2_maySlide 90 = .ok (.isub, 1) := by decide +kernel
theorem dX2_maySlide_91 : decode cX2_maySlide 91 = .ok (.iaload, 1) := by decide +kernel
theorem dX2_maySlide_92 : decode cX2_maySlide 92 = .ok (.if_icmp .ne 7, 3) := by decide +kernel
theorem dX2_maySlide_95 : decode cX2_maySlide 95 = .ok (.iconst 1, 1) := by decide +kernel
theorem dX2_maySlide_96 : decode cX2_maySlide 96 = .ok (.goto 4, 3) := by decide +kernel
theorem dX2_maySlide_99 : decode cX2_maySlide 99 = .ok (.iconst 0, 1) := by decide +kernel
theorem dX2_maySlide_100 : decode cX2_maySlide 100 = .ok (.ireturn, 1) := by decide +kernel
theorem dX2_slideOnce_0 : decode cX2_slideOnce 0 = .ok (.iconst 0, 1) := by decide +kernel
theorem dX2_slideOnce_1 : decode cX2_slideOnce 1 = .ok (.istore_n 2, 1) := by decide +kernel
theorem dX2_slideOnce_2 : decode cX2_slideOnce 2 = .ok (.iload_n 2, 1) := by decide +kernel
theorem dX2_slideOnce_3 : decode cX2_slideOnce 3 = .ok (.iconst 2, 1) := by decide +kernel
theorem dX2_slideOnce_4 : decode cX2_slideOnce 4 = .ok (.if_icmp .ge 29, 3) := by decide +kernel
theorem dX2_slideOnce_7 : decode cX2_slideOnce 7 = .ok (.aload_n 0, 1) := by decide +kernel
theorem dX2_slideOnce_8 : decode cX2_slideOnce 8 = .ok (.getfield 37, 3) := by decide +kernel
theorem dX2_slideOnce_11 : decode cX2_slideOnce 11 = .ok (.iload_n 2, 1) := by decide +kernel
theorem dX2_slideOnce_12 : decode cX2_slideOnce 12 = .ok (.dup2, 1) := by decide +kernel
theorem dX2_slideOnce_13 : decode cX2_slideOnce 13 = .ok (.iaload, 1) := by decide +kernel
theorem dX2_slideOnce_14 : decode cX2_slideOnce 14 = .ok (.iconst 1, 1) := by decide +kernel
theorem dX2_slideOnce_15 : decode cX2_slideOnce 15 = .ok (.isub, 1) := by decide +kernel
theorem dX2_slideOnce_16 : decode cX2_slideOnce 16 = .ok (.iastore, 1) := by decide +kernel
theorem dX2_slideOnce_17 : decode cX2_slideOnce 17 = .ok (.aload_n 0, 1) := by decide +kernel
theorem dX2_slideOnce_18 : decode cX2_slideOnce 18 = .ok (.getfield 40, 3) := by decide +kernel
theorem dX2_slideOnce_21 : decode cX2_slideOnce 21 = .ok (.iload_n 2, 1) := by decide +kernel
theorem dX2_slideOnce_22 : decode cX2_slideOnce 22 = .ok (.dup2, 1) := by decide +kernel
theorem dX2_slideOnce_23 : decode cX2_slideOnce 23 = .ok (.iaload, 1) := by decide +kernel
theorem dX2_slideOnce_24 : decode cX2_slideOnce 24 = .ok (.iconst 1, 1) := by decide +kernel
theorem dX2_slideOnce_25 : decode cX2_slideOnce 25 = .ok (.isub, 1) := by decide +kernel
theorem dX2_slideOnce_26 : decode cX2_slideOnce 26 = .ok (.iastore, 1) := by decide +kernel
theorem dX2_slideOnce_27 : decode cX2_slideOnce 27 = .ok (.iinc 2 1, 3) := by decide +kernel
theorem dX2_slideOnce_30 : decode cX2_slideOnce 30 = .ok (.goto (-28), 3) := by decide +kernel
theorem dX2_slideOnce_33 : decode cX2_slideOnce 33 = .ok (.iconst 1, 1) := by decide +kernel
theorem dX2_slideOnce_34 : decode cX2_slideOnce 34 = .ok (.iload_n 1, 1) := by decide +kernel
theorem dX2_slideOnce_35 : decode cX2_slideOnce 35 = .ok (.isub, 1) := by decide +kernel
theorem dX2_slideOnce_36 : decode cX2_slideOnce 36 = .ok (.istore_n 2, 1) := by decide +kernel
theorem dX2_slideOnce_37 : decode cX2_slideOnce 37 = .ok (.aload_n 0, 1) := by decide +kernel
theorem dX2_slideOnce_38 : decode cX2_slideOnce 38 = .ok (.getfield 20, 3) := by decide +kernel
theorem dX2_slideOnce_41 : decode cX2_slideOnce 41 = .ok (.iload_n 1, 1) := by decide +kernel
theorem dX2_slideOnce_42 : decode cX2_slideOnce 42 = .ok (.aaload, 1) := by decide +kernel
theorem dX2_slideOnce_43 : decode cX2_slideOnce 43 = .ok (.aload_n 0, 1) := by decide +kernel
theorem dX2_slideOnce_44 : decode cX2_slideOnce 44 = .ok (.getfield 37, 3) := by decide +kernel
theorem dX2_slideOnce_47 : decode cX2_slideOnce 47 = .ok (.iload_n 1, 1) := by decide +kernel
theorem dX2_slideOnce_48 : decode cX2_slideOnce 48 = .ok (.iaload, 1) := by decide +kernel
theorem dX2_slideOnce_49 : decode cX2_slideOnce 49 = .ok (.iconst (-1), 1) := by decide +kernel
theorem dX2_slideOnce_50 : decode cX2_slideOnce 50 = .ok (.iastore, 1) := by decide +kernel
theorem dX2_slideOnce_51 : decode cX2_slideOnce 51 = .ok (.aload_n 0, 1) := by decide +kernel
theorem dX2_slideOnce_52 : decode cX2_slideOnce 52 = .ok (.getfield 20, 3) := by decide +kernel
theorem dX2_slideOnce_55 : decode cX2_slideOnce 55 = .ok (.iload_n 1, 1) := by decide +kernel
theorem dX2_slideOnce_56 : decode cX2_slideOnce 56 = .ok (.aaload, 1) := by decide +kernel
theorem dX2_slideOnce_57 : decode cX2_slideOnce 57 = .ok (.aload_n 0, 1) := by decide +kernel
theorem dX2_slideOnce_58 : decode cX2_slideOnce 58 = .ok (.getfield 40, 3) := by decide +kernel
theorem dX2_slideOnce_61 : decode cX2_slideOnce 61 = .ok (.iload_n 1, 1) := by decide +kernel
theorem dX2_slideOnce_62 : decode cX2_slideOnce 62 = .ok (.iaload, 1) := by decide +kernel
theorem dX2_slideOnce_63 : decode cX2_slideOnce 63 = .ok (.aload_n 0, 1) := by decide +kernel
theorem dX2_slideOnce_64 : decode cX2_slideOnce 64 = .ok (.getfield 40, 3) := by decide +kernel
theorem dX2_slideOnce_67 : decode cX2_slideOnce 67 = .ok (.iload_n 2, 1) := by decide +kernel
theorem dX2_slideOnce_68 : decode cX2_slideOnce 68 = .ok (.iaload, 1) := by decide +kernel
theorem dX2_slideOnce_69 : decode cX2_slideOnce 69 = .ok (.iastore, 1) := by decide +kernel
theorem dX2_slideOnce_70 : decode cX2_slideOnce 70 = .ok (.aload_n 0, 1) := by decide +kernel
theorem dX2_slideOnce_71 : decode cX2_slideOnce 71 = .ok (.getfield 20, 3) := by decide +kernel
theorem dX2_slideOnce_74 : decode cX2_slideOnce 74 = .ok (.iload_n 2, 1) := by decide +kernel
theorem dX2_slideOnce_75 : decode cX2_slideOnce 75 = .ok (.aaload, 1) := by decide +kernel
theorem dX2_slideOnce_76 : decode cX2_slideOnce 76 = .ok (.aload_n 0, 1) := by decide +kernel
theorem dX2_slideOnce_77 : decode cX2_slideOnce 77 = .ok (.getfield 40, 3) := by decide +kernel
theorem dX2_slideOnce_80 : decode cX2_slideOnce 80 = .ok (.iload_n 2, 1) := by decide +kernel
theorem dX2_slideOnce_81 : decode cX2_slideOnce 81 = .ok (.iaload, 1) := by decide +kernel
theorem dX2_slideOnce_82 : decode cX2_slideOnce 82 = .ok (.aload_n 0, 1) := by decide +kernel
theorem dX2_slideOnce_83 : decode cX2_slideOnce 83 = .ok (.getfield 40, 3) := by decide +kernel
theorem dX2_slideOnce_86 : decode cX2_slideOnce 86 = .ok (.iload_n 1, 1) := by decide +kernel
theorem dX2_slideOnce_87 : decode cX2_slideOnce 87 = .ok (.iaload, 1) := by decide +kernel
theorem dX2_slideOnce_88 : decode cX2_slideOnce 88 = .ok (.iastore, 1) := by decide +kernel
theorem dX2_slideOnce_89 : decode cX2_slideOnce 89 = .ok (.aload_n 0, 1) := by decide +kernel
theorem dX2_slideOnce_90 : decode cX2_slideOnce 90 = .ok (.dup, 1) := by decide +kernel
theorem dX2_slideOnce_91 : decode cX2_slideOnce 91 = .ok (.getfield 47, 3) := by decide +kernel
theorem dX2_slideOnce_94 : decode cX2_slideOnce 94 = .ok (.iconst 1, 1) := by decide +kernel
theorem dX2_slideOnce_95 : decode cX2_slideOnce 95 = .ok (.iadd, 1) := by decide +kernel
theorem dX2_slideOnce_96 : decode cX2_slideOnce 96 = .ok (.putfield 47, 3) := by decide +kernel
theorem dX2_slideOnce_99 : decode cX2_slideOnce 99 = .ok (.return_, 1) := by decide +kernel
theorem dX3_init_0 : decode cX3_init 0 = .ok (.aload_n 0, 1) := by decide +kernel
theorem dX3_init_1 : decode cX3_init 1 = .ok (.invokespecial 3, 3) := by decide +kernel
theorem dX3_init_4 : decode cX3_init 4 = .ok (.aload_n 0, 1) := by decide +kernel
theorem dX3_init_5 : decode cX3_init 5 = .ok (.bipush 64, 2) := by decide +kernel
theorem dX3_init_7 : decode cX3_init 7 = .ok (.newarray .int, 2) := by decide +kernel
theorem dX3_init_9 : decode cX3_init 9 = .ok (.putfield 9, 3) := by decide +kernel
theorem dX3_init_12 : decode cX3_init 12 = .ok (.aload_n 0, 1) := by decide +kernel
theorem dX3_init_13 : decode cX3_init 13 = .ok (.new 15, 3) := by decide +kernel
theorem dX3_init_16 : decode cX3_init 16 = .ok (.dup, 1) := by decide +kernel
theorem dX3_init_17 : decode cX3_init 17 = .ok (.invokespecial 17, 3) := by decide +kernel
theorem dX3_init_20 : decode cX3_init 20 = .ok (.putfield 18, 3) := by decide +kernel
theorem dX3_init_23 : decode cX3_init 23 = .ok (.aload_n 0, 1) := by decide +kernel
theorem dX3_init_24 : decode cX3_init 24 = .ok (.iconst 0, 1) := by decide +kernel
theorem dX3_init_25 : decode cX3_init 25 = .ok (.putfield 22, 3) := by decide +kernel
theorem dX3_init_28 : decode cX3_init 28 = .ok (.return_, 1) := by decide +kernel
theorem dX3_append_0 : decode cX3_append 0 = .ok (.aload_n 0, 1) := by decide +kernel
theorem dX3_append_1 : decode cX3_append 1 = .ok (.getfield 22, 3) := by decide +kernel
theorem dX3_append_4 : decode cX3_append 4 = .ok (.bipush 64, 2) := by decide +kernel
theorem dX3_append_6 : decode cX3_append 6 = .ok (.if_icmp .lt 5, 3) := by decide +kernel
theorem dX3_append_9 : decode cX3_append 9 = .ok (.iconst 0, 1) := by decide +kernel
theorem dX3_append_10 : decode cX3_append 10 = .ok (.ireturn, 1) := by decide +kernel
theorem dX3_append_11 : decode cX3_append 11 = .ok (.aload_n 0, 1) := by decide +kernel
theorem dX3_append_12 : decode cX3_append 12 = .ok (.getfield 9, 3) := by decide +kernel
theorem dX3_append_15 : decode cX3_append 15 = .ok (.aload_n 0, 1) := by decide +kernel
theorem dX3_append_16 : decode cX3_append 16 = .ok (.getfield 22, 3) := by decide +kernel
theorem dX3_append_19 : decode cX3_append 19 = .ok (.iload_n 1, 1) := by decide +kernel
theorem dX3_append_20 : decode cX3_append 20 = .ok (.iastore, 1) := by decide +kernel
theorem dX3_append_21 : decode cX3_append 21 = .ok (.aload_n 0, 1) := by decide +kernel
theorem dX3_append_22 : decode cX3_append 22 = .ok (.dup, 1) := by decide +kernel
theorem dX3_append_23 : decode cX3_append 23 = .ok (.getfield 22, 3) := by decide +kernel
theorem dX3_append_26 : decode cX3_append 26 = .ok (.iconst 1, 1) := by decide +kernel
theorem dX3_append_27 : decode cX3_append 27 = .ok (.iadd, 1) := by decide +kernel
theorem dX3_append_28 : decode cX3_append 28 = .ok (.putfield 22, 3) := by decide +kernel
theorem dX3_append_31 : decode cX3_append 31 = .ok (.iconst 1, 1) := by decide +kernel
theorem dX3_append_32 : decode cX3_append 32 = .ok (.ireturn, 1) := by decide +kernel
theorem dX3_firstFault_0 : decode cX3_firstFault 0 = .ok (.aload_n 0, 1) := by decide +kernel
theorem dX3_firstFault_1 : decode cX3_firstFault 1 = .ok (.getfield 18, 3) := by decide +kernel
theorem dX3_firstFault_4 : decode cX3_firstFault 4 = .ok (.invokevirtual 26, 3) := by decide +kernel
theorem dX3_firstFault_7 : decode cX3_firstFault 7 = .ok (.iconst 0, 1) := by decide +kernel
theorem dX3_firstFault_8 : decode cX3_firstFault 8 = .ok (.istore_n 1, 1) := by decide +kernel
theorem dX3_firstFault_9 : decode cX3_firstFault 9 = .ok (.iload_n 1, 1) := by decide +kernel
theorem dX3_firstFault_10 : decode cX3_firstFault 10 = .ok (.aload_n 0, 1) := by decide +kernel
theorem dX3_firstFault_11 : decode cX3_firstFault 11 = .ok (.getfield 22, 3) := by decide +kernel
theorem dX3_firstFault_14 : decode cX3_firstFault 14 = .ok (.if_icmp .ge 27, 3) := by decide +kernel
theorem dX3_firstFault_17 : decode cX3_firstFault 17 = .ok (.aload_n 0, 1) := by decide +kernel
theorem dX3_firstFault_18 : decode cX3_firstFault 18 = .ok (.getfield 18, 3) := by decide +kernel
theorem dX3_firstFault_21 : decode cX3_firstFault 21 = .ok (.aload_n 0, 1) := by decide +kernel
theorem dX3_firstFault_22 : decode cX3_firstFault 22 = .ok (.getfield 9, 3) := by decide +kernel
theorem dX3_firstFault_25 : decode cX3_firstFault 25 = .ok (.iload_n 1, 1) := by decide +kernel
theorem dX3_firstFault_26 : decode cX3_firstFault 26 = .ok (.iaload, 1) := by decide +kernel
theorem dX3_firstFault_27 : decode cX3_firstFault 27 = .ok (.invokevirtual 29, 3) := by decide +kernel
theorem dX3_firstFault_30 : decode cX3_firstFault 30 = .ok (.ifCond .ne 5, 3) := by decide +kernel
theorem dX3_firstFault_33 : decode cX3_firstFault 33 = .ok (.iload_n 1, 1) := by decide +kernel
theorem dX3_firstFault_34 : decode cX3_firstFault 34 = .ok (.ireturn, 1) := by decide +kernel
theorem dX3_firstFault_35 : decode cX3_firstFault 35 = .ok (.iinc 1 1, 3) := by decide +kernel
theorem dX3_firstFault_38 : decode cX3_firstFault 38 = .ok (.goto (-29), 3) := by decide +kernel
theorem dX3_firstFault_41 : decode cX3_firstFault 41 = .ok (.aload_n 0, 1) := by decide +kernel
theorem dX3_firstFault_42 : decode cX3_firstFault 42 = .ok (.getfield 22, 3) := by decide +kernel
theorem dX3_firstFault_45 : decode cX3_firstFault 45 = .ok (.ireturn, 1) := by decide +kernel
theorem dX3_isText_0 : decode cX3_isText 0 = .ok (.aload_n 0, 1) := by decide +kernel
theorem dX3_isText_1 : decode cX3_isText 1 = .ok (.invokevirtual 33, 3) := by decide +kernel
theorem dX3_isText_4 : decode cX3_isText 4 = .ok (.aload_n 0, 1) := by decide +kernel
theorem dX3_isText_5 : decode cX3_isText 5 = .ok (.getfield 22, 3) := by decide +kernel
theorem dX3_isText_8 : decode cX3_isText 8 = .ok (.if_icmp .ne 17, 3) := by decide +kernel
theorem dX3_isText_11 : decode cX3_isText 11 = .ok (.aload_n 0, 1) := by decide +kernel
theorem dX3_isText_12 : decode cX3_isText 12 = .ok (.getfield 18, 3) := by decide +kernel
theorem dX3_isText_15 : decode cX3_isText 15 = .ok (.invokevirtual 37, 3) := by decide +kernel
theorem dX3_isText_18 : decode cX3_isText 18 = .ok (.ifCond .eq 7, 3) := by decide +kernel
theorem dX3_isText_21 : decode cX3_isText 21 = .ok (.iconst 1, 1) := by decide +kernel
theorem dX3_isText_22 : decode cX3_isText 22 = .ok (.goto 4, 3) := by decide +kernel
theorem dX3_isText_25 : decode cX3_isText 25 = .ok (.iconst 0, 1) := by decide +kernel
theorem dX3_isText_26 : decode cX3_isText 26 = .ok (.ireturn, 1) := by decide +kernel
theorem dX3_readInto_0 : decode cX3_readInto 0 = .ok (.aload_n 1, 1) := by decide +kernel
theorem dX3_readInto_1 : decode cX3_readInto 1 = .ok (.invokevirtual 41, 3) := by decide +kernel
theorem dX3_readInto_4 : decode cX3_readInto 4 = .ok (.iconst 0, 1) := by decide +kernel
theorem dX3_readInto_5 : decode cX3_readInto 5 = .ok (.istore_n 2, 1) := by decide +kernel
theorem dX3_readInto_6 : decode cX3_readInto 6 = .ok (.iconst 0, 1) := by decide +kernel
theorem dX3_readInto_7 : decode cX3_readInto 7 = .ok (.istore_n 3, 1) := by decide +kernel
theorem dX3_readInto_8 : decode cX3_readInto 8 = .ok (.iconst 0, 1) := by decide +kernel
theorem dX3_readInto_9 : decode cX3_readInto 9 = .ok (.istore 4, 2) := by decide +kernel
theorem dX3_readInto_11 : decode cX3_readInto 11 = .ok (.iload 4, 2) := by decide +kernel
theorem dX3_readInto_13 : decode cX3_readInto 13 = .ok (.aload_n 0, 1) := by decide +kernel
theorem dX3_readInto_14 : decode cX3_readInto 14 = .ok (.getfield 22, 3) := by decide +kernel
theorem dX3_readInto_17 : decode cX3_readInto 17 = .ok (.if_icmp .ge 64, 3) := by decide +kernel
theorem dX3_readInto_20 : decode cX3_readInto 20 = .ok (.aload_n 0, 1) := by decide +kernel
theorem dX3_readInto_21 : decode cX3_readInto 21 = .ok (.getfield 9, 3) := by decide +kernel
theorem dX3_readInto_24 : decode cX3_readInto 24 = .ok (.iload 4, 2) := by decide +kernel
theorem dX3_readInto_26 : decode cX3_readInto 26 = .ok (.iaload, 1) := by decide +kernel
theorem dX3_readInto_27 : decode cX3_readInto 27 = .ok (.invokestatic 46, 3) := by decide +kernel
theorem dX3_readInto_30 : decode cX3_readInto 30 = .ok (.ifCond .eq 19, 3) := by decide +kernel
theorem dX3_readInto_33 : decode cX3_readInto 33 = .ok (.iload_n 3, 1) := by decide +kernel
theorem dX3_readInto_34 : decode cX3_readInto 34 = .ok (.bipush 7, 2) := by decide +kernel
theorem dX3_readInto_36 : decode cX3_readInto 36 = .ok (.ishl, 1) := by decide +kernel
theorem dX3_readInto_37 : decode cX3_readInto 37 = .ok (.aload_n 0, 1) := by decide +kernel
theorem dX3_readInto_38 : decode cX3_readInto 38 = .ok (.getfield 9, 3) := by decide +kernel
theorem dX3_readInto_41 : decode cX3_readInto 41 = .ok (.iload 4, 2) := by decide +kernel
theorem dX3_readInto_43 : decode cX3_readInto 43 = .ok (.iaload, 1) := by decide +kernel
theorem dX3_readInto_44 : decode cX3_readInto 44 = .ok (.ior, 1) := by decide +kernel
theorem dX3_readInto_45 : decode cX3_readInto 45 = .ok (.istore_n 3, 1) := by decide +kernel
theorem dX3_readInto_46 : decode cX3_readInto 46 = .ok (.goto 29, 3) := by decide +kernel
theorem dX3_readInto_49 : decode cX3_readInto 49 = .ok (.aload_n 1, 1) := by decide +kernel
theorem dX3_readInto_50 : decode cX3_readInto 50 = .ok (.iload_n 2, 1) := by decide +kernel
theorem dX3_readInto_51 : decode cX3_readInto 51 = .ok (.iload_n 3, 1) := by decide +kernel
theorem dX3_readInto_52 : decode cX3_readInto 52 = .ok (.invokevirtual 49, 3) := by decide +kernel
theorem dX3_readInto_55 : decode cX3_readInto 55 = .ok (.iconst 0, 1) := by decide +kernel
theorem dX3_readInto_56 : decode cX3_readInto 56 = .ok (.istore_n 3, 1) := by decide +kernel
theorem dX3_readInto_57 : decode cX3_readInto 57 = .ok (.aload_n 0, 1) := by decide +kernel
theorem dX3_readInto_58 : decode cX3_readInto 58 = .ok (.getfield 9, 3) := by decide +kernel
theorem dX3_readInto_61 : decode cX3_readInto 61 = .ok (.iload 4, 2) := by decide +kernel
theorem dX3_readInto_63 : decode cX3_readInto 63 = .ok (.iaload, 1) := by decide +kernel
theorem dX3_readInto_64 : decode cX3_readInto 64 = .ok (.bipush 59, 2) := by decide +kernel
theorem dX3_readInto_66 : decode cX3_readInto 66 = .ok (.if_icmp .ne 7, 3) := by decide +kernel
theorem dX3_readInto_69 : decode cX3_readInto 69 = .ok (.iconst 1, 1) := by decide +kernel
theorem dX3_readInto_70 : decode cX3_readInto 70 = .ok (.goto 4, 3) := by decide +kernel
theorem dX3_readInto_73 : decode cX3_readInto 73 = .ok (.iload_n 2, 1) := by decide +kernel
theorem dX3_readInto_74 : decode cX3_readInto 74 = .ok (.istore_n 2, 1) := by decide +kernel
theorem dX3_readInto_75 : decode cX3_readInto 75 = .ok (.iinc 4 1, 3) := by decide +kernel
theorem dX3_readInto_78 : decode cX3_readInto 78 = .ok (.goto (-67), 3) := by decide +kernel
theorem dX3_readInto_81 : decode cX3_readInto 81 = .ok (.aload_n 1, 1) := by decide +kernel
theorem dX3_readInto_82 : decode cX3_readInto 82 = .ok (.iload_n 2, 1) := by decide +kernel
theorem dX3_readInto_83 : decode cX3_readInto 83 = .ok (.iload_n 3, 1) := by decide +kernel
theorem dX3_readInto_84 : decode cX3_readInto 84 = .ok (.invokevirtual 49, 3) := by decide +kernel
theorem dX3_readInto_87 : decode cX3_readInto 87 = .ok (.return_, 1) := by decide +kernel
theorem dX4_init_0 : decode cX4_init 0 = .ok (.aload_n 0, 1) := by decide +kernel
theorem dX4_init_1 : decode cX4_init 1 = .ok (.invokespecial 3, 3) := by decide +kernel
theorem dX4_init_4 : decode cX4_init 4 = .ok (.aload_n 0, 1) := by decide +kernel
theorem dX4_init_5 : decode cX4_init 5 = .ok (.iconst 5, 1) := by decide +kernel
theorem dX4_init_6 : decode cX4_init 6 = .ok (.iconst 3, 1) := by decide +kernel
theorem dX4_init_7 : decode cX4_init 7 = .ok (.multianewarray 9 2, 4) := by decide +kernel
theorem dX4_init_11 : decode cX4_init 11 = .ok (.putfield 11, 3) := by decide +kernel
theorem dX4_init_14 : decode cX4_init 14 = .ok (.aload_n 0, 1) := by decide +kernel
theorem dX4_init_15 : decode cX4_init 15 = .ok (.iconst 5, 1) := by decide +kernel
theorem dX4_init_16 : decode cX4_init 16 = .ok (.newarray .int, 2) := by decide +kernel
theorem dX4_init_18 : decode cX4_init 18 = .ok (.putfield 16, 3) := by decide +kernel
theorem dX4_init_21 : decode cX4_init 21 = .ok (.return_, 1) := by decide +kernel
theorem dX4_clear_0 : decode cX4_clear 0 = .ok (.iconst 0, 1) := by decide +kernel
theorem dX4_clear_1 : decode cX4_clear 1 = .ok (.istore_n 1, 1) := by decide +kernel
theorem dX4_clear_2 : decode cX4_clear 2 = .ok (.iload_n 1, 1) := by decide +kernel
theorem dX4_clear_3 : decode cX4_clear 3 = .ok (.iconst 5, 1) := by decide +kernel
theorem dX4_clear_4 : decode cX4_clear 4 = .ok (.if_icmp .ge 16, 3) := by decide +kernel
theorem dX4_clear_7 : decode cX4_clear 7 = .ok (.aload_n 0, 1) := by decide +kernel
theorem dX4_clear_8 : decode cX4_clear 8 = .ok (.getfield 16, 3) := by decide +kernel
theorem dX4_clear_11 : decode cX4_clear 11 = .ok (.iload_n 1, 1) := by decide +kernel
theorem dX4_clear_12 : decode cX4_clear 12 = .ok (.iconst 0, 1) := by decide +kernel
theorem dX4_clear_13 : decode cX4_clear 13 = .ok (.iastore, 1) := by decide +kernel
theorem dX4_clear_14 : decode cX4_clear 14 = .ok (.iinc 1 1, 3) := by decide +kernel
theorem dX4_clear_17 : decode cX4_clear 17 = .ok (.goto (-15), 3) := by decide +kernel
theorem dX4_clear_20 : decode cX4_clear 20 = .ok (.return_, 1) := by decide +kernel
theorem dX4_append_0 : decode cX4_append 0 = .ok (.iload_n 1, 1) := by decide +kernel
theorem dX4_append_1 : decode cX4_append 1 = .ok (.ifCond .lt 18, 3) := by decide +kernel
theorem dX4_append_4 : decode cX4_append 4 = .ok (.iload_n 1, 1) := by decide +kernel
theorem dX4_append_5 : decode cX4_append 5 = .ok (.iconst 5, 1) := by decide +kernel
theorem dX4_append_6 : decode cX4_append 6 = .ok (.if_icmp .ge 13, 3) := by decide +kernel
theorem dX4_append_9 : decode cX4_append 9 = .ok (.aload_n 0, 1) := by decide +kernel
theorem dX4_append_10 : decode cX4_append 10 = .ok (.getfield 16, 3) := by decide +kernel
theorem dX4_append_13 : decode cX4_append 13 = .ok (.iload_n 1, 1) := by decide +kernel
theorem dX4_append_14 : decode cX4_append 14 = .ok (.iaload, 1) := by decide +kernel
theorem dX4_append_15 : decode cX4_append 15 = .ok (.iconst 3, 1) := by decide +kernel
theorem dX4_append_16 : decode cX4_append 16 = .ok (.if_icmp .lt 6, 3) := by decide +kernel
theorem dX4_append_19 : decode cX4_append 19 = .ok (.bipush (-104), 2) := by decide +kernel
theorem dX4_append_21 : decode cX4_append 21 = .ok (.ireturn, 1) := by decide +kernel
theorem dX4_append_22 : decode cX4_append 22 = .ok (.aload_n 0, 1) := by decide +kernel
theorem dX4_append_23 : decode cX4_append 23 = .ok (.getfield 11, 3) := by decide +kernel
theorem dX4_append_26 : decode cX4_append 26 = .ok (.iload_n 1, 1) := by decide +kernel
theorem dX4_append_27 : decode cX4_append 27 = .ok (.aaload, 1) := by decide +kernel
theorem dX4_append_28 : decode cX4_append 28 = .ok (.aload_n 0, 1) := by decide +kernel
theorem dX4_append_29 : decode cX4_append 29 = .ok (.getfield 16, 3) := by decide +kernel
theorem dX4_append_32 : decode cX4_append 32 = .ok (.iload_n 1, 1) := by decide +kernel
theorem dX4_append_33 : decode cX4_append 33 = .ok (.iaload, 1) := by decide +kernel
theorem dX4_append_34 : decode cX4_append 34 = .ok (.iload_n 2, 1) := by decide +kernel
theorem dX4_append_35 : decode cX4_append 35 = .ok (.iastore, 1) := by decide +kernel
theorem dX4_append_36 : decode cX4_append 36 = .ok (.aload_n 0, 1) := by decide +kernel
theorem dX4_append_37 : decode cX4_append 37 = .ok (.getfield 16, 3) := by decide +kernel
theorem dX4_append_40 : decode cX4_append 40 = .ok (.iload_n 1, 1) := by decide +kernel
theorem dX4_append_41 : decode cX4_append 41 = .ok (.dup2, 1) := by decide +kernel
theorem dX4_append_42 : decode cX4_append 42 = .ok (.iaload, 1) := by decide +kernel
theorem dX4_append_43 : decode cX4_append 43 = .ok (.iconst 1, 1) := by decide +kernel
theorem dX4_append_44 : decode cX4_append 44 = .ok (.iadd, 1) := by decide +kernel
theorem dX4_append_45 : decode cX4_append 45 = .ok (.iastore, 1) := by decide +kernel
theorem dX4_append_46 : decode cX4_append 46 = .ok (.aload_n 0, 1) := by decide +kernel
theorem dX4_append_47 : decode cX4_append 47 = .ok (.getfield 16, 3) := by decide +kernel
theorem dX4_append_50 : decode cX4_append 50 = .ok (.iload_n 1, 1) := by decide +kernel
theorem dX4_append_51 : decode cX4_append 51 = .ok (.iaload, 1) := by decide +kernel
theorem dX4_append_52 : decode cX4_append 52 = .ok (.ireturn, 1) := by decide +kernel
theorem dX4_total_0 : decode cX4_total 0 = .ok (.iconst 0, 1) := by decide +kernel
theorem dX4_total_1 : decode cX4_total 1 = .ok (.istore_n 1, 1) := by decide +kernel
theorem dX4_total_2 : decode cX4_total 2 = .ok (.iconst 0, 1) := by decide +kernel
theorem dX4_total_3 : decode cX4_total 3 = .ok (.istore_n 2, 1) := by decide +kernel
theorem dX4_total_4 : decode cX4_total 4 = .ok (.iload_n 2, 1) := by decide +kernel
theorem dX4_total_5 : decode cX4_total 5 = .ok (.iconst 5, 1) := by decide +kernel
theorem dX4_total_6 : decode cX4_total 6 = .ok (.if_icmp .ge 18, 3) := by decide +kernel
theorem dX4_total_9 : decode cX4_total 9 = .ok (.iload_n 1, 1) := by decide +kernel
theorem dX4_total_10 : decode cX4_total 10 = .ok (.aload_n 0, 1) := by decide +kernel
theorem dX4_total_11 : decode cX4_total 11 = .ok (.getfield 16, 3) := by decide +kernel
theorem dX4_total_14 : decode cX4_total 14 = .ok (.iload_n 2, 1) := by decide +kernel
theorem dX4_total_15 : decode cX4_total 15 = .ok (.iaload, 1) := by decide +kernel
theorem dX4_total_16 : decode cX4_total 16 = .ok (.iadd, 1) := by decide +kernel
theorem dX4_total_17 : decode cX4_total 17 = .ok (.istore_n 1, 1) := by decide +kernel
theorem dX4_total_18 : decode cX4_total 18 = .ok (.iinc 2 1, 3) := by decide +kernel
theorem dX4_total_21 : decode cX4_total 21 = .ok (.goto (-17), 3) := by decide +kernel
theorem dX4_total_24 : decode cX4_total 24 = .ok (.iload_n 1, 1) := by decide +kernel
theorem dX4_total_25 : decode cX4_total 25 = .ok (.ireturn, 1) := by decide +kernel
theorem dX5_init_0 : decode cX5_init 0 = .ok (.aload_n 0, 1) := by decide +kernel
theorem dX5_init_1 : decode cX5_init 1 = .ok (.invokespecial 3, 3) := by decide +kernel
theorem dX5_init_4 : decode cX5_init 4 = .ok (.return_, 1) := by decide +kernel
theorem dX5_begin_0 : decode cX5_begin 0 = .ok (.aload_n 0, 1) := by decide +kernel
theorem dX5_begin_1 : decode cX5_begin 1 = .ok (.iconst 0, 1) := by decide +kernel
theorem dX5_begin_2 : decode cX5_begin 2 = .ok (.putfield 9, 3) := by decide +kernel
theorem dX5_begin_5 : decode cX5_begin 5 = .ok (.aload_n 0, 1) := by decide +kernel
theorem dX5_begin_6 : decode cX5_begin 6 = .ok (.iconst 0, 1) := by decide +kernel
theorem dX5_begin_7 : decode cX5_begin 7 = .ok (.putfield 15, 3) := by decide +kernel
theorem dX5_begin_10 : decode cX5_begin 10 = .ok (.aload_n 0, 1) := by decide +kernel
theorem dX5_begin_11 : decode cX5_begin 11 = .ok (.iconst 0, 1) := by decide +kernel
theorem dX5_begin_12 : decode cX5_begin 12 = .ok (.putfield 18, 3) := by decide +kernel
theorem dX5_begin_15 : decode cX5_begin 15 = .ok (.return_, 1) := by decide +kernel
theorem dX5_takes_0 : decode cX5_takes 0 = .ok (.iload_n 1, 1) := by decide +kernel
theorem dX5_takes_1 : decode cX5_takes 1 = .ok (.invokestatic 21, 3) := by decide +kernel
theorem dX5_takes_4 : decode cX5_takes 4 = .ok (.ifCond .eq 8, 3) := by decide +kernel
theorem dX5_takes_7 : decode cX5_takes 7 = .ok (.aload_n 0, 1) := by decide +kernel
theorem dX5_takes_8 : decode cX5_takes 8 = .ok (.invokevirtual 25, 3) := by decide +kernel
theorem dX5_takes_11 : decode cX5_takes 11 = .ok (.ireturn, 1) := by decide +kernel
theorem dX5_takes_12 : decode cX5_takes 12 = .ok (.iload_n 1, 1) := by decide +kernel
theorem dX5_takes_13 : decode cX5_takes 13 = .ok (.bipush 44, 2) := by decide +kernel
theorem dX5_takes_15 : decode cX5_takes 15 = .ok (.if_icmp .ne 8, 3) := by decide +kernel
theorem dX5_takes_18 : decode cX5_takes 18 = .ok (.aload_n 0, 1) := by decide +kernel
theorem dX5_takes_19 : decode cX5_takes 19 = .ok (.invokevirtual 29, 3) := by decide +kernel
theorem dX5_takes_22 : decode cX5_takes 22 = .ok (.ireturn, 1) := by decide +kernel
theorem dX5_takes_23 : decode cX5_takes 23 = .ok (.iload_n 1, 1) := by decide +kernel
theorem dX5_takes_24 : decode cX5_takes 24 = .ok (.bipush 59, 2) := by decide +kernel
theorem dX5_takes_26 : decode cX5_takes 26 = .ok (.if_icmp .ne 14, 3) := by decide +kernel
theorem dX5_takes_29 : decode cX5_takes 29 = .ok (.aload_n 0, 1) := by decide +kernel
theorem dX5_takes_30 : decode cX5_takes 30 = .ok (.invokevirtual 32, 3) := by decide +kernel
theorem dX5_takes_33 : decode cX5_takes 33 = .ok (.ifCond .eq 7, 3) := by decide +kernel
theorem dX5_takes_36 : decode cX5_takes 36 = .ok (.iconst 1, 1) := by decide +kernel
theorem dX5_takes_37 : decode cX5_takes 37 = .ok (.goto 4, 3) := by decide +kernel
theorem dX5_takes_40 : decode cX5_takes 40 = .ok (.iconst 0, 1) := by decide +kernel
theorem dX5_takes_41 : decode cX5_takes 41 = .ok (.ireturn, 1) := by decide +kernel
theorem dX5_takesLetter_0 : decode cX5_takesLetter 0 = .ok (.aload_n 0, 1) := by decide +kernel
theorem dX5_takesLetter_1 : decode cX5_takesLetter 1 = .ok (.getfield 18, 3) := by decide +kernel
theorem dX5_takesLetter_4 : decode cX5_takesLetter 4 = .ok (.iconst 3, 1) := by decide +kernel
theorem dX5_takesLetter_5 : decode cX5_takesLetter 5 = .ok (.if_icmp .ne 5, 3) := by decide +kernel
theorem dX5_takesLetter_8 : decode cX5_takesLetter 8 = .ok (.iconst 0, 1) := by decide +kernel
theorem dX5_takesLetter_9 : decode cX5_takesLetter 9 = .ok (.ireturn, 1) := by decide +kernel
theorem dX5_takesLetter_10 : decode cX5_takesLetter 10 = .ok (.aload_n 0, 1) := by decide +kernel
theorem dX5_takesLetter_11 : decode cX5_takesLetter 11 = .ok (.getfield 18, 3) := by decide +kernel
theorem dX5_takesLetter_14 : decode cX5_takesLetter 14 = .ok (.ifCond .ne 13, 3) := by decide +kernel
theorem dX5_takesLetter_17 : decode cX5_takesLetter 17 = .ok (.aload_n 0, 1) := by decide +kernel
theorem dX5_takesLetter_18 : decode cX5_takesLetter 18 = .ok (.dup, 1) := by decide +kernel
theorem dX5_takesLetter_19 : decode cX5_takesLetter 19 = .ok (.getfield 15, 3) := by decide +kernel
theorem dX5_takesLetter_22 : decode cX5_takesLetter 22 = .ok (.iconst 1, 1) := by decide +kernel
theorem dX5_takesLetter_23 : decode cX5_takesLetter 23 = .ok (.iadd, 1) := by decide +kernel
theorem dX5_takesLetter_24 : decode cX5_takesLetter 24 = .ok (.putfield 15, 3) := by decide +kernel
theorem dX5_takesLetter_27 : decode cX5_takesLetter 27 = .ok (.aload_n 0, 1) := by decide +kernel
theorem dX5_takesLetter_28 : decode cX5_takesLetter 28 = .ok (.dup, 1) := by decide +kernel
theorem dX5_takesLetter_29 : decode cX5_takesLetter 29 = .ok (.getfield 18, 3) := by decide +kernel
theorem dX5_takesLetter_32 : decode cX5_takesLetter 32 = .ok (.iconst 1, 1) := by decide +kernel
theorem dX5_takesLetter_33 : decode cX5_takesLetter 33 = .ok (.iadd, 1) := by decide +kernel
theorem dX5_takesLetter_34 : decode cX5_takesLetter 34 = .ok (.putfield 18, 3) := by decide +kernel
theorem dX5_takesLetter_37 : decode cX5_takesLetter 37 = .ok (.iconst 1, 1) := by decide +kernel
theorem dX5_takesLetter_38 : decode cX5_takesLetter 38 = .ok (.ireturn, 1) := by decide +kernel
theorem dX5_takesComma_0 : decode cX5_takesComma 0 = .ok (.aload_n 0, 1) := by decide +kernel
theorem dX5_takesComma_1 : decode cX5_takesComma 1 = .ok (.getfield 18, 3) := by decide +kernel
theorem dX5_takesComma_4 : decode cX5_takesComma 4 = .ok (.ifCond .eq 12, 3) := by decide +kernel
theorem dX5_takesComma_7 : decode cX5_takesComma 7 = .ok (.aload_n 0, 1) := by decide +kernel
theorem dX5_takesComma_8 : decode cX5_takesComma 8 = .ok (.getfield 15, 3) := by decide +kernel
theorem dX5_takesComma_11 : decode cX5_takesComma 11 = .ok (.bipush 8, 2) := by decide +kernel
theorem dX5_takesComma_13 : decode cX5_takesComma 13 = .ok (.if_icmp .ne 5, 3) := by decide +kernel
theorem dX5_takesComma_16 : decode cX5_takesComma 16 = .ok (.iconst 0, 1) := by decide +kernel
theorem dX5_takesComma_17 : decode cX5_takesComma 17 = .ok (.ireturn, 1) := by decide +kernel
theorem dX5_takesComma_18 : decode cX5_takesComma 18 = .ok (.aload_n 0, 1) := by decide +kernel
theorem dX5_takesComma_19 : decode cX5_takesComma 19 = .ok (.iconst 0, 1) := by decide +kernel
theorem dX5_takesComma_20 : decode cX5_takesComma 20 = .ok (.putfield 18, 3) := by decide +kernel
theorem dX5_takesComma_23 : decode cX5_takesComma 23 = .ok (.iconst 1, 1) := by decide +kernel
theorem dX5_takesComma_24 : decode cX5_takesComma 24 = .ok (.ireturn, 1) := by decide +kernel
theorem dX5_takesSemicolon_0 : decode cX5_takesSemicolon 0 = .ok (.aload_n 0, 1) := by decide +kernel
theorem dX5_takesSemicolon_1 : decode cX5_takesSemicolon 1 = .ok (.getfield 9, 3) := by decide +kernel
theorem dX5_takesSemicolon_4 : decode cX5_takesSemicolon 4 = .ok (.iconst 1, 1) := by decide +kernel
theorem dX5_takesSemicolon_5 : decode cX5_takesSemicolon 5 = .ok (.if_icmp .eq 10, 3) := by decide +kernel
theorem dX5_takesSemicolon_8 : decode cX5_takesSemicolon 8 = .ok (.aload_n 0, 1) := by decide +kernel
theorem dX5_takesSemicolon_9 : decode cX5_takesSemicolon 9 = .ok (.invokevirtual 35, 3) := by decide +kernel
theorem dX5_takesSemicolon_12 : decode cX5_takesSemicolon 12 = .ok (.ifCond .ne 5, 3) := by decide +kernel
theorem dX5_takesSemicolon_15 : decode cX5_takesSemicolon 15 = .ok (.iconst 0, 1) := by decide +kernel
theorem dX5_takesSemicolon_16 : decode cX5_takesSemicolon 16 = .ok (.ireturn, 1) := by decide +kernel
theorem dX5_takesSemicolon_17 : decode cX5_takesSemicolon 17 = .ok (.aload_n 0, 1) := by decide +kernel
theorem dX5_takesSemicolon_18 : decode cX5_takesSemicolon 18 = .ok (.iconst 1, 1) := by decide +kernel
theorem dX5_takesSemicolon_19 : decode cX5_takesSemicolon 19 = .ok (.putfield 9, 3) := by decide +kernel
theorem dX5_takesSemicolon_22 : decode cX5_takesSemicolon 22 = .ok (.aload_n 0, 1) := by decide +kernel
theorem dX5_takesSemicolon_23 : decode cX5_takesSemicolon 23 = .ok (.iconst 0, 1) := by decide +kernel
theorem dX5_takesSemicolon_24 : decode cX5_takesSemicolon 24 = .ok (.putfield 15, 3) := by decide +kernel
theorem dX5_takesSemicolon_27 : decode cX5_takesSemicolon 27 = .ok (.aload_n 0, 1) := by decide +kernel
theorem dX5_takesSemicolon_28 : decode cX5_takesSemicolon 28 = .ok (.iconst 0, 1) := by decide +kernel
theorem dX5_takesSemicolon_29 : decode cX5_takesSemicolon 29 = .ok (.putfield 18, 3) := by decide +kernel
theorem dX5_takesSemicolon_32 : decode cX5_takesSemicolon 32 = .ok (.iconst 1, 1) := by decide +kernel
theorem dX5_takesSemicolon_33 : decode cX5_takesSemicolon 33 = .ok (.ireturn, 1) := by decide +kernel
theorem dX5_mayEnd_0 : decode cX5_mayEnd 0 = .ok (.aload_n 0, 1) := by decide +kernel
theorem dX5_mayEnd_1 : decode cX5_mayEnd 1 = .ok (.getfield 9, 3) := by decide +kernel
theorem dX5_mayEnd_4 : decode cX5_mayEnd 4 = .ok (.iconst 1, 1) := by decide +kernel
theorem dX5_mayEnd_5 : decode cX5_mayEnd 5 = .ok (.if_icmp .ne 14, 3) := by decide +kernel
theorem dX5_mayEnd_8 : decode cX5_mayEnd 8 = .ok (.aload_n 0, 1) := by decide +kernel
theorem dX5_mayEnd_9 : decode cX5_mayEnd 9 = .ok (.invokevirtual 35, 3) := by decide +kernel
theorem dX5_mayEnd_12 : decode cX5_mayEnd 12 = .ok (.ifCond .eq 7, 3) := by decide +kernel
theorem dX5_mayEnd_15 : decode cX5_mayEnd 15 = .ok (.iconst 1, 1) := by decide +kernel
theorem dX5_mayEnd_16 : decode cX5_mayEnd 16 = .ok (.goto 4, 3) := by decide +kernel
theorem dX5_mayEnd_19 : decode cX5_mayEnd 19 = .ok (.iconst 0, 1) := by decide +kernel
theorem dX5_mayEnd_20 : decode cX5_mayEnd 20 = .ok (.ireturn, 1) := by decide +kernel
theorem dX5_sideMayEnd_0 : decode cX5_sideMayEnd 0 = .ok (.aload_n 0, 1) := by decide +kernel
theorem dX5_sideMayEnd_1 : decode cX5_sideMayEnd 1 = .ok (.getfield 15, 3) := by decide +kernel
theorem dX5_sideMayEnd_4 : decode cX5_sideMayEnd 4 = .ok (.ifCond .eq 10, 3) := by decide +kernel
theorem dX5_sideMayEnd_7 : decode cX5_sideMayEnd 7 = .ok (.aload_n 0, 1) := by decide +kernel
theorem dX5_sideMayEnd_8 : decode cX5_sideMayEnd 8 = .ok (.getfield 18, 3) := by decide +kernel
theorem dX5_sideMayEnd_11 : decode cX5_sideMayEnd 11 = .ok (.ifCond .le 7, 3) := by decide +kernel
theorem dX5_sideMayEnd_14 : decode cX5_sideMayEnd 14 = .ok (.iconst 1, 1) := by decide +kernel
theorem dX5_sideMayEnd_15 : decode cX5_sideMayEnd 15 = .ok (.goto 4, 3) := by decide +kernel
theorem dX5_sideMayEnd_18 : decode cX5_sideMayEnd 18 = .ok (.iconst 0, 1) := by decide +kernel
theorem dX5_sideMayEnd_19 : decode cX5_sideMayEnd 19 = .ok (.ireturn, 1) := by decide +kernel
theorem dX6_init_0 : decode cX6_init 0 = .ok (.aload_n 0, 1) := by decide +kernel
theorem dX6_init_1 : decode cX6_init 1 = .ok (.invokespecial 3, 3) := by decide +kernel
theorem dX6_init_4 : decode cX6_init 4 = .ok (.aload_n 0, 1) := by decide +kernel
theorem dX6_init_5 : decode cX6_init 5 = .ok (.bipush 16, 2) := by decide +kernel
theorem dX6_init_7 : decode cX6_init 7 = .ok (.newarray .int, 2) := by decide +kernel
theorem dX6_init_9 : decode cX6_init 9 = .ok (.putfield 9, 3) := by decide +kernel
theorem dX6_init_12 : decode cX6_init 12 = .ok (.aload_n 0, 1) := by decide +kernel
theorem dX6_init_13 : decode cX6_init 13 = .ok (.bipush 16, 2) := by decide +kernel
theorem dX6_init_15 : decode cX6_init 15 = .ok (.newarray .int, 2) := by decide +kernel
theorem dX6_init_17 : decode cX6_init 17 = .ok (.putfield 15, 3) := by decide +kernel
theorem dX6_init_20 : decode cX6_init 20 = .ok (.aload_n 0, 1) := by decide +kernel
theorem dX6_init_21 : decode cX6_init 21 = .ok (.bipush 16, 2) := by decide +kernel
theorem dX6_init_23 : decode cX6_init 23 = .ok (.newarray .int, 2) := by decide +kernel
theorem dX6_init_25 : decode cX6_init 25 = .ok (.putfield 18, 3) := by decide +kernel
theorem dX6_init_28 : decode cX6_init 28 = .ok (.aload_n 0, 1) := by decide +kernel
theorem dX6_init_29 : decode cX6_init 29 = .ok (.bipush 16, 2) := by decide +kernel
theorem dX6_init_31 : decode cX6_init 31 = .ok (.newarray .int, 2) := by decide +kernel
theorem dX6_init_33 : decode cX6_init 33 = .ok (.putfield 21, 3) := by decide +kernel
theorem dX6_init_36 : decode cX6_init 36 = .ok (.aload_n 0, 1) := by decide +kernel
theorem dX6_init_37 : decode cX6_init 37 = .ok (.bipush 16, 2) := by decide +kernel
theorem dX6_init_39 : decode cX6_init 39 = .ok (.newarray .int, 2) := by decide +kernel
theorem dX6_init_41 : decode cX6_init 41 = .ok (.putfield 24, 3) := by decide +kernel
theorem dX6_init_44 : decode cX6_init 44 = .ok (.aload_n 0, 1) := by decide +kernel
theorem dX6_init_45 : decode cX6_init 45 = .ok (.iconst 2, 1) := by decide +kernel
theorem dX6_init_46 : decode cX6_init 46 = .ok (.bipush 8, 2) := by decide +kernel
theorem dX6_init_48 : decode cX6_init 48 = .ok (.multianewarray 27 2, 4) := by decide +kernel
theorem dX6_init_52 : decode cX6_init 52 = .ok (.putfield 29, 3) := by decide +kernel
theorem dX6_init_55 : decode cX6_init 55 = .ok (.aload_n 0, 1) := by decide +kernel
theorem dX6_init_56 : decode cX6_init 56 = .ok (.iconst 0, 1) := by decide +kernel
theorem dX6_init_57 : decode cX6_init 57 = .ok (.putfield 32, 3) := by decide +kernel
theorem dX6_init_60 : decode cX6_init 60 = .ok (.aload_n 0, 1) := by decide +kernel
theorem dX6_init_61 : decode cX6_init 61 = .ok (.iconst 0, 1) := by decide +kernel
theorem dX6_init_62 : decode cX6_init 62 = .ok (.putfield 36, 3) := by decide +kernel
theorem dX6_init_65 : decode cX6_init 65 = .ok (.return_, 1) := by decide +kernel
theorem dX6_has_0 : decode cX6_has 0 = .ok (.iload_n 1, 1) := by decide +kernel
theorem dX6_has_1 : decode cX6_has 1 = .ok (.ifCond .lt 15, 3) := by decide +kernel
theorem dX6_has_4 : decode cX6_has 4 = .ok (.iload_n 1, 1) := by decide +kernel
theorem dX6_has_5 : decode cX6_has 5 = .ok (.aload_n 0, 1) := by decide +kernel
theorem dX6_has_6 : decode cX6_has 6 = .ok (.getfield 32, 3) := by decide +kernel
theorem dX6_has_9 : decode cX6_has 9 = .ok (.if_icmp .ge 7, 3) := by decide +kernel
theorem dX6_has_12 : decode cX6_has 12 = .ok (.iconst 1, 1) := by decide +kernel
theorem dX6_has_13 : decode cX6_has 13 = .ok (.goto 4, 3) := by decide +kernel
theorem dX6_has_16 : decode cX6_has 16 = .ok (.iconst 0, 1) := by decide +kernel
theorem dX6_has_17 : decode cX6_has 17 = .ok (.ireturn, 1) := by decide +kernel
theorem dX6_howManyOf_0 : decode cX6_howManyOf 0 = .ok (.iconst 0, 1) := by decide +kernel
theorem dX6_howManyOf_1 : decode cX6_howManyOf 1 = .ok (.istore_n 2, 1) := by decide +kernel
theorem dX6_howManyOf_2 : decode cX6_howManyOf 2 = .ok (.iconst 0, 1) := by decide +kernel
theorem dX6_howManyOf_3 : decode cX6_howManyOf 3 = .ok (.istore_n 3, 1) := by decide +kernel
theorem dX6_howManyOf_4 : decode cX6_howManyOf 4 = .ok (.iload_n 3, 1) := by decide +kernel
theorem dX6_howManyOf_5 : decode cX6_howManyOf 5 = .ok (.aload_n 0, 1) := by decide +kernel
theorem dX6_howManyOf_6 : decode cX6_howManyOf 6 = .ok (.getfield 32, 3) := by decide +kernel
theorem dX6_howManyOf_9 : decode cX6_howManyOf 9 = .ok (.if_icmp .ge 27, 3) := by decide +kernel
theorem dX6_howManyOf_12 : decode cX6_howManyOf 12 = .ok (.iload_n 2, 1) := by decide +kernel
theorem dX6_howManyOf_13 : decode cX6_howManyOf 13 = .ok (.aload_n 0, 1) := by decide +kernel
theorem dX6_howManyOf_14 : decode cX6_howManyOf 14 = .ok (.getfield 9, 3) := by decide +kernel
theorem dX6_howManyOf_17 : decode cX6_howManyOf 17 = .ok (.iload_n 3, 1) := by decide +kernel
theorem dX6_howManyOf_18 : decode cX6_howManyOf 18 = .ok (.iaload, 1) := by decide +kernel
theorem dX6_howManyOf_19 : decode cX6_howManyOf 19 = .ok (.iload_n 1, 1) := by decide +kernel
theorem dX6_howManyOf_20 : decode cX6_howManyOf 20 = .ok (.if_icmp .ne 7, 3) := by decide +kernel
theorem dX6_howManyOf_23 : decode cX6_howManyOf 23 = .ok (.iconst 1, 1) := by decide +kernel
theorem dX6_howManyOf_24 : decode cX6_howManyOf 24 = .ok (.goto 4, 3) := by decide +kernel
theorem dX6_howManyOf_27 : decode cX6_howManyOf 27 = .ok (.iconst 0, 1) := by decide +kernel
theorem dX6_howManyOf_28 : decode cX6_howManyOf 28 = .ok (.iadd, 1) := by decide +kernel
theorem dX6_howManyOf_29 : decode cX6_howManyOf 29 = .ok (.istore_n 2, 1) := by decide +kernel
theorem dX6_howManyOf_30 : decode cX6_howManyOf 30 = .ok (.iinc 3 1, 3) := by decide +kernel
theorem dX6_howManyOf_33 : decode cX6_howManyOf 33 = .ok (.goto (-29), 3) := by decide +kernel
theorem dX6_howManyOf_36 : decode cX6_howManyOf 36 = .ok (.iload_n 2, 1) := by decide +kernel
theorem dX6_howManyOf_37 : decode cX6_howManyOf 37 = .ok (.ireturn, 1) := by decide +kernel
theorem dX6_build_0 : decode cX6_build 0 = .ok (.aload_n 0, 1) := by decide +kernel
theorem dX6_build_1 : decode cX6_build 1 = .ok (.iconst 0, 1) := by decide +kernel
theorem dX6_build_2 : decode cX6_build 2 = .ok (.putfield 32, 3) := by decide +kernel
theorem dX6_build_5 : decode cX6_build 5 = .ok (.aload_n 0, 1) := by decide +kernel
theorem dX6_build_6 : decode cX6_build 6 = .ok (.iconst 0, 1) := by decide +kernel
theorem dX6_build_7 : decode cX6_build 7 = .ok (.putfield 36, 3) := by decide +kernel
theorem dX6_build_10 : decode cX6_build 10 = .ok (.aload_n 1, 1) := by decide +kernel
theorem dX6_build_11 : decode cX6_build 11 = .ok (.getfield 39, 3) := by decide +kernel
theorem dX6_build_14 : decode cX6_build 14 = .ok (.astore_n 3, 1) := by decide +kernel
theorem dX6_build_15 : decode cX6_build 15 = .ok (.iconst 0, 1) := by decide +kernel
theorem dX6_build_16 : decode cX6_build 16 = .ok (.istore 4, 2) := by decide +kernel
theorem dX6_build_18 : decode cX6_build 18 = .ok (.iload 4, 2) := by decide +kernel
theorem dX6_build_20 : decode cX6_build 20 = .ok (.bipush 8, 2) := by decide +kernel
theorem dX6_build_22 : decode cX6_build 22 = .ok (.if_icmp .ge 29, 3) := by decide +kernel
theorem dX6_build_25 : decode cX6_build 25 = .ok (.aload_n 0, 1) := by decide +kernel
theorem dX6_build_26 : decode cX6_build 26 = .ok (.getfield 29, 3) := by decide +kernel
theorem dX6_build_29 : decode cX6_build 29 = .ok (.iconst 0, 1) := by decide +kernel
theorem dX6_build_30 : decode cX6_build 30 = .ok (.aaload, 1) := by decide +kernel
theorem dX6_build_31 : decode cX6_build 31 = .ok (.iload 4, 2) := by decide +kernel
theorem dX6_build_33 : decode cX6_build 33 = .ok (.iconst (-1), 1) := by decide +kernel
theorem dX6_build_34 : decode cX6_build 34 = .ok (.iastore, 1) := by decide +kernel
theorem dX6_build_35 : decode cX6_build 35 = .ok (.aload_n 0, 1) := by decide +kernel
theorem dX6_build_36 : decode cX6_build 36 = .ok (.getfield 29, 3) := by decide +kernel
theorem dX6_build_39 : decode cX6_build 39 = .ok (.iconst 1, 1) := by decide +kernel
theorem dX6_build_40 : decode cX6_build 40 = .ok (.aaload, 1) := by decide +kernel
theorem dX6_build_41 : decode cX6_build 41 = .ok (.iload 4, 2) := by decide +kernel
theorem dX6_build_43 : decode cX6_build 43 = .ok (.iconst (-1), 1) := by decide +kernel
theorem dX6_build_44 : decode cX6_build 44 = .ok (.iastore, 1) := by decide +kernel
theorem dX6_build_45 : decode cX6_build 45 = .ok (.iinc 4 1, 3) := by decide +kernel
theorem dX6_build_48 : decode cX6_build 48 = .ok (.goto (-30), 3) := by decide +kernel
theorem dX6_build_51 : decode cX6_build 51 = .ok (.iconst 0, 1) := by decide +kernel
theorem dX6_build_52 : decode cX6_build 52 = .ok (.istore 4, 2) := by decide +kernel
theorem dX6_build_54 : decode cX6_build 54 = .ok (.iconst 0, 1) := by decide +kernel
theorem dX6_build_55 : decode cX6_build 55 = .ok (.istore 5, 2) := by decide +kernel
theorem dX6_build_57 : decode cX6_build 57 = .ok (.iconst 0, 1) := by decide +kernel
theorem dX6_build_58 : decode cX6_build 58 = .ok (.istore 6, 2) := by decide +kernel
theorem dX6_build_60 : decode cX6_build 60 = .ok (.iload 6, 2) := by decide +kernel
theorem dX6_build_62 : decode cX6_build 62 = .ok (.bipush 8, 2) := by decide +kernel
theorem dX6_build_64 : decode cX6_build 64 = .ok (.if_icmp .gt 131, 3) := by decide +kernel
theorem dX6_build_67 : decode cX6_build 67 = .ok (.aload_n 0, 1) := by decide +kernel
theorem dX6_build_68 : decode cX6_build 68 = .ok (.aload_n 1, 1) := by decide +kernel
theorem dX6_build_69 : decode cX6_build 69 = .ok (.iconst 0, 1) := by decide +kernel
theorem dX6_build_70 : decode cX6_build 70 = .ok (.iload 4, 2) := by decide +kernel
theorem dX6_build_72 : decode cX6_build 72 = .ok (.invokevirtual 45, 3) := by decide +kernel
theorem dX6_build_75 : decode cX6_build 75 = .ok (.istore 7, 2) := by decide +kernel
theorem dX6_build_77 : decode cX6_build 77 = .ok (.aload_n 0, 1) := by decide +kernel
theorem dX6_build_78 : decode cX6_build 78 = .ok (.aload_n 1, 1) := by decide +kernel
theorem dX6_build_79 : decode cX6_build 79 = .ok (.iconst 1, 1) := by decide +kernel
theorem dX6_build_80 : decode cX6_build 80 = .ok (.iload 5, 2) := by decide +kernel
theorem dX6_build_82 : decode cX6_build 82 = .ok (.invokevirtual 45, 3) := by decide +kernel
theorem dX6_build_85 : decode cX6_build 85 = .ok (.istore 8, 2) := by decide +kernel
theorem dX6_build_87 : decode cX6_build 87 = .ok (.iload 4, 2) := by decide +kernel
theorem dX6_build_89 : decode cX6_build 89 = .ok (.iload 7, 2) := by decide +kernel
theorem dX6_build_91 : decode cX6_build 91 = .ok (.if_icmp .lt 10, 3) := by decide +kernel
theorem dX6_build_94 : decode cX6_build 94 = .ok (.iload 5, 2) := by decide +kernel
theorem dX6_build_96 : decode cX6_build 96 = .ok (.iload 8, 2) := by decide +kernel
theorem dX6_build_98 : decode cX6_build 98 = .ok (.if_icmp .ge 45, 3) := by decide +kernel
theorem dX6_build_101 : decode cX6_build 101 = .ok (.aload_n 0, 1) := by decide +kernel
theorem dX6_build_102 : decode cX6_build 102 = .ok (.aload_n 3, 1) := by decide +kernel
theorem dX6_build_103 : decode cX6_build 103 = .ok (.aload_n 2, 1) := by decide +kernel
theorem dX6_build_104 : decode cX6_build 104 = .ok (.iload 4, 2) := by decide +kernel
theorem dX6_build_106 : decode cX6_build 106 = .ok (.iload 7, 2) := by decide +kernel
theorem dX6_build_108 : decode cX6_build 108 = .ok (.iload 5, 2) := by decide +kernel
theorem dX6_build_110 : decode cX6_build 110 = .ok (.iload 8, 2) := by decide +kernel
theorem dX6_build_112 : decode cX6_build 112 = .ok (.invokevirtual 49, 3) := by decide +kernel
theorem dX6_build_115 : decode cX6_build 115 = .ok (.aload_n 0, 1) := by decide +kernel
theorem dX6_build_116 : decode cX6_build 116 = .ok (.iload 4, 2) := by decide +kernel
theorem dX6_build_118 : decode cX6_build 118 = .ok (.iload 7, 2) := by decide +kernel
theorem dX6_build_120 : decode cX6_build 120 = .ok (.invokevirtual 53, 3) := by decide +kernel
theorem dX6_build_123 : decode cX6_build 123 = .ok (.aload_n 0, 1) := by decide +kernel
theorem dX6_build_124 : decode cX6_build 124 = .ok (.aload_n 3, 1) := by decide +kernel
theorem dX6_build_125 : decode cX6_build 125 = .ok (.aload_n 2, 1) := by decide +kernel
theorem dX6_build_126 : decode cX6_build 126 = .ok (.iload 5, 2) := by decide +kernel
theorem dX6_build_128 : decode cX6_build 128 = .ok (.iload 8, 2) := by decide +kernel
theorem dX6_build_130 : decode cX6_build 130 = .ok (.invokevirtual 57, 3) := by decide +kernel
theorem dX6_build_133 : decode cX6_build 133 = .ok (.aload_n 0, 1) := by decide +kernel
theorem dX6_build_134 : decode cX6_build 134 = .ok (.dup, 1) := by decide +kernel
theorem dX6_build_135 : decode cX6_build 135 = .ok (.getfield 36, 3) := by decide +kernel
theorem dX6_build_138 : decode cX6_build 138 = .ok (.iconst 1, 1) := by decide +kernel
theorem dX6_build_139 : decode cX6_build 139 = .ok (.iadd, 1) := by decide +kernel
theorem dX6_build_140 : decode cX6_build 140 = .ok (.putfield 36, 3) := by decide +kernel
theorem dX6_build_143 : decode cX6_build 143 = .ok (.iload 7, 2) := by decide +kernel
theorem dX6_build_145 : decode cX6_build 145 = .ok (.aload_n 3, 1) := by decide +kernel
theorem dX6_build_146 : decode cX6_build 146 = .ok (.getfield 61, 3) := by decide +kernel
theorem dX6_build_149 : decode cX6_build 149 = .ok (.iconst 0, 1) := by decide +kernel
theorem dX6_build_150 : decode cX6_build 150 = .ok (.iaload, 1) := by decide +kernel
theorem dX6_build_151 : decode cX6_build 151 = .ok (.if_icmp .ge 14, 3) := by decide +kernel
theorem dX6_build_154 : decode cX6_build 154 = .ok (.iload 8, 2) := by decide +kernel
theorem dX6_build_156 : decode cX6_build 156 = .ok (.aload_n 3, 1) := by decide +kernel
theorem dX6_build_157 : decode cX6_build 157 = .ok (.getfield 61, 3) := by decide +kernel
theorem dX6_build_160 : decode cX6_build 160 = .ok (.iconst 1, 1) := by decide +kernel
theorem dX6_build_161 : decode cX6_build 161 = .ok (.iaload, 1) := by decide +kernel
theorem dX6_build_162 : decode cX6_build 162 = .ok (.if_icmp .lt 4, 3) := by decide +kernel
theorem dX6_build_165 : decode cX6_build 165 = .ok (.return_, 1) := by decide +kernel
theorem dX6_build_166 : decode cX6_build 166 = .ok (.aload_n 0, 1) := by decide +kernel
theorem dX6_build_167 : decode cX6_build 167 = .ok (.iconst 0, 1) := by decide +kernel
theorem dX6_build_168 : decode cX6_build 168 = .ok (.iload 7, 2) := by decide +kernel
theorem dX6_build_170 : decode cX6_build 170 = .ok (.iload 8, 2) := by decide +kernel
theorem dX6_build_172 : decode cX6_build 172 = .ok (.fconst 1, 1) := by decide +kernel
theorem dX6_build_173 : decode cX6_build 173 = .ok (.iconst (-1), 1) := by decide +kernel
theorem dX6_build_174 : decode cX6_build 174 = .ok (.invokevirtual 65, 3) := by decide +kernel
theorem dX6_build_177 : decode cX6_build 177 = .ok (.iload 7, 2) := by decide +kernel
theorem dX6_build_179 : decode cX6_build 179 = .ok (.iconst 1, 1) := by decide +kernel
theorem dX6_build_180 : decode cX6_build 180 = .ok (.iadd, 1) := by decide +kernel
theorem dX6_build_181 : decode cX6_build 181 = .ok (.istore 4, 2) := by decide +kernel
theorem dX6_build_183 : decode cX6_build 183 = .ok (.iload 8, 2) := by decide +kernel
theorem dX6_build_185 : decode cX6_build 185 = .ok (.iconst 1, 1) := by decide +kernel
theorem dX6_build_186 : decode cX6_build 186 = .ok (.iadd, 1) := by decide +kernel
theorem dX6_build_187 : decode cX6_build 187 = .ok (.istore 5, 2) := by decide +kernel
theorem dX6_build_189 : decode cX6_build 189 = .ok (.iinc 6 1, 3) := by decide +kernel
theorem dX6_build_192 : decode cX6_build 192 = .ok (.goto (-132), 3) := by decide +kernel
theorem dX6_build_195 : decode cX6_build 195 = .ok (.return_, 1) := by decide +kernel
theorem dX6_nextKept_0 : decode cX6_nextKept 0 = .ok (.iload_n 3, 1) := by decide +kernel
theorem dX6_nextKept_1 : decode cX6_nextKept 1 = .ok (.istore 4, 2) := by decide +kernel
theorem dX6_nextKept_3 : decode cX6_nextKept 3 = .ok (.iload 4, 2) := by decide +kernel
theorem dX6_nextKept_5 : decode cX6_nextKept 5 = .ok (.aload_n 1, 1) := by decide +kernel
theorem dX6_nextKept_6 : decode cX6_nextKept 6 = .ok (.getfield 39, 3) := by decide +kernel
theorem dX6_nextKept_9 : decode cX6_nextKept 9 = .ok (.getfield 61, 3) := by decide +kernel
theorem dX6_nextKept_12 : decode cX6_nextKept 12 = .ok (.iload_n 2, 1) := by decide +kernel
theorem dX6_nextKept_13 : decode cX6_nextKept 13 = .ok (.iaload, 1) := by decide +kernel
theorem dX6_nextKept_14 : decode cX6_nextKept 14 = .ok (.if_icmp .ge 22, 3) := by decide +kernel
theorem dX6_nextKept_17 : decode cX6_nextKept 17 = .ok (.aload_n 1, 1) := by decide +kernel
theorem dX6_nextKept_18 : decode cX6_nextKept 18 = .ok (.getfield 69, 3) := by decide +kernel
theorem dX6_nextKept_21 : decode cX6_nextKept 21 = .ok (.iload_n 2, 1) := by decide +kernel
theorem dX6_nextKept_22 : decode cX6_nextKept 22 = .ok (.aaload, 1) := by decide +kernel
theorem dX6_nextKept_23 : decode cX6_nextKept 23 = .ok (.iload 4, 2) := by decide +kernel
theorem dX6_nextKept_25 : decode cX6_nextKept 25 = .ok (.iaload, 1) := by decide +kernel
theorem dX6_nextKept_26 : decode cX6_nextKept 26 = .ok (.iconst (-1), 1) := by decide +kernel
theorem dX6_nextKept_27 : decode cX6_nextKept 27 = .ok (.if_icmp .ne 9, 3) := by decide +kernel
theorem dX6_nextKept_30 : decode cX6_nextKept 30 = .ok (.iinc 4 1, 3) := by decide +kernel
theorem dX6_nextKept_33 : decode cX6_nextKept 33 = .ok (.goto (-30), 3) := by decide +kernel
theorem dX6_nextKept_36 : decode cX6_nextKept 36 = .ok (.iload 4, 2) := by decide +kernel
theorem dX6_nextKept_38 : decode cX6_nextKept 38 = .ok (.ireturn, 1) := by decide +kernel
theorem dX6_findChanged_0 : decode cX6_findChanged 0 = .ok (.iload 4, 2) := by decide +kernel
theorem dX6_findChanged_2 : decode cX6_findChanged 2 = .ok (.iload_n 3, 1) := by decide +kernel
theorem dX6_findChanged_3 : decode cX6_findChanged 3 = .ok (.isub, 1) := by decide +kernel
theorem dX6_findChanged_4 : decode cX6_findChanged 4 = .ok (.iload 6, 2) := by decide +kernel
theorem dX6_findChanged_6 : decode cX6_findChanged 6 = .ok (.iload 5, 2) := by decide +kernel
theorem dX6_findChanged_8 : decode cX6_findChanged 8 = .ok (.isub, 1) := by decide +kernel
theorem dX6_findChanged_9 : decode cX6_findChanged 9 = .ok (.invokestatic 72, 3) := by decide +kernel
theorem dX6_findChanged_12 : decode cX6_findChanged 12 = .ok (.istore 7, 2) := by decide +kernel
theorem dX6_findChanged_14 : decode cX6_findChanged 14 = .ok (.iconst 0, 1) := by decide +kernel
theorem dX6_findChanged_15 : decode cX6_findChanged 15 = .ok (.istore 8, 2) := by decide +kernel
theorem dX6_findChanged_17 : decode cX6_findChanged 17 = .ok (.iload 8, 2) := by decide +kernel
theorem dX6_findChanged_19 : decode cX6_findChanged 19 = .ok (.iload 7, 2) := by decide +kernel
theorem dX6_findChanged_21 : decode cX6_findChanged 21 = .ok (.if_icmp .ge 72, 3) := by decide +kernel
theorem dX6_findChanged_24 : decode cX6_findChanged 24 = .ok (.iload_n 3, 1) := by decide +kernel
theorem dX6_findChanged_25 : decode cX6_findChanged 25 = .ok (.iload 8, 2) := by decide +kernel
theorem dX6_findChanged_27 : decode cX6_findChanged 27 = .ok (.iadd, 1) := by decide +kernel
theorem dX6_findChanged_28 : decode cX6_findChanged 28 = .ok (.istore 9, 2) := by decide +kernel
theorem dX6_findChanged_30 : decode cX6_findChanged 30 = .ok (.iload 5, 2) := by decide +kernel
theorem dX6_findChanged_32 : decode cX6_findChanged 32 = .ok (.iload 8, 2) := by decide +kernel
theorem dX6_findChanged_34 : decode cX6_findChanged 34 = .ok (.iadd, 1) := by decide +kernel
theorem dX6_findChanged_35 : decode cX6_findChanged 35 = .ok (.istore 10, 2) := by decide +kernel
theorem dX6_findChanged_37 : decode cX6_findChanged 37 = .ok (.aload_n 2, 1) := by decide +kernel
theorem dX6_findChanged_38 : decode cX6_findChanged 38 = .ok (.aload_n 1, 1) := by decide +kernel
theorem dX6_findChanged_39 : decode cX6_findChanged 39 = .ok (.getfield 78, 3) := by decide +kernel
theorem dX6_findChanged_42 : decode cX6_findChanged 42 = .ok (.iconst 0, 1) := by decide +kernel
theorem dX6_findChanged_43 : decode cX6_findChanged 43 = .ok (.aaload, 1) := by decide +kernel
theorem dX6_findChanged_44 : decode cX6_findChanged 44 = .ok (.iload 9, 2) := by decide +kernel
theorem dX6_findChanged_46 : decode cX6_findChanged 46 = .ok (.iaload, 1) := by decide +kernel
theorem dX6_findChanged_47 : decode cX6_findChanged 47 = .ok (.aload_n 1, 1) := by decide +kernel
theorem dX6_findChanged_48 : decode cX6_findChanged 48 = .ok (.getfield 78, 3) := by decide +kernel
theorem dX6_findChanged_51 : decode cX6_findChanged 51 = .ok (.iconst 1, 1) := by decide +kernel
theorem dX6_findChanged_52 : decode cX6_findChanged 52 = .ok (.aaload, 1) := by decide +kernel
theorem dX6_findChanged_53 : decode cX6_findChanged 53 = .ok (.iload 10, 2) := by decide +kernel
theorem dX6_findChanged_55 : decode cX6_findChanged 55 = .ok (.iaload, 1) := by decide +kernel
theorem dX6_findChanged_56 : decode cX6_findChanged 56 = .ok (.invokevirtual 81, 3) := by decide +kernel
theorem dX6_findChanged_59 : decode cX6_findChanged 59 = .ok (.ldc 87, 2) := by decide +kernel
theorem dX6_findChanged_61 : decode cX6_findChanged 61 = .ok (.fcmp .l, 1) := by decide +kernel
theorem dX6_findChanged_62 : decode cX6_findChanged 62 = .ok (.ifCond .lt 25, 3) := by decide +kernel
theorem dX6_findChanged_65 : decode cX6_findChanged 65 = .ok (.aload_n 0, 1) := by decide +kernel
theorem dX6_findChanged_66 : decode cX6_findChanged 66 = .ok (.getfield 29, 3) := by decide +kernel
theorem dX6_findChanged_69 : decode cX6_findChanged 69 = .ok (.iconst 0, 1) := by decide +kernel
theorem dX6_findChanged_70 : decode cX6_findChanged 70 = .ok (.aaload, 1) := by decide +kernel
theorem dX6_findChanged_71 : decode cX6_findChanged 71 = .ok (.iload 9, 2) := by decide +kernel
theorem dX6_findChanged_73 : decode cX6_findChanged 73 = .ok (.iload 10, 2) := by decide +kernel
theorem dX6_findChanged_75 : decode cX6_findChanged 75 = .ok (.iastore, 1) := by decide +kernel
theorem dX6_findChanged_76 : decode cX6_findChanged 76 = .ok (.aload_n 0, 1) := by decide +kernel
theorem dX6_findChanged_77 : decode cX6_findChanged 77 = .ok (.getfield 29, 3) := by decide +kernel
theorem dX6_findChanged_80 : decode cX6_findChanged 80 = .ok (.iconst 1, 1) := by decide +kernel
theorem dX6_findChanged_81 : decode cX6_findChanged 81 = .ok (.aaload, 1) := by decide +kernel
theorem dX6_findChanged_82 : decode cX6_findChanged 82 = .ok (.iload 10, 2) := by decide +kernel
theorem dX6_findChanged_84 : decode cX6_findChanged 84 = .ok (.iload 9, 2) := by decide +kernel
theorem dX6_findChanged_86 : decode cX6_findChanged 86 = .ok (.iastore, 1) := by decide +kernel
theorem dX6_findChanged_87 : decode cX6_findChanged 87 = .ok (.iinc 8 1, 3) := by decide +kernel
theorem dX6_findChanged_90 : decode cX6_findChanged 90 = .ok (.goto (-73), 3) := by decide +kernel
theorem dX6_findChanged_93 : decode cX6_findChanged 93 = .ok (.return_, 1) := by decide +kernel
theorem dX6_addDropped_0 : decode cX6_addDropped 0 = .ok (.iload_n 1, 1) := by decide +kernel
theorem dX6_addDropped_1 : decode cX6_addDropped 1 = .ok (.istore_n 3, 1) := by decide +kernel
theorem dX6_addDropped_2 : decode cX6_addDropped 2 = .ok (.iload_n 3, 1) := by decide +kernel
theorem dX6_addDropped_3 : decode cX6_addDropped 3 = .ok (.iload_n 2, 1) := by decide +kernel
theorem dX6_addDropped_4 : decode cX6_addDropped 4 = .ok (.if_icmp .ge 33, 3) := by decide +kernel
theorem dX6_addDropped_7 : decode cX6_addDropped 7 = .ok (.aload_n 0, 1) := by decide +kernel
theorem dX6_addDropped_8 : decode cX6_addDropped 8 = .ok (.getfield 29, 3) := by decide +kernel
theorem dX6_addDropped_11 : decode cX6_addDropped 11 = .ok (.iconst 0, 1) := by decide +kernel
theorem dX6_addDropped_12 : decode cX6_addDropped 12 = .ok (.aaload, 1) := by decide +kernel
theorem dX6_addDropped_13 : decode cX6_addDropped 13 = .ok (.iload_n 3, 1) := by decide +kernel
theorem dX6_addDropped_14 : decode cX6_addDropped 14 = .ok (.iaload, 1) := by decide +kernel
theorem dX6_addDropped_15 : decode cX6_addDropped 15 = .ok (.iconst (-1), 1) := by decide +kernel
theorem dX6_addDropped_16 : decode cX6_addDropped 16 = .ok (.if_icmp .ne 15, 3) := by decide +kernel
theorem dX6_addDropped_19 : decode cX6_addDropped 19 = .ok (.aload_n 0, 1) := by decide +kernel
theorem dX6_addDropped_20 : decode cX6_addDropped 20 = .ok (.iconst 1, 1) := by decide +kernel
theorem dX6_addDropped_21 : decode cX6_addDropped 21 = .ok (.iload_n 3, 1) := by decide +kernel
theorem dX6_addDropped_22 : decode cX6_addDropped 22 = .ok (.iconst (-1), 1) := by decide +kernel
theorem dX6_addDropped_23 : decode cX6_addDropped 23 = .ok (.fconst 0, 1) := by decide +kernel
theorem dX6_addDropped_24 : decode cX6_addDropped 24 = .ok (.aload_n 0, 1) := by decide +kernel
theorem dX6_addDropped_25 : decode cX6_addDropped 25 = .ok (.getfield 36, 3) := by decide +kernel
theorem dX6_addDropped_28 : decode cX6_addDropped 28 = .ok (.invokevirtual 65, 3) := by decide +kernel
theorem dX6_addDropped_31 : decode cX6_addDropped 31 = .ok (.iinc 3 1, 3) := by decide +kernel
theorem dX6_addDropped_34 : decode cX6_addDropped 34 = .ok (.goto (-32), 3) := by decide +kernel
theorem dX6_addDropped_37 : decode cX6_addDropped 37 = .ok (.return_, 1) := by decide +kernel
theorem dX6_addAdded_0 : decode cX6_addAdded 0 = .ok (.iload_n 3, 1) := by decide +kernel
theorem dX6_addAdded_1 : decode cX6_addAdded 1 = .ok (.istore 5, 2) := by decide +kernel
theorem dX6_addAdded_3 : decode cX6_addAdded 3 = .ok (.iload 5, 2) := by decide +kernel
theorem dX6_addAdded_5 : decode cX6_addAdded 5 = .ok (.iload 4, 2) := by decide +kernel
theorem dX6_addAdded_7 : decode cX6_addAdded 7 = .ok (.if_icmp .ge 93, 3) := by decide +kernel
theorem dX6_addAdded_10 : decode cX6_addAdded 10 = .ok (.aload_n 0, 1) := by decide +kernel
theorem dX6_addAdded_11 : decode cX6_addAdded 11 = .ok (.getfield 29, 3) := by decide +kernel
theorem dX6_addAdded_14 : decode cX6_addAdded 14 = .ok (.iconst 1, 1) := by decide +kernel
theorem dX6_addAdded_15 : decode cX6_addAdded 15 = .ok (.aaload, 1) := by decide +kernel
theorem dX6_addAdded_16 : decode cX6_addAdded 16 = .ok (.iload 5, 2) := by decide +kernel
theorem dX6_addAdded_18 : decode cX6_addAdded 18 = .ok (.iaload, 1) := by decide +kernel
theorem dX6_addAdded_19 : decode cX6_addAdded 19 = .ok (.istore 6, 2) := by decide +kernel
theorem dX6_addAdded_21 : decode cX6_addAdded 21 = .ok (.iload 6, 2) := by decide +kernel
theorem dX6_addAdded_23 : decode cX6_addAdded 23 = .ok (.iconst (-1), 1) := by decide +kernel
theorem dX6_addAdded_24 : decode cX6_addAdded 24 = .ok (.if_icmp .ne 19, 3) := by decide +kernel
theorem dX6_addAdded_27 : decode cX6_addAdded 27 = .ok (.aload_n 0, 1) := by decide +kernel
theorem dX6_addAdded_28 : decode cX6_addAdded 28 = .ok (.iconst 2, 1) := by decide +kernel
theorem dX6_addAdded_29 : decode cX6_addAdded 29 = .ok (.iconst (-1), 1) := by decide +kernel
theorem dX6_addAdded_30 : decode cX6_addAdded 30 = .ok (.iload 5, 2) := by decide +kernel
theorem dX6_addAdded_32 : decode cX6_addAdded 32 = .ok (.fconst 0, 1) := by decide +kernel
theorem dX6_addAdded_33 : decode cX6_addAdded 33 = .ok (.aload_n 0, 1) := by decide +kernel
theorem dX6_addAdded_34 : decode cX6_addAdded 34 = .ok (.getfield 36, 3) := by decide +kernel
theorem dX6_addAdded_37 : decode cX6_addAdded 37 = .ok (.invokevirtual 65, 3) := by decide +kernel
theorem dX6_addAdded_40 : decode cX6_addAdded 40 = .ok (.goto 54, 3) := by decide +kernel
theorem dX6_addAdded_43 : decode cX6_addAdded 43 = .ok (.aload_n 2, 1) := by decide +kernel
theorem dX6_addAdded_44 : decode cX6_addAdded 44 = .ok (.aload_n 1, 1) := by decide +kernel
theorem dX6_addAdded_45 : decode cX6_addAdded 45 = .ok (.getfield 78, 3) := by decide +kernel
theorem dX6_addAdded_48 : decode cX6_addAdded 48 = .ok (.iconst 0, 1) := by decide +kernel
theorem dX6_addAdded_49 : decode cX6_addAdded 49 = .ok (.aaload, 1) := by decide +kernel
theorem dX6_addAdded_50 : decode cX6_addAdded 50 = .ok (.iload 6, 2) := by decide +kernel
theorem dX6_addAdded_52 : decode cX6_addAdded 52 = .ok (.iaload, 1) := by decide +kernel
theorem dX6_addAdded_53 : decode cX6_addAdded 53 = .ok (.aload_n 1, 1) := by decide +kernel
theorem dX6_addAdded_54 : decode cX6_addAdded 54 = .ok (.getfield 78, 3) := by decide +kernel
theorem dX6_addAdded_57 : decode cX6_addAdded 57 = .ok (.iconst 1, 1) := by decide +kernel
theorem dX6_addAdded_58 : decode cX6_addAdded 58 = .ok (.aaload, 1) := by decide +kernel
theorem dX6_addAdded_59 : decode cX6_addAdded 59 = .ok (.iload 5, 2) := by decide +kernel
theorem dX6_addAdded_61 : decode cX6_addAdded 61 = .ok (.iaload, 1) := by decide +kernel
theorem dX6_addAdded_62 : decode cX6_addAdded 62 = .ok (.invokevirtual 81, 3) := by decide +kernel
theorem dX6_addAdded_65 : decode cX6_addAdded 65 = .ok (.fstore 7, 2) := by decide +kernel
theorem dX6_addAdded_67 : decode cX6_addAdded 67 = .ok (.aload_n 0, 1) := by decide +kernel
theorem dX6_addAdded_68 : decode cX6_addAdded 68 = .ok (.fload 7, 2) := by decide +kernel
theorem dX6_addAdded_70 : decode cX6_addAdded 70 = .ok (.ldc 88, 2) := by decide +kernel
theorem dX6_addAdded_72 : decode cX6_addAdded 72 = .ok (.fcmp .l, 1) := by decide +kernel
theorem dX6_addAdded_73 : decode cX6_addAdded 73 = .ok (.ifCond .lt 7, 3) := by decide +kernel
theorem dX6_addAdded_76 : decode cX6_addAdded 76 = .ok (.iconst 4, 1) := by decide +kernel
theorem dX6_addAdded_77 : decode cX6_addAdded 77 = .ok (.goto 4, 3) := by decide +kernel
theorem dX6_addAdded_80 : decode cX6_addAdded 80 = .ok (.iconst 3, 1) := by decide +kernel
theorem dX6_addAdded_81 : decode cX6_addAdded 81 = .ok (.iload 6, 2) := by decide +kernel
theorem dX6_addAdded_83 : decode cX6_addAdded 83 = .ok (.iload 5, 2) := by decide +kernel
theorem dX6_addAdded_85 : decode cX6_addAdded 85 = .ok (.fload 7, 2) := by decide +kernel
theorem dX6_addAdded_87 : decode cX6_addAdded 87 = .ok (.aload_n 0, 1) := by decide +kernel
theorem dX6_addAdded_88 : decode cX6_addAdded 88 = .ok (.getfield 36, 3) := by decide +kernel
theorem dX6_addAdded_91 : decode cX6_addAdded 91 = .ok (.invokevirtual 65, 3) := by decide +kernel
theorem dX6_addAdded_94 : decode cX6_addAdded 94 = .ok (.iinc 5 1, 3) := by decide +kernel
theorem dX6_addAdded_97 : decode cX6_addAdded 97 = .ok (.goto (-94), 3) := by decide +kernel
theorem dX6_addAdded_100 : decode cX6_addAdded 100 = .ok (.return_, 1) := by decide +kernel
theorem dX6_addStep_0 : decode cX6_addStep 0 = .ok (.aload_n 0, 1) := by decide +kernel
theorem dX6_addStep_1 : decode cX6_addStep 1 = .ok (.getfield 32, 3) := by decide +kernel
theorem dX6_addStep_4 : decode cX6_addStep 4 = .ok (.aload_n 0, 1) := by decide +kernel
theorem dX6_addStep_5 : decode cX6_addStep 5 = .ok (.getfield 9, 3) := by decide +kernel
theorem dX6_addStep_8 : decode cX6_addStep 8 = .ok (.arraylength, 1) := by decide +kernel
theorem dX6_addStep_9 : decode cX6_addStep 9 = .ok (.if_icmp .lt 4, 3) := by decide +kernel
theorem dX6_addStep_12 : decode cX6_addStep 12 = .ok (.return_, 1) := by decide +kernel
theorem dX6_addStep_13 : decode cX6_addStep 13 = .ok (.aload_n 0, 1) := by decide +kernel
theorem dX6_addStep_14 : decode cX6_addStep 14 = .ok (.getfield 9, 3) := by decide +kernel
theorem dX6_addStep_17 : decode cX6_addStep 17 = .ok (.aload_n 0, 1) := by decide +kernel
theorem dX6_addStep_18 : decode cX6_addStep 18 = .ok (.getfield 32, 3) := by decide +kernel
theorem dX6_addStep_21 : decode cX6_addStep 21 = .ok (.iload_n 1, 1) := by decide +kernel
theorem dX6_addStep_22 : decode cX6_addStep 22 = .ok (.iastore, 1) := by decide +kernel
theorem dX6_addStep_23 : decode cX6_addStep 23 = .ok (.aload_n 0, 1) := by decide +kernel
theorem dX6_addStep_24 : decode cX6_addStep 24 = .ok (.getfield 15, 3) := by decide +kernel
theorem dX6_addStep_27 : decode cX6_addStep 27 = .ok (.aload_n 0, 1) := by decide +kernel
