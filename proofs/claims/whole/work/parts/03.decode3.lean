theorem dX9_tellLine_7 : decode cX9_tellLine 7 = .ok (.imul, 1) := by decide +kernel
theorem dX9_tellLine_8 : decode cX9_tellLine 8 = .ok (.iload_n 2, 1) := by decide +kernel
theorem dX9_tellLine_9 : decode cX9_tellLine 9 = .ok (.iadd, 1) := by decide +kernel
theorem dX9_tellLine_10 : decode cX9_tellLine 10 = .ok (.iaload, 1) := by decide +kernel
theorem dX9_tellLine_11 : decode cX9_tellLine 11 = .ok (.istore 4, 2) := by decide +kernel
theorem dX9_tellLine_13 : decode cX9_tellLine 13 = .ok (.iload_n 3, 1) := by decide +kernel
theorem dX9_tellLine_14 : decode cX9_tellLine 14 = .ok (.tableswitch 128 0 5 #[38, 44, 44, 44, 66, 107], 38) := by decide +kernel
theorem dX9_tellLine_52 : decode cX9_tellLine 52 = .ok (.iload 4, 2) := by decide +kernel
theorem dX9_tellLine_54 : decode cX9_tellLine 54 = .ok (.invokestatic 177, 3) := by decide +kernel
theorem dX9_tellLine_57 : decode cX9_tellLine 57 = .ok (.ireturn, 1) := by decide +kernel
theorem dX9_tellLine_58 : decode cX9_tellLine 58 = .ok (.iload_n 3, 1) := by decide +kernel
theorem dX9_tellLine_59 : decode cX9_tellLine 59 = .ok (.iload 4, 2) := by decide +kernel
theorem dX9_tellLine_61 : decode cX9_tellLine 61 = .ok (.invokestatic 177, 3) := by decide +kernel
theorem dX9_tellLine_64 : decode cX9_tellLine 64 = .ok (.if_icmp .gt 14, 3) := by decide +kernel
theorem dX9_tellLine_67 : decode cX9_tellLine 67 = .ok (.iload 4, 2) := by decide +kernel
theorem dX9_tellLine_69 : decode cX9_tellLine 69 = .ok (.iload_n 3, 1) := by decide +kernel
theorem dX9_tellLine_70 : decode cX9_tellLine 70 = .ok (.iconst 1, 1) := by decide +kernel
theorem dX9_tellLine_71 : decode cX9_tellLine 71 = .ok (.isub, 1) := by decide +kernel
theorem dX9_tellLine_72 : decode cX9_tellLine 72 = .ok (.invokestatic 181, 3) := by decide +kernel
theorem dX9_tellLine_75 : decode cX9_tellLine 75 = .ok (.goto 4, 3) := by decide +kernel
theorem dX9_tellLine_78 : decode cX9_tellLine 78 = .ok (.iconst (-1), 1) := by decide +kernel
theorem dX9_tellLine_79 : decode cX9_tellLine 79 = .ok (.ireturn, 1) := by decide +kernel
theorem dX9_tellLine_80 : decode cX9_tellLine 80 = .ok (.aload_n 0, 1) := by decide +kernel
theorem dX9_tellLine_81 : decode cX9_tellLine 81 = .ok (.getfield 25, 3) := by decide +kernel
theorem dX9_tellLine_84 : decode cX9_tellLine 84 = .ok (.bipush 16, 2) := by decide +kernel
theorem dX9_tellLine_86 : decode cX9_tellLine 86 = .ok (.iload_n 1, 1) := by decide +kernel
theorem dX9_tellLine_87 : decode cX9_tellLine 87 = .ok (.imul, 1) := by decide +kernel
theorem dX9_tellLine_88 : decode cX9_tellLine 88 = .ok (.iload_n 2, 1) := by decide +kernel
theorem dX9_tellLine_89 : decode cX9_tellLine 89 = .ok (.iadd, 1) := by decide +kernel
theorem dX9_tellLine_90 : decode cX9_tellLine 90 = .ok (.iaload, 1) := by decide +kernel
theorem dX9_tellLine_91 : decode cX9_tellLine 91 = .ok (.iconst (-1), 1) := by decide +kernel
theorem dX9_tellLine_92 : decode cX9_tellLine 92 = .ok (.if_icmp .ne 17, 3) := by decide +kernel
theorem dX9_tellLine_95 : decode cX9_tellLine 95 = .ok (.aload_n 0, 1) := by decide +kernel
theorem dX9_tellLine_96 : decode cX9_tellLine 96 = .ok (.getfield 49, 3) := by decide +kernel
theorem dX9_tellLine_99 : decode cX9_tellLine 99 = .ok (.bipush 16, 2) := by decide +kernel
theorem dX9_tellLine_101 : decode cX9_tellLine 101 = .ok (.iload_n 1, 1) := by decide +kernel
theorem dX9_tellLine_102 : decode cX9_tellLine 102 = .ok (.imul, 1) := by decide +kernel
theorem dX9_tellLine_103 : decode cX9_tellLine 103 = .ok (.iload_n 2, 1) := by decide +kernel
theorem dX9_tellLine_104 : decode cX9_tellLine 104 = .ok (.iadd, 1) := by decide +kernel
theorem dX9_tellLine_105 : decode cX9_tellLine 105 = .ok (.iaload, 1) := by decide +kernel
theorem dX9_tellLine_106 : decode cX9_tellLine 106 = .ok (.goto 14, 3) := by decide +kernel
theorem dX9_tellLine_109 : decode cX9_tellLine 109 = .ok (.aload_n 0, 1) := by decide +kernel
theorem dX9_tellLine_110 : decode cX9_tellLine 110 = .ok (.getfield 25, 3) := by decide +kernel
theorem dX9_tellLine_113 : decode cX9_tellLine 113 = .ok (.bipush 16, 2) := by decide +kernel
theorem dX9_tellLine_115 : decode cX9_tellLine 115 = .ok (.iload_n 1, 1) := by decide +kernel
theorem dX9_tellLine_116 : decode cX9_tellLine 116 = .ok (.imul, 1) := by decide +kernel
theorem dX9_tellLine_117 : decode cX9_tellLine 117 = .ok (.iload_n 2, 1) := by decide +kernel
theorem dX9_tellLine_118 : decode cX9_tellLine 118 = .ok (.iadd, 1) := by decide +kernel
theorem dX9_tellLine_119 : decode cX9_tellLine 119 = .ok (.iaload, 1) := by decide +kernel
theorem dX9_tellLine_120 : decode cX9_tellLine 120 = .ok (.ireturn, 1) := by decide +kernel
theorem dX9_tellLine_121 : decode cX9_tellLine 121 = .ok (.aload_n 0, 1) := by decide +kernel
theorem dX9_tellLine_122 : decode cX9_tellLine 122 = .ok (.getfield 25, 3) := by decide +kernel
theorem dX9_tellLine_125 : decode cX9_tellLine 125 = .ok (.bipush 16, 2) := by decide +kernel
theorem dX9_tellLine_127 : decode cX9_tellLine 127 = .ok (.iload_n 1, 1) := by decide +kernel
theorem dX9_tellLine_128 : decode cX9_tellLine 128 = .ok (.imul, 1) := by decide +kernel
theorem dX9_tellLine_129 : decode cX9_tellLine 129 = .ok (.iload_n 2, 1) := by decide +kernel
theorem dX9_tellLine_130 : decode cX9_tellLine 130 = .ok (.iadd, 1) := by decide +kernel
theorem dX9_tellLine_131 : decode cX9_tellLine 131 = .ok (.iaload, 1) := by decide +kernel
theorem dX9_tellLine_132 : decode cX9_tellLine 132 = .ok (.iconst (-1), 1) := by decide +kernel
theorem dX9_tellLine_133 : decode cX9_tellLine 133 = .ok (.if_icmp .ne 7, 3) := by decide +kernel
theorem dX9_tellLine_136 : decode cX9_tellLine 136 = .ok (.iconst 0, 1) := by decide +kernel
theorem dX9_tellLine_137 : decode cX9_tellLine 137 = .ok (.goto 4, 3) := by decide +kernel
theorem dX9_tellLine_140 : decode cX9_tellLine 140 = .ok (.iconst 1, 1) := by decide +kernel
theorem dX9_tellLine_141 : decode cX9_tellLine 141 = .ok (.ireturn, 1) := by decide +kernel
theorem dX9_tellLine_142 : decode cX9_tellLine 142 = .ok (.bipush (-102), 2) := by decide +kernel
theorem dX9_tellLine_144 : decode cX9_tellLine 144 = .ok (.ireturn, 1) := by decide +kernel
theorem dX9_line_0 : decode cX9_line 0 = .ok (.aload_n 0, 1) := by decide +kernel
theorem dX9_line_1 : decode cX9_line 1 = .ok (.iload_n 1, 1) := by decide +kernel
theorem dX9_line_2 : decode cX9_line 2 = .ok (.iload_n 2, 1) := by decide +kernel
theorem dX9_line_3 : decode cX9_line 3 = .ok (.invokevirtual 191, 3) := by decide +kernel
theorem dX9_line_6 : decode cX9_line 6 = .ok (.ifCond .eq 13, 3) := by decide +kernel
theorem dX9_line_9 : decode cX9_line 9 = .ok (.aload_n 0, 1) := by decide +kernel
theorem dX9_line_10 : decode cX9_line 10 = .ok (.iload_n 1, 1) := by decide +kernel
theorem dX9_line_11 : decode cX9_line 11 = .ok (.iload_n 2, 1) := by decide +kernel
theorem dX9_line_12 : decode cX9_line 12 = .ok (.iload_n 3, 1) := by decide +kernel
theorem dX9_line_13 : decode cX9_line 13 = .ok (.invokevirtual 233, 3) := by decide +kernel
theorem dX9_line_16 : decode cX9_line 16 = .ok (.goto 5, 3) := by decide +kernel
theorem dX9_line_19 : decode cX9_line 19 = .ok (.bipush (-101), 2) := by decide +kernel
theorem dX9_line_21 : decode cX9_line 21 = .ok (.ireturn, 1) := by decide +kernel
theorem dX9_rackedOf_0 : decode cX9_rackedOf 0 = .ok (.iconst 0, 1) := by decide +kernel
theorem dX9_rackedOf_1 : decode cX9_rackedOf 1 = .ok (.istore_n 2, 1) := by decide +kernel
theorem dX9_rackedOf_2 : decode cX9_rackedOf 2 = .ok (.iload_n 2, 1) := by decide +kernel
theorem dX9_rackedOf_3 : decode cX9_rackedOf 3 = .ok (.iconst 3, 1) := by decide +kernel
theorem dX9_rackedOf_4 : decode cX9_rackedOf 4 = .ok (.if_icmp .ge 23, 3) := by decide +kernel
theorem dX9_rackedOf_7 : decode cX9_rackedOf 7 = .ok (.aload_n 0, 1) := by decide +kernel
theorem dX9_rackedOf_8 : decode cX9_rackedOf 8 = .ok (.getfield 52, 3) := by decide +kernel
theorem dX9_rackedOf_11 : decode cX9_rackedOf 11 = .ok (.iconst 3, 1) := by decide +kernel
theorem dX9_rackedOf_12 : decode cX9_rackedOf 12 = .ok (.iload_n 1, 1) := by decide +kernel
theorem dX9_rackedOf_13 : decode cX9_rackedOf 13 = .ok (.imul, 1) := by decide +kernel
theorem dX9_rackedOf_14 : decode cX9_rackedOf 14 = .ok (.iload_n 2, 1) := by decide +kernel
theorem dX9_rackedOf_15 : decode cX9_rackedOf 15 = .ok (.iadd, 1) := by decide +kernel
theorem dX9_rackedOf_16 : decode cX9_rackedOf 16 = .ok (.iaload, 1) := by decide +kernel
theorem dX9_rackedOf_17 : decode cX9_rackedOf 17 = .ok (.iconst (-1), 1) := by decide +kernel
theorem dX9_rackedOf_18 : decode cX9_rackedOf 18 = .ok (.if_icmp .eq 9, 3) := by decide +kernel
theorem dX9_rackedOf_21 : decode cX9_rackedOf 21 = .ok (.iinc 2 1, 3) := by decide +kernel
theorem dX9_rackedOf_24 : decode cX9_rackedOf 24 = .ok (.goto (-22), 3) := by decide +kernel
theorem dX9_rackedOf_27 : decode cX9_rackedOf 27 = .ok (.iload_n 2, 1) := by decide +kernel
theorem dX9_rackedOf_28 : decode cX9_rackedOf 28 = .ok (.ireturn, 1) := by decide +kernel
theorem dX9_isOf_0 : decode cX9_isOf 0 = .ok (.iload_n 1, 1) := by decide +kernel
theorem dX9_isOf_1 : decode cX9_isOf 1 = .ok (.ifCond .eq 28, 3) := by decide +kernel
theorem dX9_isOf_4 : decode cX9_isOf 4 = .ok (.iload_n 0, 1) := by decide +kernel
theorem dX9_isOf_5 : decode cX9_isOf 5 = .ok (.iload_n 1, 1) := by decide +kernel
theorem dX9_isOf_6 : decode cX9_isOf 6 = .ok (.if_icmp .eq 23, 3) := by decide +kernel
theorem dX9_isOf_9 : decode cX9_isOf 9 = .ok (.iload_n 1, 1) := by decide +kernel
theorem dX9_isOf_10 : decode cX9_isOf 10 = .ok (.iconst 2, 1) := by decide +kernel
theorem dX9_isOf_11 : decode cX9_isOf 11 = .ok (.if_icmp .ne 8, 3) := by decide +kernel
theorem dX9_isOf_14 : decode cX9_isOf 14 = .ok (.iload_n 0, 1) := by decide +kernel
theorem dX9_isOf_15 : decode cX9_isOf 15 = .ok (.iconst 2, 1) := by decide +kernel
theorem dX9_isOf_16 : decode cX9_isOf 16 = .ok (.if_icmp .gt 13, 3) := by decide +kernel
theorem dX9_isOf_19 : decode cX9_isOf 19 = .ok (.iload_n 1, 1) := by decide +kernel
theorem dX9_isOf_20 : decode cX9_isOf 20 = .ok (.iconst 3, 1) := by decide +kernel
theorem dX9_isOf_21 : decode cX9_isOf 21 = .ok (.if_icmp .ne 12, 3) := by decide +kernel
theorem dX9_isOf_24 : decode cX9_isOf 24 = .ok (.iload_n 0, 1) := by decide +kernel
theorem dX9_isOf_25 : decode cX9_isOf 25 = .ok (.iconst 4, 1) := by decide +kernel
theorem dX9_isOf_26 : decode cX9_isOf 26 = .ok (.if_icmp .ne 7, 3) := by decide +kernel
theorem dX9_isOf_29 : decode cX9_isOf 29 = .ok (.iconst 1, 1) := by decide +kernel
theorem dX9_isOf_30 : decode cX9_isOf 30 = .ok (.goto 4, 3) := by decide +kernel
theorem dX9_isOf_33 : decode cX9_isOf 33 = .ok (.iconst 0, 1) := by decide +kernel
theorem dX9_isOf_34 : decode cX9_isOf 34 = .ok (.ireturn, 1) := by decide +kernel
theorem dX9_rack_0 : decode cX9_rack 0 = .ok (.aload_n 0, 1) := by decide +kernel
theorem dX9_rack_1 : decode cX9_rack 1 = .ok (.iload_n 1, 1) := by decide +kernel
theorem dX9_rack_2 : decode cX9_rack 2 = .ok (.invokevirtual 225, 3) := by decide +kernel
theorem dX9_rack_5 : decode cX9_rack 5 = .ok (.ifCond .ne 6, 3) := by decide +kernel
theorem dX9_rack_8 : decode cX9_rack 8 = .ok (.bipush (-101), 2) := by decide +kernel
theorem dX9_rack_10 : decode cX9_rack 10 = .ok (.ireturn, 1) := by decide +kernel
theorem dX9_rack_11 : decode cX9_rack 11 = .ok (.iload_n 2, 1) := by decide +kernel
theorem dX9_rack_12 : decode cX9_rack 12 = .ok (.i2l, 1) := by decide +kernel
theorem dX9_rack_13 : decode cX9_rack 13 = .ok (.lconst 0, 1) := by decide +kernel
theorem dX9_rack_14 : decode cX9_rack 14 = .ok (.ldc2_w 228, 3) := by decide +kernel
theorem dX9_rack_17 : decode cX9_rack 17 = .ok (.invokestatic 73, 3) := by decide +kernel
theorem dX9_rack_20 : decode cX9_rack 20 = .ok (.ifCond .ne 6, 3) := by decide +kernel
theorem dX9_rack_23 : decode cX9_rack 23 = .ok (.bipush (-102), 2) := by decide +kernel
theorem dX9_rack_25 : decode cX9_rack 25 = .ok (.ireturn, 1) := by decide +kernel
theorem dX9_rack_26 : decode cX9_rack 26 = .ok (.aload_n 0, 1) := by decide +kernel
theorem dX9_rack_27 : decode cX9_rack 27 = .ok (.iload_n 2, 1) := by decide +kernel
theorem dX9_rack_28 : decode cX9_rack 28 = .ok (.invokevirtual 236, 3) := by decide +kernel
theorem dX9_rack_31 : decode cX9_rack 31 = .ok (.istore_n 3, 1) := by decide +kernel
theorem dX9_rack_32 : decode cX9_rack 32 = .ok (.iload_n 3, 1) := by decide +kernel
theorem dX9_rack_33 : decode cX9_rack 33 = .ok (.iconst 3, 1) := by decide +kernel
theorem dX9_rack_34 : decode cX9_rack 34 = .ok (.if_icmp .ne 6, 3) := by decide +kernel
theorem dX9_rack_37 : decode cX9_rack 37 = .ok (.bipush (-104), 2) := by decide +kernel
theorem dX9_rack_39 : decode cX9_rack 39 = .ok (.ireturn, 1) := by decide +kernel
theorem dX9_rack_40 : decode cX9_rack 40 = .ok (.aload_n 0, 1) := by decide +kernel
theorem dX9_rack_41 : decode cX9_rack 41 = .ok (.getfield 46, 3) := by decide +kernel
theorem dX9_rack_44 : decode cX9_rack 44 = .ok (.iconst 5, 1) := by decide +kernel
theorem dX9_rack_45 : decode cX9_rack 45 = .ok (.iload_n 1, 1) := by decide +kernel
theorem dX9_rack_46 : decode cX9_rack 46 = .ok (.imul, 1) := by decide +kernel
theorem dX9_rack_47 : decode cX9_rack 47 = .ok (.iaload, 1) := by decide +kernel
theorem dX9_rack_48 : decode cX9_rack 48 = .ok (.iload_n 2, 1) := by decide +kernel
theorem dX9_rack_49 : decode cX9_rack 49 = .ok (.invokestatic 239, 3) := by decide +kernel
theorem dX9_rack_52 : decode cX9_rack 52 = .ok (.ifCond .ne 5, 3) := by decide +kernel
theorem dX9_rack_55 : decode cX9_rack 55 = .ok (.iconst (-1), 1) := by decide +kernel
theorem dX9_rack_56 : decode cX9_rack 56 = .ok (.ireturn, 1) := by decide +kernel
theorem dX9_rack_57 : decode cX9_rack 57 = .ok (.aload_n 0, 1) := by decide +kernel
theorem dX9_rack_58 : decode cX9_rack 58 = .ok (.getfield 52, 3) := by decide +kernel
theorem dX9_rack_61 : decode cX9_rack 61 = .ok (.iconst 3, 1) := by decide +kernel
theorem dX9_rack_62 : decode cX9_rack 62 = .ok (.iload_n 2, 1) := by decide +kernel
theorem dX9_rack_63 : decode cX9_rack 63 = .ok (.imul, 1) := by decide +kernel
theorem dX9_rack_64 : decode cX9_rack 64 = .ok (.iload_n 3, 1) := by decide +kernel
theorem dX9_rack_65 : decode cX9_rack 65 = .ok (.iadd, 1) := by decide +kernel
theorem dX9_rack_66 : decode cX9_rack 66 = .ok (.iload_n 1, 1) := by decide +kernel
theorem dX9_rack_67 : decode cX9_rack 67 = .ok (.iastore, 1) := by decide +kernel
theorem dX9_rack_68 : decode cX9_rack 68 = .ok (.iload_n 3, 1) := by decide +kernel
theorem dX9_rack_69 : decode cX9_rack 69 = .ok (.iconst 1, 1) := by decide +kernel
theorem dX9_rack_70 : decode cX9_rack 70 = .ok (.iadd, 1) := by decide +kernel
theorem dX9_rack_71 : decode cX9_rack 71 = .ok (.ireturn, 1) := by decide +kernel
theorem dX9_racked_0 : decode cX9_racked 0 = .ok (.iload_n 1, 1) := by decide +kernel
theorem dX9_racked_1 : decode cX9_racked 1 = .ok (.i2l, 1) := by decide +kernel
theorem dX9_racked_2 : decode cX9_racked 2 = .ok (.lconst 0, 1) := by decide +kernel
theorem dX9_racked_3 : decode cX9_racked 3 = .ok (.ldc2_w 228, 3) := by decide +kernel
theorem dX9_racked_6 : decode cX9_racked 6 = .ok (.invokestatic 73, 3) := by decide +kernel
theorem dX9_racked_9 : decode cX9_racked 9 = .ok (.ifCond .eq 28, 3) := by decide +kernel
theorem dX9_racked_12 : decode cX9_racked 12 = .ok (.iload_n 2, 1) := by decide +kernel
theorem dX9_racked_13 : decode cX9_racked 13 = .ok (.i2l, 1) := by decide +kernel
theorem dX9_racked_14 : decode cX9_racked 14 = .ok (.lconst 0, 1) := by decide +kernel
theorem dX9_racked_15 : decode cX9_racked 15 = .ok (.ldc2_w 175, 3) := by decide +kernel
theorem dX9_racked_18 : decode cX9_racked 18 = .ok (.invokestatic 73, 3) := by decide +kernel
theorem dX9_racked_21 : decode cX9_racked 21 = .ok (.ifCond .eq 16, 3) := by decide +kernel
theorem dX9_racked_24 : decode cX9_racked 24 = .ok (.aload_n 0, 1) := by decide +kernel
theorem dX9_racked_25 : decode cX9_racked 25 = .ok (.getfield 52, 3) := by decide +kernel
theorem dX9_racked_28 : decode cX9_racked 28 = .ok (.iconst 3, 1) := by decide +kernel
theorem dX9_racked_29 : decode cX9_racked 29 = .ok (.iload_n 1, 1) := by decide +kernel
theorem dX9_racked_30 : decode cX9_racked 30 = .ok (.imul, 1) := by decide +kernel
theorem dX9_racked_31 : decode cX9_racked 31 = .ok (.iload_n 2, 1) := by decide +kernel
theorem dX9_racked_32 : decode cX9_racked 32 = .ok (.iadd, 1) := by decide +kernel
theorem dX9_racked_33 : decode cX9_racked 33 = .ok (.iaload, 1) := by decide +kernel
theorem dX9_racked_34 : decode cX9_racked 34 = .ok (.goto 5, 3) := by decide +kernel
theorem dX9_racked_37 : decode cX9_racked 37 = .ok (.bipush (-102), 2) := by decide +kernel
theorem dX9_racked_39 : decode cX9_racked 39 = .ok (.ireturn, 1) := by decide +kernel
theorem dX9_isLetters_0 : decode cX9_isLetters 0 = .ok (.iload_n 0, 1) := by decide +kernel
theorem dX9_isLetters_1 : decode cX9_isLetters 1 = .ok (.ifCond .le 13, 3) := by decide +kernel
theorem dX9_isLetters_4 : decode cX9_isLetters 4 = .ok (.iload_n 0, 1) := by decide +kernel
theorem dX9_isLetters_5 : decode cX9_isLetters 5 = .ok (.ldc 242, 2) := by decide +kernel
theorem dX9_isLetters_7 : decode cX9_isLetters 7 = .ok (.if_icmp .ge 7, 3) := by decide +kernel
theorem dX9_isLetters_10 : decode cX9_isLetters 10 = .ok (.iconst 1, 1) := by decide +kernel
theorem dX9_isLetters_11 : decode cX9_isLetters 11 = .ok (.goto 4, 3) := by decide +kernel
theorem dX9_isLetters_14 : decode cX9_isLetters 14 = .ok (.iconst 0, 1) := by decide +kernel
theorem dX9_isLetters_15 : decode cX9_isLetters 15 = .ok (.istore_n 1, 1) := by decide +kernel
theorem dX9_isLetters_16 : decode cX9_isLetters 16 = .ok (.iload_n 0, 1) := by decide +kernel
theorem dX9_isLetters_17 : decode cX9_isLetters 17 = .ok (.istore_n 2, 1) := by decide +kernel
theorem dX9_isLetters_18 : decode cX9_isLetters 18 = .ok (.iload_n 1, 1) := by decide +kernel
theorem dX9_isLetters_19 : decode cX9_isLetters 19 = .ok (.ifCond .eq 32, 3) := by decide +kernel
theorem dX9_isLetters_22 : decode cX9_isLetters 22 = .ok (.iload_n 2, 1) := by decide +kernel
theorem dX9_isLetters_23 : decode cX9_isLetters 23 = .ok (.ifCond .le 28, 3) := by decide +kernel
theorem dX9_isLetters_26 : decode cX9_isLetters 26 = .ok (.iload_n 2, 1) := by decide +kernel
theorem dX9_isLetters_27 : decode cX9_isLetters 27 = .ok (.sipush 128, 3) := by decide +kernel
theorem dX9_isLetters_30 : decode cX9_isLetters 30 = .ok (.irem, 1) := by decide +kernel
theorem dX9_isLetters_31 : decode cX9_isLetters 31 = .ok (.i2l, 1) := by decide +kernel
theorem dX9_isLetters_32 : decode cX9_isLetters 32 = .ok (.ldc2_w 80, 3) := by decide +kernel
theorem dX9_isLetters_35 : decode cX9_isLetters 35 = .ok (.ldc2_w 82, 3) := by decide +kernel
theorem dX9_isLetters_38 : decode cX9_isLetters 38 = .ok (.invokestatic 73, 3) := by decide +kernel
theorem dX9_isLetters_41 : decode cX9_isLetters 41 = .ok (.istore_n 1, 1) := by decide +kernel
theorem dX9_isLetters_42 : decode cX9_isLetters 42 = .ok (.iload_n 2, 1) := by decide +kernel
theorem dX9_isLetters_43 : decode cX9_isLetters 43 = .ok (.sipush 128, 3) := by decide +kernel
theorem dX9_isLetters_46 : decode cX9_isLetters 46 = .ok (.idiv, 1) := by decide +kernel
theorem dX9_isLetters_47 : decode cX9_isLetters 47 = .ok (.istore_n 2, 1) := by decide +kernel
theorem dX9_isLetters_48 : decode cX9_isLetters 48 = .ok (.goto (-30), 3) := by decide +kernel
theorem dX9_isLetters_51 : decode cX9_isLetters 51 = .ok (.iload_n 1, 1) := by decide +kernel
theorem dX9_isLetters_52 : decode cX9_isLetters 52 = .ok (.ireturn, 1) := by decide +kernel
theorem dX9_insert_0 : decode cX9_insert 0 = .ok (.aload_n 0, 1) := by decide +kernel
theorem dX9_insert_1 : decode cX9_insert 1 = .ok (.getfield 22, 3) := by decide +kernel
theorem dX9_insert_4 : decode cX9_insert 4 = .ok (.iload_n 1, 1) := by decide +kernel
theorem dX9_insert_5 : decode cX9_insert 5 = .ok (.iaload, 1) := by decide +kernel
theorem dX9_insert_6 : decode cX9_insert 6 = .ok (.istore 4, 2) := by decide +kernel
theorem dX9_insert_8 : decode cX9_insert 8 = .ok (.iload 4, 2) := by decide +kernel
theorem dX9_insert_10 : decode cX9_insert 10 = .ok (.iload_n 2, 1) := by decide +kernel
theorem dX9_insert_11 : decode cX9_insert 11 = .ok (.if_icmp .le 35, 3) := by decide +kernel
theorem dX9_insert_14 : decode cX9_insert 14 = .ok (.aload_n 0, 1) := by decide +kernel
theorem dX9_insert_15 : decode cX9_insert 15 = .ok (.getfield 19, 3) := by decide +kernel
theorem dX9_insert_18 : decode cX9_insert 18 = .ok (.bipush 16, 2) := by decide +kernel
theorem dX9_insert_20 : decode cX9_insert 20 = .ok (.iload_n 1, 1) := by decide +kernel
theorem dX9_insert_21 : decode cX9_insert 21 = .ok (.imul, 1) := by decide +kernel
theorem dX9_insert_22 : decode cX9_insert 22 = .ok (.iload 4, 2) := by decide +kernel
theorem dX9_insert_24 : decode cX9_insert 24 = .ok (.iadd, 1) := by decide +kernel
theorem dX9_insert_25 : decode cX9_insert 25 = .ok (.aload_n 0, 1) := by decide +kernel
theorem dX9_insert_26 : decode cX9_insert 26 = .ok (.getfield 19, 3) := by decide +kernel
theorem dX9_insert_29 : decode cX9_insert 29 = .ok (.bipush 16, 2) := by decide +kernel
theorem dX9_insert_31 : decode cX9_insert 31 = .ok (.iload_n 1, 1) := by decide +kernel
theorem dX9_insert_32 : decode cX9_insert 32 = .ok (.imul, 1) := by decide +kernel
theorem dX9_insert_33 : decode cX9_insert 33 = .ok (.iload 4, 2) := by decide +kernel
theorem dX9_insert_35 : decode cX9_insert 35 = .ok (.iadd, 1) := by decide +kernel
theorem dX9_insert_36 : decode cX9_insert 36 = .ok (.iconst 1, 1) := by decide +kernel
theorem dX9_insert_37 : decode cX9_insert 37 = .ok (.isub, 1) := by decide +kernel
theorem dX9_insert_38 : decode cX9_insert 38 = .ok (.iaload, 1) := by decide +kernel
theorem dX9_insert_39 : decode cX9_insert 39 = .ok (.iastore, 1) := by decide +kernel
theorem dX9_insert_40 : decode cX9_insert 40 = .ok (.iinc 4 (-1), 3) := by decide +kernel
theorem dX9_insert_43 : decode cX9_insert 43 = .ok (.goto (-35), 3) := by decide +kernel
theorem dX9_insert_46 : decode cX9_insert 46 = .ok (.aload_n 0, 1) := by decide +kernel
theorem dX9_insert_47 : decode cX9_insert 47 = .ok (.getfield 19, 3) := by decide +kernel
theorem dX9_insert_50 : decode cX9_insert 50 = .ok (.bipush 16, 2) := by decide +kernel
theorem dX9_insert_52 : decode cX9_insert 52 = .ok (.iload_n 1, 1) := by decide +kernel
theorem dX9_insert_53 : decode cX9_insert 53 = .ok (.imul, 1) := by decide +kernel
theorem dX9_insert_54 : decode cX9_insert 54 = .ok (.iload_n 2, 1) := by decide +kernel
theorem dX9_insert_55 : decode cX9_insert 55 = .ok (.iadd, 1) := by decide +kernel
theorem dX9_insert_56 : decode cX9_insert 56 = .ok (.iload_n 3, 1) := by decide +kernel
theorem dX9_insert_57 : decode cX9_insert 57 = .ok (.iastore, 1) := by decide +kernel
theorem dX9_insert_58 : decode cX9_insert 58 = .ok (.aload_n 0, 1) := by decide +kernel
theorem dX9_insert_59 : decode cX9_insert 59 = .ok (.getfield 22, 3) := by decide +kernel
theorem dX9_insert_62 : decode cX9_insert 62 = .ok (.iload_n 1, 1) := by decide +kernel
theorem dX9_insert_63 : decode cX9_insert 63 = .ok (.dup2, 1) := by decide +kernel
theorem dX9_insert_64 : decode cX9_insert 64 = .ok (.iaload, 1) := by decide +kernel
theorem dX9_insert_65 : decode cX9_insert 65 = .ok (.iconst 1, 1) := by decide +kernel
theorem dX9_insert_66 : decode cX9_insert 66 = .ok (.iadd, 1) := by decide +kernel
theorem dX9_insert_67 : decode cX9_insert 67 = .ok (.iastore, 1) := by decide +kernel
theorem dX9_insert_68 : decode cX9_insert 68 = .ok (.return_, 1) := by decide +kernel
theorem dX9_remove_0 : decode cX9_remove 0 = .ok (.iload_n 2, 1) := by decide +kernel
theorem dX9_remove_1 : decode cX9_remove 1 = .ok (.istore_n 3, 1) := by decide +kernel
theorem dX9_remove_2 : decode cX9_remove 2 = .ok (.iload_n 3, 1) := by decide +kernel
theorem dX9_remove_3 : decode cX9_remove 3 = .ok (.aload_n 0, 1) := by decide +kernel
theorem dX9_remove_4 : decode cX9_remove 4 = .ok (.getfield 22, 3) := by decide +kernel
theorem dX9_remove_7 : decode cX9_remove 7 = .ok (.iload_n 1, 1) := by decide +kernel
theorem dX9_remove_8 : decode cX9_remove 8 = .ok (.iaload, 1) := by decide +kernel
theorem dX9_remove_9 : decode cX9_remove 9 = .ok (.iconst 1, 1) := by decide +kernel
theorem dX9_remove_10 : decode cX9_remove 10 = .ok (.isub, 1) := by decide +kernel
theorem dX9_remove_11 : decode cX9_remove 11 = .ok (.if_icmp .ge 33, 3) := by decide +kernel
theorem dX9_remove_14 : decode cX9_remove 14 = .ok (.aload_n 0, 1) := by decide +kernel
theorem dX9_remove_15 : decode cX9_remove 15 = .ok (.getfield 19, 3) := by decide +kernel
theorem dX9_remove_18 : decode cX9_remove 18 = .ok (.bipush 16, 2) := by decide +kernel
theorem dX9_remove_20 : decode cX9_remove 20 = .ok (.iload_n 1, 1) := by decide +kernel
theorem dX9_remove_21 : decode cX9_remove 21 = .ok (.imul, 1) := by decide +kernel
theorem dX9_remove_22 : decode cX9_remove 22 = .ok (.iload_n 3, 1) := by decide +kernel
theorem dX9_remove_23 : decode cX9_remove 23 = .ok (.iadd, 1) := by decide +kernel
theorem dX9_remove_24 : decode cX9_remove 24 = .ok (.aload_n 0, 1) := by decide +kernel
theorem dX9_remove_25 : decode cX9_remove 25 = .ok (.getfield 19, 3) := by decide +kernel
theorem dX9_remove_28 : decode cX9_remove 28 = .ok (.bipush 16, 2) := by decide +kernel
theorem dX9_remove_30 : decode cX9_remove 30 = .ok (.iload_n 1, 1) := by decide +kernel
theorem dX9_remove_31 : decode cX9_remove 31 = .ok (.imul, 1) := by decide +kernel
theorem dX9_remove_32 : decode cX9_remove 32 = .ok (.iload_n 3, 1) := by decide +kernel
theorem dX9_remove_33 : decode cX9_remove 33 = .ok (.iadd, 1) := by decide +kernel
theorem dX9_remove_34 : decode cX9_remove 34 = .ok (.iconst 1, 1) := by decide +kernel
theorem dX9_remove_35 : decode cX9_remove 35 = .ok (.iadd, 1) := by decide +kernel
theorem dX9_remove_36 : decode cX9_remove 36 = .ok (.iaload, 1) := by decide +kernel
theorem dX9_remove_37 : decode cX9_remove 37 = .ok (.iastore, 1) := by decide +kernel
theorem dX9_remove_38 : decode cX9_remove 38 = .ok (.iinc 3 1, 3) := by decide +kernel
theorem dX9_remove_41 : decode cX9_remove 41 = .ok (.goto (-39), 3) := by decide +kernel
theorem dX9_remove_44 : decode cX9_remove 44 = .ok (.aload_n 0, 1) := by decide +kernel
theorem dX9_remove_45 : decode cX9_remove 45 = .ok (.getfield 22, 3) := by decide +kernel
theorem dX9_remove_48 : decode cX9_remove 48 = .ok (.iload_n 1, 1) := by decide +kernel
theorem dX9_remove_49 : decode cX9_remove 49 = .ok (.dup2, 1) := by decide +kernel
theorem dX9_remove_50 : decode cX9_remove 50 = .ok (.iaload, 1) := by decide +kernel
theorem dX9_remove_51 : decode cX9_remove 51 = .ok (.iconst 1, 1) := by decide +kernel
theorem dX9_remove_52 : decode cX9_remove 52 = .ok (.isub, 1) := by decide +kernel
theorem dX9_remove_53 : decode cX9_remove 53 = .ok (.iastore, 1) := by decide +kernel
theorem dX9_remove_54 : decode cX9_remove 54 = .ok (.return_, 1) := by decide +kernel
theorem dX9_put_0 : decode cX9_put 0 = .ok (.iload_n 1, 1) := by decide +kernel
theorem dX9_put_1 : decode cX9_put 1 = .ok (.invokestatic 115, 3) := by decide +kernel
theorem dX9_put_4 : decode cX9_put 4 = .ok (.ifCond .eq 19, 3) := by decide +kernel
theorem dX9_put_7 : decode cX9_put 7 = .ok (.iload_n 2, 1) := by decide +kernel
theorem dX9_put_8 : decode cX9_put 8 = .ok (.i2l, 1) := by decide +kernel
theorem dX9_put_9 : decode cX9_put 9 = .ok (.lconst 0, 1) := by decide +kernel
theorem dX9_put_10 : decode cX9_put 10 = .ok (.aload_n 0, 1) := by decide +kernel
theorem dX9_put_11 : decode cX9_put 11 = .ok (.getfield 22, 3) := by decide +kernel
theorem dX9_put_14 : decode cX9_put 14 = .ok (.iload_n 1, 1) := by decide +kernel
theorem dX9_put_15 : decode cX9_put 15 = .ok (.iaload, 1) := by decide +kernel
theorem dX9_put_16 : decode cX9_put 16 = .ok (.i2l, 1) := by decide +kernel
theorem dX9_put_17 : decode cX9_put 17 = .ok (.invokestatic 73, 3) := by decide +kernel
theorem dX9_put_20 : decode cX9_put 20 = .ok (.ifCond .ne 6, 3) := by decide +kernel
theorem dX9_put_23 : decode cX9_put 23 = .ok (.bipush (-101), 2) := by decide +kernel
theorem dX9_put_25 : decode cX9_put 25 = .ok (.ireturn, 1) := by decide +kernel
theorem dX9_put_26 : decode cX9_put 26 = .ok (.iload_n 3, 1) := by decide +kernel
theorem dX9_put_27 : decode cX9_put 27 = .ok (.invokestatic 243, 3) := by decide +kernel
theorem dX9_put_30 : decode cX9_put 30 = .ok (.ifCond .ne 6, 3) := by decide +kernel
theorem dX9_put_33 : decode cX9_put 33 = .ok (.bipush (-102), 2) := by decide +kernel
theorem dX9_put_35 : decode cX9_put 35 = .ok (.ireturn, 1) := by decide +kernel
theorem dX9_put_36 : decode cX9_put 36 = .ok (.aload_n 0, 1) := by decide +kernel
theorem dX9_put_37 : decode cX9_put 37 = .ok (.getfield 106, 3) := by decide +kernel
theorem dX9_put_40 : decode cX9_put 40 = .ok (.ifCond .ne 6, 3) := by decide +kernel
theorem dX9_put_43 : decode cX9_put 43 = .ok (.bipush (-103), 2) := by decide +kernel
theorem dX9_put_45 : decode cX9_put 45 = .ok (.ireturn, 1) := by decide +kernel
theorem dX9_put_46 : decode cX9_put 46 = .ok (.aload_n 0, 1) := by decide +kernel
theorem dX9_put_47 : decode cX9_put 47 = .ok (.getfield 22, 3) := by decide +kernel
theorem dX9_put_50 : decode cX9_put 50 = .ok (.iload_n 1, 1) := by decide +kernel
theorem dX9_put_51 : decode cX9_put 51 = .ok (.iaload, 1) := by decide +kernel
theorem dX9_put_52 : decode cX9_put 52 = .ok (.bipush 8, 2) := by decide +kernel
theorem dX9_put_54 : decode cX9_put 54 = .ok (.if_icmp .ne 6, 3) := by decide +kernel
theorem dX9_put_57 : decode cX9_put 57 = .ok (.bipush (-104), 2) := by decide +kernel
theorem dX9_put_59 : decode cX9_put 59 = .ok (.ireturn, 1) := by decide +kernel
theorem dX9_put_60 : decode cX9_put 60 = .ok (.aload_n 0, 1) := by decide +kernel
theorem dX9_put_61 : decode cX9_put 61 = .ok (.iload_n 1, 1) := by decide +kernel
theorem dX9_put_62 : decode cX9_put 62 = .ok (.iload_n 2, 1) := by decide +kernel
theorem dX9_put_63 : decode cX9_put 63 = .ok (.iload_n 3, 1) := by decide +kernel
theorem dX9_put_64 : decode cX9_put 64 = .ok (.invokevirtual 246, 3) := by decide +kernel
theorem dX9_put_67 : decode cX9_put 67 = .ok (.aload_n 0, 1) := by decide +kernel
theorem dX9_put_68 : decode cX9_put 68 = .ok (.invokevirtual 112, 3) := by decide +kernel
theorem dX9_put_71 : decode cX9_put 71 = .ok (.aload_n 0, 1) := by decide +kernel
theorem dX9_put_72 : decode cX9_put 72 = .ok (.getfield 197, 3) := by decide +kernel
theorem dX9_put_75 : decode cX9_put 75 = .ok (.ireturn, 1) := by decide +kernel
theorem dX9_take_0 : decode cX9_take 0 = .ok (.aload_n 0, 1) := by decide +kernel
theorem dX9_take_1 : decode cX9_take 1 = .ok (.iload_n 1, 1) := by decide +kernel
theorem dX9_take_2 : decode cX9_take 2 = .ok (.iload_n 2, 1) := by decide +kernel
theorem dX9_take_3 : decode cX9_take 3 = .ok (.invokevirtual 191, 3) := by decide +kernel
theorem dX9_take_6 : decode cX9_take 6 = .ok (.ifCond .ne 6, 3) := by decide +kernel
theorem dX9_take_9 : decode cX9_take 9 = .ok (.bipush (-101), 2) := by decide +kernel
theorem dX9_take_11 : decode cX9_take 11 = .ok (.ireturn, 1) := by decide +kernel
theorem dX9_take_12 : decode cX9_take 12 = .ok (.aload_n 0, 1) := by decide +kernel
theorem dX9_take_13 : decode cX9_take 13 = .ok (.iload_n 1, 1) := by decide +kernel
theorem dX9_take_14 : decode cX9_take 14 = .ok (.iload_n 2, 1) := by decide +kernel
theorem dX9_take_15 : decode cX9_take 15 = .ok (.invokevirtual 249, 3) := by decide +kernel
theorem dX9_take_18 : decode cX9_take 18 = .ok (.aload_n 0, 1) := by decide +kernel
theorem dX9_take_19 : decode cX9_take 19 = .ok (.invokevirtual 112, 3) := by decide +kernel
theorem dX9_take_22 : decode cX9_take 22 = .ok (.aload_n 0, 1) := by decide +kernel
theorem dX9_take_23 : decode cX9_take 23 = .ok (.getfield 197, 3) := by decide +kernel
theorem dX9_take_26 : decode cX9_take 26 = .ok (.ireturn, 1) := by decide +kernel
theorem dX9_swap_0 : decode cX9_swap 0 = .ok (.aload_n 0, 1) := by decide +kernel
theorem dX9_swap_1 : decode cX9_swap 1 = .ok (.iload_n 1, 1) := by decide +kernel
theorem dX9_swap_2 : decode cX9_swap 2 = .ok (.iload_n 2, 1) := by decide +kernel
theorem dX9_swap_3 : decode cX9_swap 3 = .ok (.invokevirtual 191, 3) := by decide +kernel
theorem dX9_swap_6 : decode cX9_swap 6 = .ok (.ifCond .eq 17, 3) := by decide +kernel
theorem dX9_swap_9 : decode cX9_swap 9 = .ok (.aload_n 0, 1) := by decide +kernel
theorem dX9_swap_10 : decode cX9_swap 10 = .ok (.iload_n 1, 1) := by decide +kernel
theorem dX9_swap_11 : decode cX9_swap 11 = .ok (.iload_n 3, 1) := by decide +kernel
theorem dX9_swap_12 : decode cX9_swap 12 = .ok (.invokevirtual 191, 3) := by decide +kernel
theorem dX9_swap_15 : decode cX9_swap 15 = .ok (.ifCond .eq 8, 3) := by decide +kernel
theorem dX9_swap_18 : decode cX9_swap 18 = .ok (.iload_n 2, 1) := by decide +kernel
theorem dX9_swap_19 : decode cX9_swap 19 = .ok (.iload_n 3, 1) := by decide +kernel
theorem dX9_swap_20 : decode cX9_swap 20 = .ok (.if_icmp .ne 6, 3) := by decide +kernel
theorem dX9_swap_23 : decode cX9_swap 23 = .ok (.bipush (-101), 2) := by decide +kernel
theorem dX9_swap_25 : decode cX9_swap 25 = .ok (.ireturn, 1) := by decide +kernel
theorem dX9_swap_26 : decode cX9_swap 26 = .ok (.aload_n 0, 1) := by decide +kernel
theorem dX9_swap_27 : decode cX9_swap 27 = .ok (.getfield 19, 3) := by decide +kernel
theorem dX9_swap_30 : decode cX9_swap 30 = .ok (.bipush 16, 2) := by decide +kernel
theorem dX9_swap_32 : decode cX9_swap 32 = .ok (.iload_n 1, 1) := by decide +kernel
theorem dX9_swap_33 : decode cX9_swap 33 = .ok (.imul, 1) := by decide +kernel
theorem dX9_swap_34 : decode cX9_swap 34 = .ok (.iload_n 2, 1) := by decide +kernel
theorem dX9_swap_35 : decode cX9_swap 35 = .ok (.iadd, 1) := by decide +kernel
theorem dX9_swap_36 : decode cX9_swap 36 = .ok (.iaload, 1) := by decide +kernel
theorem dX9_swap_37 : decode cX9_swap 37 = .ok (.istore 4, 2) := by decide +kernel
theorem dX9_swap_39 : decode cX9_swap 39 = .ok (.aload_n 0, 1) := by decide +kernel
theorem dX9_swap_40 : decode cX9_swap 40 = .ok (.getfield 19, 3) := by decide +kernel
theorem dX9_swap_43 : decode cX9_swap 43 = .ok (.bipush 16, 2) := by decide +kernel
theorem dX9_swap_45 : decode cX9_swap 45 = .ok (.iload_n 1, 1) := by decide +kernel
theorem dX9_swap_46 : decode cX9_swap 46 = .ok (.imul, 1) := by decide +kernel
theorem dX9_swap_47 : decode cX9_swap 47 = .ok (.iload_n 2, 1) := by decide +kernel
theorem dX9_swap_48 : decode cX9_swap 48 = .ok (.iadd, 1) := by decide +kernel
theorem dX9_swap_49 : decode cX9_swap 49 = .ok (.aload_n 0, 1) := by decide +kernel
theorem dX9_swap_50 : decode cX9_swap 50 = .ok (.getfield 19, 3) := by decide +kernel
theorem dX9_swap_53 : decode cX9_swap 53 = .ok (.bipush 16, 2) := by decide +kernel
theorem dX9_swap_55 : decode cX9_swap 55 = .ok (.iload_n 1, 1) := by decide +kernel
theorem dX9_swap_56 : decode cX9_swap 56 = .ok (.imul, 1) := by decide +kernel
theorem dX9_swap_57 : decode cX9_swap 57 = .ok (.iload_n 3, 1) := by decide +kernel
theorem dX9_swap_58 : decode cX9_swap 58 = .ok (.iadd, 1) := by decide +kernel
theorem dX9_swap_59 : decode cX9_swap 59 = .ok (.iaload, 1) := by decide +kernel
theorem dX9_swap_60 : decode cX9_swap 60 = .ok (.iastore, 1) := by decide +kernel
theorem dX9_swap_61 : decode cX9_swap 61 = .ok (.aload_n 0, 1) := by decide +kernel
theorem dX9_swap_62 : decode cX9_swap 62 = .ok (.getfield 19, 3) := by decide +kernel
theorem dX9_swap_65 : decode cX9_swap 65 = .ok (.bipush 16, 2) := by decide +kernel
theorem dX9_swap_67 : decode cX9_swap 67 = .ok (.iload_n 1, 1) := by decide +kernel
theorem dX9_swap_68 : decode cX9_swap 68 = .ok (.imul, 1) := by decide +kernel
theorem dX9_swap_69 : decode cX9_swap 69 = .ok (.iload_n 3, 1) := by decide +kernel
theorem dX9_swap_70 : decode cX9_swap 70 = .ok (.iadd, 1) := by decide +kernel
theorem dX9_swap_71 : decode cX9_swap 71 = .ok (.iload 4, 2) := by decide +kernel
theorem dX9_swap_73 : decode cX9_swap 73 = .ok (.iastore, 1) := by decide +kernel
theorem dX9_swap_74 : decode cX9_swap 74 = .ok (.aload_n 0, 1) := by decide +kernel
theorem dX9_swap_75 : decode cX9_swap 75 = .ok (.invokevirtual 112, 3) := by decide +kernel
theorem dX9_swap_78 : decode cX9_swap 78 = .ok (.aload_n 0, 1) := by decide +kernel
theorem dX9_swap_79 : decode cX9_swap 79 = .ok (.getfield 197, 3) := by decide +kernel
theorem dX9_swap_82 : decode cX9_swap 82 = .ok (.ireturn, 1) := by decide +kernel
theorem dX9_turn_0 : decode cX9_turn 0 = .ok (.aload_n 0, 1) := by decide +kernel
theorem dX9_turn_1 : decode cX9_turn 1 = .ok (.getfield 106, 3) := by decide +kernel
theorem dX9_turn_4 : decode cX9_turn 4 = .ok (.ifCond .ne 6, 3) := by decide +kernel
theorem dX9_turn_7 : decode cX9_turn 7 = .ok (.bipush (-103), 2) := by decide +kernel
theorem dX9_turn_9 : decode cX9_turn 9 = .ok (.ireturn, 1) := by decide +kernel
theorem dX9_turn_10 : decode cX9_turn 10 = .ok (.iconst 0, 1) := by decide +kernel
theorem dX9_turn_11 : decode cX9_turn 11 = .ok (.istore_n 1, 1) := by decide +kernel
theorem dX9_turn_12 : decode cX9_turn 12 = .ok (.iload_n 1, 1) := by decide +kernel
theorem dX9_turn_13 : decode cX9_turn 13 = .ok (.bipush 8, 2) := by decide +kernel
theorem dX9_turn_15 : decode cX9_turn 15 = .ok (.if_icmp .ge 41, 3) := by decide +kernel
theorem dX9_turn_18 : decode cX9_turn 18 = .ok (.aload_n 0, 1) := by decide +kernel
theorem dX9_turn_19 : decode cX9_turn 19 = .ok (.getfield 19, 3) := by decide +kernel
theorem dX9_turn_22 : decode cX9_turn 22 = .ok (.iload_n 1, 1) := by decide +kernel
theorem dX9_turn_23 : decode cX9_turn 23 = .ok (.iaload, 1) := by decide +kernel
theorem dX9_turn_24 : decode cX9_turn 24 = .ok (.istore_n 2, 1) := by decide +kernel
theorem dX9_turn_25 : decode cX9_turn 25 = .ok (.aload_n 0, 1) := by decide +kernel
theorem dX9_turn_26 : decode cX9_turn 26 = .ok (.getfield 19, 3) := by decide +kernel
theorem dX9_turn_29 : decode cX9_turn 29 = .ok (.iload_n 1, 1) := by decide +kernel
theorem dX9_turn_30 : decode cX9_turn 30 = .ok (.aload_n 0, 1) := by decide +kernel
theorem dX9_turn_31 : decode cX9_turn 31 = .ok (.getfield 19, 3) := by decide +kernel
theorem dX9_turn_34 : decode cX9_turn 34 = .ok (.bipush 16, 2) := by decide +kernel
theorem dX9_turn_36 : decode cX9_turn 36 = .ok (.iload_n 1, 1) := by decide +kernel
theorem dX9_turn_37 : decode cX9_turn 37 = .ok (.iadd, 1) := by decide +kernel
theorem dX9_turn_38 : decode cX9_turn 38 = .ok (.iaload, 1) := by decide +kernel
theorem dX9_turn_39 : decode cX9_turn 39 = .ok (.iastore, 1) := by decide +kernel
theorem dX9_turn_40 : decode cX9_turn 40 = .ok (.aload_n 0, 1) := by decide +kernel
theorem dX9_turn_41 : decode cX9_turn 41 = .ok (.getfield 19, 3) := by decide +kernel
theorem dX9_turn_44 : decode cX9_turn 44 = .ok (.bipush 16, 2) := by decide +kernel
theorem dX9_turn_46 : decode cX9_turn 46 = .ok (.iload_n 1, 1) := by decide +kernel
theorem dX9_turn_47 : decode cX9_turn 47 = .ok (.iadd, 1) := by decide +kernel
theorem dX9_turn_48 : decode cX9_turn 48 = .ok (.iload_n 2, 1) := by decide +kernel
theorem dX9_turn_49 : decode cX9_turn 49 = .ok (.iastore, 1) := by decide +kernel
theorem dX9_turn_50 : decode cX9_turn 50 = .ok (.iinc 1 1, 3) := by decide +kernel
theorem dX9_turn_53 : decode cX9_turn 53 = .ok (.goto (-41), 3) := by decide +kernel
theorem dX9_turn_56 : decode cX9_turn 56 = .ok (.aload_n 0, 1) := by decide +kernel
theorem dX9_turn_57 : decode cX9_turn 57 = .ok (.getfield 22, 3) := by decide +kernel
theorem dX9_turn_60 : decode cX9_turn 60 = .ok (.iconst 0, 1) := by decide +kernel
theorem dX9_turn_61 : decode cX9_turn 61 = .ok (.iaload, 1) := by decide +kernel
theorem dX9_turn_62 : decode cX9_turn 62 = .ok (.istore_n 1, 1) := by decide +kernel
theorem dX9_turn_63 : decode cX9_turn 63 = .ok (.aload_n 0, 1) := by decide +kernel
theorem dX9_turn_64 : decode cX9_turn 64 = .ok (.getfield 22, 3) := by decide +kernel
theorem dX9_turn_67 : decode cX9_turn 67 = .ok (.iconst 0, 1) := by decide +kernel
theorem dX9_turn_68 : decode cX9_turn 68 = .ok (.aload_n 0, 1) := by decide +kernel
theorem dX9_turn_69 : decode cX9_turn 69 = .ok (.getfield 22, 3) := by decide +kernel
theorem dX9_turn_72 : decode cX9_turn 72 = .ok (.iconst 1, 1) := by decide +kernel
theorem dX9_turn_73 : decode cX9_turn 73 = .ok (.iaload, 1) := by decide +kernel
theorem dX9_turn_74 : decode cX9_turn 74 = .ok (.iastore, 1) := by decide +kernel
theorem dX9_turn_75 : decode cX9_turn 75 = .ok (.aload_n 0, 1) := by decide +kernel
theorem dX9_turn_76 : decode cX9_turn 76 = .ok (.getfield 22, 3) := by decide +kernel
theorem dX9_turn_79 : decode cX9_turn 79 = .ok (.iconst 1, 1) := by decide +kernel
theorem dX9_turn_80 : decode cX9_turn 80 = .ok (.iload_n 1, 1) := by decide +kernel
theorem dX9_turn_81 : decode cX9_turn 81 = .ok (.iastore, 1) := by decide +kernel
theorem dX9_turn_82 : decode cX9_turn 82 = .ok (.aload_n 0, 1) := by decide +kernel
theorem dX9_turn_83 : decode cX9_turn 83 = .ok (.invokevirtual 112, 3) := by decide +kernel
theorem dX9_turn_86 : decode cX9_turn 86 = .ok (.aload_n 0, 1) := by decide +kernel
theorem dX9_turn_87 : decode cX9_turn 87 = .ok (.getfield 197, 3) := by decide +kernel
theorem dX9_turn_90 : decode cX9_turn 90 = .ok (.ireturn, 1) := by decide +kernel
theorem dX9_keptMany_0 : decode cX9_keptMany 0 = .ok (.iconst 0, 1) := by decide +kernel
theorem dX9_keptMany_1 : decode cX9_keptMany 1 = .ok (.istore_n 1, 1) := by decide +kernel
theorem dX9_keptMany_2 : decode cX9_keptMany 2 = .ok (.iconst 0, 1) := by decide +kernel
theorem dX9_keptMany_3 : decode cX9_keptMany 3 = .ok (.istore_n 2, 1) := by decide +kernel
theorem dX9_keptMany_4 : decode cX9_keptMany 4 = .ok (.iload_n 2, 1) := by decide +kernel
theorem dX9_keptMany_5 : decode cX9_keptMany 5 = .ok (.aload_n 0, 1) := by decide +kernel
theorem dX9_keptMany_6 : decode cX9_keptMany 6 = .ok (.getfield 22, 3) := by decide +kernel
theorem dX9_keptMany_9 : decode cX9_keptMany 9 = .ok (.iconst 0, 1) := by decide +kernel
theorem dX9_keptMany_10 : decode cX9_keptMany 10 = .ok (.iaload, 1) := by decide +kernel
theorem dX9_keptMany_11 : decode cX9_keptMany 11 = .ok (.if_icmp .ge 27, 3) := by decide +kernel
theorem dX9_keptMany_14 : decode cX9_keptMany 14 = .ok (.iload_n 1, 1) := by decide +kernel
theorem dX9_keptMany_15 : decode cX9_keptMany 15 = .ok (.aload_n 0, 1) := by decide +kernel
theorem dX9_keptMany_16 : decode cX9_keptMany 16 = .ok (.getfield 25, 3) := by decide +kernel
theorem dX9_keptMany_19 : decode cX9_keptMany 19 = .ok (.iload_n 2, 1) := by decide +kernel
theorem dX9_keptMany_20 : decode cX9_keptMany 20 = .ok (.iaload, 1) := by decide +kernel
theorem dX9_keptMany_21 : decode cX9_keptMany 21 = .ok (.iconst (-1), 1) := by decide +kernel
theorem dX9_keptMany_22 : decode cX9_keptMany 22 = .ok (.if_icmp .ne 7, 3) := by decide +kernel
theorem dX9_keptMany_25 : decode cX9_keptMany 25 = .ok (.iconst 0, 1) := by decide +kernel
theorem dX9_keptMany_26 : decode cX9_keptMany 26 = .ok (.goto 4, 3) := by decide +kernel
theorem dX9_keptMany_29 : decode cX9_keptMany 29 = .ok (.iconst 1, 1) := by decide +kernel
theorem dX9_keptMany_30 : decode cX9_keptMany 30 = .ok (.iadd, 1) := by decide +kernel
theorem dX9_keptMany_31 : decode cX9_keptMany 31 = .ok (.istore_n 1, 1) := by decide +kernel
theorem dX9_keptMany_32 : decode cX9_keptMany 32 = .ok (.iinc 2 1, 3) := by decide +kernel
theorem dX9_keptMany_35 : decode cX9_keptMany 35 = .ok (.goto (-31), 3) := by decide +kernel
theorem dX9_keptMany_38 : decode cX9_keptMany 38 = .ok (.iload_n 1, 1) := by decide +kernel
theorem dX9_keptMany_39 : decode cX9_keptMany 39 = .ok (.ireturn, 1) := by decide +kernel
theorem dX9_costNow_0 : decode cX9_costNow 0 = .ok (.aload_n 0, 1) := by decide +kernel
theorem dX9_costNow_1 : decode cX9_costNow 1 = .ok (.getfield 22, 3) := by decide +kernel
theorem dX9_costNow_4 : decode cX9_costNow 4 = .ok (.iconst 0, 1) := by decide +kernel
theorem dX9_costNow_5 : decode cX9_costNow 5 = .ok (.iaload, 1) := by decide +kernel
theorem dX9_costNow_6 : decode cX9_costNow 6 = .ok (.aload_n 0, 1) := by decide +kernel
theorem dX9_costNow_7 : decode cX9_costNow 7 = .ok (.getfield 22, 3) := by decide +kernel
theorem dX9_costNow_10 : decode cX9_costNow 10 = .ok (.iconst 1, 1) := by decide +kernel
theorem dX9_costNow_11 : decode cX9_costNow 11 = .ok (.iaload, 1) := by decide +kernel
theorem dX9_costNow_12 : decode cX9_costNow 12 = .ok (.iadd, 1) := by decide +kernel
theorem dX9_costNow_13 : decode cX9_costNow 13 = .ok (.iconst 2, 1) := by decide +kernel
theorem dX9_costNow_14 : decode cX9_costNow 14 = .ok (.aload_n 0, 1) := by decide +kernel
theorem dX9_costNow_15 : decode cX9_costNow 15 = .ok (.invokevirtual 252, 3) := by decide +kernel
theorem dX9_costNow_18 : decode cX9_costNow 18 = .ok (.imul, 1) := by decide +kernel
theorem dX9_costNow_19 : decode cX9_costNow 19 = .ok (.isub, 1) := by decide +kernel
theorem dX9_costNow_20 : decode cX9_costNow 20 = .ok (.ireturn, 1) := by decide +kernel
theorem dX9_costOf_0 : decode cX9_costOf 0 = .ok (.iload_n 1, 1) := by decide +kernel
theorem dX9_costOf_1 : decode cX9_costOf 1 = .ok (.tableswitch 87 0 3 #[31, 36, 77, 82], 31) := by decide +kernel
theorem dX9_costOf_32 : decode cX9_costOf 32 = .ok (.aload_n 0, 1) := by decide +kernel
theorem dX9_costOf_33 : decode cX9_costOf 33 = .ok (.invokevirtual 255, 3) := by decide +kernel
theorem dX9_costOf_36 : decode cX9_costOf 36 = .ok (.ireturn, 1) := by decide +kernel
theorem dX9_costOf_37 : decode cX9_costOf 37 = .ok (.aload_n 0, 1) := by decide +kernel
theorem dX9_costOf_38 : decode cX9_costOf 38 = .ok (.iconst 0, 1) := by decide +kernel
theorem dX9_costOf_39 : decode cX9_costOf 39 = .ok (.aload_n 0, 1) := by decide +kernel
theorem dX9_costOf_40 : decode cX9_costOf 40 = .ok (.getfield 22, 3) := by decide +kernel
theorem dX9_costOf_43 : decode cX9_costOf 43 = .ok (.iconst 0, 1) := by decide +kernel
theorem dX9_costOf_44 : decode cX9_costOf 44 = .ok (.iaload, 1) := by decide +kernel
theorem dX9_costOf_45 : decode cX9_costOf 45 = .ok (.iconst 0, 1) := by decide +kernel
theorem dX9_costOf_46 : decode cX9_costOf 46 = .ok (.aload_n 0, 1) := by decide +kernel
theorem dX9_costOf_47 : decode cX9_costOf 47 = .ok (.getfield 22, 3) := by decide +kernel
theorem dX9_costOf_50 : decode cX9_costOf 50 = .ok (.iconst 1, 1) := by decide +kernel
theorem dX9_costOf_51 : decode cX9_costOf 51 = .ok (.iaload, 1) := by decide +kernel
theorem dX9_costOf_52 : decode cX9_costOf 52 = .ok (.invokevirtual 140, 3) := by decide +kernel
theorem dX9_costOf_55 : decode cX9_costOf 55 = .ok (.aload_n 0, 1) := by decide +kernel
theorem dX9_costOf_56 : decode cX9_costOf 56 = .ok (.getfield 22, 3) := by decide +kernel
theorem dX9_costOf_59 : decode cX9_costOf 59 = .ok (.iconst 0, 1) := by decide +kernel
theorem dX9_costOf_60 : decode cX9_costOf 60 = .ok (.iaload, 1) := by decide +kernel
theorem dX9_costOf_61 : decode cX9_costOf 61 = .ok (.aload_n 0, 1) := by decide +kernel
theorem dX9_costOf_62 : decode cX9_costOf 62 = .ok (.getfield 22, 3) := by decide +kernel
theorem dX9_costOf_65 : decode cX9_costOf 65 = .ok (.iconst 1, 1) := by decide +kernel
theorem dX9_costOf_66 : decode cX9_costOf 66 = .ok (.iaload, 1) := by decide +kernel
theorem dX9_costOf_67 : decode cX9_costOf 67 = .ok (.iadd, 1) := by decide +kernel
theorem dX9_costOf_68 : decode cX9_costOf 68 = .ok (.iconst 2, 1) := by decide +kernel
theorem dX9_costOf_69 : decode cX9_costOf 69 = .ok (.aload_n 0, 1) := by decide +kernel
theorem dX9_costOf_70 : decode cX9_costOf 70 = .ok (.getfield 40, 3) := by decide +kernel
theorem dX9_costOf_73 : decode cX9_costOf 73 = .ok (.iconst 0, 1) := by decide +kernel
theorem dX9_costOf_74 : decode cX9_costOf 74 = .ok (.iaload, 1) := by decide +kernel
theorem dX9_costOf_75 : decode cX9_costOf 75 = .ok (.imul, 1) := by decide +kernel
theorem dX9_costOf_76 : decode cX9_costOf 76 = .ok (.isub, 1) := by decide +kernel
theorem dX9_costOf_77 : decode cX9_costOf 77 = .ok (.ireturn, 1) := by decide +kernel
theorem dX9_costOf_78 : decode cX9_costOf 78 = .ok (.aload_n 0, 1) := by decide +kernel
theorem dX9_costOf_79 : decode cX9_costOf 79 = .ok (.getfield 157, 3) := by decide +kernel
theorem dX9_costOf_82 : decode cX9_costOf 82 = .ok (.ireturn, 1) := by decide +kernel
theorem dX9_costOf_83 : decode cX9_costOf 83 = .ok (.aload_n 0, 1) := by decide +kernel
theorem dX9_costOf_84 : decode cX9_costOf 84 = .ok (.getfield 133, 3) := by decide +kernel
theorem dX9_costOf_87 : decode cX9_costOf 87 = .ok (.ireturn, 1) := by decide +kernel
theorem dX9_costOf_88 : decode cX9_costOf 88 = .ok (.aload_n 0, 1) := by decide +kernel
theorem dX9_costOf_89 : decode cX9_costOf 89 = .ok (.getfield 203, 3) := by decide +kernel
theorem dX9_costOf_92 : decode cX9_costOf 92 = .ok (.ireturn, 1) := by decide +kernel
theorem dX9_cost_0 : decode cX9_cost 0 = .ok (.iload_n 1, 1) := by decide +kernel
theorem dX9_cost_1 : decode cX9_cost 1 = .ok (.i2l, 1) := by decide +kernel
theorem dX9_cost_2 : decode cX9_cost 2 = .ok (.lconst 0, 1) := by decide +kernel
theorem dX9_cost_3 : decode cX9_cost 3 = .ok (.ldc2_w 228, 3) := by decide +kernel
theorem dX9_cost_6 : decode cX9_cost 6 = .ok (.invokestatic 73, 3) := by decide +kernel
theorem dX9_cost_9 : decode cX9_cost 9 = .ok (.ifCond .ne 6, 3) := by decide +kernel
theorem dX9_cost_12 : decode cX9_cost 12 = .ok (.bipush (-102), 2) := by decide +kernel
theorem dX9_cost_14 : decode cX9_cost 14 = .ok (.ireturn, 1) := by decide +kernel
theorem dX9_cost_15 : decode cX9_cost 15 = .ok (.aload_n 0, 1) := by decide +kernel
theorem dX9_cost_16 : decode cX9_cost 16 = .ok (.getfield 106, 3) := by decide +kernel
theorem dX9_cost_19 : decode cX9_cost 19 = .ok (.ifCond .eq 11, 3) := by decide +kernel
theorem dX9_cost_22 : decode cX9_cost 22 = .ok (.aload_n 0, 1) := by decide +kernel
theorem dX9_cost_23 : decode cX9_cost 23 = .ok (.iload_n 1, 1) := by decide +kernel
theorem dX9_cost_24 : decode cX9_cost 24 = .ok (.invokevirtual 258, 3) := by decide +kernel
theorem dX9_cost_27 : decode cX9_cost 27 = .ok (.goto 5, 3) := by decide +kernel
theorem dX9_cost_30 : decode cX9_cost 30 = .ok (.bipush (-103), 2) := by decide +kernel
theorem dX9_cost_32 : decode cX9_cost 32 = .ok (.ireturn, 1) := by decide +kernel
theorem dX9_bestOf_0 : decode cX9_bestOf 0 = .ok (.iconst (-1), 1) := by decide +kernel
theorem dX9_bestOf_1 : decode cX9_bestOf 1 = .ok (.istore_n 2, 1) := by decide +kernel
theorem dX9_bestOf_2 : decode cX9_bestOf 2 = .ok (.bipush 99, 2) := by decide +kernel
theorem dX9_bestOf_4 : decode cX9_bestOf 4 = .ok (.istore_n 3, 1) := by decide +kernel
theorem dX9_bestOf_5 : decode cX9_bestOf 5 = .ok (.aload_n 0, 1) := by decide +kernel
theorem dX9_bestOf_6 : decode cX9_bestOf 6 = .ok (.getfield 22, 3) := by decide +kernel
theorem dX9_bestOf_9 : decode cX9_bestOf 9 = .ok (.iconst 1, 1) := by decide +kernel
theorem dX9_bestOf_10 : decode cX9_bestOf 10 = .ok (.iaload, 1) := by decide +kernel
theorem dX9_bestOf_11 : decode cX9_bestOf 11 = .ok (.istore 4, 2) := by decide +kernel
theorem dX9_bestOf_13 : decode cX9_bestOf 13 = .ok (.iconst 0, 1) := by decide +kernel
theorem dX9_bestOf_14 : decode cX9_bestOf 14 = .ok (.istore 5, 2) := by decide +kernel
theorem dX9_bestOf_16 : decode cX9_bestOf 16 = .ok (.iload 5, 2) := by decide +kernel
theorem dX9_bestOf_18 : decode cX9_bestOf 18 = .ok (.iload 4, 2) := by decide +kernel
theorem dX9_bestOf_20 : decode cX9_bestOf 20 = .ok (.if_icmp .gt 60, 3) := by decide +kernel
theorem dX9_bestOf_23 : decode cX9_bestOf 23 = .ok (.aload_n 0, 1) := by decide +kernel
theorem dX9_bestOf_24 : decode cX9_bestOf 24 = .ok (.iconst 1, 1) := by decide +kernel
theorem dX9_bestOf_25 : decode cX9_bestOf 25 = .ok (.iload 5, 2) := by decide +kernel
theorem dX9_bestOf_27 : decode cX9_bestOf 27 = .ok (.iload_n 1, 1) := by decide +kernel
theorem dX9_bestOf_28 : decode cX9_bestOf 28 = .ok (.invokevirtual 246, 3) := by decide +kernel
theorem dX9_bestOf_31 : decode cX9_bestOf 31 = .ok (.aload_n 0, 1) := by decide +kernel
theorem dX9_bestOf_32 : decode cX9_bestOf 32 = .ok (.invokevirtual 209, 3) := by decide +kernel
theorem dX9_bestOf_35 : decode cX9_bestOf 35 = .ok (.aload_n 0, 1) := by decide +kernel
theorem dX9_bestOf_36 : decode cX9_bestOf 36 = .ok (.invokevirtual 255, 3) := by decide +kernel
theorem dX9_bestOf_39 : decode cX9_bestOf 39 = .ok (.iload_n 3, 1) := by decide +kernel
theorem dX9_bestOf_40 : decode cX9_bestOf 40 = .ok (.if_icmp .ge 8, 3) := by decide +kernel
theorem dX9_bestOf_43 : decode cX9_bestOf 43 = .ok (.iload 5, 2) := by decide +kernel
theorem dX9_bestOf_45 : decode cX9_bestOf 45 = .ok (.goto 4, 3) := by decide +kernel
theorem dX9_bestOf_48 : decode cX9_bestOf 48 = .ok (.iload_n 2, 1) := by decide +kernel
theorem dX9_bestOf_49 : decode cX9_bestOf 49 = .ok (.istore_n 2, 1) := by decide +kernel
theorem dX9_bestOf_50 : decode cX9_bestOf 50 = .ok (.aload_n 0, 1) := by decide +kernel
theorem dX9_bestOf_51 : decode cX9_bestOf 51 = .ok (.invokevirtual 255, 3) := by decide +kernel
theorem dX9_bestOf_54 : decode cX9_bestOf 54 = .ok (.iload_n 3, 1) := by decide +kernel
theorem dX9_bestOf_55 : decode cX9_bestOf 55 = .ok (.if_icmp .ge 10, 3) := by decide +kernel
theorem dX9_bestOf_58 : decode cX9_bestOf 58 = .ok (.aload_n 0, 1) := by decide +kernel
theorem dX9_bestOf_59 : decode cX9_bestOf 59 = .ok (.invokevirtual 255, 3) := by decide +kernel
theorem dX9_bestOf_62 : decode cX9_bestOf 62 = .ok (.goto 4, 3) := by decide +kernel
theorem dX9_bestOf_65 : decode cX9_bestOf 65 = .ok (.iload_n 3, 1) := by decide +kernel
theorem dX9_bestOf_66 : decode cX9_bestOf 66 = .ok (.istore_n 3, 1) := by decide +kernel
theorem dX9_bestOf_67 : decode cX9_bestOf 67 = .ok (.aload_n 0, 1) := by decide +kernel
theorem dX9_bestOf_68 : decode cX9_bestOf 68 = .ok (.iconst 1, 1) := by decide +kernel
theorem dX9_bestOf_69 : decode cX9_bestOf 69 = .ok (.iload 5, 2) := by decide +kernel
theorem dX9_bestOf_71 : decode cX9_bestOf 71 = .ok (.invokevirtual 249, 3) := by decide +kernel
theorem dX9_bestOf_74 : decode cX9_bestOf 74 = .ok (.iinc 5 1, 3) := by decide +kernel
theorem dX9_bestOf_77 : decode cX9_bestOf 77 = .ok (.goto (-61), 3) := by decide +kernel
theorem dX9_bestOf_80 : decode cX9_bestOf 80 = .ok (.aload_n 0, 1) := by decide +kernel
theorem dX9_bestOf_81 : decode cX9_bestOf 81 = .ok (.invokevirtual 209, 3) := by decide +kernel
theorem dX9_bestOf_84 : decode cX9_bestOf 84 = .ok (.iload_n 2, 1) := by decide +kernel
theorem dX9_bestOf_85 : decode cX9_bestOf 85 = .ok (.ireturn, 1) := by decide +kernel
theorem dX9_best_0 : decode cX9_best 0 = .ok (.iload_n 1, 1) := by decide +kernel
theorem dX9_best_1 : decode cX9_best 1 = .ok (.invokestatic 243, 3) := by decide +kernel
theorem dX9_best_4 : decode cX9_best 4 = .ok (.ifCond .ne 6, 3) := by decide +kernel
theorem dX9_best_7 : decode cX9_best 7 = .ok (.bipush (-102), 2) := by decide +kernel
theorem dX9_best_9 : decode cX9_best 9 = .ok (.ireturn, 1) := by decide +kernel
theorem dX9_best_10 : decode cX9_best 10 = .ok (.aload_n 0, 1) := by decide +kernel
theorem dX9_best_11 : decode cX9_best 11 = .ok (.getfield 106, 3) := by decide +kernel
theorem dX9_best_14 : decode cX9_best 14 = .ok (.ifCond .ne 6, 3) := by decide +kernel
theorem dX9_best_17 : decode cX9_best 17 = .ok (.bipush (-103), 2) := by decide +kernel
theorem dX9_best_19 : decode cX9_best 19 = .ok (.ireturn, 1) := by decide +kernel
theorem dX9_best_20 : decode cX9_best 20 = .ok (.aload_n 0, 1) := by decide +kernel
theorem dX9_best_21 : decode cX9_best 21 = .ok (.getfield 22, 3) := by decide +kernel
theorem dX9_best_24 : decode cX9_best 24 = .ok (.iconst 1, 1) := by decide +kernel
theorem dX9_best_25 : decode cX9_best 25 = .ok (.iaload, 1) := by decide +kernel
theorem dX9_best_26 : decode cX9_best 26 = .ok (.bipush 8, 2) := by decide +kernel
theorem dX9_best_28 : decode cX9_best 28 = .ok (.if_icmp .ne 8, 3) := by decide +kernel
theorem dX9_best_31 : decode cX9_best 31 = .ok (.bipush (-104), 2) := by decide +kernel
theorem dX9_best_33 : decode cX9_best 33 = .ok (.goto 8, 3) := by decide +kernel
theorem dX9_best_36 : decode cX9_best 36 = .ok (.aload_n 0, 1) := by decide +kernel
theorem dX9_best_37 : decode cX9_best 37 = .ok (.iload_n 1, 1) := by decide +kernel
theorem dX9_best_38 : decode cX9_best 38 = .ok (.invokevirtual 261, 3) := by decide +kernel
theorem dX9_best_41 : decode cX9_best 41 = .ok (.ireturn, 1) := by decide +kernel
theorem dX9_allOf_0 : decode cX9_allOf 0 = .ok (.aload_n 0, 1) := by decide +kernel
theorem dX9_allOf_1 : decode cX9_allOf 1 = .ok (.getfield 22, 3) := by decide +kernel
theorem dX9_allOf_4 : decode cX9_allOf 4 = .ok (.iconst 0, 1) := by decide +kernel
theorem dX9_allOf_5 : decode cX9_allOf 5 = .ok (.iaload, 1) := by decide +kernel
theorem dX9_allOf_6 : decode cX9_allOf 6 = .ok (.aload_n 0, 1) := by decide +kernel
theorem dX9_allOf_7 : decode cX9_allOf 7 = .ok (.getfield 22, 3) := by decide +kernel
theorem dX9_allOf_10 : decode cX9_allOf 10 = .ok (.iconst 1, 1) := by decide +kernel
theorem dX9_allOf_11 : decode cX9_allOf 11 = .ok (.iaload, 1) := by decide +kernel
theorem dX9_allOf_12 : decode cX9_allOf 12 = .ok (.iadd, 1) := by decide +kernel
theorem dX9_allOf_13 : decode cX9_allOf 13 = .ok (.istore_n 1, 1) := by decide +kernel
theorem dX9_allOf_14 : decode cX9_allOf 14 = .ok (.iload_n 1, 1) := by decide +kernel
theorem dX9_allOf_15 : decode cX9_allOf 15 = .ok (.ifCond .ne 16, 3) := by decide +kernel
theorem dX9_allOf_18 : decode cX9_allOf 18 = .ok (.lconst 1, 1) := by decide +kernel
theorem dX9_allOf_19 : decode cX9_allOf 19 = .ok (.lconst 1, 1) := by decide +kernel
theorem dX9_allOf_20 : decode cX9_allOf 20 = .ok (.bipush 52, 2) := by decide +kernel
theorem dX9_allOf_22 : decode cX9_allOf 22 = .ok (.sipush 1023, 3) := by decide +kernel
theorem dX9_allOf_25 : decode cX9_allOf 25 = .ok (.invokestatic 187, 3) := by decide +kernel
theorem dX9_allOf_28 : decode cX9_allOf 28 = .ok (.goto 22, 3) := by decide +kernel
theorem dX9_allOf_31 : decode cX9_allOf 31 = .ok (.ldc2_w 175, 3) := by decide +kernel
theorem dX9_allOf_34 : decode cX9_allOf 34 = .ok (.aload_n 0, 1) := by decide +kernel
theorem dX9_allOf_35 : decode cX9_allOf 35 = .ok (.invokevirtual 252, 3) := by decide +kernel
theorem dX9_allOf_38 : decode cX9_allOf 38 = .ok (.i2l, 1) := by decide +kernel
theorem dX9_allOf_39 : decode cX9_allOf 39 = .ok (.lmul, 1) := by decide +kernel
theorem dX9_allOf_40 : decode cX9_allOf 40 = .ok (.iload_n 1, 1) := by decide +kernel
theorem dX9_allOf_41 : decode cX9_allOf 41 = .ok (.i2l, 1) := by decide +kernel
theorem dX9_allOf_42 : decode cX9_allOf 42 = .ok (.bipush 52, 2) := by decide +kernel
theorem dX9_allOf_44 : decode cX9_allOf 44 = .ok (.sipush 1023, 3) := by decide +kernel
theorem dX9_allOf_47 : decode cX9_allOf 47 = .ok (.invokestatic 187, 3) := by decide +kernel
theorem dX9_allOf_50 : decode cX9_allOf 50 = .ok (.lreturn, 1) := by decide +kernel
theorem dX9_all_0 : decode cX9_all 0 = .ok (.aload_n 0, 1) := by decide +kernel
theorem dX9_all_1 : decode cX9_all 1 = .ok (.getfield 106, 3) := by decide +kernel
theorem dX9_all_4 : decode cX9_all 4 = .ok (.ifCond .eq 10, 3) := by decide +kernel
theorem dX9_all_7 : decode cX9_all 7 = .ok (.aload_n 0, 1) := by decide +kernel
theorem dX9_all_8 : decode cX9_all 8 = .ok (.invokevirtual 264, 3) := by decide +kernel
theorem dX9_all_11 : decode cX9_all 11 = .ok (.goto 6, 3) := by decide +kernel
theorem dX9_all_14 : decode cX9_all 14 = .ok (.ldc2_w 268, 3) := by decide +kernel
theorem dX9_all_17 : decode cX9_all 17 = .ok (.lreturn, 1) := by decide +kernel
theorem dX9_draw_0 : decode cX9_draw 0 = .ok (.aload_n 0, 1) := by decide +kernel
theorem dX9_draw_1 : decode cX9_draw 1 = .ok (.ldc2_w 270, 3) := by decide +kernel
theorem dX9_draw_4 : decode cX9_draw 4 = .ok (.aload_n 0, 1) := by decide +kernel
theorem dX9_draw_5 : decode cX9_draw 5 = .ok (.getfield 272, 3) := by decide +kernel
theorem dX9_draw_8 : decode cX9_draw 8 = .ok (.i2l, 1) := by decide +kernel
theorem dX9_draw_9 : decode cX9_draw 9 = .ok (.lmul, 1) := by decide +kernel
theorem dX9_draw_10 : decode cX9_draw 10 = .ok (.ldc2_w 275, 3) := by decide +kernel
theorem dX9_draw_13 : decode cX9_draw 13 = .ok (.ladd, 1) := by decide +kernel
theorem dX9_draw_14 : decode cX9_draw 14 = .ok (.ldc2_w 277, 3) := by decide +kernel
theorem dX9_draw_17 : decode cX9_draw 17 = .ok (.land, 1) := by decide +kernel
theorem dX9_draw_18 : decode cX9_draw 18 = .ok (.l2i, 1) := by decide +kernel
theorem dX9_draw_19 : decode cX9_draw 19 = .ok (.putfield 272, 3) := by decide +kernel
theorem dX9_draw_22 : decode cX9_draw 22 = .ok (.aload_n 0, 1) := by decide +kernel
theorem dX9_draw_23 : decode cX9_draw 23 = .ok (.getfield 272, 3) := by decide +kernel
theorem dX9_draw_26 : decode cX9_draw 26 = .ok (.ldc_w 279, 3) := by decide +kernel
theorem dX9_draw_29 : decode cX9_draw 29 = .ok (.idiv, 1) := by decide +kernel
theorem dX9_draw_30 : decode cX9_draw 30 = .ok (.iload_n 1, 1) := by decide +kernel
theorem dX9_draw_31 : decode cX9_draw 31 = .ok (.irem, 1) := by decide +kernel
theorem dX9_draw_32 : decode cX9_draw 32 = .ok (.ireturn, 1) := by decide +kernel
theorem dX9_drawn_0 : decode cX9_drawn 0 = .ok (.iload_n 1, 1) := by decide +kernel
theorem dX9_drawn_1 : decode cX9_drawn 1 = .ok (.i2l, 1) := by decide +kernel
theorem dX9_drawn_2 : decode cX9_drawn 2 = .ok (.lconst 1, 1) := by decide +kernel
theorem dX9_drawn_3 : decode cX9_drawn 3 = .ok (.ldc2_w 280, 3) := by decide +kernel
theorem dX9_drawn_6 : decode cX9_drawn 6 = .ok (.invokestatic 73, 3) := by decide +kernel
theorem dX9_drawn_9 : decode cX9_drawn 9 = .ok (.ifCond .eq 19, 3) := by decide +kernel
theorem dX9_drawn_12 : decode cX9_drawn 12 = .ok (.iload_n 2, 1) := by decide +kernel
theorem dX9_drawn_13 : decode cX9_drawn 13 = .ok (.ifCond .lt 15, 3) := by decide +kernel
theorem dX9_drawn_16 : decode cX9_drawn 16 = .ok (.iload_n 3, 1) := by decide +kernel
theorem dX9_drawn_17 : decode cX9_drawn 17 = .ok (.i2l, 1) := by decide +kernel
theorem dX9_drawn_18 : decode cX9_drawn 18 = .ok (.lconst 0, 1) := by decide +kernel
theorem dX9_drawn_19 : decode cX9_drawn 19 = .ok (.ldc2_w 175, 3) := by decide +kernel
theorem dX9_drawn_22 : decode cX9_drawn 22 = .ok (.invokestatic 73, 3) := by decide +kernel
theorem dX9_drawn_25 : decode cX9_drawn 25 = .ok (.ifCond .ne 6, 3) := by decide +kernel
theorem dX9_drawn_28 : decode cX9_drawn 28 = .ok (.bipush (-102), 2) := by decide +kernel
theorem dX9_drawn_30 : decode cX9_drawn 30 = .ok (.ireturn, 1) := by decide +kernel
theorem dX9_drawn_31 : decode cX9_drawn 31 = .ok (.aload_n 0, 1) := by decide +kernel
theorem dX9_drawn_32 : decode cX9_drawn 32 = .ok (.getfield 19, 3) := by decide +kernel
theorem dX9_drawn_35 : decode cX9_drawn 35 = .ok (.aload_n 0, 1) := by decide +kernel
theorem dX9_drawn_36 : decode cX9_drawn 36 = .ok (.getfield 55, 3) := by decide +kernel
theorem dX9_drawn_39 : decode cX9_drawn 39 = .ok (.invokestatic 102, 3) := by decide +kernel
theorem dX9_drawn_42 : decode cX9_drawn 42 = .ok (.aload_n 0, 1) := by decide +kernel
theorem dX9_drawn_43 : decode cX9_drawn 43 = .ok (.getfield 22, 3) := by decide +kernel
theorem dX9_drawn_46 : decode cX9_drawn 46 = .ok (.aload_n 0, 1) := by decide +kernel
theorem dX9_drawn_47 : decode cX9_drawn 47 = .ok (.getfield 58, 3) := by decide +kernel
theorem dX9_drawn_50 : decode cX9_drawn 50 = .ok (.invokestatic 102, 3) := by decide +kernel
theorem dX9_drawn_53 : decode cX9_drawn 53 = .ok (.aload_n 0, 1) := by decide +kernel
theorem dX9_drawn_54 : decode cX9_drawn 54 = .ok (.iload_n 2, 1) := by decide +kernel
theorem dX9_drawn_55 : decode cX9_drawn 55 = .ok (.putfield 272, 3) := by decide +kernel
theorem dX9_drawn_58 : decode cX9_drawn 58 = .ok (.iconst 0, 1) := by decide +kernel
theorem dX9_drawn_59 : decode cX9_drawn 59 = .ok (.istore 4, 2) := by decide +kernel
theorem dX9_drawn_61 : decode cX9_drawn 61 = .ok (.iconst 0, 1) := by decide +kernel
theorem dX9_drawn_62 : decode cX9_drawn 62 = .ok (.istore 5, 2) := by decide +kernel
theorem dX9_drawn_64 : decode cX9_drawn 64 = .ok (.iconst 0, 1) := by decide +kernel
theorem dX9_drawn_65 : decode cX9_drawn 65 = .ok (.istore 6, 2) := by decide +kernel
theorem dX9_drawn_67 : decode cX9_drawn 67 = .ok (.iload 6, 2) := by decide +kernel
theorem dX9_drawn_69 : decode cX9_drawn 69 = .ok (.iload_n 1, 1) := by decide +kernel
theorem dX9_drawn_70 : decode cX9_drawn 70 = .ok (.if_icmp .ge 86, 3) := by decide +kernel
theorem dX9_drawn_73 : decode cX9_drawn 73 = .ok (.iconst 0, 1) := by decide +kernel
theorem dX9_drawn_74 : decode cX9_drawn 74 = .ok (.istore 7, 2) := by decide +kernel
theorem dX9_drawn_76 : decode cX9_drawn 76 = .ok (.iload 7, 2) := by decide +kernel
theorem dX9_drawn_78 : decode cX9_drawn 78 = .ok (.bipush 8, 2) := by decide +kernel
theorem dX9_drawn_80 : decode cX9_drawn 80 = .ok (.if_icmp .ge 34, 3) := by decide +kernel
theorem dX9_drawn_83 : decode cX9_drawn 83 = .ok (.aload_n 0, 1) := by decide +kernel
theorem dX9_drawn_84 : decode cX9_drawn 84 = .ok (.getfield 19, 3) := by decide +kernel
theorem dX9_drawn_87 : decode cX9_drawn 87 = .ok (.bipush 16, 2) := by decide +kernel
theorem dX9_drawn_89 : decode cX9_drawn 89 = .ok (.iload 7, 2) := by decide +kernel
theorem dX9_drawn_91 : decode cX9_drawn 91 = .ok (.iconst 4, 1) := by decide +kernel
theorem dX9_drawn_92 : decode cX9_drawn 92 = .ok (.idiv, 1) := by decide +kernel
theorem dX9_drawn_93 : decode cX9_drawn 93 = .ok (.imul, 1) := by decide +kernel
theorem dX9_drawn_94 : decode cX9_drawn 94 = .ok (.iload 7, 2) := by decide +kernel
theorem dX9_drawn_96 : decode cX9_drawn 96 = .ok (.iconst 4, 1) := by decide +kernel
theorem dX9_drawn_97 : decode cX9_drawn 97 = .ok (.irem, 1) := by decide +kernel
theorem dX9_drawn_98 : decode cX9_drawn 98 = .ok (.iadd, 1) := by decide +kernel
theorem dX9_drawn_99 : decode cX9_drawn 99 = .ok (.bipush 97, 2) := by decide +kernel
theorem dX9_drawn_101 : decode cX9_drawn 101 = .ok (.aload_n 0, 1) := by decide +kernel
theorem dX9_drawn_102 : decode cX9_drawn 102 = .ok (.iconst 5, 1) := by decide +kernel
theorem dX9_drawn_103 : decode cX9_drawn 103 = .ok (.invokevirtual 282, 3) := by decide +kernel
theorem dX9_drawn_106 : decode cX9_drawn 106 = .ok (.iadd, 1) := by decide +kernel
theorem dX9_drawn_107 : decode cX9_drawn 107 = .ok (.iastore, 1) := by decide +kernel
theorem dX9_drawn_108 : decode cX9_drawn 108 = .ok (.iinc 7 1, 3) := by decide +kernel
theorem dX9_drawn_111 : decode cX9_drawn 111 = .ok (.goto (-35), 3) := by decide +kernel
theorem dX9_drawn_114 : decode cX9_drawn 114 = .ok (.aload_n 0, 1) := by decide +kernel
theorem dX9_drawn_115 : decode cX9_drawn 115 = .ok (.getfield 22, 3) := by decide +kernel
theorem dX9_drawn_118 : decode cX9_drawn 118 = .ok (.iconst 0, 1) := by decide +kernel
theorem dX9_drawn_119 : decode cX9_drawn 119 = .ok (.iconst 4, 1) := by decide +kernel
theorem dX9_drawn_120 : decode cX9_drawn 120 = .ok (.iastore, 1) := by decide +kernel
theorem dX9_drawn_121 : decode cX9_drawn 121 = .ok (.aload_n 0, 1) := by decide +kernel
theorem dX9_drawn_122 : decode cX9_drawn 122 = .ok (.getfield 22, 3) := by decide +kernel
theorem dX9_drawn_125 : decode cX9_drawn 125 = .ok (.iconst 1, 1) := by decide +kernel
theorem dX9_drawn_126 : decode cX9_drawn 126 = .ok (.iconst 4, 1) := by decide +kernel
theorem dX9_drawn_127 : decode cX9_drawn 127 = .ok (.iastore, 1) := by decide +kernel
theorem dX9_drawn_128 : decode cX9_drawn 128 = .ok (.aload_n 0, 1) := by decide +kernel
theorem dX9_drawn_129 : decode cX9_drawn 129 = .ok (.invokevirtual 209, 3) := by decide +kernel
theorem dX9_drawn_132 : decode cX9_drawn 132 = .ok (.iload 4, 2) := by decide +kernel
theorem dX9_drawn_134 : decode cX9_drawn 134 = .ok (.aload_n 0, 1) := by decide +kernel
theorem dX9_drawn_135 : decode cX9_drawn 135 = .ok (.invokevirtual 255, 3) := by decide +kernel
theorem dX9_drawn_138 : decode cX9_drawn 138 = .ok (.iadd, 1) := by decide +kernel
theorem dX9_drawn_139 : decode cX9_drawn 139 = .ok (.istore 4, 2) := by decide +kernel
theorem dX9_drawn_141 : decode cX9_drawn 141 = .ok (.iload 5, 2) := by decide +kernel
theorem dX9_drawn_143 : decode cX9_drawn 143 = .ok (.aload_n 0, 1) := by decide +kernel
theorem dX9_drawn_144 : decode cX9_drawn 144 = .ok (.getfield 157, 3) := by decide +kernel
theorem dX9_drawn_147 : decode cX9_drawn 147 = .ok (.iadd, 1) := by decide +kernel
theorem dX9_drawn_148 : decode cX9_drawn 148 = .ok (.istore 5, 2) := by decide +kernel
theorem dX9_drawn_150 : decode cX9_drawn 150 = .ok (.iinc 6 1, 3) := by decide +kernel
theorem dX9_drawn_153 : decode cX9_drawn 153 = .ok (.goto (-86), 3) := by decide +kernel
theorem dX9_drawn_156 : decode cX9_drawn 156 = .ok (.aload_n 0, 1) := by decide +kernel
theorem dX9_drawn_157 : decode cX9_drawn 157 = .ok (.getfield 55, 3) := by decide +kernel
theorem dX9_drawn_160 : decode cX9_drawn 160 = .ok (.aload_n 0, 1) := by decide +kernel
theorem dX9_drawn_161 : decode cX9_drawn 161 = .ok (.getfield 19, 3) := by decide +kernel
theorem dX9_drawn_164 : decode cX9_drawn 164 = .ok (.invokestatic 102, 3) := by decide +kernel
theorem dX9_drawn_167 : decode cX9_drawn 167 = .ok (.aload_n 0, 1) := by decide +kernel
theorem dX9_drawn_168 : decode cX9_drawn 168 = .ok (.getfield 58, 3) := by decide +kernel
theorem dX9_drawn_171 : decode cX9_drawn 171 = .ok (.aload_n 0, 1) := by decide +kernel
theorem dX9_drawn_172 : decode cX9_drawn 172 = .ok (.getfield 22, 3) := by decide +kernel
theorem dX9_drawn_175 : decode cX9_drawn 175 = .ok (.invokestatic 102, 3) := by decide +kernel
theorem dX9_drawn_178 : decode cX9_drawn 178 = .ok (.aload_n 0, 1) := by decide +kernel
theorem dX9_drawn_179 : decode cX9_drawn 179 = .ok (.invokevirtual 209, 3) := by decide +kernel
theorem dX9_drawn_182 : decode cX9_drawn 182 = .ok (.iload_n 3, 1) := by decide +kernel
theorem dX9_drawn_183 : decode cX9_drawn 183 = .ok (.ifCond .ne 8, 3) := by decide +kernel
theorem dX9_drawn_186 : decode cX9_drawn 186 = .ok (.iload 4, 2) := by decide +kernel
theorem dX9_drawn_188 : decode cX9_drawn 188 = .ok (.goto 17, 3) := by decide +kernel
theorem dX9_drawn_191 : decode cX9_drawn 191 = .ok (.iload_n 3, 1) := by decide +kernel
theorem dX9_drawn_192 : decode cX9_drawn 192 = .ok (.iconst 1, 1) := by decide +kernel
theorem dX9_drawn_193 : decode cX9_drawn 193 = .ok (.if_icmp .ne 8, 3) := by decide +kernel
theorem dX9_drawn_196 : decode cX9_drawn 196 = .ok (.iload 5, 2) := by decide +kernel
theorem dX9_drawn_198 : decode cX9_drawn 198 = .ok (.goto 7, 3) := by decide +kernel
theorem dX9_drawn_201 : decode cX9_drawn 201 = .ok (.aload_n 0, 1) := by decide +kernel
theorem dX9_drawn_202 : decode cX9_drawn 202 = .ok (.getfield 272, 3) := by decide +kernel
theorem dX9_drawn_205 : decode cX9_drawn 205 = .ok (.ireturn, 1) := by decide +kernel
theorem dX9_image_0 : decode cX9_image 0 = .ok (.aload_n 0, 1) := by decide +kernel
theorem dX9_image_1 : decode cX9_image 1 = .ok (.getfield 106, 3) := by decide +kernel
theorem dX9_image_4 : decode cX9_image 4 = .ok (.ifCond .ne 6, 3) := by decide +kernel
theorem dX9_image_7 : decode cX9_image 7 = .ok (.bipush (-103), 2) := by decide +kernel
theorem dX9_image_9 : decode cX9_image 9 = .ok (.ireturn, 1) := by decide +kernel
theorem dX9_image_10 : decode cX9_image 10 = .ok (.aload_n 0, 1) := by decide +kernel
theorem dX9_image_11 : decode cX9_image 11 = .ok (.getfield 19, 3) := by decide +kernel
theorem dX9_image_14 : decode cX9_image 14 = .ok (.aload_n 0, 1) := by decide +kernel
theorem dX9_image_15 : decode cX9_image 15 = .ok (.getfield 61, 3) := by decide +kernel
theorem dX9_image_18 : decode cX9_image 18 = .ok (.invokestatic 102, 3) := by decide +kernel
theorem dX9_image_21 : decode cX9_image 21 = .ok (.aload_n 0, 1) := by decide +kernel
theorem dX9_image_22 : decode cX9_image 22 = .ok (.getfield 22, 3) := by decide +kernel
theorem dX9_image_25 : decode cX9_image 25 = .ok (.aload_n 0, 1) := by decide +kernel
theorem dX9_image_26 : decode cX9_image 26 = .ok (.getfield 64, 3) := by decide +kernel
theorem dX9_image_29 : decode cX9_image 29 = .ok (.invokestatic 102, 3) := by decide +kernel
theorem dX9_image_32 : decode cX9_image 32 = .ok (.aload_n 0, 1) := by decide +kernel
theorem dX9_image_33 : decode cX9_image 33 = .ok (.aload_n 0, 1) := by decide +kernel
theorem dX9_image_34 : decode cX9_image 34 = .ok (.getfield 109, 3) := by decide +kernel
theorem dX9_image_37 : decode cX9_image 37 = .ok (.putfield 67, 3) := by decide +kernel
theorem dX9_image_40 : decode cX9_image 40 = .ok (.aload_n 0, 1) := by decide +kernel
theorem dX9_image_41 : decode cX9_image 41 = .ok (.getfield 22, 3) := by decide +kernel
theorem dX9_image_44 : decode cX9_image 44 = .ok (.iconst 0, 1) := by decide +kernel
theorem dX9_image_45 : decode cX9_image 45 = .ok (.iaload, 1) := by decide +kernel
theorem dX9_image_46 : decode cX9_image 46 = .ok (.aload_n 0, 1) := by decide +kernel
theorem dX9_image_47 : decode cX9_image 47 = .ok (.getfield 22, 3) := by decide +kernel
theorem dX9_image_50 : decode cX9_image 50 = .ok (.iconst 1, 1) := by decide +kernel
theorem dX9_image_51 : decode cX9_image 51 = .ok (.iaload, 1) := by decide +kernel
theorem dX9_image_52 : decode cX9_image 52 = .ok (.iadd, 1) := by decide +kernel
theorem dX9_image_53 : decode cX9_image 53 = .ok (.ireturn, 1) := by decide +kernel
theorem dX9_restore_0 : decode cX9_restore 0 = .ok (.aload_n 0, 1) := by decide +kernel
theorem dX9_restore_1 : decode cX9_restore 1 = .ok (.getfield 67, 3) := by decide +kernel
theorem dX9_restore_4 : decode cX9_restore 4 = .ok (.aload_n 0, 1) := by decide +kernel
theorem dX9_restore_5 : decode cX9_restore 5 = .ok (.getfield 109, 3) := by decide +kernel
theorem dX9_restore_8 : decode cX9_restore 8 = .ok (.if_icmp .eq 6, 3) := by decide +kernel
theorem dX9_restore_11 : decode cX9_restore 11 = .ok (.bipush (-103), 2) := by decide +kernel
theorem dX9_restore_13 : decode cX9_restore 13 = .ok (.ireturn, 1) := by decide +kernel
theorem dX9_restore_14 : decode cX9_restore 14 = .ok (.aload_n 0, 1) := by decide +kernel
theorem dX9_restore_15 : decode cX9_restore 15 = .ok (.getfield 61, 3) := by decide +kernel
theorem dX9_restore_18 : decode cX9_restore 18 = .ok (.aload_n 0, 1) := by decide +kernel
theorem dX9_restore_19 : decode cX9_restore 19 = .ok (.getfield 19, 3) := by decide +kernel
theorem dX9_restore_22 : decode cX9_restore 22 = .ok (.invokestatic 102, 3) := by decide +kernel
theorem dX9_restore_25 : decode cX9_restore 25 = .ok (.aload_n 0, 1) := by decide +kernel
theorem dX9_restore_26 : decode cX9_restore 26 = .ok (.getfield 64, 3) := by decide +kernel
theorem dX9_restore_29 : decode cX9_restore 29 = .ok (.aload_n 0, 1) := by decide +kernel
theorem dX9_restore_30 : decode cX9_restore 30 = .ok (.getfield 22, 3) := by decide +kernel
theorem dX9_restore_33 : decode cX9_restore 33 = .ok (.invokestatic 102, 3) := by decide +kernel
theorem dX9_restore_36 : decode cX9_restore 36 = .ok (.aload_n 0, 1) := by decide +kernel
theorem dX9_restore_37 : decode cX9_restore 37 = .ok (.invokevirtual 112, 3) := by decide +kernel
theorem dX9_restore_40 : decode cX9_restore 40 = .ok (.aload_n 0, 1) := by decide +kernel
theorem dX9_restore_41 : decode cX9_restore 41 = .ok (.getfield 22, 3) := by decide +kernel
theorem dX9_restore_44 : decode cX9_restore 44 = .ok (.iconst 0, 1) := by decide +kernel
theorem dX9_restore_45 : decode cX9_restore 45 = .ok (.iaload, 1) := by decide +kernel
theorem dX9_restore_46 : decode cX9_restore 46 = .ok (.aload_n 0, 1) := by decide +kernel
theorem dX9_restore_47 : decode cX9_restore 47 = .ok (.getfield 22, 3) := by decide +kernel
theorem dX9_restore_50 : decode cX9_restore 50 = .ok (.iconst 1, 1) := by decide +kernel
theorem dX9_restore_51 : decode cX9_restore 51 = .ok (.iaload, 1) := by decide +kernel
theorem dX9_restore_52 : decode cX9_restore 52 = .ok (.iadd, 1) := by decide +kernel
theorem dX9_restore_53 : decode cX9_restore 53 = .ok (.ireturn, 1) := by decide +kernel
theorem dX9_stepsOf_0 : decode cX9_stepsOf 0 = .ok (.iconst 0, 1) := by decide +kernel
theorem dX9_stepsOf_1 : decode cX9_stepsOf 1 = .ok (.istore_n 2, 1) := by decide +kernel
theorem dX9_stepsOf_2 : decode cX9_stepsOf 2 = .ok (.iconst 0, 1) := by decide +kernel
theorem dX9_stepsOf_3 : decode cX9_stepsOf 3 = .ok (.istore_n 3, 1) := by decide +kernel
theorem dX9_stepsOf_4 : decode cX9_stepsOf 4 = .ok (.iload_n 3, 1) := by decide +kernel
theorem dX9_stepsOf_5 : decode cX9_stepsOf 5 = .ok (.aload_n 0, 1) := by decide +kernel
theorem dX9_stepsOf_6 : decode cX9_stepsOf 6 = .ok (.getfield 197, 3) := by decide +kernel
theorem dX9_stepsOf_9 : decode cX9_stepsOf 9 = .ok (.if_icmp .ge 29, 3) := by decide +kernel
theorem dX9_stepsOf_12 : decode cX9_stepsOf 12 = .ok (.iload_n 2, 1) := by decide +kernel
theorem dX9_stepsOf_13 : decode cX9_stepsOf 13 = .ok (.aload_n 0, 1) := by decide +kernel
theorem dX9_stepsOf_14 : decode cX9_stepsOf 14 = .ok (.getfield 46, 3) := by decide +kernel
theorem dX9_stepsOf_17 : decode cX9_stepsOf 17 = .ok (.iconst 5, 1) := by decide +kernel
theorem dX9_stepsOf_18 : decode cX9_stepsOf 18 = .ok (.iload_n 3, 1) := by decide +kernel
theorem dX9_stepsOf_19 : decode cX9_stepsOf 19 = .ok (.imul, 1) := by decide +kernel
theorem dX9_stepsOf_20 : decode cX9_stepsOf 20 = .ok (.iaload, 1) := by decide +kernel
theorem dX9_stepsOf_21 : decode cX9_stepsOf 21 = .ok (.iload_n 1, 1) := by decide +kernel
theorem dX9_stepsOf_22 : decode cX9_stepsOf 22 = .ok (.if_icmp .ne 7, 3) := by decide +kernel
theorem dX9_stepsOf_25 : decode cX9_stepsOf 25 = .ok (.iconst 1, 1) := by decide +kernel
theorem dX9_stepsOf_26 : decode cX9_stepsOf 26 = .ok (.goto 4, 3) := by decide +kernel
theorem dX9_stepsOf_29 : decode cX9_stepsOf 29 = .ok (.iconst 0, 1) := by decide +kernel
theorem dX9_stepsOf_30 : decode cX9_stepsOf 30 = .ok (.iadd, 1) := by decide +kernel
theorem dX9_stepsOf_31 : decode cX9_stepsOf 31 = .ok (.istore_n 2, 1) := by decide +kernel
theorem dX9_stepsOf_32 : decode cX9_stepsOf 32 = .ok (.iinc 3 1, 3) := by decide +kernel
theorem dX9_stepsOf_35 : decode cX9_stepsOf 35 = .ok (.goto (-31), 3) := by decide +kernel
theorem dX9_stepsOf_38 : decode cX9_stepsOf 38 = .ok (.iload_n 2, 1) := by decide +kernel
theorem dX9_stepsOf_39 : decode cX9_stepsOf 39 = .ok (.ireturn, 1) := by decide +kernel
theorem dX9_rackedAll_0 : decode cX9_rackedAll 0 = .ok (.iconst 0, 1) := by decide +kernel
theorem dX9_rackedAll_1 : decode cX9_rackedAll 1 = .ok (.istore_n 1, 1) := by decide +kernel
theorem dX9_rackedAll_2 : decode cX9_rackedAll 2 = .ok (.iconst 0, 1) := by decide +kernel
theorem dX9_rackedAll_3 : decode cX9_rackedAll 3 = .ok (.istore_n 2, 1) := by decide +kernel
theorem dX9_rackedAll_4 : decode cX9_rackedAll 4 = .ok (.iload_n 2, 1) := by decide +kernel
theorem dX9_rackedAll_5 : decode cX9_rackedAll 5 = .ok (.iconst 5, 1) := by decide +kernel
theorem dX9_rackedAll_6 : decode cX9_rackedAll 6 = .ok (.if_icmp .ge 17, 3) := by decide +kernel
theorem dX9_rackedAll_9 : decode cX9_rackedAll 9 = .ok (.iload_n 1, 1) := by decide +kernel
theorem dX9_rackedAll_10 : decode cX9_rackedAll 10 = .ok (.aload_n 0, 1) := by decide +kernel
theorem dX9_rackedAll_11 : decode cX9_rackedAll 11 = .ok (.iload_n 2, 1) := by decide +kernel
theorem dX9_rackedAll_12 : decode cX9_rackedAll 12 = .ok (.invokevirtual 236, 3) := by decide +kernel
theorem dX9_rackedAll_15 : decode cX9_rackedAll 15 = .ok (.iadd, 1) := by decide +kernel
theorem dX9_rackedAll_16 : decode cX9_rackedAll 16 = .ok (.istore_n 1, 1) := by decide +kernel
theorem dX9_rackedAll_17 : decode cX9_rackedAll 17 = .ok (.iinc 2 1, 3) := by decide +kernel
theorem dX9_rackedAll_20 : decode cX9_rackedAll 20 = .ok (.goto (-16), 3) := by decide +kernel
theorem dX9_rackedAll_23 : decode cX9_rackedAll 23 = .ok (.iload_n 1, 1) := by decide +kernel
theorem dX9_rackedAll_24 : decode cX9_rackedAll 24 = .ok (.ireturn, 1) := by decide +kernel
theorem dX9_countOf_0 : decode cX9_countOf 0 = .ok (.iload_n 1, 1) := by decide +kernel
theorem dX9_countOf_1 : decode cX9_countOf 1 = .ok (.tableswitch 94 0 10 #[59, 59, 66, 71, 71, 71, 71, 71, 79, 84, 89], 59) := by decide +kernel
theorem dX9_countOf_60 : decode cX9_countOf 60 = .ok (.aload_n 0, 1) := by decide +kernel
theorem dX9_countOf_61 : decode cX9_countOf 61 = .ok (.getfield 22, 3) := by decide +kernel
theorem dX9_countOf_64 : decode cX9_countOf 64 = .ok (.iload_n 1, 1) := by decide +kernel
theorem dX9_countOf_65 : decode cX9_countOf 65 = .ok (.iaload, 1) := by decide +kernel
theorem dX9_countOf_66 : decode cX9_countOf 66 = .ok (.ireturn, 1) := by decide +kernel
theorem dX9_countOf_67 : decode cX9_countOf 67 = .ok (.aload_n 0, 1) := by decide +kernel
theorem dX9_countOf_68 : decode cX9_countOf 68 = .ok (.getfield 197, 3) := by decide +kernel
theorem dX9_countOf_71 : decode cX9_countOf 71 = .ok (.ireturn, 1) := by decide +kernel
theorem dX9_countOf_72 : decode cX9_countOf 72 = .ok (.aload_n 0, 1) := by decide +kernel
theorem dX9_countOf_73 : decode cX9_countOf 73 = .ok (.iload_n 1, 1) := by decide +kernel
theorem dX9_countOf_74 : decode cX9_countOf 74 = .ok (.iconst 3, 1) := by decide +kernel
theorem dX9_countOf_75 : decode cX9_countOf 75 = .ok (.isub, 1) := by decide +kernel
theorem dX9_countOf_76 : decode cX9_countOf 76 = .ok (.invokevirtual 285, 3) := by decide +kernel
theorem dX9_countOf_79 : decode cX9_countOf 79 = .ok (.ireturn, 1) := by decide +kernel
theorem dX9_countOf_80 : decode cX9_countOf 80 = .ok (.aload_n 0, 1) := by decide +kernel
theorem dX9_countOf_81 : decode cX9_countOf 81 = .ok (.invokevirtual 288, 3) := by decide +kernel
theorem dX9_countOf_84 : decode cX9_countOf 84 = .ok (.ireturn, 1) := by decide +kernel
theorem dX9_countOf_85 : decode cX9_countOf 85 = .ok (.aload_n 0, 1) := by decide +kernel
theorem dX9_countOf_86 : decode cX9_countOf 86 = .ok (.getfield 77, 3) := by decide +kernel
theorem dX9_countOf_89 : decode cX9_countOf 89 = .ok (.ireturn, 1) := by decide +kernel
theorem dX9_countOf_90 : decode cX9_countOf 90 = .ok (.aload_n 0, 1) := by decide +kernel
theorem dX9_countOf_91 : decode cX9_countOf 91 = .ok (.getfield 109, 3) := by decide +kernel
theorem dX9_countOf_94 : decode cX9_countOf 94 = .ok (.ireturn, 1) := by decide +kernel
theorem dX9_countOf_95 : decode cX9_countOf 95 = .ok (.bipush (-102), 2) := by decide +kernel
theorem dX9_countOf_97 : decode cX9_countOf 97 = .ok (.ireturn, 1) := by decide +kernel
theorem dX9_count_0 : decode cX9_count 0 = .ok (.aload_n 0, 1) := by decide +kernel
theorem dX9_count_1 : decode cX9_count 1 = .ok (.iload_n 1, 1) := by decide +kernel
theorem dX9_count_2 : decode cX9_count 2 = .ok (.invokevirtual 291, 3) := by decide +kernel
theorem dX9_count_5 : decode cX9_count 5 = .ok (.ireturn, 1) := by decide +kernel
theorem dX9_say_0 : decode cX9_say 0 = .ok (.aload_n 0, 1) := by decide +kernel
theorem dX9_say_1 : decode cX9_say 1 = .ok (.ldc2_w 294, 3) := by decide +kernel
theorem dX9_say_4 : decode cX9_say 4 = .ok (.aload_n 0, 1) := by decide +kernel
theorem dX9_say_5 : decode cX9_say 5 = .ok (.getfield 296, 3) := by decide +kernel
theorem dX9_say_8 : decode cX9_say 8 = .ok (.lmul, 1) := by decide +kernel
theorem dX9_say_9 : decode cX9_say 9 = .ok (.lload_n 1, 1) := by decide +kernel
theorem dX9_say_10 : decode cX9_say 10 = .ok (.ladd, 1) := by decide +kernel
theorem dX9_say_11 : decode cX9_say 11 = .ok (.putfield 296, 3) := by decide +kernel
theorem dX9_say_14 : decode cX9_say 14 = .ok (.return_, 1) := by decide +kernel
theorem dX9_sayText_0 : decode cX9_sayText 0 = .ok (.iconst 0, 1) := by decide +kernel
theorem dX9_sayText_1 : decode cX9_sayText 1 = .ok (.istore_n 1, 1) := by decide +kernel
theorem dX9_sayText_2 : decode cX9_sayText 2 = .ok (.iload_n 1, 1) := by decide +kernel
theorem dX9_sayText_3 : decode cX9_sayText 3 = .ok (.iconst 5, 1) := by decide +kernel
theorem dX9_sayText_4 : decode cX9_sayText 4 = .ok (.if_icmp .ge 19, 3) := by decide +kernel
theorem dX9_sayText_7 : decode cX9_sayText 7 = .ok (.aload_n 0, 1) := by decide +kernel
theorem dX9_sayText_8 : decode cX9_sayText 8 = .ok (.aload_n 0, 1) := by decide +kernel
theorem dX9_sayText_9 : decode cX9_sayText 9 = .ok (.iload_n 1, 1) := by decide +kernel
theorem dX9_sayText_10 : decode cX9_sayText 10 = .ok (.invokevirtual 258, 3) := by decide +kernel
theorem dX9_sayText_13 : decode cX9_sayText 13 = .ok (.i2l, 1) := by decide +kernel
theorem dX9_sayText_14 : decode cX9_sayText 14 = .ok (.invokevirtual 300, 3) := by decide +kernel
theorem dX9_sayText_17 : decode cX9_sayText 17 = .ok (.iinc 1 1, 3) := by decide +kernel
theorem dX9_sayText_20 : decode cX9_sayText 20 = .ok (.goto (-18), 3) := by decide +kernel
theorem dX9_sayText_23 : decode cX9_sayText 23 = .ok (.aload_n 0, 1) := by decide +kernel
theorem dX9_sayText_24 : decode cX9_sayText 24 = .ok (.aload_n 0, 1) := by decide +kernel
theorem dX9_sayText_25 : decode cX9_sayText 25 = .ok (.invokevirtual 264, 3) := by decide +kernel
theorem dX9_sayText_28 : decode cX9_sayText 28 = .ok (.invokevirtual 300, 3) := by decide +kernel
theorem dX9_sayText_31 : decode cX9_sayText 31 = .ok (.return_, 1) := by decide +kernel
theorem dX9_digest_0 : decode cX9_digest 0 = .ok (.aload_n 0, 1) := by decide +kernel
theorem dX9_digest_1 : decode cX9_digest 1 = .ok (.ldc2_w 304, 3) := by decide +kernel
theorem dX9_digest_4 : decode cX9_digest 4 = .ok (.putfield 296, 3) := by decide +kernel
theorem dX9_digest_7 : decode cX9_digest 7 = .ok (.iconst 0, 1) := by decide +kernel
theorem dX9_digest_8 : decode cX9_digest 8 = .ok (.istore_n 1, 1) := by decide +kernel
theorem dX9_digest_9 : decode cX9_digest 9 = .ok (.iload_n 1, 1) := by decide +kernel
theorem dX9_digest_10 : decode cX9_digest 10 = .ok (.iconst 2, 1) := by decide +kernel
theorem dX9_digest_11 : decode cX9_digest 11 = .ok (.if_icmp .ge 53, 3) := by decide +kernel
theorem dX9_digest_14 : decode cX9_digest 14 = .ok (.iconst 0, 1) := by decide +kernel
theorem dX9_digest_15 : decode cX9_digest 15 = .ok (.istore_n 2, 1) := by decide +kernel
theorem dX9_digest_16 : decode cX9_digest 16 = .ok (.iload_n 2, 1) := by decide +kernel
theorem dX9_digest_17 : decode cX9_digest 17 = .ok (.aload_n 0, 1) := by decide +kernel
theorem dX9_digest_18 : decode cX9_digest 18 = .ok (.getfield 22, 3) := by decide +kernel
theorem dX9_digest_21 : decode cX9_digest 21 = .ok (.iload_n 1, 1) := by decide +kernel
theorem dX9_digest_22 : decode cX9_digest 22 = .ok (.iaload, 1) := by decide +kernel
theorem dX9_digest_23 : decode cX9_digest 23 = .ok (.if_icmp .ge 35, 3) := by decide +kernel
theorem dX9_digest_26 : decode cX9_digest 26 = .ok (.iconst 0, 1) := by decide +kernel
theorem dX9_digest_27 : decode cX9_digest 27 = .ok (.istore_n 3, 1) := by decide +kernel
theorem dX9_digest_28 : decode cX9_digest 28 = .ok (.iload_n 3, 1) := by decide +kernel
theorem dX9_digest_29 : decode cX9_digest 29 = .ok (.bipush 6, 2) := by decide +kernel
theorem dX9_digest_31 : decode cX9_digest 31 = .ok (.if_icmp .ge 21, 3) := by decide +kernel
theorem dX9_digest_34 : decode cX9_digest 34 = .ok (.aload_n 0, 1) := by decide +kernel
theorem dX9_digest_35 : decode cX9_digest 35 = .ok (.aload_n 0, 1) := by decide +kernel
theorem dX9_digest_36 : decode cX9_digest 36 = .ok (.iload_n 1, 1) := by decide +kernel
theorem dX9_digest_37 : decode cX9_digest 37 = .ok (.iload_n 2, 1) := by decide +kernel
theorem dX9_digest_38 : decode cX9_digest 38 = .ok (.iload_n 3, 1) := by decide +kernel
theorem dX9_digest_39 : decode cX9_digest 39 = .ok (.invokevirtual 233, 3) := by decide +kernel
theorem dX9_digest_42 : decode cX9_digest 42 = .ok (.i2l, 1) := by decide +kernel
theorem dX9_digest_43 : decode cX9_digest 43 = .ok (.invokevirtual 300, 3) := by decide +kernel
theorem dX9_digest_46 : decode cX9_digest 46 = .ok (.iinc 3 1, 3) := by decide +kernel
theorem dX9_digest_49 : decode cX9_digest 49 = .ok (.goto (-21), 3) := by decide +kernel
theorem dX9_digest_52 : decode cX9_digest 52 = .ok (.iinc 2 1, 3) := by decide +kernel
theorem dX9_digest_55 : decode cX9_digest 55 = .ok (.goto (-39), 3) := by decide +kernel
theorem dX9_digest_58 : decode cX9_digest 58 = .ok (.iinc 1 1, 3) := by decide +kernel
theorem dX9_digest_61 : decode cX9_digest 61 = .ok (.goto (-52), 3) := by decide +kernel
theorem dX9_digest_64 : decode cX9_digest 64 = .ok (.iconst 0, 1) := by decide +kernel
theorem dX9_digest_65 : decode cX9_digest 65 = .ok (.istore_n 1, 1) := by decide +kernel
theorem dX9_digest_66 : decode cX9_digest 66 = .ok (.iload_n 1, 1) := by decide +kernel
theorem dX9_digest_67 : decode cX9_digest 67 = .ok (.iconst 5, 1) := by decide +kernel
theorem dX9_digest_68 : decode cX9_digest 68 = .ok (.aload_n 0, 1) := by decide +kernel
theorem dX9_digest_69 : decode cX9_digest 69 = .ok (.getfield 197, 3) := by decide +kernel
theorem dX9_digest_72 : decode cX9_digest 72 = .ok (.imul, 1) := by decide +kernel
theorem dX9_digest_73 : decode cX9_digest 73 = .ok (.if_icmp .ge 20, 3) := by decide +kernel
theorem dX9_digest_76 : decode cX9_digest 76 = .ok (.aload_n 0, 1) := by decide +kernel
theorem dX9_digest_77 : decode cX9_digest 77 = .ok (.aload_n 0, 1) := by decide +kernel
theorem dX9_digest_78 : decode cX9_digest 78 = .ok (.getfield 46, 3) := by decide +kernel
theorem dX9_digest_81 : decode cX9_digest 81 = .ok (.iload_n 1, 1) := by decide +kernel
theorem dX9_digest_82 : decode cX9_digest 82 = .ok (.iaload, 1) := by decide +kernel
theorem dX9_digest_83 : decode cX9_digest 83 = .ok (.i2l, 1) := by decide +kernel
theorem dX9_digest_84 : decode cX9_digest 84 = .ok (.invokevirtual 300, 3) := by decide +kernel
theorem dX9_digest_87 : decode cX9_digest 87 = .ok (.iinc 1 1, 3) := by decide +kernel
theorem dX9_digest_90 : decode cX9_digest 90 = .ok (.goto (-24), 3) := by decide +kernel
theorem dX9_digest_93 : decode cX9_digest 93 = .ok (.aload_n 0, 1) := by decide +kernel
theorem dX9_digest_94 : decode cX9_digest 94 = .ok (.getfield 106, 3) := by decide +kernel
theorem dX9_digest_97 : decode cX9_digest 97 = .ok (.ifCond .eq 7, 3) := by decide +kernel
theorem dX9_digest_100 : decode cX9_digest 100 = .ok (.aload_n 0, 1) := by decide +kernel
theorem dX9_digest_101 : decode cX9_digest 101 = .ok (.invokevirtual 306, 3) := by decide +kernel
theorem dX9_digest_104 : decode cX9_digest 104 = .ok (.iconst 0, 1) := by decide +kernel
theorem dX9_digest_105 : decode cX9_digest 105 = .ok (.istore_n 1, 1) := by decide +kernel
theorem dX9_digest_106 : decode cX9_digest 106 = .ok (.iload_n 1, 1) := by decide +kernel
theorem dX9_digest_107 : decode cX9_digest 107 = .ok (.bipush 15, 2) := by decide +kernel
theorem dX9_digest_109 : decode cX9_digest 109 = .ok (.if_icmp .ge 20, 3) := by decide +kernel
theorem dX9_digest_112 : decode cX9_digest 112 = .ok (.aload_n 0, 1) := by decide +kernel
theorem dX9_digest_113 : decode cX9_digest 113 = .ok (.aload_n 0, 1) := by decide +kernel
theorem dX9_digest_114 : decode cX9_digest 114 = .ok (.getfield 52, 3) := by decide +kernel
theorem dX9_digest_117 : decode cX9_digest 117 = .ok (.iload_n 1, 1) := by decide +kernel
theorem dX9_digest_118 : decode cX9_digest 118 = .ok (.iaload, 1) := by decide +kernel
theorem dX9_digest_119 : decode cX9_digest 119 = .ok (.i2l, 1) := by decide +kernel
theorem dX9_digest_120 : decode cX9_digest 120 = .ok (.invokevirtual 300, 3) := by decide +kernel
theorem dX9_digest_123 : decode cX9_digest 123 = .ok (.iinc 1 1, 3) := by decide +kernel
theorem dX9_digest_126 : decode cX9_digest 126 = .ok (.goto (-20), 3) := by decide +kernel
theorem dX9_digest_129 : decode cX9_digest 129 = .ok (.iconst 0, 1) := by decide +kernel
theorem dX9_digest_130 : decode cX9_digest 130 = .ok (.istore_n 1, 1) := by decide +kernel
theorem dX9_digest_131 : decode cX9_digest 131 = .ok (.iload_n 1, 1) := by decide +kernel
theorem dX9_digest_132 : decode cX9_digest 132 = .ok (.aload_n 0, 1) := by decide +kernel
theorem dX9_digest_133 : decode cX9_digest 133 = .ok (.getfield 77, 3) := by decide +kernel
theorem dX9_digest_136 : decode cX9_digest 136 = .ok (.if_icmp .ge 20, 3) := by decide +kernel
theorem dX9_digest_139 : decode cX9_digest 139 = .ok (.aload_n 0, 1) := by decide +kernel
theorem dX9_digest_140 : decode cX9_digest 140 = .ok (.aload_n 0, 1) := by decide +kernel
theorem dX9_digest_141 : decode cX9_digest 141 = .ok (.getfield 7, 3) := by decide +kernel
theorem dX9_digest_144 : decode cX9_digest 144 = .ok (.iload_n 1, 1) := by decide +kernel
theorem dX9_digest_145 : decode cX9_digest 145 = .ok (.iaload, 1) := by decide +kernel
theorem dX9_digest_146 : decode cX9_digest 146 = .ok (.i2l, 1) := by decide +kernel
theorem dX9_digest_147 : decode cX9_digest 147 = .ok (.invokevirtual 300, 3) := by decide +kernel
theorem dX9_digest_150 : decode cX9_digest 150 = .ok (.iinc 1 1, 3) := by decide +kernel
theorem dX9_digest_153 : decode cX9_digest 153 = .ok (.goto (-22), 3) := by decide +kernel
theorem dX9_digest_156 : decode cX9_digest 156 = .ok (.iconst 0, 1) := by decide +kernel
theorem dX9_digest_157 : decode cX9_digest 157 = .ok (.istore_n 1, 1) := by decide +kernel
theorem dX9_digest_158 : decode cX9_digest 158 = .ok (.iload_n 1, 1) := by decide +kernel
theorem dX9_digest_159 : decode cX9_digest 159 = .ok (.bipush 11, 2) := by decide +kernel
theorem dX9_digest_161 : decode cX9_digest 161 = .ok (.if_icmp .ge 19, 3) := by decide +kernel
theorem dX9_digest_164 : decode cX9_digest 164 = .ok (.aload_n 0, 1) := by decide +kernel
theorem dX9_digest_165 : decode cX9_digest 165 = .ok (.aload_n 0, 1) := by decide +kernel
theorem dX9_digest_166 : decode cX9_digest 166 = .ok (.iload_n 1, 1) := by decide +kernel
theorem dX9_digest_167 : decode cX9_digest 167 = .ok (.invokevirtual 291, 3) := by decide +kernel
theorem dX9_digest_170 : decode cX9_digest 170 = .ok (.i2l, 1) := by decide +kernel
theorem dX9_digest_171 : decode cX9_digest 171 = .ok (.invokevirtual 300, 3) := by decide +kernel
theorem dX9_digest_174 : decode cX9_digest 174 = .ok (.iinc 1 1, 3) := by decide +kernel
theorem dX9_digest_177 : decode cX9_digest 177 = .ok (.goto (-19), 3) := by decide +kernel
theorem dX9_digest_180 : decode cX9_digest 180 = .ok (.aload_n 0, 1) := by decide +kernel
theorem dX9_digest_181 : decode cX9_digest 181 = .ok (.getfield 296, 3) := by decide +kernel
theorem dX9_digest_184 : decode cX9_digest 184 = .ok (.lreturn, 1) := by decide +kernel
theorem dL_law_0 : decode cL_law 0 = .ok (.new 7, 3) := by decide +kernel
theorem dL_law_3 : decode cL_law 3 = .ok (.dup, 1) := by decide +kernel
theorem dL_law_4 : decode cL_law 4 = .ok (.invokespecial 9, 3) := by decide +kernel
theorem dL_law_7 : decode cL_law 7 = .ok (.astore_n 1, 1) := by decide +kernel
theorem dL_law_8 : decode cL_law 8 = .ok (.new 10, 3) := by decide +kernel
theorem dL_law_11 : decode cL_law 11 = .ok (.dup, 1) := by decide +kernel
theorem dL_law_12 : decode cL_law 12 = .ok (.invokespecial 12, 3) := by decide +kernel
theorem dL_law_15 : decode cL_law 15 = .ok (.astore_n 2, 1) := by decide +kernel
theorem dL_law_16 : decode cL_law 16 = .ok (.iconst 0, 1) := by decide +kernel
theorem dL_law_17 : decode cL_law 17 = .ok (.istore_n 3, 1) := by decide +kernel
theorem dL_law_18 : decode cL_law 18 = .ok (.iload_n 3, 1) := by decide +kernel
theorem dL_law_19 : decode cL_law 19 = .ok (.aload_n 0, 1) := by decide +kernel
theorem dL_law_20 : decode cL_law 20 = .ok (.arraylength, 1) := by decide +kernel
theorem dL_law_21 : decode cL_law 21 = .ok (.iconst 4, 1) := by decide +kernel
theorem dL_law_22 : decode cL_law 22 = .ok (.isub, 1) := by decide +kernel
theorem dL_law_23 : decode cL_law 23 = .ok (.if_icmp .gt 687, 3) := by decide +kernel
theorem dL_law_26 : decode cL_law 26 = .ok (.aload_n 0, 1) := by decide +kernel
theorem dL_law_27 : decode cL_law 27 = .ok (.iload_n 3, 1) := by decide +kernel
theorem dL_law_28 : decode cL_law 28 = .ok (.iaload, 1) := by decide +kernel
theorem dL_law_29 : decode cL_law 29 = .ok (.bipush 31, 2) := by decide +kernel
theorem dL_law_31 : decode cL_law 31 = .ok (.iand, 1) := by decide +kernel
theorem dL_law_32 : decode cL_law 32 = .ok (.tableswitch 672 0 21 #[104, 127, 140, 153, 166, 209, 242, 275, 308, 341, 374, 417, 450, 493, 506, 529, 552, 566, 609, 622, 635, 658], 104) := by decide +kernel
theorem dL_law_136 : decode cL_law 136 = .ok (.aload_n 1, 1) := by decide +kernel
theorem dL_law_137 : decode cL_law 137 = .ok (.aload_n 0, 1) := by decide +kernel
theorem dL_law_138 : decode cL_law 138 = .ok (.iload_n 3, 1) := by decide +kernel
theorem dL_law_139 : decode cL_law 139 = .ok (.iconst 1, 1) := by decide +kernel
theorem dL_law_140 : decode cL_law 140 = .ok (.iadd, 1) := by decide +kernel
theorem dL_law_141 : decode cL_law 141 = .ok (.iaload, 1) := by decide +kernel
theorem dL_law_142 : decode cL_law 142 = .ok (.invokevirtual 13, 3) := by decide +kernel
theorem dL_law_145 : decode cL_law 145 = .ok (.aload_n 2, 1) := by decide +kernel
theorem dL_law_146 : decode cL_law 146 = .ok (.aload_n 0, 1) := by decide +kernel
theorem dL_law_147 : decode cL_law 147 = .ok (.iload_n 3, 1) := by decide +kernel
theorem dL_law_148 : decode cL_law 148 = .ok (.iconst 1, 1) := by decide +kernel
theorem dL_law_149 : decode cL_law 149 = .ok (.iadd, 1) := by decide +kernel
theorem dL_law_150 : decode cL_law 150 = .ok (.iaload, 1) := by decide +kernel
theorem dL_law_151 : decode cL_law 151 = .ok (.invokevirtual 17, 3) := by decide +kernel
theorem dL_law_154 : decode cL_law 154 = .ok (.if_icmp .eq 550, 3) := by decide +kernel
theorem dL_law_157 : decode cL_law 157 = .ok (.iconst 0, 1) := by decide +kernel
theorem dL_law_158 : decode cL_law 158 = .ok (.ireturn, 1) := by decide +kernel
theorem dL_law_159 : decode cL_law 159 = .ok (.aload_n 1, 1) := by decide +kernel
theorem dL_law_160 : decode cL_law 160 = .ok (.invokevirtual 18, 3) := by decide +kernel
theorem dL_law_163 : decode cL_law 163 = .ok (.aload_n 2, 1) := by decide +kernel
theorem dL_law_164 : decode cL_law 164 = .ok (.invokevirtual 22, 3) := by decide +kernel
theorem dL_law_167 : decode cL_law 167 = .ok (.if_icmp .eq 537, 3) := by decide +kernel
theorem dL_law_170 : decode cL_law 170 = .ok (.iconst 0, 1) := by decide +kernel
theorem dL_law_171 : decode cL_law 171 = .ok (.ireturn, 1) := by decide +kernel
theorem dL_law_172 : decode cL_law 172 = .ok (.aload_n 1, 1) := by decide +kernel
theorem dL_law_173 : decode cL_law 173 = .ok (.invokevirtual 23, 3) := by decide +kernel
theorem dL_law_176 : decode cL_law 176 = .ok (.aload_n 2, 1) := by decide +kernel
theorem dL_law_177 : decode cL_law 177 = .ok (.invokevirtual 26, 3) := by decide +kernel
theorem dL_law_180 : decode cL_law 180 = .ok (.if_icmp .eq 524, 3) := by decide +kernel
theorem dL_law_183 : decode cL_law 183 = .ok (.iconst 0, 1) := by decide +kernel
theorem dL_law_184 : decode cL_law 184 = .ok (.ireturn, 1) := by decide +kernel
theorem dL_law_185 : decode cL_law 185 = .ok (.aload_n 1, 1) := by decide +kernel
theorem dL_law_186 : decode cL_law 186 = .ok (.invokevirtual 27, 3) := by decide +kernel
theorem dL_law_189 : decode cL_law 189 = .ok (.aload_n 2, 1) := by decide +kernel
theorem dL_law_190 : decode cL_law 190 = .ok (.invokevirtual 30, 3) := by decide +kernel
theorem dL_law_193 : decode cL_law 193 = .ok (.if_icmp .eq 511, 3) := by decide +kernel
theorem dL_law_196 : decode cL_law 196 = .ok (.iconst 0, 1) := by decide +kernel
theorem dL_law_197 : decode cL_law 197 = .ok (.ireturn, 1) := by decide +kernel
theorem dL_law_198 : decode cL_law 198 = .ok (.aload_n 1, 1) := by decide +kernel
theorem dL_law_199 : decode cL_law 199 = .ok (.aload_n 0, 1) := by decide +kernel
theorem dL_law_200 : decode cL_law 200 = .ok (.iload_n 3, 1) := by decide +kernel
theorem dL_law_201 : decode cL_law 201 = .ok (.iconst 1, 1) := by decide +kernel
theorem dL_law_202 : decode cL_law 202 = .ok (.iadd, 1) := by decide +kernel
theorem dL_law_203 : decode cL_law 203 = .ok (.iaload, 1) := by decide +kernel
theorem dL_law_204 : decode cL_law 204 = .ok (.aload_n 0, 1) := by decide +kernel
theorem dL_law_205 : decode cL_law 205 = .ok (.iload_n 3, 1) := by decide +kernel
theorem dL_law_206 : decode cL_law 206 = .ok (.iconst 2, 1) := by decide +kernel
theorem dL_law_207 : decode cL_law 207 = .ok (.iadd, 1) := by decide +kernel
theorem dL_law_208 : decode cL_law 208 = .ok (.iaload, 1) := by decide +kernel
theorem dL_law_209 : decode cL_law 209 = .ok (.aload_n 0, 1) := by decide +kernel
theorem dL_law_210 : decode cL_law 210 = .ok (.iload_n 3, 1) := by decide +kernel
theorem dL_law_211 : decode cL_law 211 = .ok (.iconst 3, 1) := by decide +kernel
theorem dL_law_212 : decode cL_law 212 = .ok (.iadd, 1) := by decide +kernel
theorem dL_law_213 : decode cL_law 213 = .ok (.iaload, 1) := by decide +kernel
theorem dL_law_214 : decode cL_law 214 = .ok (.invokevirtual 31, 3) := by decide +kernel
theorem dL_law_217 : decode cL_law 217 = .ok (.aload_n 2, 1) := by decide +kernel
theorem dL_law_218 : decode cL_law 218 = .ok (.aload_n 0, 1) := by decide +kernel
theorem dL_law_219 : decode cL_law 219 = .ok (.iload_n 3, 1) := by decide +kernel
theorem dL_law_220 : decode cL_law 220 = .ok (.iconst 1, 1) := by decide +kernel
theorem dL_law_221 : decode cL_law 221 = .ok (.iadd, 1) := by decide +kernel
theorem dL_law_222 : decode cL_law 222 = .ok (.iaload, 1) := by decide +kernel
theorem dL_law_223 : decode cL_law 223 = .ok (.aload_n 0, 1) := by decide +kernel
theorem dL_law_224 : decode cL_law 224 = .ok (.iload_n 3, 1) := by decide +kernel
theorem dL_law_225 : decode cL_law 225 = .ok (.iconst 2, 1) := by decide +kernel
theorem dL_law_226 : decode cL_law 226 = .ok (.iadd, 1) := by decide +kernel
theorem dL_law_227 : decode cL_law 227 = .ok (.iaload, 1) := by decide +kernel
theorem dL_law_228 : decode cL_law 228 = .ok (.aload_n 0, 1) := by decide +kernel
theorem dL_law_229 : decode cL_law 229 = .ok (.iload_n 3, 1) := by decide +kernel
theorem dL_law_230 : decode cL_law 230 = .ok (.iconst 3, 1) := by decide +kernel
theorem dL_law_231 : decode cL_law 231 = .ok (.iadd, 1) := by decide +kernel
theorem dL_law_232 : decode cL_law 232 = .ok (.iaload, 1) := by decide +kernel
theorem dL_law_233 : decode cL_law 233 = .ok (.invokevirtual 35, 3) := by decide +kernel
theorem dL_law_236 : decode cL_law 236 = .ok (.if_icmp .eq 468, 3) := by decide +kernel
theorem dL_law_239 : decode cL_law 239 = .ok (.iconst 0, 1) := by decide +kernel
theorem dL_law_240 : decode cL_law 240 = .ok (.ireturn, 1) := by decide +kernel
theorem dL_law_241 : decode cL_law 241 = .ok (.aload_n 1, 1) := by decide +kernel
theorem dL_law_242 : decode cL_law 242 = .ok (.aload_n 0, 1) := by decide +kernel
theorem dL_law_243 : decode cL_law 243 = .ok (.iload_n 3, 1) := by decide +kernel
theorem dL_law_244 : decode cL_law 244 = .ok (.iconst 1, 1) := by decide +kernel
theorem dL_law_245 : decode cL_law 245 = .ok (.iadd, 1) := by decide +kernel
theorem dL_law_246 : decode cL_law 246 = .ok (.iaload, 1) := by decide +kernel
theorem dL_law_247 : decode cL_law 247 = .ok (.aload_n 0, 1) := by decide +kernel
theorem dL_law_248 : decode cL_law 248 = .ok (.iload_n 3, 1) := by decide +kernel
theorem dL_law_249 : decode cL_law 249 = .ok (.iconst 2, 1) := by decide +kernel
theorem dL_law_250 : decode cL_law 250 = .ok (.iadd, 1) := by decide +kernel
theorem dL_law_251 : decode cL_law 251 = .ok (.iaload, 1) := by decide +kernel
theorem dL_law_252 : decode cL_law 252 = .ok (.invokevirtual 36, 3) := by decide +kernel
theorem dL_law_255 : decode cL_law 255 = .ok (.aload_n 2, 1) := by decide +kernel
theorem dL_law_256 : decode cL_law 256 = .ok (.aload_n 0, 1) := by decide +kernel
theorem dL_law_257 : decode cL_law 257 = .ok (.iload_n 3, 1) := by decide +kernel
theorem dL_law_258 : decode cL_law 258 = .ok (.iconst 1, 1) := by decide +kernel
theorem dL_law_259 : decode cL_law 259 = .ok (.iadd, 1) := by decide +kernel
theorem dL_law_260 : decode cL_law 260 = .ok (.iaload, 1) := by decide +kernel
theorem dL_law_261 : decode cL_law 261 = .ok (.aload_n 0, 1) := by decide +kernel
theorem dL_law_262 : decode cL_law 262 = .ok (.iload_n 3, 1) := by decide +kernel
theorem dL_law_263 : decode cL_law 263 = .ok (.iconst 2, 1) := by decide +kernel
theorem dL_law_264 : decode cL_law 264 = .ok (.iadd, 1) := by decide +kernel
theorem dL_law_265 : decode cL_law 265 = .ok (.iaload, 1) := by decide +kernel
theorem dL_law_266 : decode cL_law 266 = .ok (.invokevirtual 40, 3) := by decide +kernel
theorem dL_law_269 : decode cL_law 269 = .ok (.if_icmp .eq 435, 3) := by decide +kernel
theorem dL_law_272 : decode cL_law 272 = .ok (.iconst 0, 1) := by decide +kernel
theorem dL_law_273 : decode cL_law 273 = .ok (.ireturn, 1) := by decide +kernel
theorem dL_law_274 : decode cL_law 274 = .ok (.aload_n 1, 1) := by decide +kernel
theorem dL_law_275 : decode cL_law 275 = .ok (.aload_n 0, 1) := by decide +kernel
theorem dL_law_276 : decode cL_law 276 = .ok (.iload_n 3, 1) := by decide +kernel
theorem dL_law_277 : decode cL_law 277 = .ok (.iconst 1, 1) := by decide +kernel
theorem dL_law_278 : decode cL_law 278 = .ok (.iadd, 1) := by decide +kernel
theorem dL_law_279 : decode cL_law 279 = .ok (.iaload, 1) := by decide +kernel
theorem dL_law_280 : decode cL_law 280 = .ok (.aload_n 0, 1) := by decide +kernel
theorem dL_law_281 : decode cL_law 281 = .ok (.iload_n 3, 1) := by decide +kernel
theorem dL_law_282 : decode cL_law 282 = .ok (.iconst 2, 1) := by decide +kernel
theorem dL_law_283 : decode cL_law 283 = .ok (.iadd, 1) := by decide +kernel
theorem dL_law_284 : decode cL_law 284 = .ok (.iaload, 1) := by decide +kernel
theorem dL_law_285 : decode cL_law 285 = .ok (.invokevirtual 41, 3) := by decide +kernel
theorem dL_law_288 : decode cL_law 288 = .ok (.aload_n 2, 1) := by decide +kernel
theorem dL_law_289 : decode cL_law 289 = .ok (.aload_n 0, 1) := by decide +kernel
theorem dL_law_290 : decode cL_law 290 = .ok (.iload_n 3, 1) := by decide +kernel
theorem dL_law_291 : decode cL_law 291 = .ok (.iconst 1, 1) := by decide +kernel
theorem dL_law_292 : decode cL_law 292 = .ok (.iadd, 1) := by decide +kernel
theorem dL_law_293 : decode cL_law 293 = .ok (.iaload, 1) := by decide +kernel
theorem dL_law_294 : decode cL_law 294 = .ok (.aload_n 0, 1) := by decide +kernel
theorem dL_law_295 : decode cL_law 295 = .ok (.iload_n 3, 1) := by decide +kernel
theorem dL_law_296 : decode cL_law 296 = .ok (.iconst 2, 1) := by decide +kernel
theorem dL_law_297 : decode cL_law 297 = .ok (.iadd, 1) := by decide +kernel
theorem dL_law_298 : decode cL_law 298 = .ok (.iaload, 1) := by decide +kernel
theorem dL_law_299 : decode cL_law 299 = .ok (.invokevirtual 44, 3) := by decide +kernel
theorem dL_law_302 : decode cL_law 302 = .ok (.if_icmp .eq 402, 3) := by decide +kernel
theorem dL_law_305 : decode cL_law 305 = .ok (.iconst 0, 1) := by decide +kernel
theorem dL_law_306 : decode cL_law 306 = .ok (.ireturn, 1) := by decide +kernel
theorem dL_law_307 : decode cL_law 307 = .ok (.aload_n 1, 1) := by decide +kernel
theorem dL_law_308 : decode cL_law 308 = .ok (.aload_n 0, 1) := by decide +kernel
theorem dL_law_309 : decode cL_law 309 = .ok (.iload_n 3, 1) := by decide +kernel
theorem dL_law_310 : decode cL_law 310 = .ok (.iconst 1, 1) := by decide +kernel
theorem dL_law_311 : decode cL_law 311 = .ok (.iadd, 1) := by decide +kernel
theorem dL_law_312 : decode cL_law 312 = .ok (.iaload, 1) := by decide +kernel
theorem dL_law_313 : decode cL_law 313 = .ok (.aload_n 0, 1) := by decide +kernel
theorem dL_law_314 : decode cL_law 314 = .ok (.iload_n 3, 1) := by decide +kernel
theorem dL_law_315 : decode cL_law 315 = .ok (.iconst 2, 1) := by decide +kernel
theorem dL_law_316 : decode cL_law 316 = .ok (.iadd, 1) := by decide +kernel
theorem dL_law_317 : decode cL_law 317 = .ok (.iaload, 1) := by decide +kernel
theorem dL_law_318 : decode cL_law 318 = .ok (.invokevirtual 45, 3) := by decide +kernel
theorem dL_law_321 : decode cL_law 321 = .ok (.aload_n 2, 1) := by decide +kernel
theorem dL_law_322 : decode cL_law 322 = .ok (.aload_n 0, 1) := by decide +kernel
theorem dL_law_323 : decode cL_law 323 = .ok (.iload_n 3, 1) := by decide +kernel
theorem dL_law_324 : decode cL_law 324 = .ok (.iconst 1, 1) := by decide +kernel
theorem dL_law_325 : decode cL_law 325 = .ok (.iadd, 1) := by decide +kernel
theorem dL_law_326 : decode cL_law 326 = .ok (.iaload, 1) := by decide +kernel
theorem dL_law_327 : decode cL_law 327 = .ok (.aload_n 0, 1) := by decide +kernel
theorem dL_law_328 : decode cL_law 328 = .ok (.iload_n 3, 1) := by decide +kernel
theorem dL_law_329 : decode cL_law 329 = .ok (.iconst 2, 1) := by decide +kernel
theorem dL_law_330 : decode cL_law 330 = .ok (.iadd, 1) := by decide +kernel
theorem dL_law_331 : decode cL_law 331 = .ok (.iaload, 1) := by decide +kernel
theorem dL_law_332 : decode cL_law 332 = .ok (.invokevirtual 48, 3) := by decide +kernel
theorem dL_law_335 : decode cL_law 335 = .ok (.if_icmp .eq 369, 3) := by decide +kernel
theorem dL_law_338 : decode cL_law 338 = .ok (.iconst 0, 1) := by decide +kernel
theorem dL_law_339 : decode cL_law 339 = .ok (.ireturn, 1) := by decide +kernel
theorem dL_law_340 : decode cL_law 340 = .ok (.aload_n 1, 1) := by decide +kernel
theorem dL_law_341 : decode cL_law 341 = .ok (.aload_n 0, 1) := by decide +kernel
theorem dL_law_342 : decode cL_law 342 = .ok (.iload_n 3, 1) := by decide +kernel
theorem dL_law_343 : decode cL_law 343 = .ok (.iconst 1, 1) := by decide +kernel
theorem dL_law_344 : decode cL_law 344 = .ok (.iadd, 1) := by decide +kernel
theorem dL_law_345 : decode cL_law 345 = .ok (.iaload, 1) := by decide +kernel
theorem dL_law_346 : decode cL_law 346 = .ok (.aload_n 0, 1) := by decide +kernel
theorem dL_law_347 : decode cL_law 347 = .ok (.iload_n 3, 1) := by decide +kernel
theorem dL_law_348 : decode cL_law 348 = .ok (.iconst 2, 1) := by decide +kernel
theorem dL_law_349 : decode cL_law 349 = .ok (.iadd, 1) := by decide +kernel
theorem dL_law_350 : decode cL_law 350 = .ok (.iaload, 1) := by decide +kernel
theorem dL_law_351 : decode cL_law 351 = .ok (.invokevirtual 49, 3) := by decide +kernel
theorem dL_law_354 : decode cL_law 354 = .ok (.aload_n 2, 1) := by decide +kernel
theorem dL_law_355 : decode cL_law 355 = .ok (.aload_n 0, 1) := by decide +kernel
theorem dL_law_356 : decode cL_law 356 = .ok (.iload_n 3, 1) := by decide +kernel
theorem dL_law_357 : decode cL_law 357 = .ok (.iconst 1, 1) := by decide +kernel
theorem dL_law_358 : decode cL_law 358 = .ok (.iadd, 1) := by decide +kernel
theorem dL_law_359 : decode cL_law 359 = .ok (.iaload, 1) := by decide +kernel
theorem dL_law_360 : decode cL_law 360 = .ok (.aload_n 0, 1) := by decide +kernel
theorem dL_law_361 : decode cL_law 361 = .ok (.iload_n 3, 1) := by decide +kernel
theorem dL_law_362 : decode cL_law 362 = .ok (.iconst 2, 1) := by decide +kernel
theorem dL_law_363 : decode cL_law 363 = .ok (.iadd, 1) := by decide +kernel
theorem dL_law_364 : decode cL_law 364 = .ok (.iaload, 1) := by decide +kernel
theorem dL_law_365 : decode cL_law 365 = .ok (.invokevirtual 52, 3) := by decide +kernel
theorem dL_law_368 : decode cL_law 368 = .ok (.if_icmp .eq 336, 3) := by decide +kernel
theorem dL_law_371 : decode cL_law 371 = .ok (.iconst 0, 1) := by decide +kernel
theorem dL_law_372 : decode cL_law 372 = .ok (.ireturn, 1) := by decide +kernel
theorem dL_law_373 : decode cL_law 373 = .ok (.aload_n 1, 1) := by decide +kernel
theorem dL_law_374 : decode cL_law 374 = .ok (.aload_n 0, 1) := by decide +kernel
theorem dL_law_375 : decode cL_law 375 = .ok (.iload_n 3, 1) := by decide +kernel
theorem dL_law_376 : decode cL_law 376 = .ok (.iconst 1, 1) := by decide +kernel
theorem dL_law_377 : decode cL_law 377 = .ok (.iadd, 1) := by decide +kernel
theorem dL_law_378 : decode cL_law 378 = .ok (.iaload, 1) := by decide +kernel
theorem dL_law_379 : decode cL_law 379 = .ok (.aload_n 0, 1) := by decide +kernel
theorem dL_law_380 : decode cL_law 380 = .ok (.iload_n 3, 1) := by decide +kernel
theorem dL_law_381 : decode cL_law 381 = .ok (.iconst 2, 1) := by decide +kernel
theorem dL_law_382 : decode cL_law 382 = .ok (.iadd, 1) := by decide +kernel
theorem dL_law_383 : decode cL_law 383 = .ok (.iaload, 1) := by decide +kernel
theorem dL_law_384 : decode cL_law 384 = .ok (.invokevirtual 53, 3) := by decide +kernel
theorem dL_law_387 : decode cL_law 387 = .ok (.aload_n 2, 1) := by decide +kernel
theorem dL_law_388 : decode cL_law 388 = .ok (.aload_n 0, 1) := by decide +kernel
theorem dL_law_389 : decode cL_law 389 = .ok (.iload_n 3, 1) := by decide +kernel
theorem dL_law_390 : decode cL_law 390 = .ok (.iconst 1, 1) := by decide +kernel
theorem dL_law_391 : decode cL_law 391 = .ok (.iadd, 1) := by decide +kernel
theorem dL_law_392 : decode cL_law 392 = .ok (.iaload, 1) := by decide +kernel
theorem dL_law_393 : decode cL_law 393 = .ok (.aload_n 0, 1) := by decide +kernel
theorem dL_law_394 : decode cL_law 394 = .ok (.iload_n 3, 1) := by decide +kernel
theorem dL_law_395 : decode cL_law 395 = .ok (.iconst 2, 1) := by decide +kernel
theorem dL_law_396 : decode cL_law 396 = .ok (.iadd, 1) := by decide +kernel
theorem dL_law_397 : decode cL_law 397 = .ok (.iaload, 1) := by decide +kernel
theorem dL_law_398 : decode cL_law 398 = .ok (.invokevirtual 56, 3) := by decide +kernel
theorem dL_law_401 : decode cL_law 401 = .ok (.if_icmp .eq 303, 3) := by decide +kernel
theorem dL_law_404 : decode cL_law 404 = .ok (.iconst 0, 1) := by decide +kernel
theorem dL_law_405 : decode cL_law 405 = .ok (.ireturn, 1) := by decide +kernel
theorem dL_law_406 : decode cL_law 406 = .ok (.aload_n 1, 1) := by decide +kernel
theorem dL_law_407 : decode cL_law 407 = .ok (.aload_n 0, 1) := by decide +kernel
theorem dL_law_408 : decode cL_law 408 = .ok (.iload_n 3, 1) := by decide +kernel
theorem dL_law_409 : decode cL_law 409 = .ok (.iconst 1, 1) := by decide +kernel
theorem dL_law_410 : decode cL_law 410 = .ok (.iadd, 1) := by decide +kernel
theorem dL_law_411 : decode cL_law 411 = .ok (.iaload, 1) := by decide +kernel
theorem dL_law_412 : decode cL_law 412 = .ok (.aload_n 0, 1) := by decide +kernel
theorem dL_law_413 : decode cL_law 413 = .ok (.iload_n 3, 1) := by decide +kernel
theorem dL_law_414 : decode cL_law 414 = .ok (.iconst 2, 1) := by decide +kernel
theorem dL_law_415 : decode cL_law 415 = .ok (.iadd, 1) := by decide +kernel
theorem dL_law_416 : decode cL_law 416 = .ok (.iaload, 1) := by decide +kernel
theorem dL_law_417 : decode cL_law 417 = .ok (.aload_n 0, 1) := by decide +kernel
theorem dL_law_418 : decode cL_law 418 = .ok (.iload_n 3, 1) := by decide +kernel
theorem dL_law_419 : decode cL_law 419 = .ok (.iconst 3, 1) := by decide +kernel
theorem dL_law_420 : decode cL_law 420 = .ok (.iadd, 1) := by decide +kernel
theorem dL_law_421 : decode cL_law 421 = .ok (.iaload, 1) := by decide +kernel
theorem dL_law_422 : decode cL_law 422 = .ok (.invokevirtual 57, 3) := by decide +kernel
theorem dL_law_425 : decode cL_law 425 = .ok (.aload_n 2, 1) := by decide +kernel
theorem dL_law_426 : decode cL_law 426 = .ok (.aload_n 0, 1) := by decide +kernel
theorem dL_law_427 : decode cL_law 427 = .ok (.iload_n 3, 1) := by decide +kernel
theorem dL_law_428 : decode cL_law 428 = .ok (.iconst 1, 1) := by decide +kernel
theorem dL_law_429 : decode cL_law 429 = .ok (.iadd, 1) := by decide +kernel
theorem dL_law_430 : decode cL_law 430 = .ok (.iaload, 1) := by decide +kernel
theorem dL_law_431 : decode cL_law 431 = .ok (.aload_n 0, 1) := by decide +kernel
theorem dL_law_432 : decode cL_law 432 = .ok (.iload_n 3, 1) := by decide +kernel
theorem dL_law_433 : decode cL_law 433 = .ok (.iconst 2, 1) := by decide +kernel
theorem dL_law_434 : decode cL_law 434 = .ok (.iadd, 1) := by decide +kernel
theorem dL_law_435 : decode cL_law 435 = .ok (.iaload, 1) := by decide +kernel
theorem dL_law_436 : decode cL_law 436 = .ok (.aload_n 0, 1) := by decide +kernel
theorem dL_law_437 : decode cL_law 437 = .ok (.iload_n 3, 1) := by decide +kernel
theorem dL_law_438 : decode cL_law 438 = .ok (.iconst 3, 1) := by decide +kernel
theorem dL_law_439 : decode cL_law 439 = .ok (.iadd, 1) := by decide +kernel
theorem dL_law_440 : decode cL_law 440 = .ok (.iaload, 1) := by decide +kernel
theorem dL_law_441 : decode cL_law 441 = .ok (.invokevirtual 60, 3) := by decide +kernel
theorem dL_law_444 : decode cL_law 444 = .ok (.if_icmp .eq 260, 3) := by decide +kernel
theorem dL_law_447 : decode cL_law 447 = .ok (.iconst 0, 1) := by decide +kernel
theorem dL_law_448 : decode cL_law 448 = .ok (.ireturn, 1) := by decide +kernel
theorem dL_law_449 : decode cL_law 449 = .ok (.aload_n 1, 1) := by decide +kernel
theorem dL_law_450 : decode cL_law 450 = .ok (.aload_n 0, 1) := by decide +kernel
theorem dL_law_451 : decode cL_law 451 = .ok (.iload_n 3, 1) := by decide +kernel
theorem dL_law_452 : decode cL_law 452 = .ok (.iconst 1, 1) := by decide +kernel
theorem dL_law_453 : decode cL_law 453 = .ok (.iadd, 1) := by decide +kernel
theorem dL_law_454 : decode cL_law 454 = .ok (.iaload, 1) := by decide +kernel
theorem dL_law_455 : decode cL_law 455 = .ok (.aload_n 0, 1) := by decide +kernel
theorem dL_law_456 : decode cL_law 456 = .ok (.iload_n 3, 1) := by decide +kernel
theorem dL_law_457 : decode cL_law 457 = .ok (.iconst 2, 1) := by decide +kernel
theorem dL_law_458 : decode cL_law 458 = .ok (.iadd, 1) := by decide +kernel
theorem dL_law_459 : decode cL_law 459 = .ok (.iaload, 1) := by decide +kernel
theorem dL_law_460 : decode cL_law 460 = .ok (.invokevirtual 61, 3) := by decide +kernel
theorem dL_law_463 : decode cL_law 463 = .ok (.aload_n 2, 1) := by decide +kernel
theorem dL_law_464 : decode cL_law 464 = .ok (.aload_n 0, 1) := by decide +kernel
theorem dL_law_465 : decode cL_law 465 = .ok (.iload_n 3, 1) := by decide +kernel
theorem dL_law_466 : decode cL_law 466 = .ok (.iconst 1, 1) := by decide +kernel
theorem dL_law_467 : decode cL_law 467 = .ok (.iadd, 1) := by decide +kernel
theorem dL_law_468 : decode cL_law 468 = .ok (.iaload, 1) := by decide +kernel
theorem dL_law_469 : decode cL_law 469 = .ok (.aload_n 0, 1) := by decide +kernel
theorem dL_law_470 : decode cL_law 470 = .ok (.iload_n 3, 1) := by decide +kernel
theorem dL_law_471 : decode cL_law 471 = .ok (.iconst 2, 1) := by decide +kernel
theorem dL_law_472 : decode cL_law 472 = .ok (.iadd, 1) := by decide +kernel
theorem dL_law_473 : decode cL_law 473 = .ok (.iaload, 1) := by decide +kernel
theorem dL_law_474 : decode cL_law 474 = .ok (.invokevirtual 64, 3) := by decide +kernel
theorem dL_law_477 : decode cL_law 477 = .ok (.if_icmp .eq 227, 3) := by decide +kernel
theorem dL_law_480 : decode cL_law 480 = .ok (.iconst 0, 1) := by decide +kernel
theorem dL_law_481 : decode cL_law 481 = .ok (.ireturn, 1) := by decide +kernel
theorem dL_law_482 : decode cL_law 482 = .ok (.aload_n 1, 1) := by decide +kernel
theorem dL_law_483 : decode cL_law 483 = .ok (.aload_n 0, 1) := by decide +kernel
theorem dL_law_484 : decode cL_law 484 = .ok (.iload_n 3, 1) := by decide +kernel
theorem dL_law_485 : decode cL_law 485 = .ok (.iconst 1, 1) := by decide +kernel
theorem dL_law_486 : decode cL_law 486 = .ok (.iadd, 1) := by decide +kernel
theorem dL_law_487 : decode cL_law 487 = .ok (.iaload, 1) := by decide +kernel
theorem dL_law_488 : decode cL_law 488 = .ok (.aload_n 0, 1) := by decide +kernel
theorem dL_law_489 : decode cL_law 489 = .ok (.iload_n 3, 1) := by decide +kernel
theorem dL_law_490 : decode cL_law 490 = .ok (.iconst 2, 1) := by decide +kernel
theorem dL_law_491 : decode cL_law 491 = .ok (.iadd, 1) := by decide +kernel
theorem dL_law_492 : decode cL_law 492 = .ok (.iaload, 1) := by decide +kernel
theorem dL_law_493 : decode cL_law 493 = .ok (.aload_n 0, 1) := by decide +kernel
theorem dL_law_494 : decode cL_law 494 = .ok (.iload_n 3, 1) := by decide +kernel
theorem dL_law_495 : decode cL_law 495 = .ok (.iconst 3, 1) := by decide +kernel
theorem dL_law_496 : decode cL_law 496 = .ok (.iadd, 1) := by decide +kernel
theorem dL_law_497 : decode cL_law 497 = .ok (.iaload, 1) := by decide +kernel
theorem dL_law_498 : decode cL_law 498 = .ok (.invokevirtual 65, 3) := by decide +kernel
theorem dL_law_501 : decode cL_law 501 = .ok (.aload_n 2, 1) := by decide +kernel
theorem dL_law_502 : decode cL_law 502 = .ok (.aload_n 0, 1) := by decide +kernel
theorem dL_law_503 : decode cL_law 503 = .ok (.iload_n 3, 1) := by decide +kernel
theorem dL_law_504 : decode cL_law 504 = .ok (.iconst 1, 1) := by decide +kernel
theorem dL_law_505 : decode cL_law 505 = .ok (.iadd, 1) := by decide +kernel
theorem dL_law_506 : decode cL_law 506 = .ok (.iaload, 1) := by decide +kernel
theorem dL_law_507 : decode cL_law 507 = .ok (.aload_n 0, 1) := by decide +kernel
theorem dL_law_508 : decode cL_law 508 = .ok (.iload_n 3, 1) := by decide +kernel
theorem dL_law_509 : decode cL_law 509 = .ok (.iconst 2, 1) := by decide +kernel
theorem dL_law_510 : decode cL_law 510 = .ok (.iadd, 1) := by decide +kernel
theorem dL_law_511 : decode cL_law 511 = .ok (.iaload, 1) := by decide +kernel
theorem dL_law_512 : decode cL_law 512 = .ok (.aload_n 0, 1) := by decide +kernel
theorem dL_law_513 : decode cL_law 513 = .ok (.iload_n 3, 1) := by decide +kernel
theorem dL_law_514 : decode cL_law 514 = .ok (.iconst 3, 1) := by decide +kernel
theorem dL_law_515 : decode cL_law 515 = .ok (.iadd, 1) := by decide +kernel
theorem dL_law_516 : decode cL_law 516 = .ok (.iaload, 1) := by decide +kernel
theorem dL_law_517 : decode cL_law 517 = .ok (.invokevirtual 68, 3) := by decide +kernel
theorem dL_law_520 : decode cL_law 520 = .ok (.if_icmp .eq 184, 3) := by decide +kernel
theorem dL_law_523 : decode cL_law 523 = .ok (.iconst 0, 1) := by decide +kernel
theorem dL_law_524 : decode cL_law 524 = .ok (.ireturn, 1) := by decide +kernel
theorem dL_law_525 : decode cL_law 525 = .ok (.aload_n 1, 1) := by decide +kernel
theorem dL_law_526 : decode cL_law 526 = .ok (.invokevirtual 69, 3) := by decide +kernel
theorem dL_law_529 : decode cL_law 529 = .ok (.aload_n 2, 1) := by decide +kernel
theorem dL_law_530 : decode cL_law 530 = .ok (.invokevirtual 72, 3) := by decide +kernel
theorem dL_law_533 : decode cL_law 533 = .ok (.if_icmp .eq 171, 3) := by decide +kernel
theorem dL_law_536 : decode cL_law 536 = .ok (.iconst 0, 1) := by decide +kernel
theorem dL_law_537 : decode cL_law 537 = .ok (.ireturn, 1) := by decide +kernel
theorem dL_law_538 : decode cL_law 538 = .ok (.aload_n 1, 1) := by decide +kernel
theorem dL_law_539 : decode cL_law 539 = .ok (.aload_n 0, 1) := by decide +kernel
theorem dL_law_540 : decode cL_law 540 = .ok (.iload_n 3, 1) := by decide +kernel
theorem dL_law_541 : decode cL_law 541 = .ok (.iconst 1, 1) := by decide +kernel
theorem dL_law_542 : decode cL_law 542 = .ok (.iadd, 1) := by decide +kernel
theorem dL_law_543 : decode cL_law 543 = .ok (.iaload, 1) := by decide +kernel
theorem dL_law_544 : decode cL_law 544 = .ok (.invokevirtual 73, 3) := by decide +kernel
theorem dL_law_547 : decode cL_law 547 = .ok (.aload_n 2, 1) := by decide +kernel
theorem dL_law_548 : decode cL_law 548 = .ok (.aload_n 0, 1) := by decide +kernel
theorem dL_law_549 : decode cL_law 549 = .ok (.iload_n 3, 1) := by decide +kernel
theorem dL_law_550 : decode cL_law 550 = .ok (.iconst 1, 1) := by decide +kernel
theorem dL_law_551 : decode cL_law 551 = .ok (.iadd, 1) := by decide +kernel
theorem dL_law_552 : decode cL_law 552 = .ok (.iaload, 1) := by decide +kernel
theorem dL_law_553 : decode cL_law 553 = .ok (.invokevirtual 76, 3) := by decide +kernel
theorem dL_law_556 : decode cL_law 556 = .ok (.if_icmp .eq 148, 3) := by decide +kernel
theorem dL_law_559 : decode cL_law 559 = .ok (.iconst 0, 1) := by decide +kernel
theorem dL_law_560 : decode cL_law 560 = .ok (.ireturn, 1) := by decide +kernel
theorem dL_law_561 : decode cL_law 561 = .ok (.aload_n 1, 1) := by decide +kernel
theorem dL_law_562 : decode cL_law 562 = .ok (.aload_n 0, 1) := by decide +kernel
theorem dL_law_563 : decode cL_law 563 = .ok (.iload_n 3, 1) := by decide +kernel
theorem dL_law_564 : decode cL_law 564 = .ok (.iconst 1, 1) := by decide +kernel
theorem dL_law_565 : decode cL_law 565 = .ok (.iadd, 1) := by decide +kernel
theorem dL_law_566 : decode cL_law 566 = .ok (.iaload, 1) := by decide +kernel
theorem dL_law_567 : decode cL_law 567 = .ok (.invokevirtual 77, 3) := by decide +kernel
theorem dL_law_570 : decode cL_law 570 = .ok (.aload_n 2, 1) := by decide +kernel
theorem dL_law_571 : decode cL_law 571 = .ok (.aload_n 0, 1) := by decide +kernel
theorem dL_law_572 : decode cL_law 572 = .ok (.iload_n 3, 1) := by decide +kernel
theorem dL_law_573 : decode cL_law 573 = .ok (.iconst 1, 1) := by decide +kernel
theorem dL_law_574 : decode cL_law 574 = .ok (.iadd, 1) := by decide +kernel
theorem dL_law_575 : decode cL_law 575 = .ok (.iaload, 1) := by decide +kernel
theorem dL_law_576 : decode cL_law 576 = .ok (.invokevirtual 80, 3) := by decide +kernel
theorem dL_law_579 : decode cL_law 579 = .ok (.if_icmp .eq 125, 3) := by decide +kernel
theorem dL_law_582 : decode cL_law 582 = .ok (.iconst 0, 1) := by decide +kernel
theorem dL_law_583 : decode cL_law 583 = .ok (.ireturn, 1) := by decide +kernel
theorem dL_law_584 : decode cL_law 584 = .ok (.aload_n 1, 1) := by decide +kernel
theorem dL_law_585 : decode cL_law 585 = .ok (.invokevirtual 81, 3) := by decide +kernel
theorem dL_law_588 : decode cL_law 588 = .ok (.aload_n 2, 1) := by decide +kernel
theorem dL_law_589 : decode cL_law 589 = .ok (.invokevirtual 85, 3) := by decide +kernel
theorem dL_law_592 : decode cL_law 592 = .ok (.lcmp, 1) := by decide +kernel
theorem dL_law_593 : decode cL_law 593 = .ok (.ifCond .eq 111, 3) := by decide +kernel
theorem dL_law_596 : decode cL_law 596 = .ok (.iconst 0, 1) := by decide +kernel
theorem dL_law_597 : decode cL_law 597 = .ok (.ireturn, 1) := by decide +kernel
theorem dL_law_598 : decode cL_law 598 = .ok (.aload_n 1, 1) := by decide +kernel
theorem dL_law_599 : decode cL_law 599 = .ok (.aload_n 0, 1) := by decide +kernel
theorem dL_law_600 : decode cL_law 600 = .ok (.iload_n 3, 1) := by decide +kernel
theorem dL_law_601 : decode cL_law 601 = .ok (.iconst 1, 1) := by decide +kernel
theorem dL_law_602 : decode cL_law 602 = .ok (.iadd, 1) := by decide +kernel
theorem dL_law_603 : decode cL_law 603 = .ok (.iaload, 1) := by decide +kernel
theorem dL_law_604 : decode cL_law 604 = .ok (.aload_n 0, 1) := by decide +kernel
theorem dL_law_605 : decode cL_law 605 = .ok (.iload_n 3, 1) := by decide +kernel
theorem dL_law_606 : decode cL_law 606 = .ok (.iconst 2, 1) := by decide +kernel
theorem dL_law_607 : decode cL_law 607 = .ok (.iadd, 1) := by decide +kernel
theorem dL_law_608 : decode cL_law 608 = .ok (.iaload, 1) := by decide +kernel
theorem dL_law_609 : decode cL_law 609 = .ok (.aload_n 0, 1) := by decide +kernel
theorem dL_law_610 : decode cL_law 610 = .ok (.iload_n 3, 1) := by decide +kernel
theorem dL_law_611 : decode cL_law 611 = .ok (.iconst 3, 1) := by decide +kernel
theorem dL_law_612 : decode cL_law 612 = .ok (.iadd, 1) := by decide +kernel
theorem dL_law_613 : decode cL_law 613 = .ok (.iaload, 1) := by decide +kernel
theorem dL_law_614 : decode cL_law 614 = .ok (.invokevirtual 86, 3) := by decide +kernel
theorem dL_law_617 : decode cL_law 617 = .ok (.aload_n 2, 1) := by decide +kernel
theorem dL_law_618 : decode cL_law 618 = .ok (.aload_n 0, 1) := by decide +kernel
theorem dL_law_619 : decode cL_law 619 = .ok (.iload_n 3, 1) := by decide +kernel
theorem dL_law_620 : decode cL_law 620 = .ok (.iconst 1, 1) := by decide +kernel
theorem dL_law_621 : decode cL_law 621 = .ok (.iadd, 1) := by decide +kernel
theorem dL_law_622 : decode cL_law 622 = .ok (.iaload, 1) := by decide +kernel
theorem dL_law_623 : decode cL_law 623 = .ok (.aload_n 0, 1) := by decide +kernel
theorem dL_law_624 : decode cL_law 624 = .ok (.iload_n 3, 1) := by decide +kernel
theorem dL_law_625 : decode cL_law 625 = .ok (.iconst 2, 1) := by decide +kernel
theorem dL_law_626 : decode cL_law 626 = .ok (.iadd, 1) := by decide +kernel
theorem dL_law_627 : decode cL_law 627 = .ok (.iaload, 1) := by decide +kernel
theorem dL_law_628 : decode cL_law 628 = .ok (.aload_n 0, 1) := by decide +kernel
theorem dL_law_629 : decode cL_law 629 = .ok (.iload_n 3, 1) := by decide +kernel
theorem dL_law_630 : decode cL_law 630 = .ok (.iconst 3, 1) := by decide +kernel
theorem dL_law_631 : decode cL_law 631 = .ok (.iadd, 1) := by decide +kernel
theorem dL_law_632 : decode cL_law 632 = .ok (.iaload, 1) := by decide +kernel
theorem dL_law_633 : decode cL_law 633 = .ok (.invokevirtual 89, 3) := by decide +kernel
theorem dL_law_636 : decode cL_law 636 = .ok (.if_icmp .eq 68, 3) := by decide +kernel
theorem dL_law_639 : decode cL_law 639 = .ok (.iconst 0, 1) := by decide +kernel
theorem dL_law_640 : decode cL_law 640 = .ok (.ireturn, 1) := by decide +kernel
theorem dL_law_641 : decode cL_law 641 = .ok (.aload_n 1, 1) := by decide +kernel
theorem dL_law_642 : decode cL_law 642 = .ok (.invokevirtual 90, 3) := by decide +kernel
theorem dL_law_645 : decode cL_law 645 = .ok (.aload_n 2, 1) := by decide +kernel
theorem dL_law_646 : decode cL_law 646 = .ok (.invokevirtual 93, 3) := by decide +kernel
theorem dL_law_649 : decode cL_law 649 = .ok (.if_icmp .eq 55, 3) := by decide +kernel
theorem dL_law_652 : decode cL_law 652 = .ok (.iconst 0, 1) := by decide +kernel
theorem dL_law_653 : decode cL_law 653 = .ok (.ireturn, 1) := by decide +kernel
theorem dL_law_654 : decode cL_law 654 = .ok (.aload_n 1, 1) := by decide +kernel
theorem dL_law_655 : decode cL_law 655 = .ok (.invokevirtual 94, 3) := by decide +kernel
theorem dL_law_658 : decode cL_law 658 = .ok (.aload_n 2, 1) := by decide +kernel
theorem dL_law_659 : decode cL_law 659 = .ok (.invokevirtual 97, 3) := by decide +kernel
theorem dL_law_662 : decode cL_law 662 = .ok (.if_icmp .eq 42, 3) := by decide +kernel
theorem dL_law_665 : decode cL_law 665 = .ok (.iconst 0, 1) := by decide +kernel
theorem dL_law_666 : decode cL_law 666 = .ok (.ireturn, 1) := by decide +kernel
theorem dL_law_667 : decode cL_law 667 = .ok (.aload_n 1, 1) := by decide +kernel
theorem dL_law_668 : decode cL_law 668 = .ok (.aload_n 0, 1) := by decide +kernel
theorem dL_law_669 : decode cL_law 669 = .ok (.iload_n 3, 1) := by decide +kernel
theorem dL_law_670 : decode cL_law 670 = .ok (.iconst 1, 1) := by decide +kernel
theorem dL_law_671 : decode cL_law 671 = .ok (.iadd, 1) := by decide +kernel
theorem dL_law_672 : decode cL_law 672 = .ok (.iaload, 1) := by decide +kernel
theorem dL_law_673 : decode cL_law 673 = .ok (.invokevirtual 98, 3) := by decide +kernel
theorem dL_law_676 : decode cL_law 676 = .ok (.aload_n 2, 1) := by decide +kernel
theorem dL_law_677 : decode cL_law 677 = .ok (.aload_n 0, 1) := by decide +kernel
theorem dL_law_678 : decode cL_law 678 = .ok (.iload_n 3, 1) := by decide +kernel
theorem dL_law_679 : decode cL_law 679 = .ok (.iconst 1, 1) := by decide +kernel
theorem dL_law_680 : decode cL_law 680 = .ok (.iadd, 1) := by decide +kernel
theorem dL_law_681 : decode cL_law 681 = .ok (.iaload, 1) := by decide +kernel
theorem dL_law_682 : decode cL_law 682 = .ok (.invokevirtual 101, 3) := by decide +kernel
theorem dL_law_685 : decode cL_law 685 = .ok (.if_icmp .eq 19, 3) := by decide +kernel
theorem dL_law_688 : decode cL_law 688 = .ok (.iconst 0, 1) := by decide +kernel
theorem dL_law_689 : decode cL_law 689 = .ok (.ireturn, 1) := by decide +kernel
theorem dL_law_690 : decode cL_law 690 = .ok (.aload_n 1, 1) := by decide +kernel
theorem dL_law_691 : decode cL_law 691 = .ok (.invokevirtual 102, 3) := by decide +kernel
theorem dL_law_694 : decode cL_law 694 = .ok (.aload_n 2, 1) := by decide +kernel
theorem dL_law_695 : decode cL_law 695 = .ok (.invokevirtual 105, 3) := by decide +kernel
theorem dL_law_698 : decode cL_law 698 = .ok (.lcmp, 1) := by decide +kernel
theorem dL_law_699 : decode cL_law 699 = .ok (.ifCond .eq 5, 3) := by decide +kernel
theorem dL_law_702 : decode cL_law 702 = .ok (.iconst 0, 1) := by decide +kernel
theorem dL_law_703 : decode cL_law 703 = .ok (.ireturn, 1) := by decide +kernel
theorem dL_law_704 : decode cL_law 704 = .ok (.iinc 3 4, 3) := by decide +kernel
theorem dL_law_707 : decode cL_law 707 = .ok (.goto (-689), 3) := by decide +kernel
theorem dL_law_710 : decode cL_law 710 = .ok (.iconst 1, 1) := by decide +kernel
theorem dL_law_711 : decode cL_law 711 = .ok (.ireturn, 1) := by decide +kernel
