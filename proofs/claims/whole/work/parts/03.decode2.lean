theorem dX9_isGood_185 : decode cX9_isGood 185 = .ok (.getfield 13, 3) := by decide +kernel
theorem dX9_isGood_188 : decode cX9_isGood 188 = .ok (.iconst 0, 1) := by decide +kernel
theorem dX9_isGood_189 : decode cX9_isGood 189 = .ok (.iaload, 1) := by decide +kernel
theorem dX9_isGood_190 : decode cX9_isGood 190 = .ok (.ifCond .ne 7, 3) := by decide +kernel
theorem dX9_isGood_193 : decode cX9_isGood 193 = .ok (.iconst 1, 1) := by decide +kernel
theorem dX9_isGood_194 : decode cX9_isGood 194 = .ok (.goto 4, 3) := by decide +kernel
theorem dX9_isGood_197 : decode cX9_isGood 197 = .ok (.iconst 0, 1) := by decide +kernel
theorem dX9_isGood_198 : decode cX9_isGood 198 = .ok (.istore_n 2, 1) := by decide +kernel
theorem dX9_isGood_199 : decode cX9_isGood 199 = .ok (.aload_n 0, 1) := by decide +kernel
theorem dX9_isGood_200 : decode cX9_isGood 200 = .ok (.iconst 1, 1) := by decide +kernel
theorem dX9_isGood_201 : decode cX9_isGood 201 = .ok (.putfield 87, 3) := by decide +kernel
theorem dX9_isGood_204 : decode cX9_isGood 204 = .ok (.aload_n 0, 1) := by decide +kernel
theorem dX9_isGood_205 : decode cX9_isGood 205 = .ok (.iconst 0, 1) := by decide +kernel
theorem dX9_isGood_206 : decode cX9_isGood 206 = .ok (.putfield 84, 3) := by decide +kernel
theorem dX9_isGood_209 : decode cX9_isGood 209 = .ok (.iload_n 2, 1) := by decide +kernel
theorem dX9_isGood_210 : decode cX9_isGood 210 = .ok (.ireturn, 1) := by decide +kernel
theorem dX9_faultOf_0 : decode cX9_faultOf 0 = .ok (.aload_n 0, 1) := by decide +kernel
theorem dX9_faultOf_1 : decode cX9_faultOf 1 = .ok (.iconst 0, 1) := by decide +kernel
theorem dX9_faultOf_2 : decode cX9_faultOf 2 = .ok (.putfield 87, 3) := by decide +kernel
theorem dX9_faultOf_5 : decode cX9_faultOf 5 = .ok (.aload_n 0, 1) := by decide +kernel
theorem dX9_faultOf_6 : decode cX9_faultOf 6 = .ok (.iconst 0, 1) := by decide +kernel
theorem dX9_faultOf_7 : decode cX9_faultOf 7 = .ok (.putfield 84, 3) := by decide +kernel
theorem dX9_faultOf_10 : decode cX9_faultOf 10 = .ok (.aload_n 0, 1) := by decide +kernel
theorem dX9_faultOf_11 : decode cX9_faultOf 11 = .ok (.getfield 13, 3) := by decide +kernel
theorem dX9_faultOf_14 : decode cX9_faultOf 14 = .ok (.iconst 0, 1) := by decide +kernel
theorem dX9_faultOf_15 : decode cX9_faultOf 15 = .ok (.iconst 0, 1) := by decide +kernel
theorem dX9_faultOf_16 : decode cX9_faultOf 16 = .ok (.iastore, 1) := by decide +kernel
theorem dX9_faultOf_17 : decode cX9_faultOf 17 = .ok (.aload_n 0, 1) := by decide +kernel
theorem dX9_faultOf_18 : decode cX9_faultOf 18 = .ok (.getfield 13, 3) := by decide +kernel
theorem dX9_faultOf_21 : decode cX9_faultOf 21 = .ok (.iconst 1, 1) := by decide +kernel
theorem dX9_faultOf_22 : decode cX9_faultOf 22 = .ok (.iconst 0, 1) := by decide +kernel
theorem dX9_faultOf_23 : decode cX9_faultOf 23 = .ok (.iastore, 1) := by decide +kernel
theorem dX9_faultOf_24 : decode cX9_faultOf 24 = .ok (.iconst 0, 1) := by decide +kernel
theorem dX9_faultOf_25 : decode cX9_faultOf 25 = .ok (.istore_n 1, 1) := by decide +kernel
theorem dX9_faultOf_26 : decode cX9_faultOf 26 = .ok (.iconst 1, 1) := by decide +kernel
theorem dX9_faultOf_27 : decode cX9_faultOf 27 = .ok (.istore_n 2, 1) := by decide +kernel
theorem dX9_faultOf_28 : decode cX9_faultOf 28 = .ok (.iload_n 1, 1) := by decide +kernel
theorem dX9_faultOf_29 : decode cX9_faultOf 29 = .ok (.aload_n 0, 1) := by decide +kernel
theorem dX9_faultOf_30 : decode cX9_faultOf 30 = .ok (.getfield 77, 3) := by decide +kernel
theorem dX9_faultOf_33 : decode cX9_faultOf 33 = .ok (.if_icmp .ge 38, 3) := by decide +kernel
theorem dX9_faultOf_36 : decode cX9_faultOf 36 = .ok (.iload_n 2, 1) := by decide +kernel
theorem dX9_faultOf_37 : decode cX9_faultOf 37 = .ok (.ifCond .eq 34, 3) := by decide +kernel
theorem dX9_faultOf_40 : decode cX9_faultOf 40 = .ok (.aload_n 0, 1) := by decide +kernel
theorem dX9_faultOf_41 : decode cX9_faultOf 41 = .ok (.iconst 0, 1) := by decide +kernel
theorem dX9_faultOf_42 : decode cX9_faultOf 42 = .ok (.putfield 90, 3) := by decide +kernel
theorem dX9_faultOf_45 : decode cX9_faultOf 45 = .ok (.aload_n 0, 1) := by decide +kernel
theorem dX9_faultOf_46 : decode cX9_faultOf 46 = .ok (.aload_n 0, 1) := by decide +kernel
theorem dX9_faultOf_47 : decode cX9_faultOf 47 = .ok (.getfield 7, 3) := by decide +kernel
theorem dX9_faultOf_50 : decode cX9_faultOf 50 = .ok (.iload_n 1, 1) := by decide +kernel
theorem dX9_faultOf_51 : decode cX9_faultOf 51 = .ok (.iaload, 1) := by decide +kernel
theorem dX9_faultOf_52 : decode cX9_faultOf 52 = .ok (.invokevirtual 94, 3) := by decide +kernel
theorem dX9_faultOf_55 : decode cX9_faultOf 55 = .ok (.istore_n 2, 1) := by decide +kernel
theorem dX9_faultOf_56 : decode cX9_faultOf 56 = .ok (.iload_n 1, 1) := by decide +kernel
theorem dX9_faultOf_57 : decode cX9_faultOf 57 = .ok (.iload_n 2, 1) := by decide +kernel
theorem dX9_faultOf_58 : decode cX9_faultOf 58 = .ok (.ifCond .eq 7, 3) := by decide +kernel
theorem dX9_faultOf_61 : decode cX9_faultOf 61 = .ok (.iconst 1, 1) := by decide +kernel
theorem dX9_faultOf_62 : decode cX9_faultOf 62 = .ok (.goto 4, 3) := by decide +kernel
theorem dX9_faultOf_65 : decode cX9_faultOf 65 = .ok (.iconst 0, 1) := by decide +kernel
theorem dX9_faultOf_66 : decode cX9_faultOf 66 = .ok (.iadd, 1) := by decide +kernel
theorem dX9_faultOf_67 : decode cX9_faultOf 67 = .ok (.istore_n 1, 1) := by decide +kernel
theorem dX9_faultOf_68 : decode cX9_faultOf 68 = .ok (.goto (-40), 3) := by decide +kernel
theorem dX9_faultOf_71 : decode cX9_faultOf 71 = .ok (.iload_n 1, 1) := by decide +kernel
theorem dX9_faultOf_72 : decode cX9_faultOf 72 = .ok (.ireturn, 1) := by decide +kernel
theorem dX9_fault_0 : decode cX9_fault 0 = .ok (.aload_n 0, 1) := by decide +kernel
theorem dX9_fault_1 : decode cX9_fault 1 = .ok (.invokevirtual 98, 3) := by decide +kernel
theorem dX9_fault_4 : decode cX9_fault 4 = .ok (.ireturn, 1) := by decide +kernel
theorem dX9_text_0 : decode cX9_text 0 = .ok (.aload_n 0, 1) := by decide +kernel
theorem dX9_text_1 : decode cX9_text 1 = .ok (.invokevirtual 98, 3) := by decide +kernel
theorem dX9_text_4 : decode cX9_text 4 = .ok (.aload_n 0, 1) := by decide +kernel
theorem dX9_text_5 : decode cX9_text 5 = .ok (.getfield 77, 3) := by decide +kernel
theorem dX9_text_8 : decode cX9_text 8 = .ok (.if_icmp .lt 24, 3) := by decide +kernel
theorem dX9_text_11 : decode cX9_text 11 = .ok (.aload_n 0, 1) := by decide +kernel
theorem dX9_text_12 : decode cX9_text 12 = .ok (.getfield 87, 3) := by decide +kernel
theorem dX9_text_15 : decode cX9_text 15 = .ok (.ifCond .eq 17, 3) := by decide +kernel
theorem dX9_text_18 : decode cX9_text 18 = .ok (.aload_n 0, 1) := by decide +kernel
theorem dX9_text_19 : decode cX9_text 19 = .ok (.getfield 77, 3) := by decide +kernel
theorem dX9_text_22 : decode cX9_text 22 = .ok (.ifCond .le 13, 3) := by decide +kernel
theorem dX9_text_25 : decode cX9_text 25 = .ok (.aload_n 0, 1) := by decide +kernel
theorem dX9_text_26 : decode cX9_text 26 = .ok (.getfield 90, 3) := by decide +kernel
theorem dX9_text_29 : decode cX9_text 29 = .ok (.ifCond .eq 6, 3) := by decide +kernel
theorem dX9_text_32 : decode cX9_text 32 = .ok (.bipush (-103), 2) := by decide +kernel
theorem dX9_text_34 : decode cX9_text 34 = .ok (.ireturn, 1) := by decide +kernel
theorem dX9_text_35 : decode cX9_text 35 = .ok (.aload_n 0, 1) := by decide +kernel
theorem dX9_text_36 : decode cX9_text 36 = .ok (.getfield 16, 3) := by decide +kernel
theorem dX9_text_39 : decode cX9_text 39 = .ok (.aload_n 0, 1) := by decide +kernel
theorem dX9_text_40 : decode cX9_text 40 = .ok (.getfield 19, 3) := by decide +kernel
theorem dX9_text_43 : decode cX9_text 43 = .ok (.invokestatic 102, 3) := by decide +kernel
theorem dX9_text_46 : decode cX9_text 46 = .ok (.aload_n 0, 1) := by decide +kernel
theorem dX9_text_47 : decode cX9_text 47 = .ok (.getfield 13, 3) := by decide +kernel
theorem dX9_text_50 : decode cX9_text 50 = .ok (.aload_n 0, 1) := by decide +kernel
theorem dX9_text_51 : decode cX9_text 51 = .ok (.getfield 22, 3) := by decide +kernel
theorem dX9_text_54 : decode cX9_text 54 = .ok (.invokestatic 102, 3) := by decide +kernel
theorem dX9_text_57 : decode cX9_text 57 = .ok (.aload_n 0, 1) := by decide +kernel
theorem dX9_text_58 : decode cX9_text 58 = .ok (.iconst 1, 1) := by decide +kernel
theorem dX9_text_59 : decode cX9_text 59 = .ok (.putfield 106, 3) := by decide +kernel
theorem dX9_text_62 : decode cX9_text 62 = .ok (.aload_n 0, 1) := by decide +kernel
theorem dX9_text_63 : decode cX9_text 63 = .ok (.dup, 1) := by decide +kernel
theorem dX9_text_64 : decode cX9_text 64 = .ok (.getfield 109, 3) := by decide +kernel
theorem dX9_text_67 : decode cX9_text 67 = .ok (.iconst 1, 1) := by decide +kernel
theorem dX9_text_68 : decode cX9_text 68 = .ok (.iadd, 1) := by decide +kernel
theorem dX9_text_69 : decode cX9_text 69 = .ok (.putfield 109, 3) := by decide +kernel
theorem dX9_text_72 : decode cX9_text 72 = .ok (.aload_n 0, 1) := by decide +kernel
theorem dX9_text_73 : decode cX9_text 73 = .ok (.iconst 0, 1) := by decide +kernel
theorem dX9_text_74 : decode cX9_text 74 = .ok (.putfield 77, 3) := by decide +kernel
theorem dX9_text_77 : decode cX9_text 77 = .ok (.aload_n 0, 1) := by decide +kernel
theorem dX9_text_78 : decode cX9_text 78 = .ok (.invokevirtual 112, 3) := by decide +kernel
theorem dX9_text_81 : decode cX9_text 81 = .ok (.aload_n 0, 1) := by decide +kernel
theorem dX9_text_82 : decode cX9_text 82 = .ok (.getfield 22, 3) := by decide +kernel
theorem dX9_text_85 : decode cX9_text 85 = .ok (.iconst 0, 1) := by decide +kernel
theorem dX9_text_86 : decode cX9_text 86 = .ok (.iaload, 1) := by decide +kernel
theorem dX9_text_87 : decode cX9_text 87 = .ok (.aload_n 0, 1) := by decide +kernel
theorem dX9_text_88 : decode cX9_text 88 = .ok (.getfield 22, 3) := by decide +kernel
theorem dX9_text_91 : decode cX9_text 91 = .ok (.iconst 1, 1) := by decide +kernel
theorem dX9_text_92 : decode cX9_text 92 = .ok (.iaload, 1) := by decide +kernel
theorem dX9_text_93 : decode cX9_text 93 = .ok (.iadd, 1) := by decide +kernel
theorem dX9_text_94 : decode cX9_text 94 = .ok (.ireturn, 1) := by decide +kernel
theorem dX9_isSide_0 : decode cX9_isSide 0 = .ok (.iload_n 0, 1) := by decide +kernel
theorem dX9_isSide_1 : decode cX9_isSide 1 = .ok (.ifCond .eq 8, 3) := by decide +kernel
theorem dX9_isSide_4 : decode cX9_isSide 4 = .ok (.iload_n 0, 1) := by decide +kernel
theorem dX9_isSide_5 : decode cX9_isSide 5 = .ok (.iconst 1, 1) := by decide +kernel
theorem dX9_isSide_6 : decode cX9_isSide 6 = .ok (.if_icmp .ne 7, 3) := by decide +kernel
theorem dX9_isSide_9 : decode cX9_isSide 9 = .ok (.iconst 1, 1) := by decide +kernel
theorem dX9_isSide_10 : decode cX9_isSide 10 = .ok (.goto 4, 3) := by decide +kernel
theorem dX9_isSide_13 : decode cX9_isSide 13 = .ok (.iconst 0, 1) := by decide +kernel
theorem dX9_isSide_14 : decode cX9_isSide 14 = .ok (.ireturn, 1) := by decide +kernel
theorem dX9_isLine_0 : decode cX9_isLine 0 = .ok (.iload_n 1, 1) := by decide +kernel
theorem dX9_isLine_1 : decode cX9_isLine 1 = .ok (.invokestatic 115, 3) := by decide +kernel
theorem dX9_isLine_4 : decode cX9_isLine 4 = .ok (.ifCond .eq 25, 3) := by decide +kernel
theorem dX9_isLine_7 : decode cX9_isLine 7 = .ok (.iload_n 2, 1) := by decide +kernel
theorem dX9_isLine_8 : decode cX9_isLine 8 = .ok (.i2l, 1) := by decide +kernel
theorem dX9_isLine_9 : decode cX9_isLine 9 = .ok (.lconst 0, 1) := by decide +kernel
theorem dX9_isLine_10 : decode cX9_isLine 10 = .ok (.aload_n 0, 1) := by decide +kernel
theorem dX9_isLine_11 : decode cX9_isLine 11 = .ok (.getfield 22, 3) := by decide +kernel
theorem dX9_isLine_14 : decode cX9_isLine 14 = .ok (.iload_n 1, 1) := by decide +kernel
theorem dX9_isLine_15 : decode cX9_isLine 15 = .ok (.iaload, 1) := by decide +kernel
theorem dX9_isLine_16 : decode cX9_isLine 16 = .ok (.iconst 1, 1) := by decide +kernel
theorem dX9_isLine_17 : decode cX9_isLine 17 = .ok (.isub, 1) := by decide +kernel
theorem dX9_isLine_18 : decode cX9_isLine 18 = .ok (.i2l, 1) := by decide +kernel
theorem dX9_isLine_19 : decode cX9_isLine 19 = .ok (.invokestatic 73, 3) := by decide +kernel
theorem dX9_isLine_22 : decode cX9_isLine 22 = .ok (.ifCond .eq 7, 3) := by decide +kernel
theorem dX9_isLine_25 : decode cX9_isLine 25 = .ok (.iconst 1, 1) := by decide +kernel
theorem dX9_isLine_26 : decode cX9_isLine 26 = .ok (.goto 4, 3) := by decide +kernel
theorem dX9_isLine_29 : decode cX9_isLine 29 = .ok (.iconst 0, 1) := by decide +kernel
theorem dX9_isLine_30 : decode cX9_isLine 30 = .ok (.ireturn, 1) := by decide +kernel
theorem dX9_isSame_0 : decode cX9_isSame 0 = .ok (.aload_n 0, 1) := by decide +kernel
theorem dX9_isSame_1 : decode cX9_isSame 1 = .ok (.getfield 19, 3) := by decide +kernel
theorem dX9_isSame_4 : decode cX9_isSame 4 = .ok (.iload_n 1, 1) := by decide +kernel
theorem dX9_isSame_5 : decode cX9_isSame 5 = .ok (.iaload, 1) := by decide +kernel
theorem dX9_isSame_6 : decode cX9_isSame 6 = .ok (.aload_n 0, 1) := by decide +kernel
theorem dX9_isSame_7 : decode cX9_isSame 7 = .ok (.getfield 19, 3) := by decide +kernel
theorem dX9_isSame_10 : decode cX9_isSame 10 = .ok (.bipush 16, 2) := by decide +kernel
theorem dX9_isSame_12 : decode cX9_isSame 12 = .ok (.iload_n 2, 1) := by decide +kernel
theorem dX9_isSame_13 : decode cX9_isSame 13 = .ok (.iadd, 1) := by decide +kernel
theorem dX9_isSame_14 : decode cX9_isSame 14 = .ok (.iaload, 1) := by decide +kernel
theorem dX9_isSame_15 : decode cX9_isSame 15 = .ok (.if_icmp .ne 7, 3) := by decide +kernel
theorem dX9_isSame_18 : decode cX9_isSame 18 = .ok (.iconst 1, 1) := by decide +kernel
theorem dX9_isSame_19 : decode cX9_isSame 19 = .ok (.goto 4, 3) := by decide +kernel
theorem dX9_isSame_22 : decode cX9_isSame 22 = .ok (.iconst 0, 1) := by decide +kernel
theorem dX9_isSame_23 : decode cX9_isSame 23 = .ok (.ireturn, 1) := by decide +kernel
theorem dX9_addPart_0 : decode cX9_addPart 0 = .ok (.aload_n 0, 1) := by decide +kernel
theorem dX9_addPart_1 : decode cX9_addPart 1 = .ok (.getfield 28, 3) := by decide +kernel
theorem dX9_addPart_4 : decode cX9_addPart 4 = .ok (.iconst 4, 1) := by decide +kernel
theorem dX9_addPart_5 : decode cX9_addPart 5 = .ok (.aload_n 0, 1) := by decide +kernel
theorem dX9_addPart_6 : decode cX9_addPart 6 = .ok (.getfield 118, 3) := by decide +kernel
theorem dX9_addPart_9 : decode cX9_addPart 9 = .ok (.imul, 1) := by decide +kernel
theorem dX9_addPart_10 : decode cX9_addPart 10 = .ok (.iload_n 1, 1) := by decide +kernel
theorem dX9_addPart_11 : decode cX9_addPart 11 = .ok (.iastore, 1) := by decide +kernel
theorem dX9_addPart_12 : decode cX9_addPart 12 = .ok (.aload_n 0, 1) := by decide +kernel
theorem dX9_addPart_13 : decode cX9_addPart 13 = .ok (.getfield 28, 3) := by decide +kernel
theorem dX9_addPart_16 : decode cX9_addPart 16 = .ok (.iconst 4, 1) := by decide +kernel
theorem dX9_addPart_17 : decode cX9_addPart 17 = .ok (.aload_n 0, 1) := by decide +kernel
theorem dX9_addPart_18 : decode cX9_addPart 18 = .ok (.getfield 118, 3) := by decide +kernel
theorem dX9_addPart_21 : decode cX9_addPart 21 = .ok (.imul, 1) := by decide +kernel
theorem dX9_addPart_22 : decode cX9_addPart 22 = .ok (.iconst 1, 1) := by decide +kernel
theorem dX9_addPart_23 : decode cX9_addPart 23 = .ok (.iadd, 1) := by decide +kernel
theorem dX9_addPart_24 : decode cX9_addPart 24 = .ok (.iload_n 2, 1) := by decide +kernel
theorem dX9_addPart_25 : decode cX9_addPart 25 = .ok (.iastore, 1) := by decide +kernel
theorem dX9_addPart_26 : decode cX9_addPart 26 = .ok (.aload_n 0, 1) := by decide +kernel
theorem dX9_addPart_27 : decode cX9_addPart 27 = .ok (.getfield 28, 3) := by decide +kernel
theorem dX9_addPart_30 : decode cX9_addPart 30 = .ok (.iconst 4, 1) := by decide +kernel
theorem dX9_addPart_31 : decode cX9_addPart 31 = .ok (.aload_n 0, 1) := by decide +kernel
theorem dX9_addPart_32 : decode cX9_addPart 32 = .ok (.getfield 118, 3) := by decide +kernel
theorem dX9_addPart_35 : decode cX9_addPart 35 = .ok (.imul, 1) := by decide +kernel
theorem dX9_addPart_36 : decode cX9_addPart 36 = .ok (.iconst 2, 1) := by decide +kernel
theorem dX9_addPart_37 : decode cX9_addPart 37 = .ok (.iadd, 1) := by decide +kernel
theorem dX9_addPart_38 : decode cX9_addPart 38 = .ok (.iload_n 3, 1) := by decide +kernel
theorem dX9_addPart_39 : decode cX9_addPart 39 = .ok (.iastore, 1) := by decide +kernel
theorem dX9_addPart_40 : decode cX9_addPart 40 = .ok (.aload_n 0, 1) := by decide +kernel
theorem dX9_addPart_41 : decode cX9_addPart 41 = .ok (.getfield 28, 3) := by decide +kernel
theorem dX9_addPart_44 : decode cX9_addPart 44 = .ok (.iconst 4, 1) := by decide +kernel
theorem dX9_addPart_45 : decode cX9_addPart 45 = .ok (.aload_n 0, 1) := by decide +kernel
theorem dX9_addPart_46 : decode cX9_addPart 46 = .ok (.getfield 118, 3) := by decide +kernel
theorem dX9_addPart_49 : decode cX9_addPart 49 = .ok (.imul, 1) := by decide +kernel
theorem dX9_addPart_50 : decode cX9_addPart 50 = .ok (.iconst 3, 1) := by decide +kernel
theorem dX9_addPart_51 : decode cX9_addPart 51 = .ok (.iadd, 1) := by decide +kernel
theorem dX9_addPart_52 : decode cX9_addPart 52 = .ok (.iload 4, 2) := by decide +kernel
theorem dX9_addPart_54 : decode cX9_addPart 54 = .ok (.iastore, 1) := by decide +kernel
theorem dX9_addPart_55 : decode cX9_addPart 55 = .ok (.aload_n 0, 1) := by decide +kernel
theorem dX9_addPart_56 : decode cX9_addPart 56 = .ok (.dup, 1) := by decide +kernel
theorem dX9_addPart_57 : decode cX9_addPart 57 = .ok (.getfield 118, 3) := by decide +kernel
theorem dX9_addPart_60 : decode cX9_addPart 60 = .ok (.iconst 1, 1) := by decide +kernel
theorem dX9_addPart_61 : decode cX9_addPart 61 = .ok (.iadd, 1) := by decide +kernel
theorem dX9_addPart_62 : decode cX9_addPart 62 = .ok (.putfield 118, 3) := by decide +kernel
theorem dX9_addPart_65 : decode cX9_addPart 65 = .ok (.return_, 1) := by decide +kernel
theorem dX9_keep_0 : decode cX9_keep 0 = .ok (.aload_n 0, 1) := by decide +kernel
theorem dX9_keep_1 : decode cX9_keep 1 = .ok (.getfield 25, 3) := by decide +kernel
theorem dX9_keep_4 : decode cX9_keep 4 = .ok (.iload_n 1, 1) := by decide +kernel
theorem dX9_keep_5 : decode cX9_keep 5 = .ok (.iload_n 2, 1) := by decide +kernel
theorem dX9_keep_6 : decode cX9_keep 6 = .ok (.iastore, 1) := by decide +kernel
theorem dX9_keep_7 : decode cX9_keep 7 = .ok (.aload_n 0, 1) := by decide +kernel
theorem dX9_keep_8 : decode cX9_keep 8 = .ok (.getfield 25, 3) := by decide +kernel
theorem dX9_keep_11 : decode cX9_keep 11 = .ok (.bipush 16, 2) := by decide +kernel
theorem dX9_keep_13 : decode cX9_keep 13 = .ok (.iload_n 2, 1) := by decide +kernel
theorem dX9_keep_14 : decode cX9_keep 14 = .ok (.iadd, 1) := by decide +kernel
theorem dX9_keep_15 : decode cX9_keep 15 = .ok (.iload_n 1, 1) := by decide +kernel
theorem dX9_keep_16 : decode cX9_keep 16 = .ok (.iastore, 1) := by decide +kernel
theorem dX9_keep_17 : decode cX9_keep 17 = .ok (.return_, 1) := by decide +kernel
theorem dX9_timesIn_0 : decode cX9_timesIn 0 = .ok (.iconst 0, 1) := by decide +kernel
theorem dX9_timesIn_1 : decode cX9_timesIn 1 = .ok (.istore 4, 2) := by decide +kernel
theorem dX9_timesIn_3 : decode cX9_timesIn 3 = .ok (.iload_n 2, 1) := by decide +kernel
theorem dX9_timesIn_4 : decode cX9_timesIn 4 = .ok (.istore 5, 2) := by decide +kernel
theorem dX9_timesIn_6 : decode cX9_timesIn 6 = .ok (.iload 5, 2) := by decide +kernel
theorem dX9_timesIn_8 : decode cX9_timesIn 8 = .ok (.iload_n 3, 1) := by decide +kernel
theorem dX9_timesIn_9 : decode cX9_timesIn 9 = .ok (.if_icmp .ge 30, 3) := by decide +kernel
theorem dX9_timesIn_12 : decode cX9_timesIn 12 = .ok (.iload 4, 2) := by decide +kernel
theorem dX9_timesIn_14 : decode cX9_timesIn 14 = .ok (.aload_n 0, 1) := by decide +kernel
theorem dX9_timesIn_15 : decode cX9_timesIn 15 = .ok (.getfield 19, 3) := by decide +kernel
theorem dX9_timesIn_18 : decode cX9_timesIn 18 = .ok (.iload 5, 2) := by decide +kernel
theorem dX9_timesIn_20 : decode cX9_timesIn 20 = .ok (.iaload, 1) := by decide +kernel
theorem dX9_timesIn_21 : decode cX9_timesIn 21 = .ok (.iload_n 1, 1) := by decide +kernel
theorem dX9_timesIn_22 : decode cX9_timesIn 22 = .ok (.if_icmp .ne 7, 3) := by decide +kernel
theorem dX9_timesIn_25 : decode cX9_timesIn 25 = .ok (.iconst 1, 1) := by decide +kernel
theorem dX9_timesIn_26 : decode cX9_timesIn 26 = .ok (.goto 4, 3) := by decide +kernel
theorem dX9_timesIn_29 : decode cX9_timesIn 29 = .ok (.iconst 0, 1) := by decide +kernel
theorem dX9_timesIn_30 : decode cX9_timesIn 30 = .ok (.iadd, 1) := by decide +kernel
theorem dX9_timesIn_31 : decode cX9_timesIn 31 = .ok (.istore 4, 2) := by decide +kernel
theorem dX9_timesIn_33 : decode cX9_timesIn 33 = .ok (.iinc 5 1, 3) := by decide +kernel
theorem dX9_timesIn_36 : decode cX9_timesIn 36 = .ok (.goto (-30), 3) := by decide +kernel
theorem dX9_timesIn_39 : decode cX9_timesIn 39 = .ok (.iload 4, 2) := by decide +kernel
theorem dX9_timesIn_41 : decode cX9_timesIn 41 = .ok (.ireturn, 1) := by decide +kernel
theorem dX9_layAnchors_0 : decode cX9_layAnchors 0 = .ok (.iconst 0, 1) := by decide +kernel
theorem dX9_layAnchors_1 : decode cX9_layAnchors 1 = .ok (.istore 5, 2) := by decide +kernel
theorem dX9_layAnchors_3 : decode cX9_layAnchors 3 = .ok (.iload_n 1, 1) := by decide +kernel
theorem dX9_layAnchors_4 : decode cX9_layAnchors 4 = .ok (.istore 6, 2) := by decide +kernel
theorem dX9_layAnchors_6 : decode cX9_layAnchors 6 = .ok (.iload 6, 2) := by decide +kernel
theorem dX9_layAnchors_8 : decode cX9_layAnchors 8 = .ok (.iload_n 2, 1) := by decide +kernel
theorem dX9_layAnchors_9 : decode cX9_layAnchors 9 = .ok (.if_icmp .ge 91, 3) := by decide +kernel
theorem dX9_layAnchors_12 : decode cX9_layAnchors 12 = .ok (.aload_n 0, 1) := by decide +kernel
theorem dX9_layAnchors_13 : decode cX9_layAnchors 13 = .ok (.aload_n 0, 1) := by decide +kernel
theorem dX9_layAnchors_14 : decode cX9_layAnchors 14 = .ok (.getfield 19, 3) := by decide +kernel
theorem dX9_layAnchors_17 : decode cX9_layAnchors 17 = .ok (.iload 6, 2) := by decide +kernel
theorem dX9_layAnchors_19 : decode cX9_layAnchors 19 = .ok (.iaload, 1) := by decide +kernel
theorem dX9_layAnchors_20 : decode cX9_layAnchors 20 = .ok (.iload_n 1, 1) := by decide +kernel
theorem dX9_layAnchors_21 : decode cX9_layAnchors 21 = .ok (.iload_n 2, 1) := by decide +kernel
theorem dX9_layAnchors_22 : decode cX9_layAnchors 22 = .ok (.invokevirtual 121, 3) := by decide +kernel
theorem dX9_layAnchors_25 : decode cX9_layAnchors 25 = .ok (.iconst 1, 1) := by decide +kernel
theorem dX9_layAnchors_26 : decode cX9_layAnchors 26 = .ok (.if_icmp .ne 68, 3) := by decide +kernel
theorem dX9_layAnchors_29 : decode cX9_layAnchors 29 = .ok (.aload_n 0, 1) := by decide +kernel
theorem dX9_layAnchors_30 : decode cX9_layAnchors 30 = .ok (.aload_n 0, 1) := by decide +kernel
theorem dX9_layAnchors_31 : decode cX9_layAnchors 31 = .ok (.getfield 19, 3) := by decide +kernel
theorem dX9_layAnchors_34 : decode cX9_layAnchors 34 = .ok (.iload 6, 2) := by decide +kernel
theorem dX9_layAnchors_36 : decode cX9_layAnchors 36 = .ok (.iaload, 1) := by decide +kernel
theorem dX9_layAnchors_37 : decode cX9_layAnchors 37 = .ok (.bipush 16, 2) := by decide +kernel
theorem dX9_layAnchors_39 : decode cX9_layAnchors 39 = .ok (.iload_n 3, 1) := by decide +kernel
theorem dX9_layAnchors_40 : decode cX9_layAnchors 40 = .ok (.iadd, 1) := by decide +kernel
theorem dX9_layAnchors_41 : decode cX9_layAnchors 41 = .ok (.bipush 16, 2) := by decide +kernel
theorem dX9_layAnchors_43 : decode cX9_layAnchors 43 = .ok (.iload 4, 2) := by decide +kernel
theorem dX9_layAnchors_45 : decode cX9_layAnchors 45 = .ok (.iadd, 1) := by decide +kernel
theorem dX9_layAnchors_46 : decode cX9_layAnchors 46 = .ok (.invokevirtual 121, 3) := by decide +kernel
theorem dX9_layAnchors_49 : decode cX9_layAnchors 49 = .ok (.iconst 1, 1) := by decide +kernel
theorem dX9_layAnchors_50 : decode cX9_layAnchors 50 = .ok (.if_icmp .ne 44, 3) := by decide +kernel
theorem dX9_layAnchors_53 : decode cX9_layAnchors 53 = .ok (.iload_n 3, 1) := by decide +kernel
theorem dX9_layAnchors_54 : decode cX9_layAnchors 54 = .ok (.istore 7, 2) := by decide +kernel
theorem dX9_layAnchors_56 : decode cX9_layAnchors 56 = .ok (.aload_n 0, 1) := by decide +kernel
theorem dX9_layAnchors_57 : decode cX9_layAnchors 57 = .ok (.iload 6, 2) := by decide +kernel
theorem dX9_layAnchors_59 : decode cX9_layAnchors 59 = .ok (.iload 7, 2) := by decide +kernel
theorem dX9_layAnchors_61 : decode cX9_layAnchors 61 = .ok (.invokevirtual 125, 3) := by decide +kernel
theorem dX9_layAnchors_64 : decode cX9_layAnchors 64 = .ok (.ifCond .ne 9, 3) := by decide +kernel
theorem dX9_layAnchors_67 : decode cX9_layAnchors 67 = .ok (.iinc 7 1, 3) := by decide +kernel
theorem dX9_layAnchors_70 : decode cX9_layAnchors 70 = .ok (.goto (-14), 3) := by decide +kernel
theorem dX9_layAnchors_73 : decode cX9_layAnchors 73 = .ok (.aload_n 0, 1) := by decide +kernel
theorem dX9_layAnchors_74 : decode cX9_layAnchors 74 = .ok (.getfield 31, 3) := by decide +kernel
theorem dX9_layAnchors_77 : decode cX9_layAnchors 77 = .ok (.iload 5, 2) := by decide +kernel
theorem dX9_layAnchors_79 : decode cX9_layAnchors 79 = .ok (.iload 6, 2) := by decide +kernel
theorem dX9_layAnchors_81 : decode cX9_layAnchors 81 = .ok (.iastore, 1) := by decide +kernel
theorem dX9_layAnchors_82 : decode cX9_layAnchors 82 = .ok (.aload_n 0, 1) := by decide +kernel
theorem dX9_layAnchors_83 : decode cX9_layAnchors 83 = .ok (.getfield 34, 3) := by decide +kernel
theorem dX9_layAnchors_86 : decode cX9_layAnchors 86 = .ok (.iload 5, 2) := by decide +kernel
theorem dX9_layAnchors_88 : decode cX9_layAnchors 88 = .ok (.iload 7, 2) := by decide +kernel
theorem dX9_layAnchors_90 : decode cX9_layAnchors 90 = .ok (.iastore, 1) := by decide +kernel
theorem dX9_layAnchors_91 : decode cX9_layAnchors 91 = .ok (.iinc 5 1, 3) := by decide +kernel
theorem dX9_layAnchors_94 : decode cX9_layAnchors 94 = .ok (.iinc 6 1, 3) := by decide +kernel
theorem dX9_layAnchors_97 : decode cX9_layAnchors 97 = .ok (.goto (-91), 3) := by decide +kernel
theorem dX9_layAnchors_100 : decode cX9_layAnchors 100 = .ok (.iload 5, 2) := by decide +kernel
theorem dX9_layAnchors_102 : decode cX9_layAnchors 102 = .ok (.iconst 1, 1) := by decide +kernel
theorem dX9_layAnchors_103 : decode cX9_layAnchors 103 = .ok (.isub, 1) := by decide +kernel
theorem dX9_layAnchors_104 : decode cX9_layAnchors 104 = .ok (.istore 6, 2) := by decide +kernel
theorem dX9_layAnchors_106 : decode cX9_layAnchors 106 = .ok (.iload 6, 2) := by decide +kernel
theorem dX9_layAnchors_108 : decode cX9_layAnchors 108 = .ok (.ifCond .lt 88, 3) := by decide +kernel
theorem dX9_layAnchors_111 : decode cX9_layAnchors 111 = .ok (.aload_n 0, 1) := by decide +kernel
theorem dX9_layAnchors_112 : decode cX9_layAnchors 112 = .ok (.getfield 37, 3) := by decide +kernel
theorem dX9_layAnchors_115 : decode cX9_layAnchors 115 = .ok (.iload 6, 2) := by decide +kernel
theorem dX9_layAnchors_117 : decode cX9_layAnchors 117 = .ok (.iconst 1, 1) := by decide +kernel
theorem dX9_layAnchors_118 : decode cX9_layAnchors 118 = .ok (.iastore, 1) := by decide +kernel
theorem dX9_layAnchors_119 : decode cX9_layAnchors 119 = .ok (.iload 6, 2) := by decide +kernel
theorem dX9_layAnchors_121 : decode cX9_layAnchors 121 = .ok (.iconst 1, 1) := by decide +kernel
theorem dX9_layAnchors_122 : decode cX9_layAnchors 122 = .ok (.iadd, 1) := by decide +kernel
theorem dX9_layAnchors_123 : decode cX9_layAnchors 123 = .ok (.istore 7, 2) := by decide +kernel
theorem dX9_layAnchors_125 : decode cX9_layAnchors 125 = .ok (.iload 7, 2) := by decide +kernel
theorem dX9_layAnchors_127 : decode cX9_layAnchors 127 = .ok (.iload 5, 2) := by decide +kernel
theorem dX9_layAnchors_129 : decode cX9_layAnchors 129 = .ok (.if_icmp .ge 61, 3) := by decide +kernel
theorem dX9_layAnchors_132 : decode cX9_layAnchors 132 = .ok (.aload_n 0, 1) := by decide +kernel
theorem dX9_layAnchors_133 : decode cX9_layAnchors 133 = .ok (.getfield 34, 3) := by decide +kernel
theorem dX9_layAnchors_136 : decode cX9_layAnchors 136 = .ok (.iload 7, 2) := by decide +kernel
theorem dX9_layAnchors_138 : decode cX9_layAnchors 138 = .ok (.iaload, 1) := by decide +kernel
theorem dX9_layAnchors_139 : decode cX9_layAnchors 139 = .ok (.aload_n 0, 1) := by decide +kernel
theorem dX9_layAnchors_140 : decode cX9_layAnchors 140 = .ok (.getfield 34, 3) := by decide +kernel
theorem dX9_layAnchors_143 : decode cX9_layAnchors 143 = .ok (.iload 6, 2) := by decide +kernel
theorem dX9_layAnchors_145 : decode cX9_layAnchors 145 = .ok (.iaload, 1) := by decide +kernel
theorem dX9_layAnchors_146 : decode cX9_layAnchors 146 = .ok (.if_icmp .le 38, 3) := by decide +kernel
theorem dX9_layAnchors_149 : decode cX9_layAnchors 149 = .ok (.aload_n 0, 1) := by decide +kernel
theorem dX9_layAnchors_150 : decode cX9_layAnchors 150 = .ok (.getfield 37, 3) := by decide +kernel
theorem dX9_layAnchors_153 : decode cX9_layAnchors 153 = .ok (.iload 7, 2) := by decide +kernel
theorem dX9_layAnchors_155 : decode cX9_layAnchors 155 = .ok (.iaload, 1) := by decide +kernel
theorem dX9_layAnchors_156 : decode cX9_layAnchors 156 = .ok (.iconst 1, 1) := by decide +kernel
theorem dX9_layAnchors_157 : decode cX9_layAnchors 157 = .ok (.iadd, 1) := by decide +kernel
theorem dX9_layAnchors_158 : decode cX9_layAnchors 158 = .ok (.aload_n 0, 1) := by decide +kernel
theorem dX9_layAnchors_159 : decode cX9_layAnchors 159 = .ok (.getfield 37, 3) := by decide +kernel
theorem dX9_layAnchors_162 : decode cX9_layAnchors 162 = .ok (.iload 6, 2) := by decide +kernel
theorem dX9_layAnchors_164 : decode cX9_layAnchors 164 = .ok (.iaload, 1) := by decide +kernel
theorem dX9_layAnchors_165 : decode cX9_layAnchors 165 = .ok (.if_icmp .le 19, 3) := by decide +kernel
theorem dX9_layAnchors_168 : decode cX9_layAnchors 168 = .ok (.aload_n 0, 1) := by decide +kernel
theorem dX9_layAnchors_169 : decode cX9_layAnchors 169 = .ok (.getfield 37, 3) := by decide +kernel
theorem dX9_layAnchors_172 : decode cX9_layAnchors 172 = .ok (.iload 6, 2) := by decide +kernel
theorem dX9_layAnchors_174 : decode cX9_layAnchors 174 = .ok (.aload_n 0, 1) := by decide +kernel
theorem dX9_layAnchors_175 : decode cX9_layAnchors 175 = .ok (.getfield 37, 3) := by decide +kernel
theorem dX9_layAnchors_178 : decode cX9_layAnchors 178 = .ok (.iload 7, 2) := by decide +kernel
theorem dX9_layAnchors_180 : decode cX9_layAnchors 180 = .ok (.iaload, 1) := by decide +kernel
theorem dX9_layAnchors_181 : decode cX9_layAnchors 181 = .ok (.iconst 1, 1) := by decide +kernel
theorem dX9_layAnchors_182 : decode cX9_layAnchors 182 = .ok (.iadd, 1) := by decide +kernel
theorem dX9_layAnchors_183 : decode cX9_layAnchors 183 = .ok (.iastore, 1) := by decide +kernel
theorem dX9_layAnchors_184 : decode cX9_layAnchors 184 = .ok (.iinc 7 1, 3) := by decide +kernel
theorem dX9_layAnchors_187 : decode cX9_layAnchors 187 = .ok (.goto (-62), 3) := by decide +kernel
theorem dX9_layAnchors_190 : decode cX9_layAnchors 190 = .ok (.iinc 6 (-1), 3) := by decide +kernel
theorem dX9_layAnchors_193 : decode cX9_layAnchors 193 = .ok (.goto (-87), 3) := by decide +kernel
theorem dX9_layAnchors_196 : decode cX9_layAnchors 196 = .ok (.iload 5, 2) := by decide +kernel
theorem dX9_layAnchors_198 : decode cX9_layAnchors 198 = .ok (.ireturn, 1) := by decide +kernel
theorem dX9_matchAnchors_0 : decode cX9_matchAnchors 0 = .ok (.iconst 0, 1) := by decide +kernel
theorem dX9_matchAnchors_1 : decode cX9_matchAnchors 1 = .ok (.istore 6, 2) := by decide +kernel
theorem dX9_matchAnchors_3 : decode cX9_matchAnchors 3 = .ok (.iconst 0, 1) := by decide +kernel
theorem dX9_matchAnchors_4 : decode cX9_matchAnchors 4 = .ok (.istore 7, 2) := by decide +kernel
theorem dX9_matchAnchors_6 : decode cX9_matchAnchors 6 = .ok (.iload 7, 2) := by decide +kernel
theorem dX9_matchAnchors_8 : decode cX9_matchAnchors 8 = .ok (.iload 5, 2) := by decide +kernel
theorem dX9_matchAnchors_10 : decode cX9_matchAnchors 10 = .ok (.if_icmp .ge 35, 3) := by decide +kernel
theorem dX9_matchAnchors_13 : decode cX9_matchAnchors 13 = .ok (.aload_n 0, 1) := by decide +kernel
theorem dX9_matchAnchors_14 : decode cX9_matchAnchors 14 = .ok (.getfield 37, 3) := by decide +kernel
theorem dX9_matchAnchors_17 : decode cX9_matchAnchors 17 = .ok (.iload 7, 2) := by decide +kernel
theorem dX9_matchAnchors_19 : decode cX9_matchAnchors 19 = .ok (.iaload, 1) := by decide +kernel
theorem dX9_matchAnchors_20 : decode cX9_matchAnchors 20 = .ok (.iload 6, 2) := by decide +kernel
theorem dX9_matchAnchors_22 : decode cX9_matchAnchors 22 = .ok (.if_icmp .le 13, 3) := by decide +kernel
theorem dX9_matchAnchors_25 : decode cX9_matchAnchors 25 = .ok (.aload_n 0, 1) := by decide +kernel
theorem dX9_matchAnchors_26 : decode cX9_matchAnchors 26 = .ok (.getfield 37, 3) := by decide +kernel
theorem dX9_matchAnchors_29 : decode cX9_matchAnchors 29 = .ok (.iload 7, 2) := by decide +kernel
theorem dX9_matchAnchors_31 : decode cX9_matchAnchors 31 = .ok (.iaload, 1) := by decide +kernel
theorem dX9_matchAnchors_32 : decode cX9_matchAnchors 32 = .ok (.goto 5, 3) := by decide +kernel
theorem dX9_matchAnchors_35 : decode cX9_matchAnchors 35 = .ok (.iload 6, 2) := by decide +kernel
theorem dX9_matchAnchors_37 : decode cX9_matchAnchors 37 = .ok (.istore 6, 2) := by decide +kernel
theorem dX9_matchAnchors_39 : decode cX9_matchAnchors 39 = .ok (.iinc 7 1, 3) := by decide +kernel
theorem dX9_matchAnchors_42 : decode cX9_matchAnchors 42 = .ok (.goto (-36), 3) := by decide +kernel
theorem dX9_matchAnchors_45 : decode cX9_matchAnchors 45 = .ok (.iload_n 1, 1) := by decide +kernel
theorem dX9_matchAnchors_46 : decode cX9_matchAnchors 46 = .ok (.istore 7, 2) := by decide +kernel
theorem dX9_matchAnchors_48 : decode cX9_matchAnchors 48 = .ok (.iload_n 3, 1) := by decide +kernel
theorem dX9_matchAnchors_49 : decode cX9_matchAnchors 49 = .ok (.istore 8, 2) := by decide +kernel
theorem dX9_matchAnchors_51 : decode cX9_matchAnchors 51 = .ok (.iconst (-1), 1) := by decide +kernel
theorem dX9_matchAnchors_52 : decode cX9_matchAnchors 52 = .ok (.istore 9, 2) := by decide +kernel
theorem dX9_matchAnchors_54 : decode cX9_matchAnchors 54 = .ok (.iconst 0, 1) := by decide +kernel
theorem dX9_matchAnchors_55 : decode cX9_matchAnchors 55 = .ok (.istore 10, 2) := by decide +kernel
theorem dX9_matchAnchors_57 : decode cX9_matchAnchors 57 = .ok (.iload 10, 2) := by decide +kernel
theorem dX9_matchAnchors_59 : decode cX9_matchAnchors 59 = .ok (.iload 5, 2) := by decide +kernel
theorem dX9_matchAnchors_61 : decode cX9_matchAnchors 61 = .ok (.if_icmp .ge 122, 3) := by decide +kernel
theorem dX9_matchAnchors_64 : decode cX9_matchAnchors 64 = .ok (.iload 6, 2) := by decide +kernel
theorem dX9_matchAnchors_66 : decode cX9_matchAnchors 66 = .ok (.ifCond .le 111, 3) := by decide +kernel
theorem dX9_matchAnchors_69 : decode cX9_matchAnchors 69 = .ok (.aload_n 0, 1) := by decide +kernel
theorem dX9_matchAnchors_70 : decode cX9_matchAnchors 70 = .ok (.getfield 37, 3) := by decide +kernel
theorem dX9_matchAnchors_73 : decode cX9_matchAnchors 73 = .ok (.iload 10, 2) := by decide +kernel
theorem dX9_matchAnchors_75 : decode cX9_matchAnchors 75 = .ok (.iaload, 1) := by decide +kernel
theorem dX9_matchAnchors_76 : decode cX9_matchAnchors 76 = .ok (.iload 6, 2) := by decide +kernel
theorem dX9_matchAnchors_78 : decode cX9_matchAnchors 78 = .ok (.if_icmp .ne 99, 3) := by decide +kernel
theorem dX9_matchAnchors_81 : decode cX9_matchAnchors 81 = .ok (.aload_n 0, 1) := by decide +kernel
theorem dX9_matchAnchors_82 : decode cX9_matchAnchors 82 = .ok (.getfield 34, 3) := by decide +kernel
theorem dX9_matchAnchors_85 : decode cX9_matchAnchors 85 = .ok (.iload 10, 2) := by decide +kernel
theorem dX9_matchAnchors_87 : decode cX9_matchAnchors 87 = .ok (.iaload, 1) := by decide +kernel
theorem dX9_matchAnchors_88 : decode cX9_matchAnchors 88 = .ok (.iload 9, 2) := by decide +kernel
theorem dX9_matchAnchors_90 : decode cX9_matchAnchors 90 = .ok (.if_icmp .le 87, 3) := by decide +kernel
theorem dX9_matchAnchors_93 : decode cX9_matchAnchors 93 = .ok (.aload_n 0, 1) := by decide +kernel
theorem dX9_matchAnchors_94 : decode cX9_matchAnchors 94 = .ok (.aload_n 0, 1) := by decide +kernel
theorem dX9_matchAnchors_95 : decode cX9_matchAnchors 95 = .ok (.getfield 31, 3) := by decide +kernel
theorem dX9_matchAnchors_98 : decode cX9_matchAnchors 98 = .ok (.iload 10, 2) := by decide +kernel
theorem dX9_matchAnchors_100 : decode cX9_matchAnchors 100 = .ok (.iaload, 1) := by decide +kernel
theorem dX9_matchAnchors_101 : decode cX9_matchAnchors 101 = .ok (.aload_n 0, 1) := by decide +kernel
theorem dX9_matchAnchors_102 : decode cX9_matchAnchors 102 = .ok (.getfield 34, 3) := by decide +kernel
theorem dX9_matchAnchors_105 : decode cX9_matchAnchors 105 = .ok (.iload 10, 2) := by decide +kernel
theorem dX9_matchAnchors_107 : decode cX9_matchAnchors 107 = .ok (.iaload, 1) := by decide +kernel
theorem dX9_matchAnchors_108 : decode cX9_matchAnchors 108 = .ok (.invokevirtual 129, 3) := by decide +kernel
theorem dX9_matchAnchors_111 : decode cX9_matchAnchors 111 = .ok (.aload_n 0, 1) := by decide +kernel
theorem dX9_matchAnchors_112 : decode cX9_matchAnchors 112 = .ok (.dup, 1) := by decide +kernel
theorem dX9_matchAnchors_113 : decode cX9_matchAnchors 113 = .ok (.getfield 133, 3) := by decide +kernel
theorem dX9_matchAnchors_116 : decode cX9_matchAnchors 116 = .ok (.iconst 1, 1) := by decide +kernel
theorem dX9_matchAnchors_117 : decode cX9_matchAnchors 117 = .ok (.iadd, 1) := by decide +kernel
theorem dX9_matchAnchors_118 : decode cX9_matchAnchors 118 = .ok (.putfield 133, 3) := by decide +kernel
theorem dX9_matchAnchors_121 : decode cX9_matchAnchors 121 = .ok (.aload_n 0, 1) := by decide +kernel
theorem dX9_matchAnchors_122 : decode cX9_matchAnchors 122 = .ok (.iload 7, 2) := by decide +kernel
theorem dX9_matchAnchors_124 : decode cX9_matchAnchors 124 = .ok (.aload_n 0, 1) := by decide +kernel
theorem dX9_matchAnchors_125 : decode cX9_matchAnchors 125 = .ok (.getfield 31, 3) := by decide +kernel
theorem dX9_matchAnchors_128 : decode cX9_matchAnchors 128 = .ok (.iload 10, 2) := by decide +kernel
theorem dX9_matchAnchors_130 : decode cX9_matchAnchors 130 = .ok (.iaload, 1) := by decide +kernel
theorem dX9_matchAnchors_131 : decode cX9_matchAnchors 131 = .ok (.iload 8, 2) := by decide +kernel
theorem dX9_matchAnchors_133 : decode cX9_matchAnchors 133 = .ok (.aload_n 0, 1) := by decide +kernel
theorem dX9_matchAnchors_134 : decode cX9_matchAnchors 134 = .ok (.getfield 34, 3) := by decide +kernel
theorem dX9_matchAnchors_137 : decode cX9_matchAnchors 137 = .ok (.iload 10, 2) := by decide +kernel
theorem dX9_matchAnchors_139 : decode cX9_matchAnchors 139 = .ok (.iaload, 1) := by decide +kernel
theorem dX9_matchAnchors_140 : decode cX9_matchAnchors 140 = .ok (.invokevirtual 136, 3) := by decide +kernel
theorem dX9_matchAnchors_143 : decode cX9_matchAnchors 143 = .ok (.aload_n 0, 1) := by decide +kernel
theorem dX9_matchAnchors_144 : decode cX9_matchAnchors 144 = .ok (.getfield 31, 3) := by decide +kernel
theorem dX9_matchAnchors_147 : decode cX9_matchAnchors 147 = .ok (.iload 10, 2) := by decide +kernel
theorem dX9_matchAnchors_149 : decode cX9_matchAnchors 149 = .ok (.iaload, 1) := by decide +kernel
theorem dX9_matchAnchors_150 : decode cX9_matchAnchors 150 = .ok (.iconst 1, 1) := by decide +kernel
theorem dX9_matchAnchors_151 : decode cX9_matchAnchors 151 = .ok (.iadd, 1) := by decide +kernel
theorem dX9_matchAnchors_152 : decode cX9_matchAnchors 152 = .ok (.istore 7, 2) := by decide +kernel
theorem dX9_matchAnchors_154 : decode cX9_matchAnchors 154 = .ok (.aload_n 0, 1) := by decide +kernel
theorem dX9_matchAnchors_155 : decode cX9_matchAnchors 155 = .ok (.getfield 34, 3) := by decide +kernel
theorem dX9_matchAnchors_158 : decode cX9_matchAnchors 158 = .ok (.iload 10, 2) := by decide +kernel
theorem dX9_matchAnchors_160 : decode cX9_matchAnchors 160 = .ok (.iaload, 1) := by decide +kernel
theorem dX9_matchAnchors_161 : decode cX9_matchAnchors 161 = .ok (.iconst 1, 1) := by decide +kernel
theorem dX9_matchAnchors_162 : decode cX9_matchAnchors 162 = .ok (.iadd, 1) := by decide +kernel
theorem dX9_matchAnchors_163 : decode cX9_matchAnchors 163 = .ok (.istore 8, 2) := by decide +kernel
theorem dX9_matchAnchors_165 : decode cX9_matchAnchors 165 = .ok (.aload_n 0, 1) := by decide +kernel
theorem dX9_matchAnchors_166 : decode cX9_matchAnchors 166 = .ok (.getfield 34, 3) := by decide +kernel
theorem dX9_matchAnchors_169 : decode cX9_matchAnchors 169 = .ok (.iload 10, 2) := by decide +kernel
theorem dX9_matchAnchors_171 : decode cX9_matchAnchors 171 = .ok (.iaload, 1) := by decide +kernel
theorem dX9_matchAnchors_172 : decode cX9_matchAnchors 172 = .ok (.istore 9, 2) := by decide +kernel
theorem dX9_matchAnchors_174 : decode cX9_matchAnchors 174 = .ok (.iinc 6 (-1), 3) := by decide +kernel
theorem dX9_matchAnchors_177 : decode cX9_matchAnchors 177 = .ok (.iinc 10 1, 3) := by decide +kernel
theorem dX9_matchAnchors_180 : decode cX9_matchAnchors 180 = .ok (.goto (-123), 3) := by decide +kernel
theorem dX9_matchAnchors_183 : decode cX9_matchAnchors 183 = .ok (.aload_n 0, 1) := by decide +kernel
theorem dX9_matchAnchors_184 : decode cX9_matchAnchors 184 = .ok (.iload 7, 2) := by decide +kernel
theorem dX9_matchAnchors_186 : decode cX9_matchAnchors 186 = .ok (.iload_n 2, 1) := by decide +kernel
theorem dX9_matchAnchors_187 : decode cX9_matchAnchors 187 = .ok (.iload 8, 2) := by decide +kernel
theorem dX9_matchAnchors_189 : decode cX9_matchAnchors 189 = .ok (.iload 4, 2) := by decide +kernel
theorem dX9_matchAnchors_191 : decode cX9_matchAnchors 191 = .ok (.invokevirtual 136, 3) := by decide +kernel
theorem dX9_matchAnchors_194 : decode cX9_matchAnchors 194 = .ok (.return_, 1) := by decide +kernel
theorem dX9_layCan_0 : decode cX9_layCan 0 = .ok (.iload_n 2, 1) := by decide +kernel
theorem dX9_layCan_1 : decode cX9_layCan 1 = .ok (.istore 5, 2) := by decide +kernel
theorem dX9_layCan_3 : decode cX9_layCan 3 = .ok (.iload 5, 2) := by decide +kernel
theorem dX9_layCan_5 : decode cX9_layCan 5 = .ok (.iload_n 1, 1) := by decide +kernel
theorem dX9_layCan_6 : decode cX9_layCan 6 = .ok (.if_icmp .lt 139, 3) := by decide +kernel
theorem dX9_layCan_9 : decode cX9_layCan 9 = .ok (.iload 4, 2) := by decide +kernel
theorem dX9_layCan_11 : decode cX9_layCan 11 = .ok (.istore 6, 2) := by decide +kernel
theorem dX9_layCan_13 : decode cX9_layCan 13 = .ok (.iload 6, 2) := by decide +kernel
theorem dX9_layCan_15 : decode cX9_layCan 15 = .ok (.iload_n 3, 1) := by decide +kernel
theorem dX9_layCan_16 : decode cX9_layCan 16 = .ok (.if_icmp .lt 123, 3) := by decide +kernel
theorem dX9_layCan_19 : decode cX9_layCan 19 = .ok (.iconst 0, 1) := by decide +kernel
theorem dX9_layCan_20 : decode cX9_layCan 20 = .ok (.istore 7, 2) := by decide +kernel
theorem dX9_layCan_22 : decode cX9_layCan 22 = .ok (.iload 5, 2) := by decide +kernel
theorem dX9_layCan_24 : decode cX9_layCan 24 = .ok (.iload_n 2, 1) := by decide +kernel
theorem dX9_layCan_25 : decode cX9_layCan 25 = .ok (.if_icmp .ge 93, 3) := by decide +kernel
theorem dX9_layCan_28 : decode cX9_layCan 28 = .ok (.iload 6, 2) := by decide +kernel
theorem dX9_layCan_30 : decode cX9_layCan 30 = .ok (.iload 4, 2) := by decide +kernel
theorem dX9_layCan_32 : decode cX9_layCan 32 = .ok (.if_icmp .ge 86, 3) := by decide +kernel
theorem dX9_layCan_35 : decode cX9_layCan 35 = .ok (.aload_n 0, 1) := by decide +kernel
theorem dX9_layCan_36 : decode cX9_layCan 36 = .ok (.getfield 40, 3) := by decide +kernel
theorem dX9_layCan_39 : decode cX9_layCan 39 = .ok (.bipush 9, 2) := by decide +kernel
theorem dX9_layCan_41 : decode cX9_layCan 41 = .ok (.iload 5, 2) := by decide +kernel
theorem dX9_layCan_43 : decode cX9_layCan 43 = .ok (.iconst 1, 1) := by decide +kernel
theorem dX9_layCan_44 : decode cX9_layCan 44 = .ok (.iadd, 1) := by decide +kernel
theorem dX9_layCan_45 : decode cX9_layCan 45 = .ok (.imul, 1) := by decide +kernel
theorem dX9_layCan_46 : decode cX9_layCan 46 = .ok (.iload 6, 2) := by decide +kernel
theorem dX9_layCan_48 : decode cX9_layCan 48 = .ok (.iadd, 1) := by decide +kernel
theorem dX9_layCan_49 : decode cX9_layCan 49 = .ok (.iaload, 1) := by decide +kernel
theorem dX9_layCan_50 : decode cX9_layCan 50 = .ok (.istore 8, 2) := by decide +kernel
theorem dX9_layCan_52 : decode cX9_layCan 52 = .ok (.aload_n 0, 1) := by decide +kernel
theorem dX9_layCan_53 : decode cX9_layCan 53 = .ok (.getfield 40, 3) := by decide +kernel
theorem dX9_layCan_56 : decode cX9_layCan 56 = .ok (.bipush 9, 2) := by decide +kernel
theorem dX9_layCan_58 : decode cX9_layCan 58 = .ok (.iload 5, 2) := by decide +kernel
theorem dX9_layCan_60 : decode cX9_layCan 60 = .ok (.imul, 1) := by decide +kernel
theorem dX9_layCan_61 : decode cX9_layCan 61 = .ok (.iload 6, 2) := by decide +kernel
theorem dX9_layCan_63 : decode cX9_layCan 63 = .ok (.iadd, 1) := by decide +kernel
theorem dX9_layCan_64 : decode cX9_layCan 64 = .ok (.iconst 1, 1) := by decide +kernel
theorem dX9_layCan_65 : decode cX9_layCan 65 = .ok (.iadd, 1) := by decide +kernel
theorem dX9_layCan_66 : decode cX9_layCan 66 = .ok (.iaload, 1) := by decide +kernel
theorem dX9_layCan_67 : decode cX9_layCan 67 = .ok (.istore 9, 2) := by decide +kernel
theorem dX9_layCan_69 : decode cX9_layCan 69 = .ok (.aload_n 0, 1) := by decide +kernel
theorem dX9_layCan_70 : decode cX9_layCan 70 = .ok (.iload 5, 2) := by decide +kernel
theorem dX9_layCan_72 : decode cX9_layCan 72 = .ok (.iload 6, 2) := by decide +kernel
theorem dX9_layCan_74 : decode cX9_layCan 74 = .ok (.invokevirtual 125, 3) := by decide +kernel
theorem dX9_layCan_77 : decode cX9_layCan 77 = .ok (.ifCond .eq 25, 3) := by decide +kernel
theorem dX9_layCan_80 : decode cX9_layCan 80 = .ok (.iconst 1, 1) := by decide +kernel
theorem dX9_layCan_81 : decode cX9_layCan 81 = .ok (.aload_n 0, 1) := by decide +kernel
theorem dX9_layCan_82 : decode cX9_layCan 82 = .ok (.getfield 40, 3) := by decide +kernel
theorem dX9_layCan_85 : decode cX9_layCan 85 = .ok (.bipush 9, 2) := by decide +kernel
theorem dX9_layCan_87 : decode cX9_layCan 87 = .ok (.iload 5, 2) := by decide +kernel
theorem dX9_layCan_89 : decode cX9_layCan 89 = .ok (.iconst 1, 1) := by decide +kernel
theorem dX9_layCan_90 : decode cX9_layCan 90 = .ok (.iadd, 1) := by decide +kernel
theorem dX9_layCan_91 : decode cX9_layCan 91 = .ok (.imul, 1) := by decide +kernel
theorem dX9_layCan_92 : decode cX9_layCan 92 = .ok (.iload 6, 2) := by decide +kernel
theorem dX9_layCan_94 : decode cX9_layCan 94 = .ok (.iadd, 1) := by decide +kernel
theorem dX9_layCan_95 : decode cX9_layCan 95 = .ok (.iconst 1, 1) := by decide +kernel
theorem dX9_layCan_96 : decode cX9_layCan 96 = .ok (.iadd, 1) := by decide +kernel
theorem dX9_layCan_97 : decode cX9_layCan 97 = .ok (.iaload, 1) := by decide +kernel
theorem dX9_layCan_98 : decode cX9_layCan 98 = .ok (.iadd, 1) := by decide +kernel
theorem dX9_layCan_99 : decode cX9_layCan 99 = .ok (.goto 17, 3) := by decide +kernel
theorem dX9_layCan_102 : decode cX9_layCan 102 = .ok (.iload 8, 2) := by decide +kernel
theorem dX9_layCan_104 : decode cX9_layCan 104 = .ok (.iload 9, 2) := by decide +kernel
theorem dX9_layCan_106 : decode cX9_layCan 106 = .ok (.if_icmp .le 8, 3) := by decide +kernel
theorem dX9_layCan_109 : decode cX9_layCan 109 = .ok (.iload 8, 2) := by decide +kernel
theorem dX9_layCan_111 : decode cX9_layCan 111 = .ok (.goto 5, 3) := by decide +kernel
theorem dX9_layCan_114 : decode cX9_layCan 114 = .ok (.iload 9, 2) := by decide +kernel
theorem dX9_layCan_116 : decode cX9_layCan 116 = .ok (.istore 7, 2) := by decide +kernel
theorem dX9_layCan_118 : decode cX9_layCan 118 = .ok (.aload_n 0, 1) := by decide +kernel
theorem dX9_layCan_119 : decode cX9_layCan 119 = .ok (.getfield 40, 3) := by decide +kernel
theorem dX9_layCan_122 : decode cX9_layCan 122 = .ok (.bipush 9, 2) := by decide +kernel
theorem dX9_layCan_124 : decode cX9_layCan 124 = .ok (.iload 5, 2) := by decide +kernel
theorem dX9_layCan_126 : decode cX9_layCan 126 = .ok (.imul, 1) := by decide +kernel
theorem dX9_layCan_127 : decode cX9_layCan 127 = .ok (.iload 6, 2) := by decide +kernel
theorem dX9_layCan_129 : decode cX9_layCan 129 = .ok (.iadd, 1) := by decide +kernel
theorem dX9_layCan_130 : decode cX9_layCan 130 = .ok (.iload 7, 2) := by decide +kernel
theorem dX9_layCan_132 : decode cX9_layCan 132 = .ok (.iastore, 1) := by decide +kernel
theorem dX9_layCan_133 : decode cX9_layCan 133 = .ok (.iinc 6 (-1), 3) := by decide +kernel
theorem dX9_layCan_136 : decode cX9_layCan 136 = .ok (.goto (-123), 3) := by decide +kernel
theorem dX9_layCan_139 : decode cX9_layCan 139 = .ok (.iinc 5 (-1), 3) := by decide +kernel
theorem dX9_layCan_142 : decode cX9_layCan 142 = .ok (.goto (-139), 3) := by decide +kernel
theorem dX9_layCan_145 : decode cX9_layCan 145 = .ok (.return_, 1) := by decide +kernel
theorem dX9_matchRows_0 : decode cX9_matchRows 0 = .ok (.aload_n 0, 1) := by decide +kernel
theorem dX9_matchRows_1 : decode cX9_matchRows 1 = .ok (.iload_n 1, 1) := by decide +kernel
theorem dX9_matchRows_2 : decode cX9_matchRows 2 = .ok (.iload_n 2, 1) := by decide +kernel
theorem dX9_matchRows_3 : decode cX9_matchRows 3 = .ok (.iload_n 3, 1) := by decide +kernel
theorem dX9_matchRows_4 : decode cX9_matchRows 4 = .ok (.iload 4, 2) := by decide +kernel
theorem dX9_matchRows_6 : decode cX9_matchRows 6 = .ok (.invokevirtual 140, 3) := by decide +kernel
theorem dX9_matchRows_9 : decode cX9_matchRows 9 = .ok (.iload_n 1, 1) := by decide +kernel
theorem dX9_matchRows_10 : decode cX9_matchRows 10 = .ok (.istore 5, 2) := by decide +kernel
theorem dX9_matchRows_12 : decode cX9_matchRows 12 = .ok (.iload_n 3, 1) := by decide +kernel
theorem dX9_matchRows_13 : decode cX9_matchRows 13 = .ok (.istore 6, 2) := by decide +kernel
theorem dX9_matchRows_15 : decode cX9_matchRows 15 = .ok (.iload 5, 2) := by decide +kernel
theorem dX9_matchRows_17 : decode cX9_matchRows 17 = .ok (.iload_n 2, 1) := by decide +kernel
theorem dX9_matchRows_18 : decode cX9_matchRows 18 = .ok (.if_icmp .ge 83, 3) := by decide +kernel
theorem dX9_matchRows_21 : decode cX9_matchRows 21 = .ok (.iload 6, 2) := by decide +kernel
theorem dX9_matchRows_23 : decode cX9_matchRows 23 = .ok (.iload 4, 2) := by decide +kernel
theorem dX9_matchRows_25 : decode cX9_matchRows 25 = .ok (.if_icmp .ge 76, 3) := by decide +kernel
theorem dX9_matchRows_28 : decode cX9_matchRows 28 = .ok (.aload_n 0, 1) := by decide +kernel
theorem dX9_matchRows_29 : decode cX9_matchRows 29 = .ok (.iload 5, 2) := by decide +kernel
theorem dX9_matchRows_31 : decode cX9_matchRows 31 = .ok (.iload 6, 2) := by decide +kernel
theorem dX9_matchRows_33 : decode cX9_matchRows 33 = .ok (.invokevirtual 125, 3) := by decide +kernel
theorem dX9_matchRows_36 : decode cX9_matchRows 36 = .ok (.ifCond .eq 20, 3) := by decide +kernel
theorem dX9_matchRows_39 : decode cX9_matchRows 39 = .ok (.aload_n 0, 1) := by decide +kernel
theorem dX9_matchRows_40 : decode cX9_matchRows 40 = .ok (.iload 5, 2) := by decide +kernel
theorem dX9_matchRows_42 : decode cX9_matchRows 42 = .ok (.iload 6, 2) := by decide +kernel
theorem dX9_matchRows_44 : decode cX9_matchRows 44 = .ok (.invokevirtual 129, 3) := by decide +kernel
theorem dX9_matchRows_47 : decode cX9_matchRows 47 = .ok (.iinc 5 1, 3) := by decide +kernel
theorem dX9_matchRows_50 : decode cX9_matchRows 50 = .ok (.iinc 6 1, 3) := by decide +kernel
theorem dX9_matchRows_53 : decode cX9_matchRows 53 = .ok (.goto (-38), 3) := by decide +kernel
theorem dX9_matchRows_56 : decode cX9_matchRows 56 = .ok (.aload_n 0, 1) := by decide +kernel
theorem dX9_matchRows_57 : decode cX9_matchRows 57 = .ok (.getfield 40, 3) := by decide +kernel
theorem dX9_matchRows_60 : decode cX9_matchRows 60 = .ok (.bipush 9, 2) := by decide +kernel
theorem dX9_matchRows_62 : decode cX9_matchRows 62 = .ok (.iload 5, 2) := by decide +kernel
theorem dX9_matchRows_64 : decode cX9_matchRows 64 = .ok (.iconst 1, 1) := by decide +kernel
theorem dX9_matchRows_65 : decode cX9_matchRows 65 = .ok (.iadd, 1) := by decide +kernel
theorem dX9_matchRows_66 : decode cX9_matchRows 66 = .ok (.imul, 1) := by decide +kernel
theorem dX9_matchRows_67 : decode cX9_matchRows 67 = .ok (.iload 6, 2) := by decide +kernel
theorem dX9_matchRows_69 : decode cX9_matchRows 69 = .ok (.iadd, 1) := by decide +kernel
theorem dX9_matchRows_70 : decode cX9_matchRows 70 = .ok (.iaload, 1) := by decide +kernel
theorem dX9_matchRows_71 : decode cX9_matchRows 71 = .ok (.aload_n 0, 1) := by decide +kernel
theorem dX9_matchRows_72 : decode cX9_matchRows 72 = .ok (.getfield 40, 3) := by decide +kernel
theorem dX9_matchRows_75 : decode cX9_matchRows 75 = .ok (.bipush 9, 2) := by decide +kernel
theorem dX9_matchRows_77 : decode cX9_matchRows 77 = .ok (.iload 5, 2) := by decide +kernel
theorem dX9_matchRows_79 : decode cX9_matchRows 79 = .ok (.imul, 1) := by decide +kernel
theorem dX9_matchRows_80 : decode cX9_matchRows 80 = .ok (.iload 6, 2) := by decide +kernel
theorem dX9_matchRows_82 : decode cX9_matchRows 82 = .ok (.iadd, 1) := by decide +kernel
theorem dX9_matchRows_83 : decode cX9_matchRows 83 = .ok (.iconst 1, 1) := by decide +kernel
theorem dX9_matchRows_84 : decode cX9_matchRows 84 = .ok (.iadd, 1) := by decide +kernel
theorem dX9_matchRows_85 : decode cX9_matchRows 85 = .ok (.iaload, 1) := by decide +kernel
theorem dX9_matchRows_86 : decode cX9_matchRows 86 = .ok (.if_icmp .lt 9, 3) := by decide +kernel
theorem dX9_matchRows_89 : decode cX9_matchRows 89 = .ok (.iinc 5 1, 3) := by decide +kernel
theorem dX9_matchRows_92 : decode cX9_matchRows 92 = .ok (.goto (-77), 3) := by decide +kernel
theorem dX9_matchRows_95 : decode cX9_matchRows 95 = .ok (.iinc 6 1, 3) := by decide +kernel
theorem dX9_matchRows_98 : decode cX9_matchRows 98 = .ok (.goto (-83), 3) := by decide +kernel
theorem dX9_matchRows_101 : decode cX9_matchRows 101 = .ok (.return_, 1) := by decide +kernel
theorem dX9_matchPart_0 : decode cX9_matchPart 0 = .ok (.iload_n 1, 1) := by decide +kernel
theorem dX9_matchPart_1 : decode cX9_matchPart 1 = .ok (.istore 5, 2) := by decide +kernel
theorem dX9_matchPart_3 : decode cX9_matchPart 3 = .ok (.iload_n 2, 1) := by decide +kernel
theorem dX9_matchPart_4 : decode cX9_matchPart 4 = .ok (.istore 6, 2) := by decide +kernel
theorem dX9_matchPart_6 : decode cX9_matchPart 6 = .ok (.iload_n 3, 1) := by decide +kernel
theorem dX9_matchPart_7 : decode cX9_matchPart 7 = .ok (.istore 7, 2) := by decide +kernel
theorem dX9_matchPart_9 : decode cX9_matchPart 9 = .ok (.iload 4, 2) := by decide +kernel
theorem dX9_matchPart_11 : decode cX9_matchPart 11 = .ok (.istore 8, 2) := by decide +kernel
theorem dX9_matchPart_13 : decode cX9_matchPart 13 = .ok (.iload 5, 2) := by decide +kernel
theorem dX9_matchPart_15 : decode cX9_matchPart 15 = .ok (.iload 6, 2) := by decide +kernel
theorem dX9_matchPart_17 : decode cX9_matchPart 17 = .ok (.if_icmp .ge 38, 3) := by decide +kernel
theorem dX9_matchPart_20 : decode cX9_matchPart 20 = .ok (.iload 7, 2) := by decide +kernel
theorem dX9_matchPart_22 : decode cX9_matchPart 22 = .ok (.iload 8, 2) := by decide +kernel
theorem dX9_matchPart_24 : decode cX9_matchPart 24 = .ok (.if_icmp .ge 31, 3) := by decide +kernel
theorem dX9_matchPart_27 : decode cX9_matchPart 27 = .ok (.aload_n 0, 1) := by decide +kernel
theorem dX9_matchPart_28 : decode cX9_matchPart 28 = .ok (.iload 5, 2) := by decide +kernel
theorem dX9_matchPart_30 : decode cX9_matchPart 30 = .ok (.iload 7, 2) := by decide +kernel
theorem dX9_matchPart_32 : decode cX9_matchPart 32 = .ok (.invokevirtual 125, 3) := by decide +kernel
theorem dX9_matchPart_35 : decode cX9_matchPart 35 = .ok (.ifCond .eq 20, 3) := by decide +kernel
theorem dX9_matchPart_38 : decode cX9_matchPart 38 = .ok (.aload_n 0, 1) := by decide +kernel
theorem dX9_matchPart_39 : decode cX9_matchPart 39 = .ok (.iload 5, 2) := by decide +kernel
theorem dX9_matchPart_41 : decode cX9_matchPart 41 = .ok (.iload 7, 2) := by decide +kernel
theorem dX9_matchPart_43 : decode cX9_matchPart 43 = .ok (.invokevirtual 129, 3) := by decide +kernel
theorem dX9_matchPart_46 : decode cX9_matchPart 46 = .ok (.iinc 5 1, 3) := by decide +kernel
theorem dX9_matchPart_49 : decode cX9_matchPart 49 = .ok (.iinc 7 1, 3) := by decide +kernel
theorem dX9_matchPart_52 : decode cX9_matchPart 52 = .ok (.goto (-39), 3) := by decide +kernel
theorem dX9_matchPart_55 : decode cX9_matchPart 55 = .ok (.iload 5, 2) := by decide +kernel
theorem dX9_matchPart_57 : decode cX9_matchPart 57 = .ok (.iload 6, 2) := by decide +kernel
theorem dX9_matchPart_59 : decode cX9_matchPart 59 = .ok (.if_icmp .ge 42, 3) := by decide +kernel
theorem dX9_matchPart_62 : decode cX9_matchPart 62 = .ok (.iload 7, 2) := by decide +kernel
theorem dX9_matchPart_64 : decode cX9_matchPart 64 = .ok (.iload 8, 2) := by decide +kernel
theorem dX9_matchPart_66 : decode cX9_matchPart 66 = .ok (.if_icmp .ge 35, 3) := by decide +kernel
theorem dX9_matchPart_69 : decode cX9_matchPart 69 = .ok (.aload_n 0, 1) := by decide +kernel
theorem dX9_matchPart_70 : decode cX9_matchPart 70 = .ok (.iload 6, 2) := by decide +kernel
theorem dX9_matchPart_72 : decode cX9_matchPart 72 = .ok (.iconst 1, 1) := by decide +kernel
theorem dX9_matchPart_73 : decode cX9_matchPart 73 = .ok (.isub, 1) := by decide +kernel
theorem dX9_matchPart_74 : decode cX9_matchPart 74 = .ok (.iload 8, 2) := by decide +kernel
theorem dX9_matchPart_76 : decode cX9_matchPart 76 = .ok (.iconst 1, 1) := by decide +kernel
theorem dX9_matchPart_77 : decode cX9_matchPart 77 = .ok (.isub, 1) := by decide +kernel
theorem dX9_matchPart_78 : decode cX9_matchPart 78 = .ok (.invokevirtual 125, 3) := by decide +kernel
theorem dX9_matchPart_81 : decode cX9_matchPart 81 = .ok (.ifCond .eq 20, 3) := by decide +kernel
theorem dX9_matchPart_84 : decode cX9_matchPart 84 = .ok (.iinc 6 (-1), 3) := by decide +kernel
theorem dX9_matchPart_87 : decode cX9_matchPart 87 = .ok (.iinc 8 (-1), 3) := by decide +kernel
theorem dX9_matchPart_90 : decode cX9_matchPart 90 = .ok (.aload_n 0, 1) := by decide +kernel
theorem dX9_matchPart_91 : decode cX9_matchPart 91 = .ok (.iload 6, 2) := by decide +kernel
theorem dX9_matchPart_93 : decode cX9_matchPart 93 = .ok (.iload 8, 2) := by decide +kernel
theorem dX9_matchPart_95 : decode cX9_matchPart 95 = .ok (.invokevirtual 129, 3) := by decide +kernel
theorem dX9_matchPart_98 : decode cX9_matchPart 98 = .ok (.goto (-43), 3) := by decide +kernel
theorem dX9_matchPart_101 : decode cX9_matchPart 101 = .ok (.iload 5, 2) := by decide +kernel
theorem dX9_matchPart_103 : decode cX9_matchPart 103 = .ok (.iload 6, 2) := by decide +kernel
theorem dX9_matchPart_105 : decode cX9_matchPart 105 = .ok (.if_icmp .ge 58, 3) := by decide +kernel
theorem dX9_matchPart_108 : decode cX9_matchPart 108 = .ok (.iload 7, 2) := by decide +kernel
theorem dX9_matchPart_110 : decode cX9_matchPart 110 = .ok (.iload 8, 2) := by decide +kernel
theorem dX9_matchPart_112 : decode cX9_matchPart 112 = .ok (.if_icmp .ge 51, 3) := by decide +kernel
theorem dX9_matchPart_115 : decode cX9_matchPart 115 = .ok (.aload_n 0, 1) := by decide +kernel
theorem dX9_matchPart_116 : decode cX9_matchPart 116 = .ok (.iload 5, 2) := by decide +kernel
theorem dX9_matchPart_118 : decode cX9_matchPart 118 = .ok (.iload 6, 2) := by decide +kernel
theorem dX9_matchPart_120 : decode cX9_matchPart 120 = .ok (.iload 7, 2) := by decide +kernel
theorem dX9_matchPart_122 : decode cX9_matchPart 122 = .ok (.iload 8, 2) := by decide +kernel
theorem dX9_matchPart_124 : decode cX9_matchPart 124 = .ok (.invokevirtual 143, 3) := by decide +kernel
theorem dX9_matchPart_127 : decode cX9_matchPart 127 = .ok (.istore 9, 2) := by decide +kernel
theorem dX9_matchPart_129 : decode cX9_matchPart 129 = .ok (.iload 9, 2) := by decide +kernel
theorem dX9_matchPart_131 : decode cX9_matchPart 131 = .ok (.ifCond .le 20, 3) := by decide +kernel
theorem dX9_matchPart_134 : decode cX9_matchPart 134 = .ok (.aload_n 0, 1) := by decide +kernel
theorem dX9_matchPart_135 : decode cX9_matchPart 135 = .ok (.iload 5, 2) := by decide +kernel
theorem dX9_matchPart_137 : decode cX9_matchPart 137 = .ok (.iload 6, 2) := by decide +kernel
theorem dX9_matchPart_139 : decode cX9_matchPart 139 = .ok (.iload 7, 2) := by decide +kernel
theorem dX9_matchPart_141 : decode cX9_matchPart 141 = .ok (.iload 8, 2) := by decide +kernel
theorem dX9_matchPart_143 : decode cX9_matchPart 143 = .ok (.iload 9, 2) := by decide +kernel
theorem dX9_matchPart_145 : decode cX9_matchPart 145 = .ok (.invokevirtual 147, 3) := by decide +kernel
theorem dX9_matchPart_148 : decode cX9_matchPart 148 = .ok (.goto 15, 3) := by decide +kernel
theorem dX9_matchPart_151 : decode cX9_matchPart 151 = .ok (.aload_n 0, 1) := by decide +kernel
theorem dX9_matchPart_152 : decode cX9_matchPart 152 = .ok (.iload 5, 2) := by decide +kernel
theorem dX9_matchPart_154 : decode cX9_matchPart 154 = .ok (.iload 6, 2) := by decide +kernel
theorem dX9_matchPart_156 : decode cX9_matchPart 156 = .ok (.iload 7, 2) := by decide +kernel
theorem dX9_matchPart_158 : decode cX9_matchPart 158 = .ok (.iload 8, 2) := by decide +kernel
theorem dX9_matchPart_160 : decode cX9_matchPart 160 = .ok (.invokevirtual 151, 3) := by decide +kernel
theorem dX9_matchPart_163 : decode cX9_matchPart 163 = .ok (.return_, 1) := by decide +kernel
theorem dX9_matchAll_0 : decode cX9_matchAll 0 = .ok (.iconst 0, 1) := by decide +kernel
theorem dX9_matchAll_1 : decode cX9_matchAll 1 = .ok (.istore_n 1, 1) := by decide +kernel
theorem dX9_matchAll_2 : decode cX9_matchAll 2 = .ok (.iload_n 1, 1) := by decide +kernel
theorem dX9_matchAll_3 : decode cX9_matchAll 3 = .ok (.bipush 32, 2) := by decide +kernel
theorem dX9_matchAll_5 : decode cX9_matchAll 5 = .ok (.if_icmp .ge 16, 3) := by decide +kernel
theorem dX9_matchAll_8 : decode cX9_matchAll 8 = .ok (.aload_n 0, 1) := by decide +kernel
theorem dX9_matchAll_9 : decode cX9_matchAll 9 = .ok (.getfield 25, 3) := by decide +kernel
theorem dX9_matchAll_12 : decode cX9_matchAll 12 = .ok (.iload_n 1, 1) := by decide +kernel
theorem dX9_matchAll_13 : decode cX9_matchAll 13 = .ok (.iconst (-1), 1) := by decide +kernel
theorem dX9_matchAll_14 : decode cX9_matchAll 14 = .ok (.iastore, 1) := by decide +kernel
theorem dX9_matchAll_15 : decode cX9_matchAll 15 = .ok (.iinc 1 1, 3) := by decide +kernel
theorem dX9_matchAll_18 : decode cX9_matchAll 18 = .ok (.goto (-16), 3) := by decide +kernel
theorem dX9_matchAll_21 : decode cX9_matchAll 21 = .ok (.aload_n 0, 1) := by decide +kernel
theorem dX9_matchAll_22 : decode cX9_matchAll 22 = .ok (.iconst 0, 1) := by decide +kernel
theorem dX9_matchAll_23 : decode cX9_matchAll 23 = .ok (.putfield 133, 3) := by decide +kernel
theorem dX9_matchAll_26 : decode cX9_matchAll 26 = .ok (.aload_n 0, 1) := by decide +kernel
theorem dX9_matchAll_27 : decode cX9_matchAll 27 = .ok (.iconst 0, 1) := by decide +kernel
theorem dX9_matchAll_28 : decode cX9_matchAll 28 = .ok (.putfield 118, 3) := by decide +kernel
theorem dX9_matchAll_31 : decode cX9_matchAll 31 = .ok (.aload_n 0, 1) := by decide +kernel
theorem dX9_matchAll_32 : decode cX9_matchAll 32 = .ok (.iconst 0, 1) := by decide +kernel
theorem dX9_matchAll_33 : decode cX9_matchAll 33 = .ok (.aload_n 0, 1) := by decide +kernel
theorem dX9_matchAll_34 : decode cX9_matchAll 34 = .ok (.getfield 22, 3) := by decide +kernel
theorem dX9_matchAll_37 : decode cX9_matchAll 37 = .ok (.iconst 0, 1) := by decide +kernel
theorem dX9_matchAll_38 : decode cX9_matchAll 38 = .ok (.iaload, 1) := by decide +kernel
theorem dX9_matchAll_39 : decode cX9_matchAll 39 = .ok (.iconst 0, 1) := by decide +kernel
theorem dX9_matchAll_40 : decode cX9_matchAll 40 = .ok (.aload_n 0, 1) := by decide +kernel
theorem dX9_matchAll_41 : decode cX9_matchAll 41 = .ok (.getfield 22, 3) := by decide +kernel
theorem dX9_matchAll_44 : decode cX9_matchAll 44 = .ok (.iconst 1, 1) := by decide +kernel
theorem dX9_matchAll_45 : decode cX9_matchAll 45 = .ok (.iaload, 1) := by decide +kernel
theorem dX9_matchAll_46 : decode cX9_matchAll 46 = .ok (.invokevirtual 136, 3) := by decide +kernel
theorem dX9_matchAll_49 : decode cX9_matchAll 49 = .ok (.aload_n 0, 1) := by decide +kernel
theorem dX9_matchAll_50 : decode cX9_matchAll 50 = .ok (.getfield 118, 3) := by decide +kernel
theorem dX9_matchAll_53 : decode cX9_matchAll 53 = .ok (.ifCond .le 70, 3) := by decide +kernel
theorem dX9_matchAll_56 : decode cX9_matchAll 56 = .ok (.aload_n 0, 1) := by decide +kernel
theorem dX9_matchAll_57 : decode cX9_matchAll 57 = .ok (.dup, 1) := by decide +kernel
theorem dX9_matchAll_58 : decode cX9_matchAll 58 = .ok (.getfield 118, 3) := by decide +kernel
theorem dX9_matchAll_61 : decode cX9_matchAll 61 = .ok (.iconst 1, 1) := by decide +kernel
theorem dX9_matchAll_62 : decode cX9_matchAll 62 = .ok (.isub, 1) := by decide +kernel
theorem dX9_matchAll_63 : decode cX9_matchAll 63 = .ok (.putfield 118, 3) := by decide +kernel
theorem dX9_matchAll_66 : decode cX9_matchAll 66 = .ok (.aload_n 0, 1) := by decide +kernel
theorem dX9_matchAll_67 : decode cX9_matchAll 67 = .ok (.aload_n 0, 1) := by decide +kernel
theorem dX9_matchAll_68 : decode cX9_matchAll 68 = .ok (.getfield 28, 3) := by decide +kernel
theorem dX9_matchAll_71 : decode cX9_matchAll 71 = .ok (.iconst 4, 1) := by decide +kernel
theorem dX9_matchAll_72 : decode cX9_matchAll 72 = .ok (.aload_n 0, 1) := by decide +kernel
theorem dX9_matchAll_73 : decode cX9_matchAll 73 = .ok (.getfield 118, 3) := by decide +kernel
theorem dX9_matchAll_76 : decode cX9_matchAll 76 = .ok (.imul, 1) := by decide +kernel
theorem dX9_matchAll_77 : decode cX9_matchAll 77 = .ok (.iaload, 1) := by decide +kernel
theorem dX9_matchAll_78 : decode cX9_matchAll 78 = .ok (.aload_n 0, 1) := by decide +kernel
theorem dX9_matchAll_79 : decode cX9_matchAll 79 = .ok (.getfield 28, 3) := by decide +kernel
theorem dX9_matchAll_82 : decode cX9_matchAll 82 = .ok (.iconst 4, 1) := by decide +kernel
theorem dX9_matchAll_83 : decode cX9_matchAll 83 = .ok (.aload_n 0, 1) := by decide +kernel
theorem dX9_matchAll_84 : decode cX9_matchAll 84 = .ok (.getfield 118, 3) := by decide +kernel
theorem dX9_matchAll_87 : decode cX9_matchAll 87 = .ok (.imul, 1) := by decide +kernel
theorem dX9_matchAll_88 : decode cX9_matchAll 88 = .ok (.iconst 1, 1) := by decide +kernel
theorem dX9_matchAll_89 : decode cX9_matchAll 89 = .ok (.iadd, 1) := by decide +kernel
theorem dX9_matchAll_90 : decode cX9_matchAll 90 = .ok (.iaload, 1) := by decide +kernel
theorem dX9_matchAll_91 : decode cX9_matchAll 91 = .ok (.aload_n 0, 1) := by decide +kernel
theorem dX9_matchAll_92 : decode cX9_matchAll 92 = .ok (.getfield 28, 3) := by decide +kernel
theorem dX9_matchAll_95 : decode cX9_matchAll 95 = .ok (.iconst 4, 1) := by decide +kernel
theorem dX9_matchAll_96 : decode cX9_matchAll 96 = .ok (.aload_n 0, 1) := by decide +kernel
theorem dX9_matchAll_97 : decode cX9_matchAll 97 = .ok (.getfield 118, 3) := by decide +kernel
theorem dX9_matchAll_100 : decode cX9_matchAll 100 = .ok (.imul, 1) := by decide +kernel
theorem dX9_matchAll_101 : decode cX9_matchAll 101 = .ok (.iconst 2, 1) := by decide +kernel
theorem dX9_matchAll_102 : decode cX9_matchAll 102 = .ok (.iadd, 1) := by decide +kernel
theorem dX9_matchAll_103 : decode cX9_matchAll 103 = .ok (.iaload, 1) := by decide +kernel
theorem dX9_matchAll_104 : decode cX9_matchAll 104 = .ok (.aload_n 0, 1) := by decide +kernel
theorem dX9_matchAll_105 : decode cX9_matchAll 105 = .ok (.getfield 28, 3) := by decide +kernel
theorem dX9_matchAll_108 : decode cX9_matchAll 108 = .ok (.iconst 4, 1) := by decide +kernel
theorem dX9_matchAll_109 : decode cX9_matchAll 109 = .ok (.aload_n 0, 1) := by decide +kernel
theorem dX9_matchAll_110 : decode cX9_matchAll 110 = .ok (.getfield 118, 3) := by decide +kernel
theorem dX9_matchAll_113 : decode cX9_matchAll 113 = .ok (.imul, 1) := by decide +kernel
theorem dX9_matchAll_114 : decode cX9_matchAll 114 = .ok (.iconst 3, 1) := by decide +kernel
theorem dX9_matchAll_115 : decode cX9_matchAll 115 = .ok (.iadd, 1) := by decide +kernel
theorem dX9_matchAll_116 : decode cX9_matchAll 116 = .ok (.iaload, 1) := by decide +kernel
theorem dX9_matchAll_117 : decode cX9_matchAll 117 = .ok (.invokevirtual 154, 3) := by decide +kernel
theorem dX9_matchAll_120 : decode cX9_matchAll 120 = .ok (.goto (-71), 3) := by decide +kernel
theorem dX9_matchAll_123 : decode cX9_matchAll 123 = .ok (.return_, 1) := by decide +kernel
theorem dX9_countGap_0 : decode cX9_countGap 0 = .ok (.iconst 0, 1) := by decide +kernel
theorem dX9_countGap_1 : decode cX9_countGap 1 = .ok (.istore_n 3, 1) := by decide +kernel
theorem dX9_countGap_2 : decode cX9_countGap 2 = .ok (.iload_n 2, 1) := by decide +kernel
theorem dX9_countGap_3 : decode cX9_countGap 3 = .ok (.iload_n 3, 1) := by decide +kernel
theorem dX9_countGap_4 : decode cX9_countGap 4 = .ok (.iadd, 1) := by decide +kernel
theorem dX9_countGap_5 : decode cX9_countGap 5 = .ok (.aload_n 0, 1) := by decide +kernel
theorem dX9_countGap_6 : decode cX9_countGap 6 = .ok (.getfield 22, 3) := by decide +kernel
theorem dX9_countGap_9 : decode cX9_countGap 9 = .ok (.iload_n 1, 1) := by decide +kernel
theorem dX9_countGap_10 : decode cX9_countGap 10 = .ok (.iaload, 1) := by decide +kernel
theorem dX9_countGap_11 : decode cX9_countGap 11 = .ok (.if_icmp .ge 26, 3) := by decide +kernel
theorem dX9_countGap_14 : decode cX9_countGap 14 = .ok (.aload_n 0, 1) := by decide +kernel
theorem dX9_countGap_15 : decode cX9_countGap 15 = .ok (.getfield 25, 3) := by decide +kernel
theorem dX9_countGap_18 : decode cX9_countGap 18 = .ok (.bipush 16, 2) := by decide +kernel
theorem dX9_countGap_20 : decode cX9_countGap 20 = .ok (.iload_n 1, 1) := by decide +kernel
theorem dX9_countGap_21 : decode cX9_countGap 21 = .ok (.imul, 1) := by decide +kernel
theorem dX9_countGap_22 : decode cX9_countGap 22 = .ok (.iload_n 2, 1) := by decide +kernel
theorem dX9_countGap_23 : decode cX9_countGap 23 = .ok (.iadd, 1) := by decide +kernel
theorem dX9_countGap_24 : decode cX9_countGap 24 = .ok (.iload_n 3, 1) := by decide +kernel
theorem dX9_countGap_25 : decode cX9_countGap 25 = .ok (.iadd, 1) := by decide +kernel
theorem dX9_countGap_26 : decode cX9_countGap 26 = .ok (.iaload, 1) := by decide +kernel
theorem dX9_countGap_27 : decode cX9_countGap 27 = .ok (.iconst (-1), 1) := by decide +kernel
theorem dX9_countGap_28 : decode cX9_countGap 28 = .ok (.if_icmp .ne 9, 3) := by decide +kernel
theorem dX9_countGap_31 : decode cX9_countGap 31 = .ok (.iinc 3 1, 3) := by decide +kernel
theorem dX9_countGap_34 : decode cX9_countGap 34 = .ok (.goto (-32), 3) := by decide +kernel
theorem dX9_countGap_37 : decode cX9_countGap 37 = .ok (.iload_n 3, 1) := by decide +kernel
theorem dX9_countGap_38 : decode cX9_countGap 38 = .ok (.ireturn, 1) := by decide +kernel
theorem dX9_countBack_0 : decode cX9_countBack 0 = .ok (.iconst 0, 1) := by decide +kernel
theorem dX9_countBack_1 : decode cX9_countBack 1 = .ok (.istore_n 3, 1) := by decide +kernel
theorem dX9_countBack_2 : decode cX9_countBack 2 = .ok (.iload_n 2, 1) := by decide +kernel
theorem dX9_countBack_3 : decode cX9_countBack 3 = .ok (.iload_n 3, 1) := by decide +kernel
theorem dX9_countBack_4 : decode cX9_countBack 4 = .ok (.isub, 1) := by decide +kernel
theorem dX9_countBack_5 : decode cX9_countBack 5 = .ok (.ifCond .le 28, 3) := by decide +kernel
theorem dX9_countBack_8 : decode cX9_countBack 8 = .ok (.aload_n 0, 1) := by decide +kernel
theorem dX9_countBack_9 : decode cX9_countBack 9 = .ok (.getfield 25, 3) := by decide +kernel
theorem dX9_countBack_12 : decode cX9_countBack 12 = .ok (.bipush 16, 2) := by decide +kernel
theorem dX9_countBack_14 : decode cX9_countBack 14 = .ok (.iload_n 1, 1) := by decide +kernel
theorem dX9_countBack_15 : decode cX9_countBack 15 = .ok (.imul, 1) := by decide +kernel
theorem dX9_countBack_16 : decode cX9_countBack 16 = .ok (.iload_n 2, 1) := by decide +kernel
theorem dX9_countBack_17 : decode cX9_countBack 17 = .ok (.iadd, 1) := by decide +kernel
theorem dX9_countBack_18 : decode cX9_countBack 18 = .ok (.iload_n 3, 1) := by decide +kernel
theorem dX9_countBack_19 : decode cX9_countBack 19 = .ok (.isub, 1) := by decide +kernel
theorem dX9_countBack_20 : decode cX9_countBack 20 = .ok (.iconst 1, 1) := by decide +kernel
theorem dX9_countBack_21 : decode cX9_countBack 21 = .ok (.isub, 1) := by decide +kernel
theorem dX9_countBack_22 : decode cX9_countBack 22 = .ok (.iaload, 1) := by decide +kernel
theorem dX9_countBack_23 : decode cX9_countBack 23 = .ok (.iconst (-1), 1) := by decide +kernel
theorem dX9_countBack_24 : decode cX9_countBack 24 = .ok (.if_icmp .ne 9, 3) := by decide +kernel
theorem dX9_countBack_27 : decode cX9_countBack 27 = .ok (.iinc 3 1, 3) := by decide +kernel
theorem dX9_countBack_30 : decode cX9_countBack 30 = .ok (.goto (-28), 3) := by decide +kernel
theorem dX9_countBack_33 : decode cX9_countBack 33 = .ok (.iload_n 3, 1) := by decide +kernel
theorem dX9_countBack_34 : decode cX9_countBack 34 = .ok (.ireturn, 1) := by decide +kernel
theorem dX9_isSliding_0 : decode cX9_isSliding 0 = .ok (.iload_n 2, 1) := by decide +kernel
theorem dX9_isSliding_1 : decode cX9_isSliding 1 = .ok (.iload_n 3, 1) := by decide +kernel
theorem dX9_isSliding_2 : decode cX9_isSliding 2 = .ok (.isub, 1) := by decide +kernel
theorem dX9_isSliding_3 : decode cX9_isSliding 3 = .ok (.iconst 1, 1) := by decide +kernel
theorem dX9_isSliding_4 : decode cX9_isSliding 4 = .ok (.isub, 1) := by decide +kernel
theorem dX9_isSliding_5 : decode cX9_isSliding 5 = .ok (.istore 4, 2) := by decide +kernel
theorem dX9_isSliding_7 : decode cX9_isSliding 7 = .ok (.iload 4, 2) := by decide +kernel
theorem dX9_isSliding_9 : decode cX9_isSliding 9 = .ok (.ifCond .lt 35, 3) := by decide +kernel
theorem dX9_isSliding_12 : decode cX9_isSliding 12 = .ok (.aload_n 0, 1) := by decide +kernel
theorem dX9_isSliding_13 : decode cX9_isSliding 13 = .ok (.getfield 19, 3) := by decide +kernel
theorem dX9_isSliding_16 : decode cX9_isSliding 16 = .ok (.bipush 16, 2) := by decide +kernel
theorem dX9_isSliding_18 : decode cX9_isSliding 18 = .ok (.iload_n 1, 1) := by decide +kernel
theorem dX9_isSliding_19 : decode cX9_isSliding 19 = .ok (.imul, 1) := by decide +kernel
theorem dX9_isSliding_20 : decode cX9_isSliding 20 = .ok (.iload_n 2, 1) := by decide +kernel
theorem dX9_isSliding_21 : decode cX9_isSliding 21 = .ok (.iadd, 1) := by decide +kernel
theorem dX9_isSliding_22 : decode cX9_isSliding 22 = .ok (.iconst 1, 1) := by decide +kernel
theorem dX9_isSliding_23 : decode cX9_isSliding 23 = .ok (.isub, 1) := by decide +kernel
theorem dX9_isSliding_24 : decode cX9_isSliding 24 = .ok (.iaload, 1) := by decide +kernel
theorem dX9_isSliding_25 : decode cX9_isSliding 25 = .ok (.aload_n 0, 1) := by decide +kernel
theorem dX9_isSliding_26 : decode cX9_isSliding 26 = .ok (.getfield 19, 3) := by decide +kernel
theorem dX9_isSliding_29 : decode cX9_isSliding 29 = .ok (.bipush 16, 2) := by decide +kernel
theorem dX9_isSliding_31 : decode cX9_isSliding 31 = .ok (.iload_n 1, 1) := by decide +kernel
theorem dX9_isSliding_32 : decode cX9_isSliding 32 = .ok (.imul, 1) := by decide +kernel
theorem dX9_isSliding_33 : decode cX9_isSliding 33 = .ok (.iload 4, 2) := by decide +kernel
theorem dX9_isSliding_35 : decode cX9_isSliding 35 = .ok (.iadd, 1) := by decide +kernel
theorem dX9_isSliding_36 : decode cX9_isSliding 36 = .ok (.iaload, 1) := by decide +kernel
theorem dX9_isSliding_37 : decode cX9_isSliding 37 = .ok (.if_icmp .ne 7, 3) := by decide +kernel
theorem dX9_isSliding_40 : decode cX9_isSliding 40 = .ok (.iconst 1, 1) := by decide +kernel
theorem dX9_isSliding_41 : decode cX9_isSliding 41 = .ok (.goto 4, 3) := by decide +kernel
theorem dX9_isSliding_44 : decode cX9_isSliding 44 = .ok (.iconst 0, 1) := by decide +kernel
theorem dX9_isSliding_45 : decode cX9_isSliding 45 = .ok (.ireturn, 1) := by decide +kernel
theorem dX9_slide_0 : decode cX9_slide 0 = .ok (.iload_n 2, 1) := by decide +kernel
theorem dX9_slide_1 : decode cX9_slide 1 = .ok (.iload_n 3, 1) := by decide +kernel
theorem dX9_slide_2 : decode cX9_slide 2 = .ok (.isub, 1) := by decide +kernel
theorem dX9_slide_3 : decode cX9_slide 3 = .ok (.iconst 1, 1) := by decide +kernel
theorem dX9_slide_4 : decode cX9_slide 4 = .ok (.isub, 1) := by decide +kernel
theorem dX9_slide_5 : decode cX9_slide 5 = .ok (.istore 4, 2) := by decide +kernel
theorem dX9_slide_7 : decode cX9_slide 7 = .ok (.aload_n 0, 1) := by decide +kernel
theorem dX9_slide_8 : decode cX9_slide 8 = .ok (.getfield 25, 3) := by decide +kernel
theorem dX9_slide_11 : decode cX9_slide 11 = .ok (.bipush 16, 2) := by decide +kernel
theorem dX9_slide_13 : decode cX9_slide 13 = .ok (.iload_n 1, 1) := by decide +kernel
theorem dX9_slide_14 : decode cX9_slide 14 = .ok (.imul, 1) := by decide +kernel
theorem dX9_slide_15 : decode cX9_slide 15 = .ok (.iload 4, 2) := by decide +kernel
theorem dX9_slide_17 : decode cX9_slide 17 = .ok (.iadd, 1) := by decide +kernel
theorem dX9_slide_18 : decode cX9_slide 18 = .ok (.iaload, 1) := by decide +kernel
theorem dX9_slide_19 : decode cX9_slide 19 = .ok (.istore 5, 2) := by decide +kernel
theorem dX9_slide_21 : decode cX9_slide 21 = .ok (.aload_n 0, 1) := by decide +kernel
theorem dX9_slide_22 : decode cX9_slide 22 = .ok (.getfield 25, 3) := by decide +kernel
theorem dX9_slide_25 : decode cX9_slide 25 = .ok (.bipush 16, 2) := by decide +kernel
theorem dX9_slide_27 : decode cX9_slide 27 = .ok (.iload_n 1, 1) := by decide +kernel
theorem dX9_slide_28 : decode cX9_slide 28 = .ok (.imul, 1) := by decide +kernel
theorem dX9_slide_29 : decode cX9_slide 29 = .ok (.iload 4, 2) := by decide +kernel
theorem dX9_slide_31 : decode cX9_slide 31 = .ok (.iadd, 1) := by decide +kernel
theorem dX9_slide_32 : decode cX9_slide 32 = .ok (.iconst (-1), 1) := by decide +kernel
theorem dX9_slide_33 : decode cX9_slide 33 = .ok (.iastore, 1) := by decide +kernel
theorem dX9_slide_34 : decode cX9_slide 34 = .ok (.aload_n 0, 1) := by decide +kernel
theorem dX9_slide_35 : decode cX9_slide 35 = .ok (.getfield 25, 3) := by decide +kernel
theorem dX9_slide_38 : decode cX9_slide 38 = .ok (.bipush 16, 2) := by decide +kernel
theorem dX9_slide_40 : decode cX9_slide 40 = .ok (.iload_n 1, 1) := by decide +kernel
theorem dX9_slide_41 : decode cX9_slide 41 = .ok (.imul, 1) := by decide +kernel
theorem dX9_slide_42 : decode cX9_slide 42 = .ok (.iload_n 2, 1) := by decide +kernel
theorem dX9_slide_43 : decode cX9_slide 43 = .ok (.iadd, 1) := by decide +kernel
theorem dX9_slide_44 : decode cX9_slide 44 = .ok (.iconst 1, 1) := by decide +kernel
theorem dX9_slide_45 : decode cX9_slide 45 = .ok (.isub, 1) := by decide +kernel
theorem dX9_slide_46 : decode cX9_slide 46 = .ok (.iload 5, 2) := by decide +kernel
theorem dX9_slide_48 : decode cX9_slide 48 = .ok (.iastore, 1) := by decide +kernel
theorem dX9_slide_49 : decode cX9_slide 49 = .ok (.aload_n 0, 1) := by decide +kernel
theorem dX9_slide_50 : decode cX9_slide 50 = .ok (.getfield 25, 3) := by decide +kernel
theorem dX9_slide_53 : decode cX9_slide 53 = .ok (.bipush 16, 2) := by decide +kernel
theorem dX9_slide_55 : decode cX9_slide 55 = .ok (.iconst 1, 1) := by decide +kernel
theorem dX9_slide_56 : decode cX9_slide 56 = .ok (.iload_n 1, 1) := by decide +kernel
theorem dX9_slide_57 : decode cX9_slide 57 = .ok (.isub, 1) := by decide +kernel
theorem dX9_slide_58 : decode cX9_slide 58 = .ok (.imul, 1) := by decide +kernel
theorem dX9_slide_59 : decode cX9_slide 59 = .ok (.iload 5, 2) := by decide +kernel
theorem dX9_slide_61 : decode cX9_slide 61 = .ok (.iadd, 1) := by decide +kernel
theorem dX9_slide_62 : decode cX9_slide 62 = .ok (.iload_n 2, 1) := by decide +kernel
theorem dX9_slide_63 : decode cX9_slide 63 = .ok (.iconst 1, 1) := by decide +kernel
theorem dX9_slide_64 : decode cX9_slide 64 = .ok (.isub, 1) := by decide +kernel
theorem dX9_slide_65 : decode cX9_slide 65 = .ok (.iastore, 1) := by decide +kernel
theorem dX9_slide_66 : decode cX9_slide 66 = .ok (.aload_n 0, 1) := by decide +kernel
theorem dX9_slide_67 : decode cX9_slide 67 = .ok (.dup, 1) := by decide +kernel
theorem dX9_slide_68 : decode cX9_slide 68 = .ok (.getfield 157, 3) := by decide +kernel
theorem dX9_slide_71 : decode cX9_slide 71 = .ok (.iconst 1, 1) := by decide +kernel
theorem dX9_slide_72 : decode cX9_slide 72 = .ok (.iadd, 1) := by decide +kernel
theorem dX9_slide_73 : decode cX9_slide 73 = .ok (.putfield 157, 3) := by decide +kernel
theorem dX9_slide_76 : decode cX9_slide 76 = .ok (.return_, 1) := by decide +kernel
theorem dX9_slideGap_0 : decode cX9_slideGap 0 = .ok (.iconst 0, 1) := by decide +kernel
theorem dX9_slideGap_1 : decode cX9_slideGap 1 = .ok (.istore 5, 2) := by decide +kernel
theorem dX9_slideGap_3 : decode cX9_slideGap 3 = .ok (.iconst 0, 1) := by decide +kernel
theorem dX9_slideGap_4 : decode cX9_slideGap 4 = .ok (.istore 6, 2) := by decide +kernel
theorem dX9_slideGap_6 : decode cX9_slideGap 6 = .ok (.iload 6, 2) := by decide +kernel
theorem dX9_slideGap_8 : decode cX9_slideGap 8 = .ok (.ifCond .ne 87, 3) := by decide +kernel
theorem dX9_slideGap_11 : decode cX9_slideGap 11 = .ok (.aload_n 0, 1) := by decide +kernel
theorem dX9_slideGap_12 : decode cX9_slideGap 12 = .ok (.iload_n 1, 1) := by decide +kernel
theorem dX9_slideGap_13 : decode cX9_slideGap 13 = .ok (.iload_n 1, 1) := by decide +kernel
theorem dX9_slideGap_14 : decode cX9_slideGap 14 = .ok (.ifCond .ne 10, 3) := by decide +kernel
theorem dX9_slideGap_17 : decode cX9_slideGap 17 = .ok (.iload_n 2, 1) := by decide +kernel
theorem dX9_slideGap_18 : decode cX9_slideGap 18 = .ok (.iload 5, 2) := by decide +kernel
theorem dX9_slideGap_20 : decode cX9_slideGap 20 = .ok (.isub, 1) := by decide +kernel
theorem dX9_slideGap_21 : decode cX9_slideGap 21 = .ok (.goto 7, 3) := by decide +kernel
theorem dX9_slideGap_24 : decode cX9_slideGap 24 = .ok (.iload_n 3, 1) := by decide +kernel
theorem dX9_slideGap_25 : decode cX9_slideGap 25 = .ok (.iload 5, 2) := by decide +kernel
theorem dX9_slideGap_27 : decode cX9_slideGap 27 = .ok (.isub, 1) := by decide +kernel
theorem dX9_slideGap_28 : decode cX9_slideGap 28 = .ok (.iload 4, 2) := by decide +kernel
theorem dX9_slideGap_30 : decode cX9_slideGap 30 = .ok (.invokevirtual 160, 3) := by decide +kernel
theorem dX9_slideGap_33 : decode cX9_slideGap 33 = .ok (.ifCond .eq 62, 3) := by decide +kernel
theorem dX9_slideGap_36 : decode cX9_slideGap 36 = .ok (.aload_n 0, 1) := by decide +kernel
theorem dX9_slideGap_37 : decode cX9_slideGap 37 = .ok (.iload_n 1, 1) := by decide +kernel
theorem dX9_slideGap_38 : decode cX9_slideGap 38 = .ok (.iload_n 1, 1) := by decide +kernel
theorem dX9_slideGap_39 : decode cX9_slideGap 39 = .ok (.ifCond .ne 10, 3) := by decide +kernel
theorem dX9_slideGap_42 : decode cX9_slideGap 42 = .ok (.iload_n 2, 1) := by decide +kernel
theorem dX9_slideGap_43 : decode cX9_slideGap 43 = .ok (.iload 5, 2) := by decide +kernel
theorem dX9_slideGap_45 : decode cX9_slideGap 45 = .ok (.isub, 1) := by decide +kernel
theorem dX9_slideGap_46 : decode cX9_slideGap 46 = .ok (.goto 7, 3) := by decide +kernel
theorem dX9_slideGap_49 : decode cX9_slideGap 49 = .ok (.iload_n 3, 1) := by decide +kernel
theorem dX9_slideGap_50 : decode cX9_slideGap 50 = .ok (.iload 5, 2) := by decide +kernel
theorem dX9_slideGap_52 : decode cX9_slideGap 52 = .ok (.isub, 1) := by decide +kernel
theorem dX9_slideGap_53 : decode cX9_slideGap 53 = .ok (.iload 4, 2) := by decide +kernel
theorem dX9_slideGap_55 : decode cX9_slideGap 55 = .ok (.invokevirtual 164, 3) := by decide +kernel
theorem dX9_slideGap_58 : decode cX9_slideGap 58 = .ok (.iinc 5 1, 3) := by decide +kernel
theorem dX9_slideGap_61 : decode cX9_slideGap 61 = .ok (.aload_n 0, 1) := by decide +kernel
theorem dX9_slideGap_62 : decode cX9_slideGap 62 = .ok (.iconst 0, 1) := by decide +kernel
theorem dX9_slideGap_63 : decode cX9_slideGap 63 = .ok (.iload_n 2, 1) := by decide +kernel
theorem dX9_slideGap_64 : decode cX9_slideGap 64 = .ok (.iload 5, 2) := by decide +kernel
theorem dX9_slideGap_66 : decode cX9_slideGap 66 = .ok (.isub, 1) := by decide +kernel
theorem dX9_slideGap_67 : decode cX9_slideGap 67 = .ok (.invokevirtual 168, 3) := by decide +kernel
theorem dX9_slideGap_70 : decode cX9_slideGap 70 = .ok (.aload_n 0, 1) := by decide +kernel
theorem dX9_slideGap_71 : decode cX9_slideGap 71 = .ok (.iconst 1, 1) := by decide +kernel
theorem dX9_slideGap_72 : decode cX9_slideGap 72 = .ok (.iload_n 3, 1) := by decide +kernel
theorem dX9_slideGap_73 : decode cX9_slideGap 73 = .ok (.iload 5, 2) := by decide +kernel
theorem dX9_slideGap_75 : decode cX9_slideGap 75 = .ok (.isub, 1) := by decide +kernel
theorem dX9_slideGap_76 : decode cX9_slideGap 76 = .ok (.invokevirtual 168, 3) := by decide +kernel
theorem dX9_slideGap_79 : decode cX9_slideGap 79 = .ok (.iadd, 1) := by decide +kernel
theorem dX9_slideGap_80 : decode cX9_slideGap 80 = .ok (.iload 4, 2) := by decide +kernel
theorem dX9_slideGap_82 : decode cX9_slideGap 82 = .ok (.if_icmp .le 7, 3) := by decide +kernel
theorem dX9_slideGap_85 : decode cX9_slideGap 85 = .ok (.iconst 1, 1) := by decide +kernel
theorem dX9_slideGap_86 : decode cX9_slideGap 86 = .ok (.goto 4, 3) := by decide +kernel
theorem dX9_slideGap_89 : decode cX9_slideGap 89 = .ok (.iconst 0, 1) := by decide +kernel
theorem dX9_slideGap_90 : decode cX9_slideGap 90 = .ok (.istore 6, 2) := by decide +kernel
theorem dX9_slideGap_92 : decode cX9_slideGap 92 = .ok (.goto (-86), 3) := by decide +kernel
theorem dX9_slideGap_95 : decode cX9_slideGap 95 = .ok (.iload 5, 2) := by decide +kernel
theorem dX9_slideGap_97 : decode cX9_slideGap 97 = .ok (.ireturn, 1) := by decide +kernel
theorem dX9_slideAll_0 : decode cX9_slideAll 0 = .ok (.aload_n 0, 1) := by decide +kernel
theorem dX9_slideAll_1 : decode cX9_slideAll 1 = .ok (.iconst 0, 1) := by decide +kernel
theorem dX9_slideAll_2 : decode cX9_slideAll 2 = .ok (.putfield 157, 3) := by decide +kernel
theorem dX9_slideAll_5 : decode cX9_slideAll 5 = .ok (.aload_n 0, 1) := by decide +kernel
theorem dX9_slideAll_6 : decode cX9_slideAll 6 = .ok (.getfield 22, 3) := by decide +kernel
theorem dX9_slideAll_9 : decode cX9_slideAll 9 = .ok (.iconst 0, 1) := by decide +kernel
theorem dX9_slideAll_10 : decode cX9_slideAll 10 = .ok (.iaload, 1) := by decide +kernel
theorem dX9_slideAll_11 : decode cX9_slideAll 11 = .ok (.istore_n 1, 1) := by decide +kernel
theorem dX9_slideAll_12 : decode cX9_slideAll 12 = .ok (.aload_n 0, 1) := by decide +kernel
theorem dX9_slideAll_13 : decode cX9_slideAll 13 = .ok (.getfield 22, 3) := by decide +kernel
theorem dX9_slideAll_16 : decode cX9_slideAll 16 = .ok (.iconst 1, 1) := by decide +kernel
theorem dX9_slideAll_17 : decode cX9_slideAll 17 = .ok (.iaload, 1) := by decide +kernel
theorem dX9_slideAll_18 : decode cX9_slideAll 18 = .ok (.istore_n 2, 1) := by decide +kernel
theorem dX9_slideAll_19 : decode cX9_slideAll 19 = .ok (.iload_n 1, 1) := by decide +kernel
theorem dX9_slideAll_20 : decode cX9_slideAll 20 = .ok (.ifCond .gt 7, 3) := by decide +kernel
theorem dX9_slideAll_23 : decode cX9_slideAll 23 = .ok (.iload_n 2, 1) := by decide +kernel
theorem dX9_slideAll_24 : decode cX9_slideAll 24 = .ok (.ifCond .le 111, 3) := by decide +kernel
theorem dX9_slideAll_27 : decode cX9_slideAll 27 = .ok (.aload_n 0, 1) := by decide +kernel
theorem dX9_slideAll_28 : decode cX9_slideAll 28 = .ok (.iconst 0, 1) := by decide +kernel
theorem dX9_slideAll_29 : decode cX9_slideAll 29 = .ok (.iload_n 1, 1) := by decide +kernel
theorem dX9_slideAll_30 : decode cX9_slideAll 30 = .ok (.invokevirtual 168, 3) := by decide +kernel
theorem dX9_slideAll_33 : decode cX9_slideAll 33 = .ok (.istore_n 3, 1) := by decide +kernel
theorem dX9_slideAll_34 : decode cX9_slideAll 34 = .ok (.aload_n 0, 1) := by decide +kernel
theorem dX9_slideAll_35 : decode cX9_slideAll 35 = .ok (.iconst 1, 1) := by decide +kernel
theorem dX9_slideAll_36 : decode cX9_slideAll 36 = .ok (.iload_n 2, 1) := by decide +kernel
theorem dX9_slideAll_37 : decode cX9_slideAll 37 = .ok (.invokevirtual 168, 3) := by decide +kernel
theorem dX9_slideAll_40 : decode cX9_slideAll 40 = .ok (.istore 4, 2) := by decide +kernel
theorem dX9_slideAll_42 : decode cX9_slideAll 42 = .ok (.iload_n 3, 1) := by decide +kernel
theorem dX9_slideAll_43 : decode cX9_slideAll 43 = .ok (.iload 4, 2) := by decide +kernel
theorem dX9_slideAll_45 : decode cX9_slideAll 45 = .ok (.iadd, 1) := by decide +kernel
theorem dX9_slideAll_46 : decode cX9_slideAll 46 = .ok (.ifCond .ne 12, 3) := by decide +kernel
theorem dX9_slideAll_49 : decode cX9_slideAll 49 = .ok (.iinc 1 (-1), 3) := by decide +kernel
theorem dX9_slideAll_52 : decode cX9_slideAll 52 = .ok (.iinc 2 (-1), 3) := by decide +kernel
theorem dX9_slideAll_55 : decode cX9_slideAll 55 = .ok (.goto 77, 3) := by decide +kernel
theorem dX9_slideAll_58 : decode cX9_slideAll 58 = .ok (.iload_n 3, 1) := by decide +kernel
theorem dX9_slideAll_59 : decode cX9_slideAll 59 = .ok (.ifCond .eq 8, 3) := by decide +kernel
theorem dX9_slideAll_62 : decode cX9_slideAll 62 = .ok (.iload 4, 2) := by decide +kernel
theorem dX9_slideAll_64 : decode cX9_slideAll 64 = .ok (.ifCond .ne 7, 3) := by decide +kernel
theorem dX9_slideAll_67 : decode cX9_slideAll 67 = .ok (.iconst 1, 1) := by decide +kernel
theorem dX9_slideAll_68 : decode cX9_slideAll 68 = .ok (.goto 4, 3) := by decide +kernel
theorem dX9_slideAll_71 : decode cX9_slideAll 71 = .ok (.iconst 0, 1) := by decide +kernel
theorem dX9_slideAll_72 : decode cX9_slideAll 72 = .ok (.istore 5, 2) := by decide +kernel
theorem dX9_slideAll_74 : decode cX9_slideAll 74 = .ok (.iload 5, 2) := by decide +kernel
theorem dX9_slideAll_76 : decode cX9_slideAll 76 = .ok (.ifCond .eq 25, 3) := by decide +kernel
theorem dX9_slideAll_79 : decode cX9_slideAll 79 = .ok (.aload_n 0, 1) := by decide +kernel
theorem dX9_slideAll_80 : decode cX9_slideAll 80 = .ok (.iload_n 3, 1) := by decide +kernel
theorem dX9_slideAll_81 : decode cX9_slideAll 81 = .ok (.ifCond .le 7, 3) := by decide +kernel
theorem dX9_slideAll_84 : decode cX9_slideAll 84 = .ok (.iconst 0, 1) := by decide +kernel
theorem dX9_slideAll_85 : decode cX9_slideAll 85 = .ok (.goto 4, 3) := by decide +kernel
theorem dX9_slideAll_88 : decode cX9_slideAll 88 = .ok (.iconst 1, 1) := by decide +kernel
theorem dX9_slideAll_89 : decode cX9_slideAll 89 = .ok (.iload_n 1, 1) := by decide +kernel
theorem dX9_slideAll_90 : decode cX9_slideAll 90 = .ok (.iload_n 2, 1) := by decide +kernel
theorem dX9_slideAll_91 : decode cX9_slideAll 91 = .ok (.iload_n 3, 1) := by decide +kernel
theorem dX9_slideAll_92 : decode cX9_slideAll 92 = .ok (.iload 4, 2) := by decide +kernel
theorem dX9_slideAll_94 : decode cX9_slideAll 94 = .ok (.iadd, 1) := by decide +kernel
theorem dX9_slideAll_95 : decode cX9_slideAll 95 = .ok (.invokevirtual 172, 3) := by decide +kernel
theorem dX9_slideAll_98 : decode cX9_slideAll 98 = .ok (.goto 4, 3) := by decide +kernel
theorem dX9_slideAll_101 : decode cX9_slideAll 101 = .ok (.iconst 0, 1) := by decide +kernel
theorem dX9_slideAll_102 : decode cX9_slideAll 102 = .ok (.istore 6, 2) := by decide +kernel
theorem dX9_slideAll_104 : decode cX9_slideAll 104 = .ok (.iload_n 1, 1) := by decide +kernel
theorem dX9_slideAll_105 : decode cX9_slideAll 105 = .ok (.iload 6, 2) := by decide +kernel
theorem dX9_slideAll_107 : decode cX9_slideAll 107 = .ok (.isub, 1) := by decide +kernel
theorem dX9_slideAll_108 : decode cX9_slideAll 108 = .ok (.istore_n 1, 1) := by decide +kernel
theorem dX9_slideAll_109 : decode cX9_slideAll 109 = .ok (.iload_n 2, 1) := by decide +kernel
theorem dX9_slideAll_110 : decode cX9_slideAll 110 = .ok (.iload 6, 2) := by decide +kernel
theorem dX9_slideAll_112 : decode cX9_slideAll 112 = .ok (.isub, 1) := by decide +kernel
theorem dX9_slideAll_113 : decode cX9_slideAll 113 = .ok (.istore_n 2, 1) := by decide +kernel
theorem dX9_slideAll_114 : decode cX9_slideAll 114 = .ok (.iload_n 1, 1) := by decide +kernel
theorem dX9_slideAll_115 : decode cX9_slideAll 115 = .ok (.aload_n 0, 1) := by decide +kernel
theorem dX9_slideAll_116 : decode cX9_slideAll 116 = .ok (.iconst 0, 1) := by decide +kernel
theorem dX9_slideAll_117 : decode cX9_slideAll 117 = .ok (.iload_n 1, 1) := by decide +kernel
theorem dX9_slideAll_118 : decode cX9_slideAll 118 = .ok (.invokevirtual 168, 3) := by decide +kernel
theorem dX9_slideAll_121 : decode cX9_slideAll 121 = .ok (.isub, 1) := by decide +kernel
theorem dX9_slideAll_122 : decode cX9_slideAll 122 = .ok (.istore_n 1, 1) := by decide +kernel
theorem dX9_slideAll_123 : decode cX9_slideAll 123 = .ok (.iload_n 2, 1) := by decide +kernel
theorem dX9_slideAll_124 : decode cX9_slideAll 124 = .ok (.aload_n 0, 1) := by decide +kernel
theorem dX9_slideAll_125 : decode cX9_slideAll 125 = .ok (.iconst 1, 1) := by decide +kernel
theorem dX9_slideAll_126 : decode cX9_slideAll 126 = .ok (.iload_n 2, 1) := by decide +kernel
theorem dX9_slideAll_127 : decode cX9_slideAll 127 = .ok (.invokevirtual 168, 3) := by decide +kernel
theorem dX9_slideAll_130 : decode cX9_slideAll 130 = .ok (.isub, 1) := by decide +kernel
theorem dX9_slideAll_131 : decode cX9_slideAll 131 = .ok (.istore_n 2, 1) := by decide +kernel
theorem dX9_slideAll_132 : decode cX9_slideAll 132 = .ok (.goto (-113), 3) := by decide +kernel
theorem dX9_slideAll_135 : decode cX9_slideAll 135 = .ok (.return_, 1) := by decide +kernel
theorem dX9_bitsOf_0 : decode cX9_bitsOf 0 = .ok (.lload_n 0, 1) := by decide +kernel
theorem dX9_bitsOf_1 : decode cX9_bitsOf 1 = .ok (.lconst 0, 1) := by decide +kernel
theorem dX9_bitsOf_2 : decode cX9_bitsOf 2 = .ok (.lcmp, 1) := by decide +kernel
theorem dX9_bitsOf_3 : decode cX9_bitsOf 3 = .ok (.ifCond .ne 5, 3) := by decide +kernel
theorem dX9_bitsOf_6 : decode cX9_bitsOf 6 = .ok (.lconst 0, 1) := by decide +kernel
theorem dX9_bitsOf_7 : decode cX9_bitsOf 7 = .ok (.lreturn, 1) := by decide +kernel
theorem dX9_bitsOf_8 : decode cX9_bitsOf 8 = .ok (.iconst 0, 1) := by decide +kernel
theorem dX9_bitsOf_9 : decode cX9_bitsOf 9 = .ok (.istore 6, 2) := by decide +kernel
theorem dX9_bitsOf_11 : decode cX9_bitsOf 11 = .ok (.lload_n 0, 1) := by decide +kernel
theorem dX9_bitsOf_12 : decode cX9_bitsOf 12 = .ok (.lstore 7, 2) := by decide +kernel
theorem dX9_bitsOf_14 : decode cX9_bitsOf 14 = .ok (.lload 7, 2) := by decide +kernel
theorem dX9_bitsOf_16 : decode cX9_bitsOf 16 = .ok (.lload_n 2, 1) := by decide +kernel
theorem dX9_bitsOf_17 : decode cX9_bitsOf 17 = .ok (.lcmp, 1) := by decide +kernel
theorem dX9_bitsOf_18 : decode cX9_bitsOf 18 = .ok (.ifCond .ge 17, 3) := by decide +kernel
theorem dX9_bitsOf_21 : decode cX9_bitsOf 21 = .ok (.lload 7, 2) := by decide +kernel
theorem dX9_bitsOf_23 : decode cX9_bitsOf 23 = .ok (.ldc2_w 175, 3) := by decide +kernel
theorem dX9_bitsOf_26 : decode cX9_bitsOf 26 = .ok (.lmul, 1) := by decide +kernel
theorem dX9_bitsOf_27 : decode cX9_bitsOf 27 = .ok (.lstore 7, 2) := by decide +kernel
theorem dX9_bitsOf_29 : decode cX9_bitsOf 29 = .ok (.iinc 6 1, 3) := by decide +kernel
theorem dX9_bitsOf_32 : decode cX9_bitsOf 32 = .ok (.goto (-18), 3) := by decide +kernel
theorem dX9_bitsOf_35 : decode cX9_bitsOf 35 = .ok (.iconst 0, 1) := by decide +kernel
theorem dX9_bitsOf_36 : decode cX9_bitsOf 36 = .ok (.istore 9, 2) := by decide +kernel
theorem dX9_bitsOf_38 : decode cX9_bitsOf 38 = .ok (.iload 9, 2) := by decide +kernel
theorem dX9_bitsOf_40 : decode cX9_bitsOf 40 = .ok (.iload 4, 2) := by decide +kernel
theorem dX9_bitsOf_42 : decode cX9_bitsOf 42 = .ok (.if_icmp .ge 17, 3) := by decide +kernel
theorem dX9_bitsOf_45 : decode cX9_bitsOf 45 = .ok (.lload 7, 2) := by decide +kernel
theorem dX9_bitsOf_47 : decode cX9_bitsOf 47 = .ok (.ldc2_w 175, 3) := by decide +kernel
theorem dX9_bitsOf_50 : decode cX9_bitsOf 50 = .ok (.lmul, 1) := by decide +kernel
theorem dX9_bitsOf_51 : decode cX9_bitsOf 51 = .ok (.lstore 7, 2) := by decide +kernel
theorem dX9_bitsOf_53 : decode cX9_bitsOf 53 = .ok (.iinc 9 1, 3) := by decide +kernel
theorem dX9_bitsOf_56 : decode cX9_bitsOf 56 = .ok (.goto (-18), 3) := by decide +kernel
theorem dX9_bitsOf_59 : decode cX9_bitsOf 59 = .ok (.lload 7, 2) := by decide +kernel
theorem dX9_bitsOf_61 : decode cX9_bitsOf 61 = .ok (.lload_n 2, 1) := by decide +kernel
theorem dX9_bitsOf_62 : decode cX9_bitsOf 62 = .ok (.ldiv, 1) := by decide +kernel
theorem dX9_bitsOf_63 : decode cX9_bitsOf 63 = .ok (.lstore 9, 2) := by decide +kernel
theorem dX9_bitsOf_65 : decode cX9_bitsOf 65 = .ok (.lload 7, 2) := by decide +kernel
theorem dX9_bitsOf_67 : decode cX9_bitsOf 67 = .ok (.lload_n 2, 1) := by decide +kernel
theorem dX9_bitsOf_68 : decode cX9_bitsOf 68 = .ok (.lrem, 1) := by decide +kernel
theorem dX9_bitsOf_69 : decode cX9_bitsOf 69 = .ok (.lstore 11, 2) := by decide +kernel
theorem dX9_bitsOf_71 : decode cX9_bitsOf 71 = .ok (.lload 9, 2) := by decide +kernel
theorem dX9_bitsOf_73 : decode cX9_bitsOf 73 = .ok (.ldc2_w 175, 3) := by decide +kernel
theorem dX9_bitsOf_76 : decode cX9_bitsOf 76 = .ok (.lload 11, 2) := by decide +kernel
theorem dX9_bitsOf_78 : decode cX9_bitsOf 78 = .ok (.lmul, 1) := by decide +kernel
theorem dX9_bitsOf_79 : decode cX9_bitsOf 79 = .ok (.lload_n 2, 1) := by decide +kernel
theorem dX9_bitsOf_80 : decode cX9_bitsOf 80 = .ok (.lcmp, 1) := by decide +kernel
theorem dX9_bitsOf_81 : decode cX9_bitsOf 81 = .ok (.ifCond .gt 25, 3) := by decide +kernel
theorem dX9_bitsOf_84 : decode cX9_bitsOf 84 = .ok (.ldc2_w 175, 3) := by decide +kernel
theorem dX9_bitsOf_87 : decode cX9_bitsOf 87 = .ok (.lload 11, 2) := by decide +kernel
theorem dX9_bitsOf_89 : decode cX9_bitsOf 89 = .ok (.lmul, 1) := by decide +kernel
theorem dX9_bitsOf_90 : decode cX9_bitsOf 90 = .ok (.lload_n 2, 1) := by decide +kernel
theorem dX9_bitsOf_91 : decode cX9_bitsOf 91 = .ok (.lcmp, 1) := by decide +kernel
theorem dX9_bitsOf_92 : decode cX9_bitsOf 92 = .ok (.ifCond .ne 18, 3) := by decide +kernel
theorem dX9_bitsOf_95 : decode cX9_bitsOf 95 = .ok (.lload 9, 2) := by decide +kernel
theorem dX9_bitsOf_97 : decode cX9_bitsOf 97 = .ok (.ldc2_w 175, 3) := by decide +kernel
theorem dX9_bitsOf_100 : decode cX9_bitsOf 100 = .ok (.lrem, 1) := by decide +kernel
theorem dX9_bitsOf_101 : decode cX9_bitsOf 101 = .ok (.lconst 1, 1) := by decide +kernel
theorem dX9_bitsOf_102 : decode cX9_bitsOf 102 = .ok (.lcmp, 1) := by decide +kernel
theorem dX9_bitsOf_103 : decode cX9_bitsOf 103 = .ok (.ifCond .ne 7, 3) := by decide +kernel
theorem dX9_bitsOf_106 : decode cX9_bitsOf 106 = .ok (.lconst 1, 1) := by decide +kernel
theorem dX9_bitsOf_107 : decode cX9_bitsOf 107 = .ok (.goto 4, 3) := by decide +kernel
theorem dX9_bitsOf_110 : decode cX9_bitsOf 110 = .ok (.lconst 0, 1) := by decide +kernel
theorem dX9_bitsOf_111 : decode cX9_bitsOf 111 = .ok (.ladd, 1) := by decide +kernel
theorem dX9_bitsOf_112 : decode cX9_bitsOf 112 = .ok (.lstore 9, 2) := by decide +kernel
theorem dX9_bitsOf_114 : decode cX9_bitsOf 114 = .ok (.iload 5, 2) := by decide +kernel
theorem dX9_bitsOf_116 : decode cX9_bitsOf 116 = .ok (.iload 6, 2) := by decide +kernel
theorem dX9_bitsOf_118 : decode cX9_bitsOf 118 = .ok (.isub, 1) := by decide +kernel
theorem dX9_bitsOf_119 : decode cX9_bitsOf 119 = .ok (.i2l, 1) := by decide +kernel
theorem dX9_bitsOf_120 : decode cX9_bitsOf 120 = .ok (.iload 4, 2) := by decide +kernel
theorem dX9_bitsOf_122 : decode cX9_bitsOf 122 = .ok (.lshl, 1) := by decide +kernel
theorem dX9_bitsOf_123 : decode cX9_bitsOf 123 = .ok (.lload 9, 2) := by decide +kernel
theorem dX9_bitsOf_125 : decode cX9_bitsOf 125 = .ok (.ladd, 1) := by decide +kernel
theorem dX9_bitsOf_126 : decode cX9_bitsOf 126 = .ok (.lconst 1, 1) := by decide +kernel
theorem dX9_bitsOf_127 : decode cX9_bitsOf 127 = .ok (.iload 4, 2) := by decide +kernel
theorem dX9_bitsOf_129 : decode cX9_bitsOf 129 = .ok (.lshl, 1) := by decide +kernel
theorem dX9_bitsOf_130 : decode cX9_bitsOf 130 = .ok (.lsub, 1) := by decide +kernel
theorem dX9_bitsOf_131 : decode cX9_bitsOf 131 = .ok (.lreturn, 1) := by decide +kernel
theorem dX9_lettersOf_0 : decode cX9_lettersOf 0 = .ok (.iload_n 0, 1) := by decide +kernel
theorem dX9_lettersOf_1 : decode cX9_lettersOf 1 = .ok (.sipush 128, 3) := by decide +kernel
theorem dX9_lettersOf_4 : decode cX9_lettersOf 4 = .ok (.if_icmp .ge 7, 3) := by decide +kernel
theorem dX9_lettersOf_7 : decode cX9_lettersOf 7 = .ok (.iconst 1, 1) := by decide +kernel
theorem dX9_lettersOf_8 : decode cX9_lettersOf 8 = .ok (.goto 15, 3) := by decide +kernel
theorem dX9_lettersOf_11 : decode cX9_lettersOf 11 = .ok (.iload_n 0, 1) := by decide +kernel
theorem dX9_lettersOf_12 : decode cX9_lettersOf 12 = .ok (.sipush 16384, 3) := by decide +kernel
theorem dX9_lettersOf_15 : decode cX9_lettersOf 15 = .ok (.if_icmp .ge 7, 3) := by decide +kernel
theorem dX9_lettersOf_18 : decode cX9_lettersOf 18 = .ok (.iconst 2, 1) := by decide +kernel
theorem dX9_lettersOf_19 : decode cX9_lettersOf 19 = .ok (.goto 4, 3) := by decide +kernel
theorem dX9_lettersOf_22 : decode cX9_lettersOf 22 = .ok (.iconst 3, 1) := by decide +kernel
theorem dX9_lettersOf_23 : decode cX9_lettersOf 23 = .ok (.ireturn, 1) := by decide +kernel
theorem dX9_letterOf_0 : decode cX9_letterOf 0 = .ok (.iload_n 0, 1) := by decide +kernel
theorem dX9_letterOf_1 : decode cX9_letterOf 1 = .ok (.istore_n 2, 1) := by decide +kernel
theorem dX9_letterOf_2 : decode cX9_letterOf 2 = .ok (.iload_n 0, 1) := by decide +kernel
theorem dX9_letterOf_3 : decode cX9_letterOf 3 = .ok (.invokestatic 177, 3) := by decide +kernel
theorem dX9_letterOf_6 : decode cX9_letterOf 6 = .ok (.iconst 1, 1) := by decide +kernel
theorem dX9_letterOf_7 : decode cX9_letterOf 7 = .ok (.isub, 1) := by decide +kernel
theorem dX9_letterOf_8 : decode cX9_letterOf 8 = .ok (.istore_n 3, 1) := by decide +kernel
theorem dX9_letterOf_9 : decode cX9_letterOf 9 = .ok (.iload_n 3, 1) := by decide +kernel
theorem dX9_letterOf_10 : decode cX9_letterOf 10 = .ok (.iload_n 1, 1) := by decide +kernel
theorem dX9_letterOf_11 : decode cX9_letterOf 11 = .ok (.if_icmp .le 15, 3) := by decide +kernel
theorem dX9_letterOf_14 : decode cX9_letterOf 14 = .ok (.iload_n 2, 1) := by decide +kernel
theorem dX9_letterOf_15 : decode cX9_letterOf 15 = .ok (.sipush 128, 3) := by decide +kernel
theorem dX9_letterOf_18 : decode cX9_letterOf 18 = .ok (.idiv, 1) := by decide +kernel
theorem dX9_letterOf_19 : decode cX9_letterOf 19 = .ok (.istore_n 2, 1) := by decide +kernel
theorem dX9_letterOf_20 : decode cX9_letterOf 20 = .ok (.iinc 3 (-1), 3) := by decide +kernel
theorem dX9_letterOf_23 : decode cX9_letterOf 23 = .ok (.goto (-14), 3) := by decide +kernel
theorem dX9_letterOf_26 : decode cX9_letterOf 26 = .ok (.iload_n 2, 1) := by decide +kernel
theorem dX9_letterOf_27 : decode cX9_letterOf 27 = .ok (.sipush 128, 3) := by decide +kernel
theorem dX9_letterOf_30 : decode cX9_letterOf 30 = .ok (.irem, 1) := by decide +kernel
theorem dX9_letterOf_31 : decode cX9_letterOf 31 = .ok (.ireturn, 1) := by decide +kernel
theorem dX9_alike_0 : decode cX9_alike 0 = .ok (.iload_n 1, 1) := by decide +kernel
theorem dX9_alike_1 : decode cX9_alike 1 = .ok (.invokestatic 177, 3) := by decide +kernel
theorem dX9_alike_4 : decode cX9_alike 4 = .ok (.istore_n 3, 1) := by decide +kernel
theorem dX9_alike_5 : decode cX9_alike 5 = .ok (.iload_n 2, 1) := by decide +kernel
theorem dX9_alike_6 : decode cX9_alike 6 = .ok (.invokestatic 177, 3) := by decide +kernel
theorem dX9_alike_9 : decode cX9_alike 9 = .ok (.istore 4, 2) := by decide +kernel
theorem dX9_alike_11 : decode cX9_alike 11 = .ok (.iconst 3, 1) := by decide +kernel
theorem dX9_alike_12 : decode cX9_alike 12 = .ok (.istore 5, 2) := by decide +kernel
theorem dX9_alike_14 : decode cX9_alike 14 = .ok (.iload 5, 2) := by decide +kernel
theorem dX9_alike_16 : decode cX9_alike 16 = .ok (.ifCond .lt 137, 3) := by decide +kernel
theorem dX9_alike_19 : decode cX9_alike 19 = .ok (.iconst 3, 1) := by decide +kernel
theorem dX9_alike_20 : decode cX9_alike 20 = .ok (.istore 6, 2) := by decide +kernel
theorem dX9_alike_22 : decode cX9_alike 22 = .ok (.iload 6, 2) := by decide +kernel
theorem dX9_alike_24 : decode cX9_alike 24 = .ok (.ifCond .lt 123, 3) := by decide +kernel
theorem dX9_alike_27 : decode cX9_alike 27 = .ok (.iconst 0, 1) := by decide +kernel
theorem dX9_alike_28 : decode cX9_alike 28 = .ok (.istore 7, 2) := by decide +kernel
theorem dX9_alike_30 : decode cX9_alike 30 = .ok (.iload 5, 2) := by decide +kernel
theorem dX9_alike_32 : decode cX9_alike 32 = .ok (.iload_n 3, 1) := by decide +kernel
theorem dX9_alike_33 : decode cX9_alike 33 = .ok (.if_icmp .ge 94, 3) := by decide +kernel
theorem dX9_alike_36 : decode cX9_alike 36 = .ok (.iload 6, 2) := by decide +kernel
theorem dX9_alike_38 : decode cX9_alike 38 = .ok (.iload 4, 2) := by decide +kernel
theorem dX9_alike_40 : decode cX9_alike 40 = .ok (.if_icmp .ge 87, 3) := by decide +kernel
theorem dX9_alike_43 : decode cX9_alike 43 = .ok (.aload_n 0, 1) := by decide +kernel
theorem dX9_alike_44 : decode cX9_alike 44 = .ok (.getfield 43, 3) := by decide +kernel
theorem dX9_alike_47 : decode cX9_alike 47 = .ok (.iconst 4, 1) := by decide +kernel
theorem dX9_alike_48 : decode cX9_alike 48 = .ok (.iload 5, 2) := by decide +kernel
theorem dX9_alike_50 : decode cX9_alike 50 = .ok (.iconst 1, 1) := by decide +kernel
theorem dX9_alike_51 : decode cX9_alike 51 = .ok (.iadd, 1) := by decide +kernel
theorem dX9_alike_52 : decode cX9_alike 52 = .ok (.imul, 1) := by decide +kernel
theorem dX9_alike_53 : decode cX9_alike 53 = .ok (.iload 6, 2) := by decide +kernel
theorem dX9_alike_55 : decode cX9_alike 55 = .ok (.iadd, 1) := by decide +kernel
theorem dX9_alike_56 : decode cX9_alike 56 = .ok (.iaload, 1) := by decide +kernel
theorem dX9_alike_57 : decode cX9_alike 57 = .ok (.istore 8, 2) := by decide +kernel
theorem dX9_alike_59 : decode cX9_alike 59 = .ok (.aload_n 0, 1) := by decide +kernel
theorem dX9_alike_60 : decode cX9_alike 60 = .ok (.getfield 43, 3) := by decide +kernel
theorem dX9_alike_63 : decode cX9_alike 63 = .ok (.iconst 4, 1) := by decide +kernel
theorem dX9_alike_64 : decode cX9_alike 64 = .ok (.iload 5, 2) := by decide +kernel
theorem dX9_alike_66 : decode cX9_alike 66 = .ok (.imul, 1) := by decide +kernel
theorem dX9_alike_67 : decode cX9_alike 67 = .ok (.iload 6, 2) := by decide +kernel
theorem dX9_alike_69 : decode cX9_alike 69 = .ok (.iadd, 1) := by decide +kernel
theorem dX9_alike_70 : decode cX9_alike 70 = .ok (.iconst 1, 1) := by decide +kernel
theorem dX9_alike_71 : decode cX9_alike 71 = .ok (.iadd, 1) := by decide +kernel
theorem dX9_alike_72 : decode cX9_alike 72 = .ok (.iaload, 1) := by decide +kernel
theorem dX9_alike_73 : decode cX9_alike 73 = .ok (.istore 9, 2) := by decide +kernel
theorem dX9_alike_75 : decode cX9_alike 75 = .ok (.iload_n 1, 1) := by decide +kernel
theorem dX9_alike_76 : decode cX9_alike 76 = .ok (.iload 5, 2) := by decide +kernel
theorem dX9_alike_78 : decode cX9_alike 78 = .ok (.invokestatic 181, 3) := by decide +kernel
theorem dX9_alike_81 : decode cX9_alike 81 = .ok (.iload_n 2, 1) := by decide +kernel
theorem dX9_alike_82 : decode cX9_alike 82 = .ok (.iload 6, 2) := by decide +kernel
theorem dX9_alike_84 : decode cX9_alike 84 = .ok (.invokestatic 181, 3) := by decide +kernel
theorem dX9_alike_87 : decode cX9_alike 87 = .ok (.if_icmp .ne 24, 3) := by decide +kernel
theorem dX9_alike_90 : decode cX9_alike 90 = .ok (.iconst 1, 1) := by decide +kernel
theorem dX9_alike_91 : decode cX9_alike 91 = .ok (.aload_n 0, 1) := by decide +kernel
theorem dX9_alike_92 : decode cX9_alike 92 = .ok (.getfield 43, 3) := by decide +kernel
theorem dX9_alike_95 : decode cX9_alike 95 = .ok (.iconst 4, 1) := by decide +kernel
theorem dX9_alike_96 : decode cX9_alike 96 = .ok (.iload 5, 2) := by decide +kernel
theorem dX9_alike_98 : decode cX9_alike 98 = .ok (.iconst 1, 1) := by decide +kernel
theorem dX9_alike_99 : decode cX9_alike 99 = .ok (.iadd, 1) := by decide +kernel
theorem dX9_alike_100 : decode cX9_alike 100 = .ok (.imul, 1) := by decide +kernel
theorem dX9_alike_101 : decode cX9_alike 101 = .ok (.iload 6, 2) := by decide +kernel
theorem dX9_alike_103 : decode cX9_alike 103 = .ok (.iadd, 1) := by decide +kernel
theorem dX9_alike_104 : decode cX9_alike 104 = .ok (.iconst 1, 1) := by decide +kernel
theorem dX9_alike_105 : decode cX9_alike 105 = .ok (.iadd, 1) := by decide +kernel
theorem dX9_alike_106 : decode cX9_alike 106 = .ok (.iaload, 1) := by decide +kernel
theorem dX9_alike_107 : decode cX9_alike 107 = .ok (.iadd, 1) := by decide +kernel
theorem dX9_alike_108 : decode cX9_alike 108 = .ok (.goto 17, 3) := by decide +kernel
theorem dX9_alike_111 : decode cX9_alike 111 = .ok (.iload 8, 2) := by decide +kernel
theorem dX9_alike_113 : decode cX9_alike 113 = .ok (.iload 9, 2) := by decide +kernel
theorem dX9_alike_115 : decode cX9_alike 115 = .ok (.if_icmp .le 8, 3) := by decide +kernel
theorem dX9_alike_118 : decode cX9_alike 118 = .ok (.iload 8, 2) := by decide +kernel
theorem dX9_alike_120 : decode cX9_alike 120 = .ok (.goto 5, 3) := by decide +kernel
theorem dX9_alike_123 : decode cX9_alike 123 = .ok (.iload 9, 2) := by decide +kernel
theorem dX9_alike_125 : decode cX9_alike 125 = .ok (.istore 7, 2) := by decide +kernel
theorem dX9_alike_127 : decode cX9_alike 127 = .ok (.aload_n 0, 1) := by decide +kernel
theorem dX9_alike_128 : decode cX9_alike 128 = .ok (.getfield 43, 3) := by decide +kernel
theorem dX9_alike_131 : decode cX9_alike 131 = .ok (.iconst 4, 1) := by decide +kernel
theorem dX9_alike_132 : decode cX9_alike 132 = .ok (.iload 5, 2) := by decide +kernel
theorem dX9_alike_134 : decode cX9_alike 134 = .ok (.imul, 1) := by decide +kernel
theorem dX9_alike_135 : decode cX9_alike 135 = .ok (.iload 6, 2) := by decide +kernel
theorem dX9_alike_137 : decode cX9_alike 137 = .ok (.iadd, 1) := by decide +kernel
theorem dX9_alike_138 : decode cX9_alike 138 = .ok (.iload 7, 2) := by decide +kernel
theorem dX9_alike_140 : decode cX9_alike 140 = .ok (.iastore, 1) := by decide +kernel
theorem dX9_alike_141 : decode cX9_alike 141 = .ok (.iinc 6 (-1), 3) := by decide +kernel
theorem dX9_alike_144 : decode cX9_alike 144 = .ok (.goto (-122), 3) := by decide +kernel
theorem dX9_alike_147 : decode cX9_alike 147 = .ok (.iinc 5 (-1), 3) := by decide +kernel
theorem dX9_alike_150 : decode cX9_alike 150 = .ok (.goto (-136), 3) := by decide +kernel
theorem dX9_alike_153 : decode cX9_alike 153 = .ok (.aload_n 0, 1) := by decide +kernel
theorem dX9_alike_154 : decode cX9_alike 154 = .ok (.getfield 43, 3) := by decide +kernel
theorem dX9_alike_157 : decode cX9_alike 157 = .ok (.iconst 0, 1) := by decide +kernel
theorem dX9_alike_158 : decode cX9_alike 158 = .ok (.iaload, 1) := by decide +kernel
theorem dX9_alike_159 : decode cX9_alike 159 = .ok (.ireturn, 1) := by decide +kernel
theorem dX9_likeBits_0 : decode cX9_likeBits 0 = .ok (.ldc2_w 175, 3) := by decide +kernel
theorem dX9_likeBits_3 : decode cX9_likeBits 3 = .ok (.aload_n 0, 1) := by decide +kernel
theorem dX9_likeBits_4 : decode cX9_likeBits 4 = .ok (.iload_n 1, 1) := by decide +kernel
theorem dX9_likeBits_5 : decode cX9_likeBits 5 = .ok (.iload_n 2, 1) := by decide +kernel
theorem dX9_likeBits_6 : decode cX9_likeBits 6 = .ok (.invokevirtual 184, 3) := by decide +kernel
theorem dX9_likeBits_9 : decode cX9_likeBits 9 = .ok (.i2l, 1) := by decide +kernel
theorem dX9_likeBits_10 : decode cX9_likeBits 10 = .ok (.lmul, 1) := by decide +kernel
theorem dX9_likeBits_11 : decode cX9_likeBits 11 = .ok (.iload_n 1, 1) := by decide +kernel
theorem dX9_likeBits_12 : decode cX9_likeBits 12 = .ok (.invokestatic 177, 3) := by decide +kernel
theorem dX9_likeBits_15 : decode cX9_likeBits 15 = .ok (.iload_n 2, 1) := by decide +kernel
theorem dX9_likeBits_16 : decode cX9_likeBits 16 = .ok (.invokestatic 177, 3) := by decide +kernel
theorem dX9_likeBits_19 : decode cX9_likeBits 19 = .ok (.iadd, 1) := by decide +kernel
theorem dX9_likeBits_20 : decode cX9_likeBits 20 = .ok (.i2l, 1) := by decide +kernel
theorem dX9_likeBits_21 : decode cX9_likeBits 21 = .ok (.bipush 23, 2) := by decide +kernel
theorem dX9_likeBits_23 : decode cX9_likeBits 23 = .ok (.bipush 127, 2) := by decide +kernel
theorem dX9_likeBits_25 : decode cX9_likeBits 25 = .ok (.invokestatic 187, 3) := by decide +kernel
theorem dX9_likeBits_28 : decode cX9_likeBits 28 = .ok (.l2i, 1) := by decide +kernel
theorem dX9_likeBits_29 : decode cX9_likeBits 29 = .ok (.ireturn, 1) := by decide +kernel
theorem dX9_like_0 : decode cX9_like 0 = .ok (.aload_n 0, 1) := by decide +kernel
theorem dX9_like_1 : decode cX9_like 1 = .ok (.iconst 0, 1) := by decide +kernel
theorem dX9_like_2 : decode cX9_like 2 = .ok (.iload_n 1, 1) := by decide +kernel
theorem dX9_like_3 : decode cX9_like 3 = .ok (.invokevirtual 191, 3) := by decide +kernel
theorem dX9_like_6 : decode cX9_like 6 = .ok (.ifCond .eq 34, 3) := by decide +kernel
theorem dX9_like_9 : decode cX9_like 9 = .ok (.aload_n 0, 1) := by decide +kernel
theorem dX9_like_10 : decode cX9_like 10 = .ok (.iconst 1, 1) := by decide +kernel
theorem dX9_like_11 : decode cX9_like 11 = .ok (.iload_n 2, 1) := by decide +kernel
theorem dX9_like_12 : decode cX9_like 12 = .ok (.invokevirtual 191, 3) := by decide +kernel
theorem dX9_like_15 : decode cX9_like 15 = .ok (.ifCond .eq 25, 3) := by decide +kernel
theorem dX9_like_18 : decode cX9_like 18 = .ok (.aload_n 0, 1) := by decide +kernel
theorem dX9_like_19 : decode cX9_like 19 = .ok (.aload_n 0, 1) := by decide +kernel
theorem dX9_like_20 : decode cX9_like 20 = .ok (.getfield 19, 3) := by decide +kernel
theorem dX9_like_23 : decode cX9_like 23 = .ok (.iload_n 1, 1) := by decide +kernel
theorem dX9_like_24 : decode cX9_like 24 = .ok (.iaload, 1) := by decide +kernel
theorem dX9_like_25 : decode cX9_like 25 = .ok (.aload_n 0, 1) := by decide +kernel
theorem dX9_like_26 : decode cX9_like 26 = .ok (.getfield 19, 3) := by decide +kernel
theorem dX9_like_29 : decode cX9_like 29 = .ok (.bipush 16, 2) := by decide +kernel
theorem dX9_like_31 : decode cX9_like 31 = .ok (.iload_n 2, 1) := by decide +kernel
theorem dX9_like_32 : decode cX9_like 32 = .ok (.iadd, 1) := by decide +kernel
theorem dX9_like_33 : decode cX9_like 33 = .ok (.iaload, 1) := by decide +kernel
theorem dX9_like_34 : decode cX9_like 34 = .ok (.invokevirtual 194, 3) := by decide +kernel
theorem dX9_like_37 : decode cX9_like 37 = .ok (.goto 5, 3) := by decide +kernel
theorem dX9_like_40 : decode cX9_like 40 = .ok (.bipush (-101), 2) := by decide +kernel
theorem dX9_like_42 : decode cX9_like 42 = .ok (.ireturn, 1) := by decide +kernel
theorem dX9_addStep_0 : decode cX9_addStep 0 = .ok (.aload_n 0, 1) := by decide +kernel
theorem dX9_addStep_1 : decode cX9_addStep 1 = .ok (.getfield 46, 3) := by decide +kernel
theorem dX9_addStep_4 : decode cX9_addStep 4 = .ok (.iconst 5, 1) := by decide +kernel
theorem dX9_addStep_5 : decode cX9_addStep 5 = .ok (.aload_n 0, 1) := by decide +kernel
theorem dX9_addStep_6 : decode cX9_addStep 6 = .ok (.getfield 197, 3) := by decide +kernel
theorem dX9_addStep_9 : decode cX9_addStep 9 = .ok (.imul, 1) := by decide +kernel
theorem dX9_addStep_10 : decode cX9_addStep 10 = .ok (.iload_n 1, 1) := by decide +kernel
theorem dX9_addStep_11 : decode cX9_addStep 11 = .ok (.iastore, 1) := by decide +kernel
theorem dX9_addStep_12 : decode cX9_addStep 12 = .ok (.aload_n 0, 1) := by decide +kernel
theorem dX9_addStep_13 : decode cX9_addStep 13 = .ok (.getfield 46, 3) := by decide +kernel
theorem dX9_addStep_16 : decode cX9_addStep 16 = .ok (.iconst 5, 1) := by decide +kernel
theorem dX9_addStep_17 : decode cX9_addStep 17 = .ok (.aload_n 0, 1) := by decide +kernel
theorem dX9_addStep_18 : decode cX9_addStep 18 = .ok (.getfield 197, 3) := by decide +kernel
theorem dX9_addStep_21 : decode cX9_addStep 21 = .ok (.imul, 1) := by decide +kernel
theorem dX9_addStep_22 : decode cX9_addStep 22 = .ok (.iconst 1, 1) := by decide +kernel
theorem dX9_addStep_23 : decode cX9_addStep 23 = .ok (.iadd, 1) := by decide +kernel
theorem dX9_addStep_24 : decode cX9_addStep 24 = .ok (.iload_n 2, 1) := by decide +kernel
theorem dX9_addStep_25 : decode cX9_addStep 25 = .ok (.iastore, 1) := by decide +kernel
theorem dX9_addStep_26 : decode cX9_addStep 26 = .ok (.aload_n 0, 1) := by decide +kernel
theorem dX9_addStep_27 : decode cX9_addStep 27 = .ok (.getfield 46, 3) := by decide +kernel
theorem dX9_addStep_30 : decode cX9_addStep 30 = .ok (.iconst 5, 1) := by decide +kernel
theorem dX9_addStep_31 : decode cX9_addStep 31 = .ok (.aload_n 0, 1) := by decide +kernel
theorem dX9_addStep_32 : decode cX9_addStep 32 = .ok (.getfield 197, 3) := by decide +kernel
theorem dX9_addStep_35 : decode cX9_addStep 35 = .ok (.imul, 1) := by decide +kernel
theorem dX9_addStep_36 : decode cX9_addStep 36 = .ok (.iconst 2, 1) := by decide +kernel
theorem dX9_addStep_37 : decode cX9_addStep 37 = .ok (.iadd, 1) := by decide +kernel
theorem dX9_addStep_38 : decode cX9_addStep 38 = .ok (.iload_n 3, 1) := by decide +kernel
theorem dX9_addStep_39 : decode cX9_addStep 39 = .ok (.iastore, 1) := by decide +kernel
theorem dX9_addStep_40 : decode cX9_addStep 40 = .ok (.aload_n 0, 1) := by decide +kernel
theorem dX9_addStep_41 : decode cX9_addStep 41 = .ok (.getfield 46, 3) := by decide +kernel
theorem dX9_addStep_44 : decode cX9_addStep 44 = .ok (.iconst 5, 1) := by decide +kernel
theorem dX9_addStep_45 : decode cX9_addStep 45 = .ok (.aload_n 0, 1) := by decide +kernel
theorem dX9_addStep_46 : decode cX9_addStep 46 = .ok (.getfield 197, 3) := by decide +kernel
theorem dX9_addStep_49 : decode cX9_addStep 49 = .ok (.imul, 1) := by decide +kernel
theorem dX9_addStep_50 : decode cX9_addStep 50 = .ok (.iconst 3, 1) := by decide +kernel
theorem dX9_addStep_51 : decode cX9_addStep 51 = .ok (.iadd, 1) := by decide +kernel
theorem dX9_addStep_52 : decode cX9_addStep 52 = .ok (.iload 4, 2) := by decide +kernel
theorem dX9_addStep_54 : decode cX9_addStep 54 = .ok (.iastore, 1) := by decide +kernel
theorem dX9_addStep_55 : decode cX9_addStep 55 = .ok (.aload_n 0, 1) := by decide +kernel
theorem dX9_addStep_56 : decode cX9_addStep 56 = .ok (.getfield 46, 3) := by decide +kernel
theorem dX9_addStep_59 : decode cX9_addStep 59 = .ok (.iconst 5, 1) := by decide +kernel
theorem dX9_addStep_60 : decode cX9_addStep 60 = .ok (.aload_n 0, 1) := by decide +kernel
theorem dX9_addStep_61 : decode cX9_addStep 61 = .ok (.getfield 197, 3) := by decide +kernel
theorem dX9_addStep_64 : decode cX9_addStep 64 = .ok (.imul, 1) := by decide +kernel
theorem dX9_addStep_65 : decode cX9_addStep 65 = .ok (.iconst 4, 1) := by decide +kernel
theorem dX9_addStep_66 : decode cX9_addStep 66 = .ok (.iadd, 1) := by decide +kernel
theorem dX9_addStep_67 : decode cX9_addStep 67 = .ok (.iload 5, 2) := by decide +kernel
theorem dX9_addStep_69 : decode cX9_addStep 69 = .ok (.iastore, 1) := by decide +kernel
theorem dX9_addStep_70 : decode cX9_addStep 70 = .ok (.aload_n 0, 1) := by decide +kernel
theorem dX9_addStep_71 : decode cX9_addStep 71 = .ok (.dup, 1) := by decide +kernel
theorem dX9_addStep_72 : decode cX9_addStep 72 = .ok (.getfield 197, 3) := by decide +kernel
theorem dX9_addStep_75 : decode cX9_addStep 75 = .ok (.iconst 1, 1) := by decide +kernel
theorem dX9_addStep_76 : decode cX9_addStep 76 = .ok (.iadd, 1) := by decide +kernel
theorem dX9_addStep_77 : decode cX9_addStep 77 = .ok (.putfield 197, 3) := by decide +kernel
theorem dX9_addStep_80 : decode cX9_addStep 80 = .ok (.return_, 1) := by decide +kernel
theorem dX9_changeBy_0 : decode cX9_changeBy 0 = .ok (.iconst 2, 1) := by decide +kernel
theorem dX9_changeBy_1 : decode cX9_changeBy 1 = .ok (.aload_n 0, 1) := by decide +kernel
theorem dX9_changeBy_2 : decode cX9_changeBy 2 = .ok (.iload_n 1, 1) := by decide +kernel
theorem dX9_changeBy_3 : decode cX9_changeBy 3 = .ok (.iload_n 2, 1) := by decide +kernel
theorem dX9_changeBy_4 : decode cX9_changeBy 4 = .ok (.invokevirtual 184, 3) := by decide +kernel
theorem dX9_changeBy_7 : decode cX9_changeBy 7 = .ok (.imul, 1) := by decide +kernel
theorem dX9_changeBy_8 : decode cX9_changeBy 8 = .ok (.istore_n 3, 1) := by decide +kernel
theorem dX9_changeBy_9 : decode cX9_changeBy 9 = .ok (.iload_n 1, 1) := by decide +kernel
theorem dX9_changeBy_10 : decode cX9_changeBy 10 = .ok (.invokestatic 177, 3) := by decide +kernel
theorem dX9_changeBy_13 : decode cX9_changeBy 13 = .ok (.iload_n 2, 1) := by decide +kernel
theorem dX9_changeBy_14 : decode cX9_changeBy 14 = .ok (.invokestatic 177, 3) := by decide +kernel
theorem dX9_changeBy_17 : decode cX9_changeBy 17 = .ok (.iadd, 1) := by decide +kernel
theorem dX9_changeBy_18 : decode cX9_changeBy 18 = .ok (.istore 4, 2) := by decide +kernel
theorem dX9_changeBy_20 : decode cX9_changeBy 20 = .ok (.iconst 4, 1) := by decide +kernel
theorem dX9_changeBy_21 : decode cX9_changeBy 21 = .ok (.iload_n 3, 1) := by decide +kernel
theorem dX9_changeBy_22 : decode cX9_changeBy 22 = .ok (.imul, 1) := by decide +kernel
theorem dX9_changeBy_23 : decode cX9_changeBy 23 = .ok (.iconst 3, 1) := by decide +kernel
theorem dX9_changeBy_24 : decode cX9_changeBy 24 = .ok (.iload 4, 2) := by decide +kernel
theorem dX9_changeBy_26 : decode cX9_changeBy 26 = .ok (.imul, 1) := by decide +kernel
theorem dX9_changeBy_27 : decode cX9_changeBy 27 = .ok (.if_icmp .lt 7, 3) := by decide +kernel
theorem dX9_changeBy_30 : decode cX9_changeBy 30 = .ok (.iconst 4, 1) := by decide +kernel
theorem dX9_changeBy_31 : decode cX9_changeBy 31 = .ok (.goto 16, 3) := by decide +kernel
theorem dX9_changeBy_34 : decode cX9_changeBy 34 = .ok (.iconst 2, 1) := by decide +kernel
theorem dX9_changeBy_35 : decode cX9_changeBy 35 = .ok (.iload_n 3, 1) := by decide +kernel
theorem dX9_changeBy_36 : decode cX9_changeBy 36 = .ok (.imul, 1) := by decide +kernel
theorem dX9_changeBy_37 : decode cX9_changeBy 37 = .ok (.iload 4, 2) := by decide +kernel
theorem dX9_changeBy_39 : decode cX9_changeBy 39 = .ok (.if_icmp .lt 7, 3) := by decide +kernel
theorem dX9_changeBy_42 : decode cX9_changeBy 42 = .ok (.iconst 3, 1) := by decide +kernel
theorem dX9_changeBy_43 : decode cX9_changeBy 43 = .ok (.goto 4, 3) := by decide +kernel
theorem dX9_changeBy_46 : decode cX9_changeBy 46 = .ok (.iconst 0, 1) := by decide +kernel
theorem dX9_changeBy_47 : decode cX9_changeBy 47 = .ok (.ireturn, 1) := by decide +kernel
theorem dX9_layGap_0 : decode cX9_layGap 0 = .ok (.iload_n 3, 1) := by decide +kernel
theorem dX9_layGap_1 : decode cX9_layGap 1 = .ok (.iload 4, 2) := by decide +kernel
theorem dX9_layGap_3 : decode cX9_layGap 3 = .ok (.if_icmp .ge 7, 3) := by decide +kernel
theorem dX9_layGap_6 : decode cX9_layGap 6 = .ok (.iload_n 3, 1) := by decide +kernel
theorem dX9_layGap_7 : decode cX9_layGap 7 = .ok (.goto 5, 3) := by decide +kernel
theorem dX9_layGap_10 : decode cX9_layGap 10 = .ok (.iload 4, 2) := by decide +kernel
theorem dX9_layGap_12 : decode cX9_layGap 12 = .ok (.istore 5, 2) := by decide +kernel
theorem dX9_layGap_14 : decode cX9_layGap 14 = .ok (.iconst 0, 1) := by decide +kernel
theorem dX9_layGap_15 : decode cX9_layGap 15 = .ok (.istore 6, 2) := by decide +kernel
theorem dX9_layGap_17 : decode cX9_layGap 17 = .ok (.iload 6, 2) := by decide +kernel
theorem dX9_layGap_19 : decode cX9_layGap 19 = .ok (.iload_n 3, 1) := by decide +kernel
theorem dX9_layGap_20 : decode cX9_layGap 20 = .ok (.if_icmp .ge 103, 3) := by decide +kernel
theorem dX9_layGap_23 : decode cX9_layGap 23 = .ok (.iload 6, 2) := by decide +kernel
theorem dX9_layGap_25 : decode cX9_layGap 25 = .ok (.iload 5, 2) := by decide +kernel
theorem dX9_layGap_27 : decode cX9_layGap 27 = .ok (.if_icmp .ge 35, 3) := by decide +kernel
theorem dX9_layGap_30 : decode cX9_layGap 30 = .ok (.aload_n 0, 1) := by decide +kernel
theorem dX9_layGap_31 : decode cX9_layGap 31 = .ok (.aload_n 0, 1) := by decide +kernel
theorem dX9_layGap_32 : decode cX9_layGap 32 = .ok (.getfield 19, 3) := by decide +kernel
theorem dX9_layGap_35 : decode cX9_layGap 35 = .ok (.iload_n 1, 1) := by decide +kernel
theorem dX9_layGap_36 : decode cX9_layGap 36 = .ok (.iload 6, 2) := by decide +kernel
theorem dX9_layGap_38 : decode cX9_layGap 38 = .ok (.iadd, 1) := by decide +kernel
theorem dX9_layGap_39 : decode cX9_layGap 39 = .ok (.iaload, 1) := by decide +kernel
theorem dX9_layGap_40 : decode cX9_layGap 40 = .ok (.aload_n 0, 1) := by decide +kernel
theorem dX9_layGap_41 : decode cX9_layGap 41 = .ok (.getfield 19, 3) := by decide +kernel
theorem dX9_layGap_44 : decode cX9_layGap 44 = .ok (.bipush 16, 2) := by decide +kernel
theorem dX9_layGap_46 : decode cX9_layGap 46 = .ok (.iload_n 2, 1) := by decide +kernel
theorem dX9_layGap_47 : decode cX9_layGap 47 = .ok (.iadd, 1) := by decide +kernel
theorem dX9_layGap_48 : decode cX9_layGap 48 = .ok (.iload 6, 2) := by decide +kernel
theorem dX9_layGap_50 : decode cX9_layGap 50 = .ok (.iadd, 1) := by decide +kernel
theorem dX9_layGap_51 : decode cX9_layGap 51 = .ok (.iaload, 1) := by decide +kernel
theorem dX9_layGap_52 : decode cX9_layGap 52 = .ok (.invokevirtual 200, 3) := by decide +kernel
theorem dX9_layGap_55 : decode cX9_layGap 55 = .ok (.ifCond .le 7, 3) := by decide +kernel
theorem dX9_layGap_58 : decode cX9_layGap 58 = .ok (.iconst 1, 1) := by decide +kernel
theorem dX9_layGap_59 : decode cX9_layGap 59 = .ok (.goto 4, 3) := by decide +kernel
theorem dX9_layGap_62 : decode cX9_layGap 62 = .ok (.iconst 0, 1) := by decide +kernel
theorem dX9_layGap_63 : decode cX9_layGap 63 = .ok (.istore 7, 2) := by decide +kernel
theorem dX9_layGap_65 : decode cX9_layGap 65 = .ok (.iload 7, 2) := by decide +kernel
theorem dX9_layGap_67 : decode cX9_layGap 67 = .ok (.ifCond .eq 35, 3) := by decide +kernel
theorem dX9_layGap_70 : decode cX9_layGap 70 = .ok (.aload_n 0, 1) := by decide +kernel
theorem dX9_layGap_71 : decode cX9_layGap 71 = .ok (.getfield 49, 3) := by decide +kernel
theorem dX9_layGap_74 : decode cX9_layGap 74 = .ok (.iload_n 1, 1) := by decide +kernel
theorem dX9_layGap_75 : decode cX9_layGap 75 = .ok (.iload 6, 2) := by decide +kernel
theorem dX9_layGap_77 : decode cX9_layGap 77 = .ok (.iadd, 1) := by decide +kernel
theorem dX9_layGap_78 : decode cX9_layGap 78 = .ok (.iload_n 2, 1) := by decide +kernel
theorem dX9_layGap_79 : decode cX9_layGap 79 = .ok (.iload 6, 2) := by decide +kernel
theorem dX9_layGap_81 : decode cX9_layGap 81 = .ok (.iadd, 1) := by decide +kernel
theorem dX9_layGap_82 : decode cX9_layGap 82 = .ok (.iastore, 1) := by decide +kernel
theorem dX9_layGap_83 : decode cX9_layGap 83 = .ok (.aload_n 0, 1) := by decide +kernel
theorem dX9_layGap_84 : decode cX9_layGap 84 = .ok (.getfield 49, 3) := by decide +kernel
theorem dX9_layGap_87 : decode cX9_layGap 87 = .ok (.bipush 16, 2) := by decide +kernel
theorem dX9_layGap_89 : decode cX9_layGap 89 = .ok (.iload_n 2, 1) := by decide +kernel
theorem dX9_layGap_90 : decode cX9_layGap 90 = .ok (.iadd, 1) := by decide +kernel
theorem dX9_layGap_91 : decode cX9_layGap 91 = .ok (.iload 6, 2) := by decide +kernel
theorem dX9_layGap_93 : decode cX9_layGap 93 = .ok (.iadd, 1) := by decide +kernel
theorem dX9_layGap_94 : decode cX9_layGap 94 = .ok (.iload_n 1, 1) := by decide +kernel
theorem dX9_layGap_95 : decode cX9_layGap 95 = .ok (.iload 6, 2) := by decide +kernel
theorem dX9_layGap_97 : decode cX9_layGap 97 = .ok (.iadd, 1) := by decide +kernel
theorem dX9_layGap_98 : decode cX9_layGap 98 = .ok (.iastore, 1) := by decide +kernel
theorem dX9_layGap_99 : decode cX9_layGap 99 = .ok (.goto 18, 3) := by decide +kernel
theorem dX9_layGap_102 : decode cX9_layGap 102 = .ok (.aload_n 0, 1) := by decide +kernel
theorem dX9_layGap_103 : decode cX9_layGap 103 = .ok (.iconst 1, 1) := by decide +kernel
theorem dX9_layGap_104 : decode cX9_layGap 104 = .ok (.iload_n 1, 1) := by decide +kernel
theorem dX9_layGap_105 : decode cX9_layGap 105 = .ok (.iload 6, 2) := by decide +kernel
theorem dX9_layGap_107 : decode cX9_layGap 107 = .ok (.iadd, 1) := by decide +kernel
theorem dX9_layGap_108 : decode cX9_layGap 108 = .ok (.iconst (-1), 1) := by decide +kernel
theorem dX9_layGap_109 : decode cX9_layGap 109 = .ok (.iconst 0, 1) := by decide +kernel
theorem dX9_layGap_110 : decode cX9_layGap 110 = .ok (.aload_n 0, 1) := by decide +kernel
theorem dX9_layGap_111 : decode cX9_layGap 111 = .ok (.getfield 203, 3) := by decide +kernel
theorem dX9_layGap_114 : decode cX9_layGap 114 = .ok (.invokevirtual 206, 3) := by decide +kernel
theorem dX9_layGap_117 : decode cX9_layGap 117 = .ok (.iinc 6 1, 3) := by decide +kernel
theorem dX9_layGap_120 : decode cX9_layGap 120 = .ok (.goto (-103), 3) := by decide +kernel
theorem dX9_layGap_123 : decode cX9_layGap 123 = .ok (.iconst 0, 1) := by decide +kernel
theorem dX9_layGap_124 : decode cX9_layGap 124 = .ok (.istore 6, 2) := by decide +kernel
theorem dX9_layGap_126 : decode cX9_layGap 126 = .ok (.iload 6, 2) := by decide +kernel
theorem dX9_layGap_128 : decode cX9_layGap 128 = .ok (.iload 4, 2) := by decide +kernel
theorem dX9_layGap_130 : decode cX9_layGap 130 = .ok (.if_icmp .ge 107, 3) := by decide +kernel
theorem dX9_layGap_133 : decode cX9_layGap 133 = .ok (.aload_n 0, 1) := by decide +kernel
theorem dX9_layGap_134 : decode cX9_layGap 134 = .ok (.getfield 49, 3) := by decide +kernel
theorem dX9_layGap_137 : decode cX9_layGap 137 = .ok (.bipush 16, 2) := by decide +kernel
theorem dX9_layGap_139 : decode cX9_layGap 139 = .ok (.iload_n 2, 1) := by decide +kernel
theorem dX9_layGap_140 : decode cX9_layGap 140 = .ok (.iadd, 1) := by decide +kernel
theorem dX9_layGap_141 : decode cX9_layGap 141 = .ok (.iload 6, 2) := by decide +kernel
theorem dX9_layGap_143 : decode cX9_layGap 143 = .ok (.iadd, 1) := by decide +kernel
theorem dX9_layGap_144 : decode cX9_layGap 144 = .ok (.iaload, 1) := by decide +kernel
theorem dX9_layGap_145 : decode cX9_layGap 145 = .ok (.istore 7, 2) := by decide +kernel
theorem dX9_layGap_147 : decode cX9_layGap 147 = .ok (.iload 7, 2) := by decide +kernel
theorem dX9_layGap_149 : decode cX9_layGap 149 = .ok (.iconst (-1), 1) := by decide +kernel
theorem dX9_layGap_150 : decode cX9_layGap 150 = .ok (.if_icmp .ne 21, 3) := by decide +kernel
theorem dX9_layGap_153 : decode cX9_layGap 153 = .ok (.aload_n 0, 1) := by decide +kernel
theorem dX9_layGap_154 : decode cX9_layGap 154 = .ok (.iconst 2, 1) := by decide +kernel
theorem dX9_layGap_155 : decode cX9_layGap 155 = .ok (.iconst (-1), 1) := by decide +kernel
theorem dX9_layGap_156 : decode cX9_layGap 156 = .ok (.iload_n 2, 1) := by decide +kernel
theorem dX9_layGap_157 : decode cX9_layGap 157 = .ok (.iload 6, 2) := by decide +kernel
theorem dX9_layGap_159 : decode cX9_layGap 159 = .ok (.iadd, 1) := by decide +kernel
theorem dX9_layGap_160 : decode cX9_layGap 160 = .ok (.iconst 0, 1) := by decide +kernel
theorem dX9_layGap_161 : decode cX9_layGap 161 = .ok (.aload_n 0, 1) := by decide +kernel
theorem dX9_layGap_162 : decode cX9_layGap 162 = .ok (.getfield 203, 3) := by decide +kernel
theorem dX9_layGap_165 : decode cX9_layGap 165 = .ok (.invokevirtual 206, 3) := by decide +kernel
theorem dX9_layGap_168 : decode cX9_layGap 168 = .ok (.goto 63, 3) := by decide +kernel
theorem dX9_layGap_171 : decode cX9_layGap 171 = .ok (.aload_n 0, 1) := by decide +kernel
theorem dX9_layGap_172 : decode cX9_layGap 172 = .ok (.aload_n 0, 1) := by decide +kernel
theorem dX9_layGap_173 : decode cX9_layGap 173 = .ok (.aload_n 0, 1) := by decide +kernel
theorem dX9_layGap_174 : decode cX9_layGap 174 = .ok (.getfield 19, 3) := by decide +kernel
theorem dX9_layGap_177 : decode cX9_layGap 177 = .ok (.iload 7, 2) := by decide +kernel
theorem dX9_layGap_179 : decode cX9_layGap 179 = .ok (.iaload, 1) := by decide +kernel
theorem dX9_layGap_180 : decode cX9_layGap 180 = .ok (.aload_n 0, 1) := by decide +kernel
theorem dX9_layGap_181 : decode cX9_layGap 181 = .ok (.getfield 19, 3) := by decide +kernel
theorem dX9_layGap_184 : decode cX9_layGap 184 = .ok (.bipush 16, 2) := by decide +kernel
theorem dX9_layGap_186 : decode cX9_layGap 186 = .ok (.iload_n 2, 1) := by decide +kernel
theorem dX9_layGap_187 : decode cX9_layGap 187 = .ok (.iadd, 1) := by decide +kernel
theorem dX9_layGap_188 : decode cX9_layGap 188 = .ok (.iload 6, 2) := by decide +kernel
theorem dX9_layGap_190 : decode cX9_layGap 190 = .ok (.iadd, 1) := by decide +kernel
theorem dX9_layGap_191 : decode cX9_layGap 191 = .ok (.iaload, 1) := by decide +kernel
theorem dX9_layGap_192 : decode cX9_layGap 192 = .ok (.invokevirtual 200, 3) := by decide +kernel
theorem dX9_layGap_195 : decode cX9_layGap 195 = .ok (.iload 7, 2) := by decide +kernel
theorem dX9_layGap_197 : decode cX9_layGap 197 = .ok (.iload_n 2, 1) := by decide +kernel
theorem dX9_layGap_198 : decode cX9_layGap 198 = .ok (.iload 6, 2) := by decide +kernel
theorem dX9_layGap_200 : decode cX9_layGap 200 = .ok (.iadd, 1) := by decide +kernel
theorem dX9_layGap_201 : decode cX9_layGap 201 = .ok (.aload_n 0, 1) := by decide +kernel
theorem dX9_layGap_202 : decode cX9_layGap 202 = .ok (.aload_n 0, 1) := by decide +kernel
theorem dX9_layGap_203 : decode cX9_layGap 203 = .ok (.getfield 19, 3) := by decide +kernel
theorem dX9_layGap_206 : decode cX9_layGap 206 = .ok (.iload 7, 2) := by decide +kernel
theorem dX9_layGap_208 : decode cX9_layGap 208 = .ok (.iaload, 1) := by decide +kernel
theorem dX9_layGap_209 : decode cX9_layGap 209 = .ok (.aload_n 0, 1) := by decide +kernel
theorem dX9_layGap_210 : decode cX9_layGap 210 = .ok (.getfield 19, 3) := by decide +kernel
theorem dX9_layGap_213 : decode cX9_layGap 213 = .ok (.bipush 16, 2) := by decide +kernel
theorem dX9_layGap_215 : decode cX9_layGap 215 = .ok (.iload_n 2, 1) := by decide +kernel
theorem dX9_layGap_216 : decode cX9_layGap 216 = .ok (.iadd, 1) := by decide +kernel
theorem dX9_layGap_217 : decode cX9_layGap 217 = .ok (.iload 6, 2) := by decide +kernel
theorem dX9_layGap_219 : decode cX9_layGap 219 = .ok (.iadd, 1) := by decide +kernel
theorem dX9_layGap_220 : decode cX9_layGap 220 = .ok (.iaload, 1) := by decide +kernel
theorem dX9_layGap_221 : decode cX9_layGap 221 = .ok (.invokevirtual 194, 3) := by decide +kernel
theorem dX9_layGap_224 : decode cX9_layGap 224 = .ok (.aload_n 0, 1) := by decide +kernel
theorem dX9_layGap_225 : decode cX9_layGap 225 = .ok (.getfield 203, 3) := by decide +kernel
theorem dX9_layGap_228 : decode cX9_layGap 228 = .ok (.invokevirtual 206, 3) := by decide +kernel
theorem dX9_layGap_231 : decode cX9_layGap 231 = .ok (.iinc 6 1, 3) := by decide +kernel
theorem dX9_layGap_234 : decode cX9_layGap 234 = .ok (.goto (-108), 3) := by decide +kernel
theorem dX9_layGap_237 : decode cX9_layGap 237 = .ok (.aload_n 0, 1) := by decide +kernel
theorem dX9_layGap_238 : decode cX9_layGap 238 = .ok (.dup, 1) := by decide +kernel
theorem dX9_layGap_239 : decode cX9_layGap 239 = .ok (.getfield 203, 3) := by decide +kernel
theorem dX9_layGap_242 : decode cX9_layGap 242 = .ok (.iconst 1, 1) := by decide +kernel
theorem dX9_layGap_243 : decode cX9_layGap 243 = .ok (.iadd, 1) := by decide +kernel
theorem dX9_layGap_244 : decode cX9_layGap 244 = .ok (.putfield 203, 3) := by decide +kernel
theorem dX9_layGap_247 : decode cX9_layGap 247 = .ok (.return_, 1) := by decide +kernel
theorem dX9_layScript_0 : decode cX9_layScript 0 = .ok (.iconst 0, 1) := by decide +kernel
theorem dX9_layScript_1 : decode cX9_layScript 1 = .ok (.istore_n 1, 1) := by decide +kernel
theorem dX9_layScript_2 : decode cX9_layScript 2 = .ok (.iload_n 1, 1) := by decide +kernel
theorem dX9_layScript_3 : decode cX9_layScript 3 = .ok (.bipush 15, 2) := by decide +kernel
theorem dX9_layScript_5 : decode cX9_layScript 5 = .ok (.if_icmp .ge 16, 3) := by decide +kernel
theorem dX9_layScript_8 : decode cX9_layScript 8 = .ok (.aload_n 0, 1) := by decide +kernel
theorem dX9_layScript_9 : decode cX9_layScript 9 = .ok (.getfield 52, 3) := by decide +kernel
theorem dX9_layScript_12 : decode cX9_layScript 12 = .ok (.iload_n 1, 1) := by decide +kernel
theorem dX9_layScript_13 : decode cX9_layScript 13 = .ok (.iconst (-1), 1) := by decide +kernel
theorem dX9_layScript_14 : decode cX9_layScript 14 = .ok (.iastore, 1) := by decide +kernel
theorem dX9_layScript_15 : decode cX9_layScript 15 = .ok (.iinc 1 1, 3) := by decide +kernel
theorem dX9_layScript_18 : decode cX9_layScript 18 = .ok (.goto (-16), 3) := by decide +kernel
theorem dX9_layScript_21 : decode cX9_layScript 21 = .ok (.aload_n 0, 1) := by decide +kernel
theorem dX9_layScript_22 : decode cX9_layScript 22 = .ok (.invokevirtual 209, 3) := by decide +kernel
theorem dX9_layScript_25 : decode cX9_layScript 25 = .ok (.aload_n 0, 1) := by decide +kernel
theorem dX9_layScript_26 : decode cX9_layScript 26 = .ok (.iconst 0, 1) := by decide +kernel
theorem dX9_layScript_27 : decode cX9_layScript 27 = .ok (.putfield 197, 3) := by decide +kernel
theorem dX9_layScript_30 : decode cX9_layScript 30 = .ok (.aload_n 0, 1) := by decide +kernel
theorem dX9_layScript_31 : decode cX9_layScript 31 = .ok (.iconst 0, 1) := by decide +kernel
theorem dX9_layScript_32 : decode cX9_layScript 32 = .ok (.putfield 203, 3) := by decide +kernel
theorem dX9_layScript_35 : decode cX9_layScript 35 = .ok (.iconst 0, 1) := by decide +kernel
theorem dX9_layScript_36 : decode cX9_layScript 36 = .ok (.istore_n 1, 1) := by decide +kernel
theorem dX9_layScript_37 : decode cX9_layScript 37 = .ok (.iload_n 1, 1) := by decide +kernel
theorem dX9_layScript_38 : decode cX9_layScript 38 = .ok (.bipush 32, 2) := by decide +kernel
theorem dX9_layScript_40 : decode cX9_layScript 40 = .ok (.if_icmp .ge 16, 3) := by decide +kernel
theorem dX9_layScript_43 : decode cX9_layScript 43 = .ok (.aload_n 0, 1) := by decide +kernel
theorem dX9_layScript_44 : decode cX9_layScript 44 = .ok (.getfield 49, 3) := by decide +kernel
theorem dX9_layScript_47 : decode cX9_layScript 47 = .ok (.iload_n 1, 1) := by decide +kernel
theorem dX9_layScript_48 : decode cX9_layScript 48 = .ok (.iconst (-1), 1) := by decide +kernel
theorem dX9_layScript_49 : decode cX9_layScript 49 = .ok (.iastore, 1) := by decide +kernel
theorem dX9_layScript_50 : decode cX9_layScript 50 = .ok (.iinc 1 1, 3) := by decide +kernel
theorem dX9_layScript_53 : decode cX9_layScript 53 = .ok (.goto (-16), 3) := by decide +kernel
theorem dX9_layScript_56 : decode cX9_layScript 56 = .ok (.iconst 0, 1) := by decide +kernel
theorem dX9_layScript_57 : decode cX9_layScript 57 = .ok (.istore_n 1, 1) := by decide +kernel
theorem dX9_layScript_58 : decode cX9_layScript 58 = .ok (.iconst 0, 1) := by decide +kernel
theorem dX9_layScript_59 : decode cX9_layScript 59 = .ok (.istore_n 2, 1) := by decide +kernel
theorem dX9_layScript_60 : decode cX9_layScript 60 = .ok (.iload_n 1, 1) := by decide +kernel
theorem dX9_layScript_61 : decode cX9_layScript 61 = .ok (.aload_n 0, 1) := by decide +kernel
theorem dX9_layScript_62 : decode cX9_layScript 62 = .ok (.getfield 22, 3) := by decide +kernel
theorem dX9_layScript_65 : decode cX9_layScript 65 = .ok (.iconst 0, 1) := by decide +kernel
theorem dX9_layScript_66 : decode cX9_layScript 66 = .ok (.iaload, 1) := by decide +kernel
theorem dX9_layScript_67 : decode cX9_layScript 67 = .ok (.if_icmp .lt 13, 3) := by decide +kernel
theorem dX9_layScript_70 : decode cX9_layScript 70 = .ok (.iload_n 2, 1) := by decide +kernel
theorem dX9_layScript_71 : decode cX9_layScript 71 = .ok (.aload_n 0, 1) := by decide +kernel
theorem dX9_layScript_72 : decode cX9_layScript 72 = .ok (.getfield 22, 3) := by decide +kernel
theorem dX9_layScript_75 : decode cX9_layScript 75 = .ok (.iconst 1, 1) := by decide +kernel
theorem dX9_layScript_76 : decode cX9_layScript 76 = .ok (.iaload, 1) := by decide +kernel
theorem dX9_layScript_77 : decode cX9_layScript 77 = .ok (.if_icmp .ge 72, 3) := by decide +kernel
theorem dX9_layScript_80 : decode cX9_layScript 80 = .ok (.aload_n 0, 1) := by decide +kernel
theorem dX9_layScript_81 : decode cX9_layScript 81 = .ok (.iconst 0, 1) := by decide +kernel
theorem dX9_layScript_82 : decode cX9_layScript 82 = .ok (.iload_n 1, 1) := by decide +kernel
theorem dX9_layScript_83 : decode cX9_layScript 83 = .ok (.invokevirtual 212, 3) := by decide +kernel
theorem dX9_layScript_86 : decode cX9_layScript 86 = .ok (.istore_n 3, 1) := by decide +kernel
theorem dX9_layScript_87 : decode cX9_layScript 87 = .ok (.aload_n 0, 1) := by decide +kernel
theorem dX9_layScript_88 : decode cX9_layScript 88 = .ok (.iconst 1, 1) := by decide +kernel
theorem dX9_layScript_89 : decode cX9_layScript 89 = .ok (.iload_n 2, 1) := by decide +kernel
theorem dX9_layScript_90 : decode cX9_layScript 90 = .ok (.invokevirtual 212, 3) := by decide +kernel
theorem dX9_layScript_93 : decode cX9_layScript 93 = .ok (.istore 4, 2) := by decide +kernel
theorem dX9_layScript_95 : decode cX9_layScript 95 = .ok (.iload_n 3, 1) := by decide +kernel
theorem dX9_layScript_96 : decode cX9_layScript 96 = .ok (.iload 4, 2) := by decide +kernel
theorem dX9_layScript_98 : decode cX9_layScript 98 = .ok (.iadd, 1) := by decide +kernel
theorem dX9_layScript_99 : decode cX9_layScript 99 = .ok (.ifCond .le 12, 3) := by decide +kernel
theorem dX9_layScript_102 : decode cX9_layScript 102 = .ok (.aload_n 0, 1) := by decide +kernel
theorem dX9_layScript_103 : decode cX9_layScript 103 = .ok (.iload_n 1, 1) := by decide +kernel
theorem dX9_layScript_104 : decode cX9_layScript 104 = .ok (.iload_n 2, 1) := by decide +kernel
theorem dX9_layScript_105 : decode cX9_layScript 105 = .ok (.iload_n 3, 1) := by decide +kernel
theorem dX9_layScript_106 : decode cX9_layScript 106 = .ok (.iload 4, 2) := by decide +kernel
theorem dX9_layScript_108 : decode cX9_layScript 108 = .ok (.invokevirtual 215, 3) := by decide +kernel
theorem dX9_layScript_111 : decode cX9_layScript 111 = .ok (.iload_n 1, 1) := by decide +kernel
theorem dX9_layScript_112 : decode cX9_layScript 112 = .ok (.iload_n 3, 1) := by decide +kernel
theorem dX9_layScript_113 : decode cX9_layScript 113 = .ok (.iadd, 1) := by decide +kernel
theorem dX9_layScript_114 : decode cX9_layScript 114 = .ok (.istore_n 1, 1) := by decide +kernel
theorem dX9_layScript_115 : decode cX9_layScript 115 = .ok (.iload_n 2, 1) := by decide +kernel
theorem dX9_layScript_116 : decode cX9_layScript 116 = .ok (.iload 4, 2) := by decide +kernel
theorem dX9_layScript_118 : decode cX9_layScript 118 = .ok (.iadd, 1) := by decide +kernel
theorem dX9_layScript_119 : decode cX9_layScript 119 = .ok (.istore_n 2, 1) := by decide +kernel
theorem dX9_layScript_120 : decode cX9_layScript 120 = .ok (.iload_n 1, 1) := by decide +kernel
theorem dX9_layScript_121 : decode cX9_layScript 121 = .ok (.aload_n 0, 1) := by decide +kernel
theorem dX9_layScript_122 : decode cX9_layScript 122 = .ok (.getfield 22, 3) := by decide +kernel
theorem dX9_layScript_125 : decode cX9_layScript 125 = .ok (.iconst 0, 1) := by decide +kernel
theorem dX9_layScript_126 : decode cX9_layScript 126 = .ok (.iaload, 1) := by decide +kernel
theorem dX9_layScript_127 : decode cX9_layScript 127 = .ok (.if_icmp .ge 19, 3) := by decide +kernel
theorem dX9_layScript_130 : decode cX9_layScript 130 = .ok (.aload_n 0, 1) := by decide +kernel
theorem dX9_layScript_131 : decode cX9_layScript 131 = .ok (.iconst 0, 1) := by decide +kernel
theorem dX9_layScript_132 : decode cX9_layScript 132 = .ok (.iload_n 1, 1) := by decide +kernel
theorem dX9_layScript_133 : decode cX9_layScript 133 = .ok (.iload_n 2, 1) := by decide +kernel
theorem dX9_layScript_134 : decode cX9_layScript 134 = .ok (.ldc 218, 2) := by decide +kernel
theorem dX9_layScript_136 : decode cX9_layScript 136 = .ok (.iconst (-1), 1) := by decide +kernel
theorem dX9_layScript_137 : decode cX9_layScript 137 = .ok (.invokevirtual 206, 3) := by decide +kernel
theorem dX9_layScript_140 : decode cX9_layScript 140 = .ok (.iinc 1 1, 3) := by decide +kernel
theorem dX9_layScript_143 : decode cX9_layScript 143 = .ok (.iinc 2 1, 3) := by decide +kernel
theorem dX9_layScript_146 : decode cX9_layScript 146 = .ok (.goto (-86), 3) := by decide +kernel
theorem dX9_layScript_149 : decode cX9_layScript 149 = .ok (.return_, 1) := by decide +kernel
theorem dX9_layKept_0 : decode cX9_layKept 0 = .ok (.aload_n 0, 1) := by decide +kernel
theorem dX9_layKept_1 : decode cX9_layKept 1 = .ok (.invokevirtual 219, 3) := by decide +kernel
theorem dX9_layKept_4 : decode cX9_layKept 4 = .ok (.aload_n 0, 1) := by decide +kernel
theorem dX9_layKept_5 : decode cX9_layKept 5 = .ok (.invokevirtual 222, 3) := by decide +kernel
theorem dX9_layKept_8 : decode cX9_layKept 8 = .ok (.return_, 1) := by decide +kernel
theorem dX9_isStep_0 : decode cX9_isStep 0 = .ok (.iload_n 1, 1) := by decide +kernel
theorem dX9_isStep_1 : decode cX9_isStep 1 = .ok (.i2l, 1) := by decide +kernel
theorem dX9_isStep_2 : decode cX9_isStep 2 = .ok (.lconst 0, 1) := by decide +kernel
theorem dX9_isStep_3 : decode cX9_isStep 3 = .ok (.aload_n 0, 1) := by decide +kernel
theorem dX9_isStep_4 : decode cX9_isStep 4 = .ok (.getfield 197, 3) := by decide +kernel
theorem dX9_isStep_7 : decode cX9_isStep 7 = .ok (.iconst 1, 1) := by decide +kernel
theorem dX9_isStep_8 : decode cX9_isStep 8 = .ok (.isub, 1) := by decide +kernel
theorem dX9_isStep_9 : decode cX9_isStep 9 = .ok (.i2l, 1) := by decide +kernel
theorem dX9_isStep_10 : decode cX9_isStep 10 = .ok (.invokestatic 73, 3) := by decide +kernel
theorem dX9_isStep_13 : decode cX9_isStep 13 = .ok (.ireturn, 1) := by decide +kernel
theorem dX9_step_0 : decode cX9_step 0 = .ok (.aload_n 0, 1) := by decide +kernel
theorem dX9_step_1 : decode cX9_step 1 = .ok (.iload_n 1, 1) := by decide +kernel
theorem dX9_step_2 : decode cX9_step 2 = .ok (.invokevirtual 225, 3) := by decide +kernel
theorem dX9_step_5 : decode cX9_step 5 = .ok (.ifCond .ne 6, 3) := by decide +kernel
theorem dX9_step_8 : decode cX9_step 8 = .ok (.bipush (-101), 2) := by decide +kernel
theorem dX9_step_10 : decode cX9_step 10 = .ok (.ireturn, 1) := by decide +kernel
theorem dX9_step_11 : decode cX9_step 11 = .ok (.iload_n 2, 1) := by decide +kernel
theorem dX9_step_12 : decode cX9_step 12 = .ok (.i2l, 1) := by decide +kernel
theorem dX9_step_13 : decode cX9_step 13 = .ok (.lconst 0, 1) := by decide +kernel
theorem dX9_step_14 : decode cX9_step 14 = .ok (.ldc2_w 228, 3) := by decide +kernel
theorem dX9_step_17 : decode cX9_step 17 = .ok (.invokestatic 73, 3) := by decide +kernel
theorem dX9_step_20 : decode cX9_step 20 = .ok (.ifCond .eq 16, 3) := by decide +kernel
theorem dX9_step_23 : decode cX9_step 23 = .ok (.aload_n 0, 1) := by decide +kernel
theorem dX9_step_24 : decode cX9_step 24 = .ok (.getfield 46, 3) := by decide +kernel
theorem dX9_step_27 : decode cX9_step 27 = .ok (.iconst 5, 1) := by decide +kernel
theorem dX9_step_28 : decode cX9_step 28 = .ok (.iload_n 1, 1) := by decide +kernel
theorem dX9_step_29 : decode cX9_step 29 = .ok (.imul, 1) := by decide +kernel
theorem dX9_step_30 : decode cX9_step 30 = .ok (.iload_n 2, 1) := by decide +kernel
theorem dX9_step_31 : decode cX9_step 31 = .ok (.iadd, 1) := by decide +kernel
theorem dX9_step_32 : decode cX9_step 32 = .ok (.iaload, 1) := by decide +kernel
theorem dX9_step_33 : decode cX9_step 33 = .ok (.goto 5, 3) := by decide +kernel
theorem dX9_step_36 : decode cX9_step 36 = .ok (.bipush (-102), 2) := by decide +kernel
theorem dX9_step_38 : decode cX9_step 38 = .ok (.ireturn, 1) := by decide +kernel
theorem dX9_lettersBy_0 : decode cX9_lettersBy 0 = .ok (.aload_n 0, 1) := by decide +kernel
theorem dX9_lettersBy_1 : decode cX9_lettersBy 1 = .ok (.getfield 19, 3) := by decide +kernel
theorem dX9_lettersBy_4 : decode cX9_lettersBy 4 = .ok (.aload_n 0, 1) := by decide +kernel
theorem dX9_lettersBy_5 : decode cX9_lettersBy 5 = .ok (.getfield 46, 3) := by decide +kernel
theorem dX9_lettersBy_8 : decode cX9_lettersBy 8 = .ok (.iconst 5, 1) := by decide +kernel
theorem dX9_lettersBy_9 : decode cX9_lettersBy 9 = .ok (.iload_n 1, 1) := by decide +kernel
theorem dX9_lettersBy_10 : decode cX9_lettersBy 10 = .ok (.imul, 1) := by decide +kernel
theorem dX9_lettersBy_11 : decode cX9_lettersBy 11 = .ok (.iconst 1, 1) := by decide +kernel
theorem dX9_lettersBy_12 : decode cX9_lettersBy 12 = .ok (.iadd, 1) := by decide +kernel
theorem dX9_lettersBy_13 : decode cX9_lettersBy 13 = .ok (.iaload, 1) := by decide +kernel
theorem dX9_lettersBy_14 : decode cX9_lettersBy 14 = .ok (.iaload, 1) := by decide +kernel
theorem dX9_lettersBy_15 : decode cX9_lettersBy 15 = .ok (.istore_n 3, 1) := by decide +kernel
theorem dX9_lettersBy_16 : decode cX9_lettersBy 16 = .ok (.aload_n 0, 1) := by decide +kernel
theorem dX9_lettersBy_17 : decode cX9_lettersBy 17 = .ok (.getfield 19, 3) := by decide +kernel
theorem dX9_lettersBy_20 : decode cX9_lettersBy 20 = .ok (.bipush 16, 2) := by decide +kernel
theorem dX9_lettersBy_22 : decode cX9_lettersBy 22 = .ok (.aload_n 0, 1) := by decide +kernel
theorem dX9_lettersBy_23 : decode cX9_lettersBy 23 = .ok (.getfield 46, 3) := by decide +kernel
theorem dX9_lettersBy_26 : decode cX9_lettersBy 26 = .ok (.iconst 5, 1) := by decide +kernel
theorem dX9_lettersBy_27 : decode cX9_lettersBy 27 = .ok (.iload_n 1, 1) := by decide +kernel
theorem dX9_lettersBy_28 : decode cX9_lettersBy 28 = .ok (.imul, 1) := by decide +kernel
theorem dX9_lettersBy_29 : decode cX9_lettersBy 29 = .ok (.iconst 2, 1) := by decide +kernel
theorem dX9_lettersBy_30 : decode cX9_lettersBy 30 = .ok (.iadd, 1) := by decide +kernel
theorem dX9_lettersBy_31 : decode cX9_lettersBy 31 = .ok (.iaload, 1) := by decide +kernel
theorem dX9_lettersBy_32 : decode cX9_lettersBy 32 = .ok (.iadd, 1) := by decide +kernel
theorem dX9_lettersBy_33 : decode cX9_lettersBy 33 = .ok (.iaload, 1) := by decide +kernel
theorem dX9_lettersBy_34 : decode cX9_lettersBy 34 = .ok (.istore 4, 2) := by decide +kernel
theorem dX9_lettersBy_36 : decode cX9_lettersBy 36 = .ok (.aload_n 0, 1) := by decide +kernel
theorem dX9_lettersBy_37 : decode cX9_lettersBy 37 = .ok (.iload_n 3, 1) := by decide +kernel
theorem dX9_lettersBy_38 : decode cX9_lettersBy 38 = .ok (.iload 4, 2) := by decide +kernel
theorem dX9_lettersBy_40 : decode cX9_lettersBy 40 = .ok (.invokevirtual 184, 3) := by decide +kernel
theorem dX9_lettersBy_43 : decode cX9_lettersBy 43 = .ok (.istore 5, 2) := by decide +kernel
theorem dX9_lettersBy_45 : decode cX9_lettersBy 45 = .ok (.iload_n 2, 1) := by decide +kernel
theorem dX9_lettersBy_46 : decode cX9_lettersBy 46 = .ok (.ifCond .ne 8, 3) := by decide +kernel
theorem dX9_lettersBy_49 : decode cX9_lettersBy 49 = .ok (.iload 5, 2) := by decide +kernel
theorem dX9_lettersBy_51 : decode cX9_lettersBy 51 = .ok (.goto 26, 3) := by decide +kernel
theorem dX9_lettersBy_54 : decode cX9_lettersBy 54 = .ok (.iload_n 2, 1) := by decide +kernel
theorem dX9_lettersBy_55 : decode cX9_lettersBy 55 = .ok (.iconst 1, 1) := by decide +kernel
theorem dX9_lettersBy_56 : decode cX9_lettersBy 56 = .ok (.if_icmp .ne 13, 3) := by decide +kernel
theorem dX9_lettersBy_59 : decode cX9_lettersBy 59 = .ok (.iload_n 3, 1) := by decide +kernel
theorem dX9_lettersBy_60 : decode cX9_lettersBy 60 = .ok (.invokestatic 177, 3) := by decide +kernel
theorem dX9_lettersBy_63 : decode cX9_lettersBy 63 = .ok (.iload 5, 2) := by decide +kernel
theorem dX9_lettersBy_65 : decode cX9_lettersBy 65 = .ok (.isub, 1) := by decide +kernel
theorem dX9_lettersBy_66 : decode cX9_lettersBy 66 = .ok (.goto 11, 3) := by decide +kernel
theorem dX9_lettersBy_69 : decode cX9_lettersBy 69 = .ok (.iload 4, 2) := by decide +kernel
theorem dX9_lettersBy_71 : decode cX9_lettersBy 71 = .ok (.invokestatic 177, 3) := by decide +kernel
theorem dX9_lettersBy_74 : decode cX9_lettersBy 74 = .ok (.iload 5, 2) := by decide +kernel
theorem dX9_lettersBy_76 : decode cX9_lettersBy 76 = .ok (.isub, 1) := by decide +kernel
theorem dX9_lettersBy_77 : decode cX9_lettersBy 77 = .ok (.ireturn, 1) := by decide +kernel
theorem dX9_letters_0 : decode cX9_letters 0 = .ok (.aload_n 0, 1) := by decide +kernel
theorem dX9_letters_1 : decode cX9_letters 1 = .ok (.iload_n 1, 1) := by decide +kernel
theorem dX9_letters_2 : decode cX9_letters 2 = .ok (.invokevirtual 225, 3) := by decide +kernel
theorem dX9_letters_5 : decode cX9_letters 5 = .ok (.ifCond .ne 6, 3) := by decide +kernel
theorem dX9_letters_8 : decode cX9_letters 8 = .ok (.bipush (-101), 2) := by decide +kernel
theorem dX9_letters_10 : decode cX9_letters 10 = .ok (.ireturn, 1) := by decide +kernel
theorem dX9_letters_11 : decode cX9_letters 11 = .ok (.aload_n 0, 1) := by decide +kernel
theorem dX9_letters_12 : decode cX9_letters 12 = .ok (.getfield 46, 3) := by decide +kernel
theorem dX9_letters_15 : decode cX9_letters 15 = .ok (.iconst 5, 1) := by decide +kernel
theorem dX9_letters_16 : decode cX9_letters 16 = .ok (.iload_n 1, 1) := by decide +kernel
theorem dX9_letters_17 : decode cX9_letters 17 = .ok (.imul, 1) := by decide +kernel
theorem dX9_letters_18 : decode cX9_letters 18 = .ok (.iaload, 1) := by decide +kernel
theorem dX9_letters_19 : decode cX9_letters 19 = .ok (.iconst 3, 1) := by decide +kernel
theorem dX9_letters_20 : decode cX9_letters 20 = .ok (.if_icmp .ge 6, 3) := by decide +kernel
theorem dX9_letters_23 : decode cX9_letters 23 = .ok (.bipush (-103), 2) := by decide +kernel
theorem dX9_letters_25 : decode cX9_letters 25 = .ok (.ireturn, 1) := by decide +kernel
theorem dX9_letters_26 : decode cX9_letters 26 = .ok (.iload_n 2, 1) := by decide +kernel
theorem dX9_letters_27 : decode cX9_letters 27 = .ok (.i2l, 1) := by decide +kernel
theorem dX9_letters_28 : decode cX9_letters 28 = .ok (.lconst 0, 1) := by decide +kernel
theorem dX9_letters_29 : decode cX9_letters 29 = .ok (.ldc2_w 175, 3) := by decide +kernel
theorem dX9_letters_32 : decode cX9_letters 32 = .ok (.invokestatic 73, 3) := by decide +kernel
theorem dX9_letters_35 : decode cX9_letters 35 = .ok (.ifCond .eq 12, 3) := by decide +kernel
theorem dX9_letters_38 : decode cX9_letters 38 = .ok (.aload_n 0, 1) := by decide +kernel
theorem dX9_letters_39 : decode cX9_letters 39 = .ok (.iload_n 1, 1) := by decide +kernel
theorem dX9_letters_40 : decode cX9_letters 40 = .ok (.iload_n 2, 1) := by decide +kernel
theorem dX9_letters_41 : decode cX9_letters 41 = .ok (.invokevirtual 230, 3) := by decide +kernel
theorem dX9_letters_44 : decode cX9_letters 44 = .ok (.goto 5, 3) := by decide +kernel
theorem dX9_letters_47 : decode cX9_letters 47 = .ok (.bipush (-102), 2) := by decide +kernel
theorem dX9_letters_49 : decode cX9_letters 49 = .ok (.ireturn, 1) := by decide +kernel
theorem dX9_tellLine_0 : decode cX9_tellLine 0 = .ok (.aload_n 0, 1) := by decide +kernel
theorem dX9_tellLine_1 : decode cX9_tellLine 1 = .ok (.getfield 19, 3) := by decide +kernel
theorem dX9_tellLine_4 : decode cX9_tellLine 4 = .ok (.bipush 16, 2) := by decide +kernel
theorem dX9_tellLine_6 : decode cX9_tellLine 6 = .ok (.iload_n 1, 1) := by decide +kernel
