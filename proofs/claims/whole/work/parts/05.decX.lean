theorem dX0_init_0 : decode cX0_init 0 = .ok (.aload_n 0, 1) := by decide +kernel
theorem dX0_init_1 : decode cX0_init 1 = .ok (.invokespecial 3, 3) := by decide +kernel
theorem dX0_init_4 : decode cX0_init 4 = .ok (.aload_n 0, 1) := by decide +kernel
theorem dX0_init_5 : decode cX0_init 5 = .ok (.sipush 600, 3) := by decide +kernel
theorem dX0_init_8 : decode cX0_init 8 = .ok (.newarray .int, 2) := by decide +kernel
theorem dX0_init_10 : decode cX0_init 10 = .ok (.putfield 9, 3) := by decide +kernel
theorem dX0_init_13 : decode cX0_init 13 = .ok (.aload_n 0, 1) := by decide +kernel
theorem dX0_init_14 : decode cX0_init 14 = .ok (.iconst (-1), 1) := by decide +kernel
theorem dX0_init_15 : decode cX0_init 15 = .ok (.putfield 15, 3) := by decide +kernel
theorem dX0_init_18 : decode cX0_init 18 = .ok (.aload_n 0, 1) := by decide +kernel
theorem dX0_init_19 : decode cX0_init 19 = .ok (.sipush 256, 3) := by decide +kernel
theorem dX0_init_22 : decode cX0_init 22 = .ok (.newarray .int, 2) := by decide +kernel
theorem dX0_init_24 : decode cX0_init 24 = .ok (.putfield 19, 3) := by decide +kernel
theorem dX0_init_27 : decode cX0_init 27 = .ok (.aload_n 0, 1) := by decide +kernel
theorem dX0_init_28 : decode cX0_init 28 = .ok (.sipush 256, 3) := by decide +kernel
theorem dX0_init_31 : decode cX0_init 31 = .ok (.newarray .boolean, 2) := by decide +kernel
theorem dX0_init_33 : decode cX0_init 33 = .ok (.putfield 22, 3) := by decide +kernel
theorem dX0_init_36 : decode cX0_init 36 = .ok (.aload_n 0, 1) := by decide +kernel
theorem dX0_init_37 : decode cX0_init 37 = .ok (.iconst (-1), 1) := by decide +kernel
theorem dX0_init_38 : decode cX0_init 38 = .ok (.putfield 26, 3) := by decide +kernel
theorem dX0_init_41 : decode cX0_init 41 = .ok (.return_, 1) := by decide +kernel
theorem dX0_addFourBytes_0 : decode cX0_addFourBytes 0 = .ok (.bipush 24, 2) := by decide +kernel
theorem dX0_addFourBytes_2 : decode cX0_addFourBytes 2 = .ok (.istore_n 2, 1) := by decide +kernel
theorem dX0_addFourBytes_3 : decode cX0_addFourBytes 3 = .ok (.iload_n 2, 1) := by decide +kernel
theorem dX0_addFourBytes_4 : decode cX0_addFourBytes 4 = .ok (.ifCond .lt 54, 3) := by decide +kernel
theorem dX0_addFourBytes_7 : decode cX0_addFourBytes 7 = .ok (.aload_n 0, 1) := by decide +kernel
theorem dX0_addFourBytes_8 : decode cX0_addFourBytes 8 = .ok (.getfield 29, 3) := by decide +kernel
theorem dX0_addFourBytes_11 : decode cX0_addFourBytes 11 = .ok (.ifCond .lt 41, 3) := by decide +kernel
theorem dX0_addFourBytes_14 : decode cX0_addFourBytes 14 = .ok (.aload_n 0, 1) := by decide +kernel
theorem dX0_addFourBytes_15 : decode cX0_addFourBytes 15 = .ok (.getfield 29, 3) := by decide +kernel
theorem dX0_addFourBytes_18 : decode cX0_addFourBytes 18 = .ok (.aload_n 0, 1) := by decide +kernel
theorem dX0_addFourBytes_19 : decode cX0_addFourBytes 19 = .ok (.getfield 9, 3) := by decide +kernel
theorem dX0_addFourBytes_22 : decode cX0_addFourBytes 22 = .ok (.arraylength, 1) := by decide +kernel
theorem dX0_addFourBytes_23 : decode cX0_addFourBytes 23 = .ok (.if_icmp .ge 29, 3) := by decide +kernel
theorem dX0_addFourBytes_26 : decode cX0_addFourBytes 26 = .ok (.aload_n 0, 1) := by decide +kernel
theorem dX0_addFourBytes_27 : decode cX0_addFourBytes 27 = .ok (.getfield 9, 3) := by decide +kernel
theorem dX0_addFourBytes_30 : decode cX0_addFourBytes 30 = .ok (.aload_n 0, 1) := by decide +kernel
theorem dX0_addFourBytes_31 : decode cX0_addFourBytes 31 = .ok (.getfield 29, 3) := by decide +kernel
theorem dX0_addFourBytes_34 : decode cX0_addFourBytes 34 = .ok (.iload_n 1, 1) := by decide +kernel
theorem dX0_addFourBytes_35 : decode cX0_addFourBytes 35 = .ok (.iload_n 2, 1) := by decide +kernel
theorem dX0_addFourBytes_36 : decode cX0_addFourBytes 36 = .ok (.ishr, 1) := by decide +kernel
theorem dX0_addFourBytes_37 : decode cX0_addFourBytes 37 = .ok (.sipush 255, 3) := by decide +kernel
theorem dX0_addFourBytes_40 : decode cX0_addFourBytes 40 = .ok (.iand, 1) := by decide +kernel
theorem dX0_addFourBytes_41 : decode cX0_addFourBytes 41 = .ok (.iastore, 1) := by decide +kernel
theorem dX0_addFourBytes_42 : decode cX0_addFourBytes 42 = .ok (.aload_n 0, 1) := by decide +kernel
theorem dX0_addFourBytes_43 : decode cX0_addFourBytes 43 = .ok (.dup, 1) := by decide +kernel
theorem dX0_addFourBytes_44 : decode cX0_addFourBytes 44 = .ok (.getfield 29, 3) := by decide +kernel
theorem dX0_addFourBytes_47 : decode cX0_addFourBytes 47 = .ok (.iconst 1, 1) := by decide +kernel
theorem dX0_addFourBytes_48 : decode cX0_addFourBytes 48 = .ok (.iadd, 1) := by decide +kernel
theorem dX0_addFourBytes_49 : decode cX0_addFourBytes 49 = .ok (.putfield 29, 3) := by decide +kernel
theorem dX0_addFourBytes_52 : decode cX0_addFourBytes 52 = .ok (.iinc 2 (-8), 3) := by decide +kernel
theorem dX0_addFourBytes_55 : decode cX0_addFourBytes 55 = .ok (.goto (-52), 3) := by decide +kernel
theorem dX0_addFourBytes_58 : decode cX0_addFourBytes 58 = .ok (.return_, 1) := by decide +kernel
theorem dX0_isWritten_0 : decode cX0_isWritten 0 = .ok (.aload_n 0, 1) := by decide +kernel
theorem dX0_isWritten_1 : decode cX0_isWritten 1 = .ok (.getfield 22, 3) := by decide +kernel
theorem dX0_isWritten_4 : decode cX0_isWritten 4 = .ok (.iload_n 1, 1) := by decide +kernel
theorem dX0_isWritten_5 : decode cX0_isWritten 5 = .ok (.sipush 255, 3) := by decide +kernel
theorem dX0_isWritten_8 : decode cX0_isWritten 8 = .ok (.iand, 1) := by decide +kernel
theorem dX0_isWritten_9 : decode cX0_isWritten 9 = .ok (.baload, 1) := by decide +kernel
theorem dX0_isWritten_10 : decode cX0_isWritten 10 = .ok (.ireturn, 1) := by decide +kernel
theorem dX0_wordFor_0 : decode cX0_wordFor 0 = .ok (.aload_n 0, 1) := by decide +kernel
theorem dX0_wordFor_1 : decode cX0_wordFor 1 = .ok (.getfield 19, 3) := by decide +kernel
theorem dX0_wordFor_4 : decode cX0_wordFor 4 = .ok (.iload_n 1, 1) := by decide +kernel
theorem dX0_wordFor_5 : decode cX0_wordFor 5 = .ok (.sipush 255, 3) := by decide +kernel
theorem dX0_wordFor_8 : decode cX0_wordFor 8 = .ok (.iand, 1) := by decide +kernel
theorem dX0_wordFor_9 : decode cX0_wordFor 9 = .ok (.iaload, 1) := by decide +kernel
theorem dX0_wordFor_10 : decode cX0_wordFor 10 = .ok (.ireturn, 1) := by decide +kernel
theorem dX0_translate_0 : decode cX0_translate 0 = .ok (.aload_n 0, 1) := by decide +kernel
theorem dX0_translate_1 : decode cX0_translate 1 = .ok (.invokevirtual 32, 3) := by decide +kernel
theorem dX0_translate_4 : decode cX0_translate 4 = .ok (.aload_n 0, 1) := by decide +kernel
theorem dX0_translate_5 : decode cX0_translate 5 = .ok (.invokevirtual 35, 3) := by decide +kernel
theorem dX0_translate_8 : decode cX0_translate 8 = .ok (.iconst 0, 1) := by decide +kernel
theorem dX0_translate_9 : decode cX0_translate 9 = .ok (.istore_n 1, 1) := by decide +kernel
theorem dX0_translate_10 : decode cX0_translate 10 = .ok (.iload_n 1, 1) := by decide +kernel
theorem dX0_translate_11 : decode cX0_translate 11 = .ok (.sipush 600, 3) := by decide +kernel
theorem dX0_translate_14 : decode cX0_translate 14 = .ok (.if_icmp .ge 116, 3) := by decide +kernel
theorem dX0_translate_17 : decode cX0_translate 17 = .ok (.aload_n 0, 1) := by decide +kernel
theorem dX0_translate_18 : decode cX0_translate 18 = .ok (.getfield 38, 3) := by decide +kernel
theorem dX0_translate_21 : decode cX0_translate 21 = .ok (.ifCond .eq 109, 3) := by decide +kernel
theorem dX0_translate_24 : decode cX0_translate 24 = .ok (.aload_n 0, 1) := by decide +kernel
theorem dX0_translate_25 : decode cX0_translate 25 = .ok (.getfield 41, 3) := by decide +kernel
theorem dX0_translate_28 : decode cX0_translate 28 = .ok (.ifCond .ne 102, 3) := by decide +kernel
theorem dX0_translate_31 : decode cX0_translate 31 = .ok (.aload_n 0, 1) := by decide +kernel
theorem dX0_translate_32 : decode cX0_translate 32 = .ok (.invokevirtual 44, 3) := by decide +kernel
theorem dX0_translate_35 : decode cX0_translate 35 = .ok (.istore_n 2, 1) := by decide +kernel
theorem dX0_translate_36 : decode cX0_translate 36 = .ok (.aload_n 0, 1) := by decide +kernel
theorem dX0_translate_37 : decode cX0_translate 37 = .ok (.ldc 48, 2) := by decide +kernel
theorem dX0_translate_39 : decode cX0_translate 39 = .ok (.invokevirtual 50, 3) := by decide +kernel
theorem dX0_translate_42 : decode cX0_translate 42 = .ok (.ifCond .eq 18, 3) := by decide +kernel
theorem dX0_translate_45 : decode cX0_translate 45 = .ok (.aload_n 0, 1) := by decide +kernel
theorem dX0_translate_46 : decode cX0_translate 46 = .ok (.invokevirtual 35, 3) := by decide +kernel
theorem dX0_translate_49 : decode cX0_translate 49 = .ok (.aload_n 0, 1) := by decide +kernel
theorem dX0_translate_50 : decode cX0_translate 50 = .ok (.aload_n 0, 1) := by decide +kernel
theorem dX0_translate_51 : decode cX0_translate 51 = .ok (.invokevirtual 54, 3) := by decide +kernel
theorem dX0_translate_54 : decode cX0_translate 54 = .ok (.putfield 57, 3) := by decide +kernel
theorem dX0_translate_57 : decode cX0_translate 57 = .ok (.goto 61, 3) := by decide +kernel
theorem dX0_translate_60 : decode cX0_translate 60 = .ok (.aload_n 0, 1) := by decide +kernel
theorem dX0_translate_61 : decode cX0_translate 61 = .ok (.ldc 60, 2) := by decide +kernel
theorem dX0_translate_63 : decode cX0_translate 63 = .ok (.invokevirtual 50, 3) := by decide +kernel
theorem dX0_translate_66 : decode cX0_translate 66 = .ok (.ifCond .eq 18, 3) := by decide +kernel
theorem dX0_translate_69 : decode cX0_translate 69 = .ok (.aload_n 0, 1) := by decide +kernel
theorem dX0_translate_70 : decode cX0_translate 70 = .ok (.invokevirtual 35, 3) := by decide +kernel
theorem dX0_translate_73 : decode cX0_translate 73 = .ok (.aload_n 0, 1) := by decide +kernel
theorem dX0_translate_74 : decode cX0_translate 74 = .ok (.aload_n 0, 1) := by decide +kernel
theorem dX0_translate_75 : decode cX0_translate 75 = .ok (.invokevirtual 54, 3) := by decide +kernel
theorem dX0_translate_78 : decode cX0_translate 78 = .ok (.putfield 26, 3) := by decide +kernel
theorem dX0_translate_81 : decode cX0_translate 81 = .ok (.goto 37, 3) := by decide +kernel
theorem dX0_translate_84 : decode cX0_translate 84 = .ok (.aload_n 0, 1) := by decide +kernel
theorem dX0_translate_85 : decode cX0_translate 85 = .ok (.ldc 62, 2) := by decide +kernel
theorem dX0_translate_87 : decode cX0_translate 87 = .ok (.invokevirtual 50, 3) := by decide +kernel
theorem dX0_translate_90 : decode cX0_translate 90 = .ok (.ifCond .eq 10, 3) := by decide +kernel
theorem dX0_translate_93 : decode cX0_translate 93 = .ok (.aload_n 0, 1) := by decide +kernel
theorem dX0_translate_94 : decode cX0_translate 94 = .ok (.invokevirtual 64, 3) := by decide +kernel
theorem dX0_translate_97 : decode cX0_translate 97 = .ok (.goto 21, 3) := by decide +kernel
theorem dX0_translate_100 : decode cX0_translate 100 = .ok (.iload_n 2, 1) := by decide +kernel
theorem dX0_translate_101 : decode cX0_translate 101 = .ok (.iconst (-1), 1) := by decide +kernel
theorem dX0_translate_102 : decode cX0_translate 102 = .ok (.if_icmp .eq 11, 3) := by decide +kernel
theorem dX0_translate_105 : decode cX0_translate 105 = .ok (.aload_n 0, 1) := by decide +kernel
theorem dX0_translate_106 : decode cX0_translate 106 = .ok (.iload_n 2, 1) := by decide +kernel
theorem dX0_translate_107 : decode cX0_translate 107 = .ok (.invokevirtual 67, 3) := by decide +kernel
theorem dX0_translate_110 : decode cX0_translate 110 = .ok (.goto 8, 3) := by decide +kernel
theorem dX0_translate_113 : decode cX0_translate 113 = .ok (.aload_n 0, 1) := by decide +kernel
theorem dX0_translate_114 : decode cX0_translate 114 = .ok (.iconst 1, 1) := by decide +kernel
theorem dX0_translate_115 : decode cX0_translate 115 = .ok (.invokevirtual 71, 3) := by decide +kernel
theorem dX0_translate_118 : decode cX0_translate 118 = .ok (.aload_n 0, 1) := by decide +kernel
theorem dX0_translate_119 : decode cX0_translate 119 = .ok (.bipush 59, 2) := by decide +kernel
theorem dX0_translate_121 : decode cX0_translate 121 = .ok (.invokevirtual 74, 3) := by decide +kernel
theorem dX0_translate_124 : decode cX0_translate 124 = .ok (.iinc 1 1, 3) := by decide +kernel
theorem dX0_translate_127 : decode cX0_translate 127 = .ok (.goto (-117), 3) := by decide +kernel
theorem dX0_translate_130 : decode cX0_translate 130 = .ok (.aload_n 0, 1) := by decide +kernel
theorem dX0_translate_131 : decode cX0_translate 131 = .ok (.getfield 41, 3) := by decide +kernel
theorem dX0_translate_134 : decode cX0_translate 134 = .ok (.ifCond .ne 7, 3) := by decide +kernel
theorem dX0_translate_137 : decode cX0_translate 137 = .ok (.iconst 1, 1) := by decide +kernel
theorem dX0_translate_138 : decode cX0_translate 138 = .ok (.goto 4, 3) := by decide +kernel
theorem dX0_translate_141 : decode cX0_translate 141 = .ok (.iconst 0, 1) := by decide +kernel
theorem dX0_translate_142 : decode cX0_translate 142 = .ok (.ireturn, 1) := by decide +kernel
theorem dX0_beginText_0 : decode cX0_beginText 0 = .ok (.iconst 0, 1) := by decide +kernel
theorem dX0_beginText_1 : decode cX0_beginText 1 = .ok (.istore_n 1, 1) := by decide +kernel
theorem dX0_beginText_2 : decode cX0_beginText 2 = .ok (.iload_n 1, 1) := by decide +kernel
theorem dX0_beginText_3 : decode cX0_beginText 3 = .ok (.sipush 256, 3) := by decide +kernel
theorem dX0_beginText_6 : decode cX0_beginText 6 = .ok (.if_icmp .ge 16, 3) := by decide +kernel
theorem dX0_beginText_9 : decode cX0_beginText 9 = .ok (.aload_n 0, 1) := by decide +kernel
theorem dX0_beginText_10 : decode cX0_beginText 10 = .ok (.getfield 22, 3) := by decide +kernel
theorem dX0_beginText_13 : decode cX0_beginText 13 = .ok (.iload_n 1, 1) := by decide +kernel
theorem dX0_beginText_14 : decode cX0_beginText 14 = .ok (.iconst 0, 1) := by decide +kernel
theorem dX0_beginText_15 : decode cX0_beginText 15 = .ok (.bastore, 1) := by decide +kernel
theorem dX0_beginText_16 : decode cX0_beginText 16 = .ok (.iinc 1 1, 3) := by decide +kernel
theorem dX0_beginText_19 : decode cX0_beginText 19 = .ok (.goto (-17), 3) := by decide +kernel
theorem dX0_beginText_22 : decode cX0_beginText 22 = .ok (.aload_n 0, 1) := by decide +kernel
theorem dX0_beginText_23 : decode cX0_beginText 23 = .ok (.iconst 0, 1) := by decide +kernel
theorem dX0_beginText_24 : decode cX0_beginText 24 = .ok (.putfield 77, 3) := by decide +kernel
theorem dX0_beginText_27 : decode cX0_beginText 27 = .ok (.aload_n 0, 1) := by decide +kernel
theorem dX0_beginText_28 : decode cX0_beginText 28 = .ok (.iconst (-1), 1) := by decide +kernel
theorem dX0_beginText_29 : decode cX0_beginText 29 = .ok (.putfield 26, 3) := by decide +kernel
theorem dX0_beginText_32 : decode cX0_beginText 32 = .ok (.aload_n 0, 1) := by decide +kernel
theorem dX0_beginText_33 : decode cX0_beginText 33 = .ok (.iconst 0, 1) := by decide +kernel
theorem dX0_beginText_34 : decode cX0_beginText 34 = .ok (.putfield 57, 3) := by decide +kernel
theorem dX0_beginText_37 : decode cX0_beginText 37 = .ok (.aload_n 0, 1) := by decide +kernel
theorem dX0_beginText_38 : decode cX0_beginText 38 = .ok (.iconst 0, 1) := by decide +kernel
theorem dX0_beginText_39 : decode cX0_beginText 39 = .ok (.putfield 41, 3) := by decide +kernel
theorem dX0_beginText_42 : decode cX0_beginText 42 = .ok (.aload_n 0, 1) := by decide +kernel
theorem dX0_beginText_43 : decode cX0_beginText 43 = .ok (.iconst (-1), 1) := by decide +kernel
theorem dX0_beginText_44 : decode cX0_beginText 44 = .ok (.putfield 15, 3) := by decide +kernel
theorem dX0_beginText_47 : decode cX0_beginText 47 = .ok (.aload_n 0, 1) := by decide +kernel
theorem dX0_beginText_48 : decode cX0_beginText 48 = .ok (.iconst 0, 1) := by decide +kernel
theorem dX0_beginText_49 : decode cX0_beginText 49 = .ok (.putfield 80, 3) := by decide +kernel
theorem dX0_beginText_52 : decode cX0_beginText 52 = .ok (.return_, 1) := by decide +kernel
theorem dX0_readWordStatement_0 : decode cX0_readWordStatement 0 = .ok (.aload_n 0, 1) := by decide +kernel
theorem dX0_readWordStatement_1 : decode cX0_readWordStatement 1 = .ok (.invokevirtual 83, 3) := by decide +kernel
theorem dX0_readWordStatement_4 : decode cX0_readWordStatement 4 = .ok (.aload_n 0, 1) := by decide +kernel
theorem dX0_readWordStatement_5 : decode cX0_readWordStatement 5 = .ok (.invokevirtual 35, 3) := by decide +kernel
theorem dX0_readWordStatement_8 : decode cX0_readWordStatement 8 = .ok (.aload_n 0, 1) := by decide +kernel
theorem dX0_readWordStatement_9 : decode cX0_readWordStatement 9 = .ok (.getfield 38, 3) := by decide +kernel
theorem dX0_readWordStatement_12 : decode cX0_readWordStatement 12 = .ok (.bipush 45, 2) := by decide +kernel
theorem dX0_readWordStatement_14 : decode cX0_readWordStatement 14 = .ok (.if_icmp .ne 7, 3) := by decide +kernel
theorem dX0_readWordStatement_17 : decode cX0_readWordStatement 17 = .ok (.iconst 1, 1) := by decide +kernel
theorem dX0_readWordStatement_18 : decode cX0_readWordStatement 18 = .ok (.goto 4, 3) := by decide +kernel
theorem dX0_readWordStatement_21 : decode cX0_readWordStatement 21 = .ok (.iconst 0, 1) := by decide +kernel
theorem dX0_readWordStatement_22 : decode cX0_readWordStatement 22 = .ok (.istore_n 1, 1) := by decide +kernel
theorem dX0_readWordStatement_23 : decode cX0_readWordStatement 23 = .ok (.iload_n 1, 1) := by decide +kernel
theorem dX0_readWordStatement_24 : decode cX0_readWordStatement 24 = .ok (.ifCond .eq 7, 3) := by decide +kernel
theorem dX0_readWordStatement_27 : decode cX0_readWordStatement 27 = .ok (.aload_n 0, 1) := by decide +kernel
theorem dX0_readWordStatement_28 : decode cX0_readWordStatement 28 = .ok (.invokevirtual 35, 3) := by decide +kernel
theorem dX0_readWordStatement_31 : decode cX0_readWordStatement 31 = .ok (.aload_n 0, 1) := by decide +kernel
theorem dX0_readWordStatement_32 : decode cX0_readWordStatement 32 = .ok (.iload_n 1, 1) := by decide +kernel
theorem dX0_readWordStatement_33 : decode cX0_readWordStatement 33 = .ok (.ifCond .eq 8, 3) := by decide +kernel
theorem dX0_readWordStatement_36 : decode cX0_readWordStatement 36 = .ok (.ldc 86, 2) := by decide +kernel
theorem dX0_readWordStatement_38 : decode cX0_readWordStatement 38 = .ok (.goto 5, 3) := by decide +kernel
theorem dX0_readWordStatement_41 : decode cX0_readWordStatement 41 = .ok (.ldc 87, 2) := by decide +kernel
theorem dX0_readWordStatement_43 : decode cX0_readWordStatement 43 = .ok (.invokevirtual 88, 3) := by decide +kernel
theorem dX0_readWordStatement_46 : decode cX0_readWordStatement 46 = .ok (.istore_n 2, 1) := by decide +kernel
theorem dX0_readWordStatement_47 : decode cX0_readWordStatement 47 = .ok (.aload_n 0, 1) := by decide +kernel
theorem dX0_readWordStatement_48 : decode cX0_readWordStatement 48 = .ok (.iload_n 1, 1) := by decide +kernel
theorem dX0_readWordStatement_49 : decode cX0_readWordStatement 49 = .ok (.ifCond .eq 8, 3) := by decide +kernel
theorem dX0_readWordStatement_52 : decode cX0_readWordStatement 52 = .ok (.iload_n 2, 1) := by decide +kernel
theorem dX0_readWordStatement_53 : decode cX0_readWordStatement 53 = .ok (.ineg, 1) := by decide +kernel
theorem dX0_readWordStatement_54 : decode cX0_readWordStatement 54 = .ok (.goto 4, 3) := by decide +kernel
theorem dX0_readWordStatement_57 : decode cX0_readWordStatement 57 = .ok (.iload_n 2, 1) := by decide +kernel
theorem dX0_readWordStatement_58 : decode cX0_readWordStatement 58 = .ok (.invokevirtual 92, 3) := by decide +kernel
theorem dX0_readWordStatement_61 : decode cX0_readWordStatement 61 = .ok (.return_, 1) := by decide +kernel
theorem dX0_readInstruction_0 : decode cX0_readInstruction 0 = .ok (.aload_n 0, 1) := by decide +kernel
theorem dX0_readInstruction_1 : decode cX0_readInstruction 1 = .ok (.invokevirtual 83, 3) := by decide +kernel
theorem dX0_readInstruction_4 : decode cX0_readInstruction 4 = .ok (.aload_n 0, 1) := by decide +kernel
theorem dX0_readInstruction_5 : decode cX0_readInstruction 5 = .ok (.invokevirtual 35, 3) := by decide +kernel
theorem dX0_readInstruction_8 : decode cX0_readInstruction 8 = .ok (.iconst 0, 1) := by decide +kernel
theorem dX0_readInstruction_9 : decode cX0_readInstruction 9 = .ok (.istore_n 2, 1) := by decide +kernel
theorem dX0_readInstruction_10 : decode cX0_readInstruction 10 = .ok (.iload_n 1, 1) := by decide +kernel
theorem dX0_readInstruction_11 : decode cX0_readInstruction 11 = .ok (.invokestatic 95, 3) := by decide +kernel
theorem dX0_readInstruction_14 : decode cX0_readInstruction 14 = .ok (.istore_n 3, 1) := by decide +kernel
theorem dX0_readInstruction_15 : decode cX0_readInstruction 15 = .ok (.iload_n 3, 1) := by decide +kernel
theorem dX0_readInstruction_16 : decode cX0_readInstruction 16 = .ok (.iconst 1, 1) := by decide +kernel
theorem dX0_readInstruction_17 : decode cX0_readInstruction 17 = .ok (.if_icmp .ne 11, 3) := by decide +kernel
theorem dX0_readInstruction_20 : decode cX0_readInstruction 20 = .ok (.aload_n 0, 1) := by decide +kernel
theorem dX0_readInstruction_21 : decode cX0_readInstruction 21 = .ok (.invokevirtual 54, 3) := by decide +kernel
theorem dX0_readInstruction_24 : decode cX0_readInstruction 24 = .ok (.istore_n 2, 1) := by decide +kernel
theorem dX0_readInstruction_25 : decode cX0_readInstruction 25 = .ok (.goto 15, 3) := by decide +kernel
theorem dX0_readInstruction_28 : decode cX0_readInstruction 28 = .ok (.iload_n 3, 1) := by decide +kernel
theorem dX0_readInstruction_29 : decode cX0_readInstruction 29 = .ok (.iconst 2, 1) := by decide +kernel
theorem dX0_readInstruction_30 : decode cX0_readInstruction 30 = .ok (.if_icmp .ne 10, 3) := by decide +kernel
theorem dX0_readInstruction_33 : decode cX0_readInstruction 33 = .ok (.aload_n 0, 1) := by decide +kernel
theorem dX0_readInstruction_34 : decode cX0_readInstruction 34 = .ok (.bipush 31, 2) := by decide +kernel
theorem dX0_readInstruction_36 : decode cX0_readInstruction 36 = .ok (.invokevirtual 88, 3) := by decide +kernel
theorem dX0_readInstruction_39 : decode cX0_readInstruction 39 = .ok (.istore_n 2, 1) := by decide +kernel
theorem dX0_readInstruction_40 : decode cX0_readInstruction 40 = .ok (.aload_n 0, 1) := by decide +kernel
theorem dX0_readInstruction_41 : decode cX0_readInstruction 41 = .ok (.invokevirtual 100, 3) := by decide +kernel
theorem dX0_readInstruction_44 : decode cX0_readInstruction 44 = .ok (.istore 4, 2) := by decide +kernel
theorem dX0_readInstruction_46 : decode cX0_readInstruction 46 = .ok (.aload_n 0, 1) := by decide +kernel
theorem dX0_readInstruction_47 : decode cX0_readInstruction 47 = .ok (.ldc 103, 2) := by decide +kernel
theorem dX0_readInstruction_49 : decode cX0_readInstruction 49 = .ok (.invokevirtual 50, 3) := by decide +kernel
theorem dX0_readInstruction_52 : decode cX0_readInstruction 52 = .ok (.ifCond .eq 13, 3) := by decide +kernel
theorem dX0_readInstruction_55 : decode cX0_readInstruction 55 = .ok (.aload_n 0, 1) := by decide +kernel
theorem dX0_readInstruction_56 : decode cX0_readInstruction 56 = .ok (.invokevirtual 35, 3) := by decide +kernel
theorem dX0_readInstruction_59 : decode cX0_readInstruction 59 = .ok (.aload_n 0, 1) := by decide +kernel
theorem dX0_readInstruction_60 : decode cX0_readInstruction 60 = .ok (.invokevirtual 54, 3) := by decide +kernel
theorem dX0_readInstruction_63 : decode cX0_readInstruction 63 = .ok (.istore 4, 2) := by decide +kernel
theorem dX0_readInstruction_65 : decode cX0_readInstruction 65 = .ok (.aload_n 0, 1) := by decide +kernel
theorem dX0_readInstruction_66 : decode cX0_readInstruction 66 = .ok (.iload_n 1, 1) := by decide +kernel
theorem dX0_readInstruction_67 : decode cX0_readInstruction 67 = .ok (.iload_n 2, 1) := by decide +kernel
theorem dX0_readInstruction_68 : decode cX0_readInstruction 68 = .ok (.iload 4, 2) := by decide +kernel
theorem dX0_readInstruction_70 : decode cX0_readInstruction 70 = .ok (.invokestatic 105, 3) := by decide +kernel
theorem dX0_readInstruction_73 : decode cX0_readInstruction 73 = .ok (.invokevirtual 92, 3) := by decide +kernel
theorem dX0_readInstruction_76 : decode cX0_readInstruction 76 = .ok (.return_, 1) := by decide +kernel
theorem dX0_readLocation_0 : decode cX0_readLocation 0 = .ok (.aload_n 0, 1) := by decide +kernel
theorem dX0_readLocation_1 : decode cX0_readLocation 1 = .ok (.bipush 7, 2) := by decide +kernel
theorem dX0_readLocation_3 : decode cX0_readLocation 3 = .ok (.invokevirtual 88, 3) := by decide +kernel
theorem dX0_readLocation_6 : decode cX0_readLocation 6 = .ok (.istore_n 1, 1) := by decide +kernel
theorem dX0_readLocation_7 : decode cX0_readLocation 7 = .ok (.aload_n 0, 1) := by decide +kernel
theorem dX0_readLocation_8 : decode cX0_readLocation 8 = .ok (.bipush 46, 2) := by decide +kernel
theorem dX0_readLocation_10 : decode cX0_readLocation 10 = .ok (.invokevirtual 74, 3) := by decide +kernel
theorem dX0_readLocation_13 : decode cX0_readLocation 13 = .ok (.aload_n 0, 1) := by decide +kernel
theorem dX0_readLocation_14 : decode cX0_readLocation 14 = .ok (.bipush 31, 2) := by decide +kernel
theorem dX0_readLocation_16 : decode cX0_readLocation 16 = .ok (.invokevirtual 88, 3) := by decide +kernel
theorem dX0_readLocation_19 : decode cX0_readLocation 19 = .ok (.istore_n 2, 1) := by decide +kernel
theorem dX0_readLocation_20 : decode cX0_readLocation 20 = .ok (.iload_n 1, 1) := by decide +kernel
theorem dX0_readLocation_21 : decode cX0_readLocation 21 = .ok (.iload_n 2, 1) := by decide +kernel
theorem dX0_readLocation_22 : decode cX0_readLocation 22 = .ok (.invokestatic 109, 3) := by decide +kernel
theorem dX0_readLocation_25 : decode cX0_readLocation 25 = .ok (.ireturn, 1) := by decide +kernel
theorem dX0_readNumber_0 : decode cX0_readNumber 0 = .ok (.aload_n 0, 1) := by decide +kernel
theorem dX0_readNumber_1 : decode cX0_readNumber 1 = .ok (.getfield 38, 3) := by decide +kernel
theorem dX0_readNumber_4 : decode cX0_readNumber 4 = .ok (.iconst 2, 1) := by decide +kernel
theorem dX0_readNumber_5 : decode cX0_readNumber 5 = .ok (.if_icmp .eq 10, 3) := by decide +kernel
theorem dX0_readNumber_8 : decode cX0_readNumber 8 = .ok (.aload_n 0, 1) := by decide +kernel
theorem dX0_readNumber_9 : decode cX0_readNumber 9 = .ok (.iconst 1, 1) := by decide +kernel
theorem dX0_readNumber_10 : decode cX0_readNumber 10 = .ok (.invokevirtual 71, 3) := by decide +kernel
theorem dX0_readNumber_13 : decode cX0_readNumber 13 = .ok (.iconst 0, 1) := by decide +kernel
theorem dX0_readNumber_14 : decode cX0_readNumber 14 = .ok (.ireturn, 1) := by decide +kernel
theorem dX0_readNumber_15 : decode cX0_readNumber 15 = .ok (.aload_n 0, 1) := by decide +kernel
theorem dX0_readNumber_16 : decode cX0_readNumber 16 = .ok (.getfield 113, 3) := by decide +kernel
theorem dX0_readNumber_19 : decode cX0_readNumber 19 = .ok (.iload_n 1, 1) := by decide +kernel
theorem dX0_readNumber_20 : decode cX0_readNumber 20 = .ok (.if_icmp .le 10, 3) := by decide +kernel
theorem dX0_readNumber_23 : decode cX0_readNumber 23 = .ok (.aload_n 0, 1) := by decide +kernel
theorem dX0_readNumber_24 : decode cX0_readNumber 24 = .ok (.iconst 2, 1) := by decide +kernel
theorem dX0_readNumber_25 : decode cX0_readNumber 25 = .ok (.invokevirtual 71, 3) := by decide +kernel
theorem dX0_readNumber_28 : decode cX0_readNumber 28 = .ok (.iconst 0, 1) := by decide +kernel
theorem dX0_readNumber_29 : decode cX0_readNumber 29 = .ok (.ireturn, 1) := by decide +kernel
theorem dX0_readNumber_30 : decode cX0_readNumber 30 = .ok (.aload_n 0, 1) := by decide +kernel
theorem dX0_readNumber_31 : decode cX0_readNumber 31 = .ok (.getfield 113, 3) := by decide +kernel
theorem dX0_readNumber_34 : decode cX0_readNumber 34 = .ok (.istore_n 2, 1) := by decide +kernel
theorem dX0_readNumber_35 : decode cX0_readNumber 35 = .ok (.aload_n 0, 1) := by decide +kernel
theorem dX0_readNumber_36 : decode cX0_readNumber 36 = .ok (.invokevirtual 35, 3) := by decide +kernel
theorem dX0_readNumber_39 : decode cX0_readNumber 39 = .ok (.iload_n 2, 1) := by decide +kernel
theorem dX0_readNumber_40 : decode cX0_readNumber 40 = .ok (.ireturn, 1) := by decide +kernel
theorem dX0_readSymbol_0 : decode cX0_readSymbol 0 = .ok (.aload_n 0, 1) := by decide +kernel
theorem dX0_readSymbol_1 : decode cX0_readSymbol 1 = .ok (.getfield 38, 3) := by decide +kernel
theorem dX0_readSymbol_4 : decode cX0_readSymbol 4 = .ok (.iload_n 1, 1) := by decide +kernel
theorem dX0_readSymbol_5 : decode cX0_readSymbol 5 = .ok (.if_icmp .ne 10, 3) := by decide +kernel
theorem dX0_readSymbol_8 : decode cX0_readSymbol 8 = .ok (.aload_n 0, 1) := by decide +kernel
theorem dX0_readSymbol_9 : decode cX0_readSymbol 9 = .ok (.invokevirtual 35, 3) := by decide +kernel
theorem dX0_readSymbol_12 : decode cX0_readSymbol 12 = .ok (.goto 8, 3) := by decide +kernel
theorem dX0_readSymbol_15 : decode cX0_readSymbol 15 = .ok (.aload_n 0, 1) := by decide +kernel
theorem dX0_readSymbol_16 : decode cX0_readSymbol 16 = .ok (.iconst 1, 1) := by decide +kernel
theorem dX0_readSymbol_17 : decode cX0_readSymbol 17 = .ok (.invokevirtual 71, 3) := by decide +kernel
theorem dX0_readSymbol_20 : decode cX0_readSymbol 20 = .ok (.return_, 1) := by decide +kernel
theorem dX0_refuseWrittenPlace_0 : decode cX0_refuseWrittenPlace 0 = .ok (.aload_n 0, 1) := by decide +kernel
theorem dX0_refuseWrittenPlace_1 : decode cX0_refuseWrittenPlace 1 = .ok (.aload_n 0, 1) := by decide +kernel
theorem dX0_refuseWrittenPlace_2 : decode cX0_refuseWrittenPlace 2 = .ok (.getfield 57, 3) := by decide +kernel
theorem dX0_refuseWrittenPlace_5 : decode cX0_refuseWrittenPlace 5 = .ok (.invokevirtual 116, 3) := by decide +kernel
theorem dX0_refuseWrittenPlace_8 : decode cX0_refuseWrittenPlace 8 = .ok (.ifCond .eq 8, 3) := by decide +kernel
theorem dX0_refuseWrittenPlace_11 : decode cX0_refuseWrittenPlace 11 = .ok (.aload_n 0, 1) := by decide +kernel
theorem dX0_refuseWrittenPlace_12 : decode cX0_refuseWrittenPlace 12 = .ok (.iconst 3, 1) := by decide +kernel
theorem dX0_refuseWrittenPlace_13 : decode cX0_refuseWrittenPlace 13 = .ok (.invokevirtual 71, 3) := by decide +kernel
theorem dX0_refuseWrittenPlace_16 : decode cX0_refuseWrittenPlace 16 = .ok (.return_, 1) := by decide +kernel
theorem dX0_write_0 : decode cX0_write 0 = .ok (.aload_n 0, 1) := by decide +kernel
theorem dX0_write_1 : decode cX0_write 1 = .ok (.getfield 19, 3) := by decide +kernel
theorem dX0_write_4 : decode cX0_write 4 = .ok (.aload_n 0, 1) := by decide +kernel
theorem dX0_write_5 : decode cX0_write 5 = .ok (.getfield 57, 3) := by decide +kernel
theorem dX0_write_8 : decode cX0_write 8 = .ok (.sipush 255, 3) := by decide +kernel
theorem dX0_write_11 : decode cX0_write 11 = .ok (.iand, 1) := by decide +kernel
theorem dX0_write_12 : decode cX0_write 12 = .ok (.iload_n 1, 1) := by decide +kernel
theorem dX0_write_13 : decode cX0_write 13 = .ok (.iastore, 1) := by decide +kernel
theorem dX0_write_14 : decode cX0_write 14 = .ok (.aload_n 0, 1) := by decide +kernel
theorem dX0_write_15 : decode cX0_write 15 = .ok (.getfield 22, 3) := by decide +kernel
theorem dX0_write_18 : decode cX0_write 18 = .ok (.aload_n 0, 1) := by decide +kernel
theorem dX0_write_19 : decode cX0_write 19 = .ok (.getfield 57, 3) := by decide +kernel
theorem dX0_write_22 : decode cX0_write 22 = .ok (.sipush 255, 3) := by decide +kernel
theorem dX0_write_25 : decode cX0_write 25 = .ok (.iand, 1) := by decide +kernel
theorem dX0_write_26 : decode cX0_write 26 = .ok (.iconst 1, 1) := by decide +kernel
theorem dX0_write_27 : decode cX0_write 27 = .ok (.bastore, 1) := by decide +kernel
theorem dX0_write_28 : decode cX0_write 28 = .ok (.aload_n 0, 1) := by decide +kernel
theorem dX0_write_29 : decode cX0_write 29 = .ok (.dup, 1) := by decide +kernel
theorem dX0_write_30 : decode cX0_write 30 = .ok (.getfield 77, 3) := by decide +kernel
theorem dX0_write_33 : decode cX0_write 33 = .ok (.iconst 1, 1) := by decide +kernel
theorem dX0_write_34 : decode cX0_write 34 = .ok (.iadd, 1) := by decide +kernel
theorem dX0_write_35 : decode cX0_write 35 = .ok (.putfield 77, 3) := by decide +kernel
theorem dX0_write_38 : decode cX0_write 38 = .ok (.aload_n 0, 1) := by decide +kernel
theorem dX0_write_39 : decode cX0_write 39 = .ok (.aload_n 0, 1) := by decide +kernel
theorem dX0_write_40 : decode cX0_write 40 = .ok (.invokevirtual 100, 3) := by decide +kernel
theorem dX0_write_43 : decode cX0_write 43 = .ok (.putfield 57, 3) := by decide +kernel
theorem dX0_write_46 : decode cX0_write 46 = .ok (.return_, 1) := by decide +kernel
theorem dX0_placeAfter_0 : decode cX0_placeAfter 0 = .ok (.aload_n 0, 1) := by decide +kernel
theorem dX0_placeAfter_1 : decode cX0_placeAfter 1 = .ok (.getfield 57, 3) := by decide +kernel
theorem dX0_placeAfter_4 : decode cX0_placeAfter 4 = .ok (.bipush 32, 2) := by decide +kernel
theorem dX0_placeAfter_6 : decode cX0_placeAfter 6 = .ok (.idiv, 1) := by decide +kernel
theorem dX0_placeAfter_7 : decode cX0_placeAfter 7 = .ok (.aload_n 0, 1) := by decide +kernel
theorem dX0_placeAfter_8 : decode cX0_placeAfter 8 = .ok (.getfield 57, 3) := by decide +kernel
theorem dX0_placeAfter_11 : decode cX0_placeAfter 11 = .ok (.iconst 1, 1) := by decide +kernel
theorem dX0_placeAfter_12 : decode cX0_placeAfter 12 = .ok (.iadd, 1) := by decide +kernel
theorem dX0_placeAfter_13 : decode cX0_placeAfter 13 = .ok (.invokestatic 120, 3) := by decide +kernel
theorem dX0_placeAfter_16 : decode cX0_placeAfter 16 = .ok (.invokestatic 109, 3) := by decide +kernel
theorem dX0_placeAfter_19 : decode cX0_placeAfter 19 = .ok (.ireturn, 1) := by decide +kernel
theorem dX0_fail_0 : decode cX0_fail 0 = .ok (.aload_n 0, 1) := by decide +kernel
theorem dX0_fail_1 : decode cX0_fail 1 = .ok (.getfield 41, 3) := by decide +kernel
theorem dX0_fail_4 : decode cX0_fail 4 = .ok (.ifCond .ne 16, 3) := by decide +kernel
theorem dX0_fail_7 : decode cX0_fail 7 = .ok (.aload_n 0, 1) := by decide +kernel
theorem dX0_fail_8 : decode cX0_fail 8 = .ok (.iload_n 1, 1) := by decide +kernel
theorem dX0_fail_9 : decode cX0_fail 9 = .ok (.putfield 41, 3) := by decide +kernel
theorem dX0_fail_12 : decode cX0_fail 12 = .ok (.aload_n 0, 1) := by decide +kernel
theorem dX0_fail_13 : decode cX0_fail 13 = .ok (.aload_n 0, 1) := by decide +kernel
theorem dX0_fail_14 : decode cX0_fail 14 = .ok (.getfield 123, 3) := by decide +kernel
theorem dX0_fail_17 : decode cX0_fail 17 = .ok (.putfield 15, 3) := by decide +kernel
theorem dX0_fail_20 : decode cX0_fail 20 = .ok (.return_, 1) := by decide +kernel
theorem dX0_opcodeOfToken_0 : decode cX0_opcodeOfToken 0 = .ok (.iconst 0, 1) := by decide +kernel
theorem dX0_opcodeOfToken_1 : decode cX0_opcodeOfToken 1 = .ok (.istore_n 1, 1) := by decide +kernel
theorem dX0_opcodeOfToken_2 : decode cX0_opcodeOfToken 2 = .ok (.iload_n 1, 1) := by decide +kernel
theorem dX0_opcodeOfToken_3 : decode cX0_opcodeOfToken 3 = .ok (.bipush 16, 2) := by decide +kernel
theorem dX0_opcodeOfToken_5 : decode cX0_opcodeOfToken 5 = .ok (.if_icmp .ge 22, 3) := by decide +kernel
theorem dX0_opcodeOfToken_8 : decode cX0_opcodeOfToken 8 = .ok (.aload_n 0, 1) := by decide +kernel
theorem dX0_opcodeOfToken_9 : decode cX0_opcodeOfToken 9 = .ok (.iload_n 1, 1) := by decide +kernel
theorem dX0_opcodeOfToken_10 : decode cX0_opcodeOfToken 10 = .ok (.invokestatic 126, 3) := by decide +kernel
theorem dX0_opcodeOfToken_13 : decode cX0_opcodeOfToken 13 = .ok (.invokevirtual 50, 3) := by decide +kernel
theorem dX0_opcodeOfToken_16 : decode cX0_opcodeOfToken 16 = .ok (.ifCond .eq 5, 3) := by decide +kernel
theorem dX0_opcodeOfToken_19 : decode cX0_opcodeOfToken 19 = .ok (.iload_n 1, 1) := by decide +kernel
theorem dX0_opcodeOfToken_20 : decode cX0_opcodeOfToken 20 = .ok (.ireturn, 1) := by decide +kernel
theorem dX0_opcodeOfToken_21 : decode cX0_opcodeOfToken 21 = .ok (.iinc 1 1, 3) := by decide +kernel
theorem dX0_opcodeOfToken_24 : decode cX0_opcodeOfToken 24 = .ok (.goto (-22), 3) := by decide +kernel
theorem dX0_opcodeOfToken_27 : decode cX0_opcodeOfToken 27 = .ok (.iconst (-1), 1) := by decide +kernel
theorem dX0_opcodeOfToken_28 : decode cX0_opcodeOfToken 28 = .ok (.ireturn, 1) := by decide +kernel
theorem dX0_tokenIs_0 : decode cX0_tokenIs 0 = .ok (.aload_n 0, 1) := by decide +kernel
theorem dX0_tokenIs_1 : decode cX0_tokenIs 1 = .ok (.getfield 38, 3) := by decide +kernel
theorem dX0_tokenIs_4 : decode cX0_tokenIs 4 = .ok (.iconst 1, 1) := by decide +kernel
theorem dX0_tokenIs_5 : decode cX0_tokenIs 5 = .ok (.if_icmp .ne 19, 3) := by decide +kernel
theorem dX0_tokenIs_8 : decode cX0_tokenIs 8 = .ok (.aload_n 0, 1) := by decide +kernel
theorem dX0_tokenIs_9 : decode cX0_tokenIs 9 = .ok (.getfield 80, 3) := by decide +kernel
theorem dX0_tokenIs_12 : decode cX0_tokenIs 12 = .ok (.aload_n 0, 1) := by decide +kernel
theorem dX0_tokenIs_13 : decode cX0_tokenIs 13 = .ok (.getfield 123, 3) := by decide +kernel
theorem dX0_tokenIs_16 : decode cX0_tokenIs 16 = .ok (.isub, 1) := by decide +kernel
theorem dX0_tokenIs_17 : decode cX0_tokenIs 17 = .ok (.aload_n 1, 1) := by decide +kernel
theorem dX0_tokenIs_18 : decode cX0_tokenIs 18 = .ok (.invokevirtual 130, 3) := by decide +kernel
theorem dX0_tokenIs_21 : decode cX0_tokenIs 21 = .ok (.if_icmp .eq 5, 3) := by decide +kernel
theorem dX0_tokenIs_24 : decode cX0_tokenIs 24 = .ok (.iconst 0, 1) := by decide +kernel
theorem dX0_tokenIs_25 : decode cX0_tokenIs 25 = .ok (.ireturn, 1) := by decide +kernel
theorem dX0_tokenIs_26 : decode cX0_tokenIs 26 = .ok (.iconst 0, 1) := by decide +kernel
theorem dX0_tokenIs_27 : decode cX0_tokenIs 27 = .ok (.istore_n 2, 1) := by decide +kernel
theorem dX0_tokenIs_28 : decode cX0_tokenIs 28 = .ok (.iload_n 2, 1) := by decide +kernel
theorem dX0_tokenIs_29 : decode cX0_tokenIs 29 = .ok (.aload_n 1, 1) := by decide +kernel
theorem dX0_tokenIs_30 : decode cX0_tokenIs 30 = .ok (.invokevirtual 130, 3) := by decide +kernel
theorem dX0_tokenIs_33 : decode cX0_tokenIs 33 = .ok (.if_icmp .ge 29, 3) := by decide +kernel
theorem dX0_tokenIs_36 : decode cX0_tokenIs 36 = .ok (.aload_n 0, 1) := by decide +kernel
theorem dX0_tokenIs_37 : decode cX0_tokenIs 37 = .ok (.aload_n 0, 1) := by decide +kernel
theorem dX0_tokenIs_38 : decode cX0_tokenIs 38 = .ok (.getfield 123, 3) := by decide +kernel
theorem dX0_tokenIs_41 : decode cX0_tokenIs 41 = .ok (.iload_n 2, 1) := by decide +kernel
theorem dX0_tokenIs_42 : decode cX0_tokenIs 42 = .ok (.iadd, 1) := by decide +kernel
theorem dX0_tokenIs_43 : decode cX0_tokenIs 43 = .ok (.invokevirtual 134, 3) := by decide +kernel
theorem dX0_tokenIs_46 : decode cX0_tokenIs 46 = .ok (.aload_n 1, 1) := by decide +kernel
theorem dX0_tokenIs_47 : decode cX0_tokenIs 47 = .ok (.iload_n 2, 1) := by decide +kernel
theorem dX0_tokenIs_48 : decode cX0_tokenIs 48 = .ok (.invokevirtual 137, 3) := by decide +kernel
theorem dX0_tokenIs_51 : decode cX0_tokenIs 51 = .ok (.if_icmp .eq 5, 3) := by decide +kernel
theorem dX0_tokenIs_54 : decode cX0_tokenIs 54 = .ok (.iconst 0, 1) := by decide +kernel
theorem dX0_tokenIs_55 : decode cX0_tokenIs 55 = .ok (.ireturn, 1) := by decide +kernel
theorem dX0_tokenIs_56 : decode cX0_tokenIs 56 = .ok (.iinc 2 1, 3) := by decide +kernel
theorem dX0_tokenIs_59 : decode cX0_tokenIs 59 = .ok (.goto (-31), 3) := by decide +kernel
theorem dX0_tokenIs_62 : decode cX0_tokenIs 62 = .ok (.iconst 1, 1) := by decide +kernel
theorem dX0_tokenIs_63 : decode cX0_tokenIs 63 = .ok (.ireturn, 1) := by decide +kernel
theorem dX0_readToken_0 : decode cX0_readToken 0 = .ok (.aload_n 0, 1) := by decide +kernel
theorem dX0_readToken_1 : decode cX0_readToken 1 = .ok (.aload_n 0, 1) := by decide +kernel
theorem dX0_readToken_2 : decode cX0_readToken 2 = .ok (.getfield 80, 3) := by decide +kernel
theorem dX0_readToken_5 : decode cX0_readToken 5 = .ok (.putfield 123, 3) := by decide +kernel
theorem dX0_readToken_8 : decode cX0_readToken 8 = .ok (.aload_n 0, 1) := by decide +kernel
theorem dX0_readToken_9 : decode cX0_readToken 9 = .ok (.getfield 123, 3) := by decide +kernel
theorem dX0_readToken_12 : decode cX0_readToken 12 = .ok (.aload_n 0, 1) := by decide +kernel
theorem dX0_readToken_13 : decode cX0_readToken 13 = .ok (.getfield 29, 3) := by decide +kernel
theorem dX0_readToken_16 : decode cX0_readToken 16 = .ok (.if_icmp .ge 30, 3) := by decide +kernel
theorem dX0_readToken_19 : decode cX0_readToken 19 = .ok (.aload_n 0, 1) := by decide +kernel
theorem dX0_readToken_20 : decode cX0_readToken 20 = .ok (.aload_n 0, 1) := by decide +kernel
theorem dX0_readToken_21 : decode cX0_readToken 21 = .ok (.getfield 123, 3) := by decide +kernel
theorem dX0_readToken_24 : decode cX0_readToken 24 = .ok (.invokevirtual 134, 3) := by decide +kernel
theorem dX0_readToken_27 : decode cX0_readToken 27 = .ok (.invokestatic 141, 3) := by decide +kernel
theorem dX0_readToken_30 : decode cX0_readToken 30 = .ok (.ifCond .eq 16, 3) := by decide +kernel
theorem dX0_readToken_33 : decode cX0_readToken 33 = .ok (.aload_n 0, 1) := by decide +kernel
theorem dX0_readToken_34 : decode cX0_readToken 34 = .ok (.dup, 1) := by decide +kernel
theorem dX0_readToken_35 : decode cX0_readToken 35 = .ok (.getfield 123, 3) := by decide +kernel
theorem dX0_readToken_38 : decode cX0_readToken 38 = .ok (.iconst 1, 1) := by decide +kernel
theorem dX0_readToken_39 : decode cX0_readToken 39 = .ok (.iadd, 1) := by decide +kernel
theorem dX0_readToken_40 : decode cX0_readToken 40 = .ok (.putfield 123, 3) := by decide +kernel
theorem dX0_readToken_43 : decode cX0_readToken 43 = .ok (.goto (-35), 3) := by decide +kernel
theorem dX0_readToken_46 : decode cX0_readToken 46 = .ok (.aload_n 0, 1) := by decide +kernel
theorem dX0_readToken_47 : decode cX0_readToken 47 = .ok (.aload_n 0, 1) := by decide +kernel
theorem dX0_readToken_48 : decode cX0_readToken 48 = .ok (.getfield 123, 3) := by decide +kernel
theorem dX0_readToken_51 : decode cX0_readToken 51 = .ok (.invokevirtual 134, 3) := by decide +kernel
theorem dX0_readToken_54 : decode cX0_readToken 54 = .ok (.istore_n 1, 1) := by decide +kernel
theorem dX0_readToken_55 : decode cX0_readToken 55 = .ok (.aload_n 0, 1) := by decide +kernel
theorem dX0_readToken_56 : decode cX0_readToken 56 = .ok (.aload_n 0, 1) := by decide +kernel
theorem dX0_readToken_57 : decode cX0_readToken 57 = .ok (.getfield 123, 3) := by decide +kernel
theorem dX0_readToken_60 : decode cX0_readToken 60 = .ok (.iconst 1, 1) := by decide +kernel
theorem dX0_readToken_61 : decode cX0_readToken 61 = .ok (.iadd, 1) := by decide +kernel
theorem dX0_readToken_62 : decode cX0_readToken 62 = .ok (.aload_n 0, 1) := by decide +kernel
theorem dX0_readToken_63 : decode cX0_readToken 63 = .ok (.getfield 29, 3) := by decide +kernel
theorem dX0_readToken_66 : decode cX0_readToken 66 = .ok (.invokestatic 144, 3) := by decide +kernel
theorem dX0_readToken_69 : decode cX0_readToken 69 = .ok (.putfield 80, 3) := by decide +kernel
theorem dX0_readToken_72 : decode cX0_readToken 72 = .ok (.aload_n 0, 1) := by decide +kernel
theorem dX0_readToken_73 : decode cX0_readToken 73 = .ok (.getfield 123, 3) := by decide +kernel
theorem dX0_readToken_76 : decode cX0_readToken 76 = .ok (.aload_n 0, 1) := by decide +kernel
theorem dX0_readToken_77 : decode cX0_readToken 77 = .ok (.getfield 29, 3) := by decide +kernel
theorem dX0_readToken_80 : decode cX0_readToken 80 = .ok (.if_icmp .lt 11, 3) := by decide +kernel
theorem dX0_readToken_83 : decode cX0_readToken 83 = .ok (.aload_n 0, 1) := by decide +kernel
theorem dX0_readToken_84 : decode cX0_readToken 84 = .ok (.iconst 0, 1) := by decide +kernel
theorem dX0_readToken_85 : decode cX0_readToken 85 = .ok (.putfield 38, 3) := by decide +kernel
theorem dX0_readToken_88 : decode cX0_readToken 88 = .ok (.goto 63, 3) := by decide +kernel
theorem dX0_readToken_91 : decode cX0_readToken 91 = .ok (.iload_n 1, 1) := by decide +kernel
theorem dX0_readToken_92 : decode cX0_readToken 92 = .ok (.invokestatic 149, 3) := by decide +kernel
theorem dX0_readToken_95 : decode cX0_readToken 95 = .ok (.ifCond .eq 15, 3) := by decide +kernel
theorem dX0_readToken_98 : decode cX0_readToken 98 = .ok (.aload_n 0, 1) := by decide +kernel
theorem dX0_readToken_99 : decode cX0_readToken 99 = .ok (.iconst 1, 1) := by decide +kernel
theorem dX0_readToken_100 : decode cX0_readToken 100 = .ok (.putfield 38, 3) := by decide +kernel
theorem dX0_readToken_103 : decode cX0_readToken 103 = .ok (.aload_n 0, 1) := by decide +kernel
theorem dX0_readToken_104 : decode cX0_readToken 104 = .ok (.invokevirtual 152, 3) := by decide +kernel
theorem dX0_readToken_107 : decode cX0_readToken 107 = .ok (.goto 44, 3) := by decide +kernel
theorem dX0_readToken_110 : decode cX0_readToken 110 = .ok (.iload_n 1, 1) := by decide +kernel
theorem dX0_readToken_111 : decode cX0_readToken 111 = .ok (.invokestatic 155, 3) := by decide +kernel
theorem dX0_readToken_114 : decode cX0_readToken 114 = .ok (.ifCond .eq 10, 3) := by decide +kernel
theorem dX0_readToken_117 : decode cX0_readToken 117 = .ok (.aload_n 0, 1) := by decide +kernel
theorem dX0_readToken_118 : decode cX0_readToken 118 = .ok (.invokevirtual 158, 3) := by decide +kernel
theorem dX0_readToken_121 : decode cX0_readToken 121 = .ok (.goto 30, 3) := by decide +kernel
theorem dX0_readToken_124 : decode cX0_readToken 124 = .ok (.aload_n 0, 1) := by decide +kernel
theorem dX0_readToken_125 : decode cX0_readToken 125 = .ok (.iload_n 1, 1) := by decide +kernel
theorem dX0_readToken_126 : decode cX0_readToken 126 = .ok (.bipush 46, 2) := by decide +kernel
theorem dX0_readToken_128 : decode cX0_readToken 128 = .ok (.if_icmp .eq 15, 3) := by decide +kernel
theorem dX0_readToken_131 : decode cX0_readToken 131 = .ok (.iload_n 1, 1) := by decide +kernel
theorem dX0_readToken_132 : decode cX0_readToken 132 = .ok (.bipush 59, 2) := by decide +kernel
theorem dX0_readToken_134 : decode cX0_readToken 134 = .ok (.if_icmp .eq 9, 3) := by decide +kernel
theorem dX0_readToken_137 : decode cX0_readToken 137 = .ok (.iload_n 1, 1) := by decide +kernel
theorem dX0_readToken_138 : decode cX0_readToken 138 = .ok (.bipush 45, 2) := by decide +kernel
theorem dX0_readToken_140 : decode cX0_readToken 140 = .ok (.if_icmp .ne 7, 3) := by decide +kernel
theorem dX0_readToken_143 : decode cX0_readToken 143 = .ok (.iload_n 1, 1) := by decide +kernel
theorem dX0_readToken_144 : decode cX0_readToken 144 = .ok (.goto 4, 3) := by decide +kernel
theorem dX0_readToken_147 : decode cX0_readToken 147 = .ok (.iconst 3, 1) := by decide +kernel
theorem dX0_readToken_148 : decode cX0_readToken 148 = .ok (.putfield 38, 3) := by decide +kernel
theorem dX0_readToken_151 : decode cX0_readToken 151 = .ok (.return_, 1) := by decide +kernel
theorem dX0_readLetters_0 : decode cX0_readLetters 0 = .ok (.aload_n 0, 1) := by decide +kernel
theorem dX0_readLetters_1 : decode cX0_readLetters 1 = .ok (.getfield 80, 3) := by decide +kernel
theorem dX0_readLetters_4 : decode cX0_readLetters 4 = .ok (.aload_n 0, 1) := by decide +kernel
theorem dX0_readLetters_5 : decode cX0_readLetters 5 = .ok (.getfield 29, 3) := by decide +kernel
theorem dX0_readLetters_8 : decode cX0_readLetters 8 = .ok (.if_icmp .ge 30, 3) := by decide +kernel
theorem dX0_readLetters_11 : decode cX0_readLetters 11 = .ok (.aload_n 0, 1) := by decide +kernel
theorem dX0_readLetters_12 : decode cX0_readLetters 12 = .ok (.aload_n 0, 1) := by decide +kernel
theorem dX0_readLetters_13 : decode cX0_readLetters 13 = .ok (.getfield 80, 3) := by decide +kernel
theorem dX0_readLetters_16 : decode cX0_readLetters 16 = .ok (.invokevirtual 134, 3) := by decide +kernel
theorem dX0_readLetters_19 : decode cX0_readLetters 19 = .ok (.invokestatic 149, 3) := by decide +kernel
theorem dX0_readLetters_22 : decode cX0_readLetters 22 = .ok (.ifCond .eq 16, 3) := by decide +kernel
theorem dX0_readLetters_25 : decode cX0_readLetters 25 = .ok (.aload_n 0, 1) := by decide +kernel
theorem dX0_readLetters_26 : decode cX0_readLetters 26 = .ok (.dup, 1) := by decide +kernel
theorem dX0_readLetters_27 : decode cX0_readLetters 27 = .ok (.getfield 80, 3) := by decide +kernel
theorem dX0_readLetters_30 : decode cX0_readLetters 30 = .ok (.iconst 1, 1) := by decide +kernel
theorem dX0_readLetters_31 : decode cX0_readLetters 31 = .ok (.iadd, 1) := by decide +kernel
theorem dX0_readLetters_32 : decode cX0_readLetters 32 = .ok (.putfield 80, 3) := by decide +kernel
theorem dX0_readLetters_35 : decode cX0_readLetters 35 = .ok (.goto (-35), 3) := by decide +kernel
theorem dX0_readLetters_38 : decode cX0_readLetters 38 = .ok (.return_, 1) := by decide +kernel
theorem dX0_readDigits_0 : decode cX0_readDigits 0 = .ok (.aload_n 0, 1) := by decide +kernel
theorem dX0_readDigits_1 : decode cX0_readDigits 1 = .ok (.aload_n 0, 1) := by decide +kernel
theorem dX0_readDigits_2 : decode cX0_readDigits 2 = .ok (.getfield 123, 3) := by decide +kernel
theorem dX0_readDigits_5 : decode cX0_readDigits 5 = .ok (.putfield 80, 3) := by decide +kernel
theorem dX0_readDigits_8 : decode cX0_readDigits 8 = .ok (.aload_n 0, 1) := by decide +kernel
theorem dX0_readDigits_9 : decode cX0_readDigits 9 = .ok (.iconst 0, 1) := by decide +kernel
theorem dX0_readDigits_10 : decode cX0_readDigits 10 = .ok (.putfield 113, 3) := by decide +kernel
theorem dX0_readDigits_13 : decode cX0_readDigits 13 = .ok (.aload_n 0, 1) := by decide +kernel
theorem dX0_readDigits_14 : decode cX0_readDigits 14 = .ok (.getfield 80, 3) := by decide +kernel
theorem dX0_readDigits_17 : decode cX0_readDigits 17 = .ok (.aload_n 0, 1) := by decide +kernel
theorem dX0_readDigits_18 : decode cX0_readDigits 18 = .ok (.getfield 29, 3) := by decide +kernel
theorem dX0_readDigits_21 : decode cX0_readDigits 21 = .ok (.if_icmp .ge 53, 3) := by decide +kernel
theorem dX0_readDigits_24 : decode cX0_readDigits 24 = .ok (.aload_n 0, 1) := by decide +kernel
theorem dX0_readDigits_25 : decode cX0_readDigits 25 = .ok (.aload_n 0, 1) := by decide +kernel
theorem dX0_readDigits_26 : decode cX0_readDigits 26 = .ok (.getfield 80, 3) := by decide +kernel
theorem dX0_readDigits_29 : decode cX0_readDigits 29 = .ok (.invokevirtual 134, 3) := by decide +kernel
theorem dX0_readDigits_32 : decode cX0_readDigits 32 = .ok (.invokestatic 155, 3) := by decide +kernel
theorem dX0_readDigits_35 : decode cX0_readDigits 35 = .ok (.ifCond .eq 39, 3) := by decide +kernel
theorem dX0_readDigits_38 : decode cX0_readDigits 38 = .ok (.aload_n 0, 1) := by decide +kernel
theorem dX0_readDigits_39 : decode cX0_readDigits 39 = .ok (.bipush 10, 2) := by decide +kernel
theorem dX0_readDigits_41 : decode cX0_readDigits 41 = .ok (.aload_n 0, 1) := by decide +kernel
theorem dX0_readDigits_42 : decode cX0_readDigits 42 = .ok (.getfield 113, 3) := by decide +kernel
theorem dX0_readDigits_45 : decode cX0_readDigits 45 = .ok (.imul, 1) := by decide +kernel
theorem dX0_readDigits_46 : decode cX0_readDigits 46 = .ok (.aload_n 0, 1) := by decide +kernel
theorem dX0_readDigits_47 : decode cX0_readDigits 47 = .ok (.aload_n 0, 1) := by decide +kernel
theorem dX0_readDigits_48 : decode cX0_readDigits 48 = .ok (.getfield 80, 3) := by decide +kernel
theorem dX0_readDigits_51 : decode cX0_readDigits 51 = .ok (.invokevirtual 134, 3) := by decide +kernel
theorem dX0_readDigits_54 : decode cX0_readDigits 54 = .ok (.iadd, 1) := by decide +kernel
theorem dX0_readDigits_55 : decode cX0_readDigits 55 = .ok (.bipush 48, 2) := by decide +kernel
theorem dX0_readDigits_57 : decode cX0_readDigits 57 = .ok (.isub, 1) := by decide +kernel
theorem dX0_readDigits_58 : decode cX0_readDigits 58 = .ok (.putfield 113, 3) := by decide +kernel
theorem dX0_readDigits_61 : decode cX0_readDigits 61 = .ok (.aload_n 0, 1) := by decide +kernel
theorem dX0_readDigits_62 : decode cX0_readDigits 62 = .ok (.dup, 1) := by decide +kernel
theorem dX0_readDigits_63 : decode cX0_readDigits 63 = .ok (.getfield 80, 3) := by decide +kernel
theorem dX0_readDigits_66 : decode cX0_readDigits 66 = .ok (.iconst 1, 1) := by decide +kernel
theorem dX0_readDigits_67 : decode cX0_readDigits 67 = .ok (.iadd, 1) := by decide +kernel
theorem dX0_readDigits_68 : decode cX0_readDigits 68 = .ok (.putfield 80, 3) := by decide +kernel
theorem dX0_readDigits_71 : decode cX0_readDigits 71 = .ok (.goto (-58), 3) := by decide +kernel
theorem dX0_readDigits_74 : decode cX0_readDigits 74 = .ok (.aload_n 0, 1) := by decide +kernel
theorem dX0_readDigits_75 : decode cX0_readDigits 75 = .ok (.aload_n 0, 1) := by decide +kernel
theorem dX0_readDigits_76 : decode cX0_readDigits 76 = .ok (.getfield 80, 3) := by decide +kernel
theorem dX0_readDigits_79 : decode cX0_readDigits 79 = .ok (.aload_n 0, 1) := by decide +kernel
theorem dX0_readDigits_80 : decode cX0_readDigits 80 = .ok (.getfield 123, 3) := by decide +kernel
theorem dX0_readDigits_83 : decode cX0_readDigits 83 = .ok (.isub, 1) := by decide +kernel
theorem dX0_readDigits_84 : decode cX0_readDigits 84 = .ok (.bipush 6, 2) := by decide +kernel
theorem dX0_readDigits_86 : decode cX0_readDigits 86 = .ok (.if_icmp .le 7, 3) := by decide +kernel
theorem dX0_readDigits_89 : decode cX0_readDigits 89 = .ok (.iconst 3, 1) := by decide +kernel
theorem dX0_readDigits_90 : decode cX0_readDigits 90 = .ok (.goto 4, 3) := by decide +kernel
theorem dX0_readDigits_93 : decode cX0_readDigits 93 = .ok (.iconst 2, 1) := by decide +kernel
theorem dX0_readDigits_94 : decode cX0_readDigits 94 = .ok (.putfield 38, 3) := by decide +kernel
theorem dX0_readDigits_97 : decode cX0_readDigits 97 = .ok (.return_, 1) := by decide +kernel
theorem dX0_byteAt_0 : decode cX0_byteAt 0 = .ok (.iload_n 1, 1) := by decide +kernel
theorem dX0_byteAt_1 : decode cX0_byteAt 1 = .ok (.ifCond .lt 29, 3) := by decide +kernel
theorem dX0_byteAt_4 : decode cX0_byteAt 4 = .ok (.iload_n 1, 1) := by decide +kernel
theorem dX0_byteAt_5 : decode cX0_byteAt 5 = .ok (.aload_n 0, 1) := by decide +kernel
theorem dX0_byteAt_6 : decode cX0_byteAt 6 = .ok (.getfield 29, 3) := by decide +kernel
theorem dX0_byteAt_9 : decode cX0_byteAt 9 = .ok (.if_icmp .ge 21, 3) := by decide +kernel
theorem dX0_byteAt_12 : decode cX0_byteAt 12 = .ok (.iload_n 1, 1) := by decide +kernel
theorem dX0_byteAt_13 : decode cX0_byteAt 13 = .ok (.aload_n 0, 1) := by decide +kernel
theorem dX0_byteAt_14 : decode cX0_byteAt 14 = .ok (.getfield 9, 3) := by decide +kernel
theorem dX0_byteAt_17 : decode cX0_byteAt 17 = .ok (.arraylength, 1) := by decide +kernel
theorem dX0_byteAt_18 : decode cX0_byteAt 18 = .ok (.if_icmp .ge 12, 3) := by decide +kernel
theorem dX0_byteAt_21 : decode cX0_byteAt 21 = .ok (.aload_n 0, 1) := by decide +kernel
theorem dX0_byteAt_22 : decode cX0_byteAt 22 = .ok (.getfield 9, 3) := by decide +kernel
theorem dX0_byteAt_25 : decode cX0_byteAt 25 = .ok (.iload_n 1, 1) := by decide +kernel
theorem dX0_byteAt_26 : decode cX0_byteAt 26 = .ok (.iaload, 1) := by decide +kernel
theorem dX0_byteAt_27 : decode cX0_byteAt 27 = .ok (.goto 4, 3) := by decide +kernel
theorem dX0_byteAt_30 : decode cX0_byteAt 30 = .ok (.iconst (-1), 1) := by decide +kernel
theorem dX0_byteAt_31 : decode cX0_byteAt 31 = .ok (.ireturn, 1) := by decide +kernel
theorem dX0_isBlank_0 : decode cX0_isBlank 0 = .ok (.iload_n 0, 1) := by decide +kernel
theorem dX0_isBlank_1 : decode cX0_isBlank 1 = .ok (.bipush 10, 2) := by decide +kernel
theorem dX0_isBlank_3 : decode cX0_isBlank 3 = .ok (.if_icmp .eq 9, 3) := by decide +kernel
theorem dX0_isBlank_6 : decode cX0_isBlank 6 = .ok (.iload_n 0, 1) := by decide +kernel
theorem dX0_isBlank_7 : decode cX0_isBlank 7 = .ok (.bipush 32, 2) := by decide +kernel
theorem dX0_isBlank_9 : decode cX0_isBlank 9 = .ok (.if_icmp .ne 7, 3) := by decide +kernel
theorem dX0_isBlank_12 : decode cX0_isBlank 12 = .ok (.iconst 1, 1) := by decide +kernel
theorem dX0_isBlank_13 : decode cX0_isBlank 13 = .ok (.goto 4, 3) := by decide +kernel
theorem dX0_isBlank_16 : decode cX0_isBlank 16 = .ok (.iconst 0, 1) := by decide +kernel
theorem dX0_isBlank_17 : decode cX0_isBlank 17 = .ok (.ireturn, 1) := by decide +kernel
theorem dX0_isLetter_0 : decode cX0_isLetter 0 = .ok (.iload_n 0, 1) := by decide +kernel
theorem dX0_isLetter_1 : decode cX0_isLetter 1 = .ok (.bipush 97, 2) := by decide +kernel
theorem dX0_isLetter_3 : decode cX0_isLetter 3 = .ok (.if_icmp .lt 13, 3) := by decide +kernel
theorem dX0_isLetter_6 : decode cX0_isLetter 6 = .ok (.iload_n 0, 1) := by decide +kernel
theorem dX0_isLetter_7 : decode cX0_isLetter 7 = .ok (.bipush 122, 2) := by decide +kernel
theorem dX0_isLetter_9 : decode cX0_isLetter 9 = .ok (.if_icmp .gt 7, 3) := by decide +kernel
theorem dX0_isLetter_12 : decode cX0_isLetter 12 = .ok (.iconst 1, 1) := by decide +kernel
theorem dX0_isLetter_13 : decode cX0_isLetter 13 = .ok (.goto 4, 3) := by decide +kernel
theorem dX0_isLetter_16 : decode cX0_isLetter 16 = .ok (.iconst 0, 1) := by decide +kernel
theorem dX0_isLetter_17 : decode cX0_isLetter 17 = .ok (.ireturn, 1) := by decide +kernel
theorem dX0_isDigit_0 : decode cX0_isDigit 0 = .ok (.iload_n 0, 1) := by decide +kernel
theorem dX0_isDigit_1 : decode cX0_isDigit 1 = .ok (.bipush 48, 2) := by decide +kernel
theorem dX0_isDigit_3 : decode cX0_isDigit 3 = .ok (.if_icmp .lt 13, 3) := by decide +kernel
theorem dX0_isDigit_6 : decode cX0_isDigit 6 = .ok (.iload_n 0, 1) := by decide +kernel
theorem dX0_isDigit_7 : decode cX0_isDigit 7 = .ok (.bipush 57, 2) := by decide +kernel
theorem dX0_isDigit_9 : decode cX0_isDigit 9 = .ok (.if_icmp .gt 7, 3) := by decide +kernel
theorem dX0_isDigit_12 : decode cX0_isDigit 12 = .ok (.iconst 1, 1) := by decide +kernel
theorem dX0_isDigit_13 : decode cX0_isDigit 13 = .ok (.goto 4, 3) := by decide +kernel
theorem dX0_isDigit_16 : decode cX0_isDigit 16 = .ok (.iconst 0, 1) := by decide +kernel
theorem dX0_isDigit_17 : decode cX0_isDigit 17 = .ok (.ireturn, 1) := by decide +kernel
theorem dX1_init_0 : decode cX1_init 0 = .ok (.aload_n 0, 1) := by decide +kernel
theorem dX1_init_1 : decode cX1_init 1 = .ok (.invokespecial 3, 3) := by decide +kernel
theorem dX1_init_4 : decode cX1_init 4 = .ok (.aload_n 0, 1) := by decide +kernel
theorem dX1_init_5 : decode cX1_init 5 = .ok (.bipush 8, 2) := by decide +kernel
theorem dX1_init_7 : decode cX1_init 7 = .ok (.newarray .int, 2) := by decide +kernel
theorem dX1_init_9 : decode cX1_init 9 = .ok (.putfield 9, 3) := by decide +kernel
theorem dX1_init_12 : decode cX1_init 12 = .ok (.aload_n 0, 1) := by decide +kernel
theorem dX1_init_13 : decode cX1_init 13 = .ok (.sipush 400, 3) := by decide +kernel
theorem dX1_init_16 : decode cX1_init 16 = .ok (.putfield 15, 3) := by decide +kernel
theorem dX1_init_19 : decode cX1_init 19 = .ok (.aload_n 0, 1) := by decide +kernel
theorem dX1_init_20 : decode cX1_init 20 = .ok (.sipush 400, 3) := by decide +kernel
theorem dX1_init_23 : decode cX1_init 23 = .ok (.putfield 19, 3) := by decide +kernel
theorem dX1_init_26 : decode cX1_init 26 = .ok (.aload_n 0, 1) := by decide +kernel
theorem dX1_init_27 : decode cX1_init 27 = .ok (.ldc 22, 2) := by decide +kernel
theorem dX1_init_29 : decode cX1_init 29 = .ok (.putfield 23, 3) := by decide +kernel
theorem dX1_init_32 : decode cX1_init 32 = .ok (.iconst 0, 1) := by decide +kernel
theorem dX1_init_33 : decode cX1_init 33 = .ok (.istore_n 1, 1) := by decide +kernel
theorem dX1_init_34 : decode cX1_init 34 = .ok (.iload_n 1, 1) := by decide +kernel
theorem dX1_init_35 : decode cX1_init 35 = .ok (.bipush 8, 2) := by decide +kernel
theorem dX1_init_37 : decode cX1_init 37 = .ok (.if_icmp .ge 18, 3) := by decide +kernel
theorem dX1_init_40 : decode cX1_init 40 = .ok (.aload_n 0, 1) := by decide +kernel
theorem dX1_init_41 : decode cX1_init 41 = .ok (.getfield 9, 3) := by decide +kernel
theorem dX1_init_44 : decode cX1_init 44 = .ok (.iload_n 1, 1) := by decide +kernel
theorem dX1_init_45 : decode cX1_init 45 = .ok (.sipush 400, 3) := by decide +kernel
theorem dX1_init_48 : decode cX1_init 48 = .ok (.iastore, 1) := by decide +kernel
theorem dX1_init_49 : decode cX1_init 49 = .ok (.iinc 1 1, 3) := by decide +kernel
theorem dX1_init_52 : decode cX1_init 52 = .ok (.goto (-18), 3) := by decide +kernel
theorem dX1_init_55 : decode cX1_init 55 = .ok (.return_, 1) := by decide +kernel
theorem dX1_temperatureOf_0 : decode cX1_temperatureOf 0 = .ok (.aload_n 0, 1) := by decide +kernel
theorem dX1_temperatureOf_1 : decode cX1_temperatureOf 1 = .ok (.getfield 9, 3) := by decide +kernel
theorem dX1_temperatureOf_4 : decode cX1_temperatureOf 4 = .ok (.iload_n 1, 1) := by decide +kernel
theorem dX1_temperatureOf_5 : decode cX1_temperatureOf 5 = .ok (.bipush 7, 2) := by decide +kernel
theorem dX1_temperatureOf_7 : decode cX1_temperatureOf 7 = .ok (.iand, 1) := by decide +kernel
theorem dX1_temperatureOf_8 : decode cX1_temperatureOf 8 = .ok (.iaload, 1) := by decide +kernel
theorem dX1_temperatureOf_9 : decode cX1_temperatureOf 9 = .ok (.ireturn, 1) := by decide +kernel
theorem dX1_putTemperature_0 : decode cX1_putTemperature 0 = .ok (.aload_n 0, 1) := by decide +kernel
theorem dX1_putTemperature_1 : decode cX1_putTemperature 1 = .ok (.getfield 9, 3) := by decide +kernel
theorem dX1_putTemperature_4 : decode cX1_putTemperature 4 = .ok (.iload_n 1, 1) := by decide +kernel
theorem dX1_putTemperature_5 : decode cX1_putTemperature 5 = .ok (.bipush 7, 2) := by decide +kernel
theorem dX1_putTemperature_7 : decode cX1_putTemperature 7 = .ok (.iand, 1) := by decide +kernel
theorem dX1_putTemperature_8 : decode cX1_putTemperature 8 = .ok (.iload_n 2, 1) := by decide +kernel
theorem dX1_putTemperature_9 : decode cX1_putTemperature 9 = .ok (.iastore, 1) := by decide +kernel
theorem dX1_putTemperature_10 : decode cX1_putTemperature 10 = .ok (.return_, 1) := by decide +kernel
theorem dX1_exchange_0 : decode cX1_exchange 0 = .ok (.aload_n 0, 1) := by decide +kernel
theorem dX1_exchange_1 : decode cX1_exchange 1 = .ok (.iload_n 1, 1) := by decide +kernel
theorem dX1_exchange_2 : decode cX1_exchange 2 = .ok (.invokevirtual 26, 3) := by decide +kernel
theorem dX1_exchange_5 : decode cX1_exchange 5 = .ok (.istore_n 3, 1) := by decide +kernel
theorem dX1_exchange_6 : decode cX1_exchange 6 = .ok (.aload_n 0, 1) := by decide +kernel
theorem dX1_exchange_7 : decode cX1_exchange 7 = .ok (.iload_n 1, 1) := by decide +kernel
theorem dX1_exchange_8 : decode cX1_exchange 8 = .ok (.aload_n 0, 1) := by decide +kernel
theorem dX1_exchange_9 : decode cX1_exchange 9 = .ok (.iload_n 2, 1) := by decide +kernel
theorem dX1_exchange_10 : decode cX1_exchange 10 = .ok (.invokevirtual 26, 3) := by decide +kernel
theorem dX1_exchange_13 : decode cX1_exchange 13 = .ok (.invokevirtual 30, 3) := by decide +kernel
theorem dX1_exchange_16 : decode cX1_exchange 16 = .ok (.aload_n 0, 1) := by decide +kernel
theorem dX1_exchange_17 : decode cX1_exchange 17 = .ok (.iload_n 2, 1) := by decide +kernel
theorem dX1_exchange_18 : decode cX1_exchange 18 = .ok (.iload_n 3, 1) := by decide +kernel
theorem dX1_exchange_19 : decode cX1_exchange 19 = .ok (.invokevirtual 30, 3) := by decide +kernel
theorem dX1_exchange_22 : decode cX1_exchange 22 = .ok (.return_, 1) := by decide +kernel
theorem dX1_clockPeriod_0 : decode cX1_clockPeriod 0 = .ok (.aload_n 0, 1) := by decide +kernel
theorem dX1_clockPeriod_1 : decode cX1_clockPeriod 1 = .ok (.getfield 34, 3) := by decide +kernel
theorem dX1_clockPeriod_4 : decode cX1_clockPeriod 4 = .ok (.ifCond .eq 17, 3) := by decide +kernel
theorem dX1_clockPeriod_7 : decode cX1_clockPeriod 7 = .ok (.aload_n 0, 1) := by decide +kernel
theorem dX1_clockPeriod_8 : decode cX1_clockPeriod 8 = .ok (.getfield 15, 3) := by decide +kernel
theorem dX1_clockPeriod_11 : decode cX1_clockPeriod 11 = .ok (.invokestatic 38, 3) := by decide +kernel
theorem dX1_clockPeriod_14 : decode cX1_clockPeriod 14 = .ok (.sipush 640, 3) := by decide +kernel
theorem dX1_clockPeriod_17 : decode cX1_clockPeriod 17 = .ok (.idiv, 1) := by decide +kernel
theorem dX1_clockPeriod_18 : decode cX1_clockPeriod 18 = .ok (.goto 7, 3) := by decide +kernel
theorem dX1_clockPeriod_21 : decode cX1_clockPeriod 21 = .ok (.aload_n 0, 1) := by decide +kernel
theorem dX1_clockPeriod_22 : decode cX1_clockPeriod 22 = .ok (.getfield 23, 3) := by decide +kernel
theorem dX1_clockPeriod_25 : decode cX1_clockPeriod 25 = .ok (.ireturn, 1) := by decide +kernel
theorem dX1_allTanksSafe_0 : decode cX1_allTanksSafe 0 = .ok (.aload_n 0, 1) := by decide +kernel
theorem dX1_allTanksSafe_1 : decode cX1_allTanksSafe 1 = .ok (.invokevirtual 41, 3) := by decide +kernel
theorem dX1_allTanksSafe_4 : decode cX1_allTanksSafe 4 = .ok (.istore_n 1, 1) := by decide +kernel
theorem dX1_allTanksSafe_5 : decode cX1_allTanksSafe 5 = .ok (.iconst 0, 1) := by decide +kernel
theorem dX1_allTanksSafe_6 : decode cX1_allTanksSafe 6 = .ok (.istore_n 2, 1) := by decide +kernel
theorem dX1_allTanksSafe_7 : decode cX1_allTanksSafe 7 = .ok (.iload_n 2, 1) := by decide +kernel
theorem dX1_allTanksSafe_8 : decode cX1_allTanksSafe 8 = .ok (.bipush 8, 2) := by decide +kernel
theorem dX1_allTanksSafe_10 : decode cX1_allTanksSafe 10 = .ok (.if_icmp .ge 23, 3) := by decide +kernel
theorem dX1_allTanksSafe_13 : decode cX1_allTanksSafe 13 = .ok (.aload_n 0, 1) := by decide +kernel
theorem dX1_allTanksSafe_14 : decode cX1_allTanksSafe 14 = .ok (.iload_n 2, 1) := by decide +kernel
theorem dX1_allTanksSafe_15 : decode cX1_allTanksSafe 15 = .ok (.invokevirtual 26, 3) := by decide +kernel
theorem dX1_allTanksSafe_18 : decode cX1_allTanksSafe 18 = .ok (.iload_n 1, 1) := by decide +kernel
theorem dX1_allTanksSafe_19 : decode cX1_allTanksSafe 19 = .ok (.invokestatic 45, 3) := by decide +kernel
theorem dX1_allTanksSafe_22 : decode cX1_allTanksSafe 22 = .ok (.ifCond .ne 5, 3) := by decide +kernel
theorem dX1_allTanksSafe_25 : decode cX1_allTanksSafe 25 = .ok (.iconst 0, 1) := by decide +kernel
theorem dX1_allTanksSafe_26 : decode cX1_allTanksSafe 26 = .ok (.ireturn, 1) := by decide +kernel
theorem dX1_allTanksSafe_27 : decode cX1_allTanksSafe 27 = .ok (.iinc 2 1, 3) := by decide +kernel
theorem dX1_allTanksSafe_30 : decode cX1_allTanksSafe 30 = .ok (.goto (-23), 3) := by decide +kernel
theorem dX1_allTanksSafe_33 : decode cX1_allTanksSafe 33 = .ok (.iconst 1, 1) := by decide +kernel
theorem dX1_allTanksSafe_34 : decode cX1_allTanksSafe 34 = .ok (.ireturn, 1) := by decide +kernel
theorem dX1_drift_0 : decode cX1_drift 0 = .ok (.iconst 0, 1) := by decide +kernel
theorem dX1_drift_1 : decode cX1_drift 1 = .ok (.istore_n 1, 1) := by decide +kernel
theorem dX1_drift_2 : decode cX1_drift 2 = .ok (.iload_n 1, 1) := by decide +kernel
theorem dX1_drift_3 : decode cX1_drift 3 = .ok (.bipush 8, 2) := by decide +kernel
theorem dX1_drift_5 : decode cX1_drift 5 = .ok (.if_icmp .ge 31, 3) := by decide +kernel
theorem dX1_drift_8 : decode cX1_drift 8 = .ok (.aload_n 0, 1) := by decide +kernel
theorem dX1_drift_9 : decode cX1_drift 9 = .ok (.iload_n 1, 1) := by decide +kernel
theorem dX1_drift_10 : decode cX1_drift 10 = .ok (.invokevirtual 26, 3) := by decide +kernel
theorem dX1_drift_13 : decode cX1_drift 13 = .ok (.istore_n 2, 1) := by decide +kernel
theorem dX1_drift_14 : decode cX1_drift 14 = .ok (.aload_n 0, 1) := by decide +kernel
theorem dX1_drift_15 : decode cX1_drift 15 = .ok (.iload_n 1, 1) := by decide +kernel
theorem dX1_drift_16 : decode cX1_drift 16 = .ok (.iload_n 2, 1) := by decide +kernel
theorem dX1_drift_17 : decode cX1_drift 17 = .ok (.aload_n 0, 1) := by decide +kernel
theorem dX1_drift_18 : decode cX1_drift 18 = .ok (.getfield 19, 3) := by decide +kernel
theorem dX1_drift_21 : decode cX1_drift 21 = .ok (.iload_n 2, 1) := by decide +kernel
theorem dX1_drift_22 : decode cX1_drift 22 = .ok (.isub, 1) := by decide +kernel
theorem dX1_drift_23 : decode cX1_drift 23 = .ok (.bipush 8, 2) := by decide +kernel
theorem dX1_drift_25 : decode cX1_drift 25 = .ok (.idiv, 1) := by decide +kernel
theorem dX1_drift_26 : decode cX1_drift 26 = .ok (.iadd, 1) := by decide +kernel
theorem dX1_drift_27 : decode cX1_drift 27 = .ok (.invokevirtual 30, 3) := by decide +kernel
theorem dX1_drift_30 : decode cX1_drift 30 = .ok (.iinc 1 1, 3) := by decide +kernel
theorem dX1_drift_33 : decode cX1_drift 33 = .ok (.goto (-31), 3) := by decide +kernel
theorem dX1_drift_36 : decode cX1_drift 36 = .ok (.aload_n 0, 1) := by decide +kernel
theorem dX1_drift_37 : decode cX1_drift 37 = .ok (.dup, 1) := by decide +kernel
theorem dX1_drift_38 : decode cX1_drift 38 = .ok (.getfield 15, 3) := by decide +kernel
theorem dX1_drift_41 : decode cX1_drift 41 = .ok (.aload_n 0, 1) := by decide +kernel
theorem dX1_drift_42 : decode cX1_drift 42 = .ok (.getfield 19, 3) := by decide +kernel
theorem dX1_drift_45 : decode cX1_drift 45 = .ok (.aload_n 0, 1) := by decide +kernel
theorem dX1_drift_46 : decode cX1_drift 46 = .ok (.getfield 15, 3) := by decide +kernel
theorem dX1_drift_49 : decode cX1_drift 49 = .ok (.isub, 1) := by decide +kernel
theorem dX1_drift_50 : decode cX1_drift 50 = .ok (.bipush 8, 2) := by decide +kernel
theorem dX1_drift_52 : decode cX1_drift 52 = .ok (.idiv, 1) := by decide +kernel
theorem dX1_drift_53 : decode cX1_drift 53 = .ok (.iadd, 1) := by decide +kernel
theorem dX1_drift_54 : decode cX1_drift 54 = .ok (.putfield 15, 3) := by decide +kernel
theorem dX1_drift_57 : decode cX1_drift 57 = .ok (.return_, 1) := by decide +kernel
theorem dX1_copyFrom_0 : decode cX1_copyFrom 0 = .ok (.aload_n 1, 1) := by decide +kernel
theorem dX1_copyFrom_1 : decode cX1_copyFrom 1 = .ok (.getfield 9, 3) := by decide +kernel
theorem dX1_copyFrom_4 : decode cX1_copyFrom 4 = .ok (.aload_n 0, 1) := by decide +kernel
theorem dX1_copyFrom_5 : decode cX1_copyFrom 5 = .ok (.getfield 9, 3) := by decide +kernel
theorem dX1_copyFrom_8 : decode cX1_copyFrom 8 = .ok (.invokestatic 49, 3) := by decide +kernel
theorem dX1_copyFrom_11 : decode cX1_copyFrom 11 = .ok (.aload_n 0, 1) := by decide +kernel
theorem dX1_copyFrom_12 : decode cX1_copyFrom 12 = .ok (.aload_n 1, 1) := by decide +kernel
theorem dX1_copyFrom_13 : decode cX1_copyFrom 13 = .ok (.getfield 15, 3) := by decide +kernel
theorem dX1_copyFrom_16 : decode cX1_copyFrom 16 = .ok (.putfield 15, 3) := by decide +kernel
theorem dX1_copyFrom_19 : decode cX1_copyFrom 19 = .ok (.aload_n 0, 1) := by decide +kernel
theorem dX1_copyFrom_20 : decode cX1_copyFrom 20 = .ok (.aload_n 1, 1) := by decide +kernel
theorem dX1_copyFrom_21 : decode cX1_copyFrom 21 = .ok (.getfield 19, 3) := by decide +kernel
theorem dX1_copyFrom_24 : decode cX1_copyFrom 24 = .ok (.putfield 19, 3) := by decide +kernel
theorem dX1_copyFrom_27 : decode cX1_copyFrom 27 = .ok (.aload_n 0, 1) := by decide +kernel
theorem dX1_copyFrom_28 : decode cX1_copyFrom 28 = .ok (.aload_n 1, 1) := by decide +kernel
theorem dX1_copyFrom_29 : decode cX1_copyFrom 29 = .ok (.getfield 23, 3) := by decide +kernel
theorem dX1_copyFrom_32 : decode cX1_copyFrom 32 = .ok (.putfield 23, 3) := by decide +kernel
theorem dX1_copyFrom_35 : decode cX1_copyFrom 35 = .ok (.aload_n 0, 1) := by decide +kernel
theorem dX1_copyFrom_36 : decode cX1_copyFrom 36 = .ok (.aload_n 1, 1) := by decide +kernel
theorem dX1_copyFrom_37 : decode cX1_copyFrom 37 = .ok (.getfield 34, 3) := by decide +kernel
theorem dX1_copyFrom_40 : decode cX1_copyFrom 40 = .ok (.putfield 34, 3) := by decide +kernel
theorem dX1_copyFrom_43 : decode cX1_copyFrom 43 = .ok (.return_, 1) := by decide +kernel
theorem dX2_init_0 : decode cX2_init 0 = .ok (.aload_n 0, 1) := by decide +kernel
theorem dX2_init_1 : decode cX2_init 1 = .ok (.invokespecial 3, 3) := by decide +kernel
theorem dX2_init_4 : decode cX2_init 4 = .ok (.aload_n 0, 1) := by decide +kernel
theorem dX2_init_5 : decode cX2_init 5 = .ok (.new 9, 3) := by decide +kernel
theorem dX2_init_8 : decode cX2_init 8 = .ok (.dup, 1) := by decide +kernel
theorem dX2_init_9 : decode cX2_init 9 = .ok (.invokespecial 11, 3) := by decide +kernel
theorem dX2_init_12 : decode cX2_init 12 = .ok (.putfield 12, 3) := by decide +kernel
theorem dX2_init_15 : decode cX2_init 15 = .ok (.aload_n 0, 1) := by decide +kernel
theorem dX2_init_16 : decode cX2_init 16 = .ok (.new 18, 3) := by decide +kernel
theorem dX2_init_19 : decode cX2_init 19 = .ok (.dup, 1) := by decide +kernel
theorem dX2_init_20 : decode cX2_init 20 = .ok (.invokespecial 20, 3) := by decide +kernel
theorem dX2_init_23 : decode cX2_init 23 = .ok (.putfield 21, 3) := by decide +kernel
theorem dX2_init_26 : decode cX2_init 26 = .ok (.aload_n 0, 1) := by decide +kernel
theorem dX2_init_27 : decode cX2_init 27 = .ok (.new 25, 3) := by decide +kernel
theorem dX2_init_30 : decode cX2_init 30 = .ok (.dup, 1) := by decide +kernel
theorem dX2_init_31 : decode cX2_init 31 = .ok (.invokespecial 27, 3) := by decide +kernel
theorem dX2_init_34 : decode cX2_init 34 = .ok (.putfield 28, 3) := by decide +kernel
theorem dX2_init_37 : decode cX2_init 37 = .ok (.aload_n 0, 1) := by decide +kernel
theorem dX2_init_38 : decode cX2_init 38 = .ok (.new 25, 3) := by decide +kernel
theorem dX2_init_41 : decode cX2_init 41 = .ok (.dup, 1) := by decide +kernel
theorem dX2_init_42 : decode cX2_init 42 = .ok (.invokespecial 27, 3) := by decide +kernel
theorem dX2_init_45 : decode cX2_init 45 = .ok (.putfield 32, 3) := by decide +kernel
theorem dX2_init_48 : decode cX2_init 48 = .ok (.aload_n 0, 1) := by decide +kernel
theorem dX2_init_49 : decode cX2_init 49 = .ok (.sipush 256, 3) := by decide +kernel
theorem dX2_init_52 : decode cX2_init 52 = .ok (.newarray .int, 2) := by decide +kernel
theorem dX2_init_54 : decode cX2_init 54 = .ok (.putfield 35, 3) := by decide +kernel
theorem dX2_init_57 : decode cX2_init 57 = .ok (.aload_n 0, 1) := by decide +kernel
theorem dX2_init_58 : decode cX2_init 58 = .ok (.iconst 1, 1) := by decide +kernel
theorem dX2_init_59 : decode cX2_init 59 = .ok (.putfield 39, 3) := by decide +kernel
theorem dX2_init_62 : decode cX2_init 62 = .ok (.return_, 1) := by decide +kernel
theorem dX2_makeReadyAt_0 : decode cX2_makeReadyAt 0 = .ok (.aload_n 0, 1) := by decide +kernel
theorem dX2_makeReadyAt_1 : decode cX2_makeReadyAt 1 = .ok (.iload_n 1, 1) := by decide +kernel
theorem dX2_makeReadyAt_2 : decode cX2_makeReadyAt 2 = .ok (.putfield 43, 3) := by decide +kernel
theorem dX2_makeReadyAt_5 : decode cX2_makeReadyAt 5 = .ok (.aload_n 0, 1) := by decide +kernel
theorem dX2_makeReadyAt_6 : decode cX2_makeReadyAt 6 = .ok (.iconst 0, 1) := by decide +kernel
theorem dX2_makeReadyAt_7 : decode cX2_makeReadyAt 7 = .ok (.putfield 39, 3) := by decide +kernel
theorem dX2_makeReadyAt_10 : decode cX2_makeReadyAt 10 = .ok (.return_, 1) := by decide +kernel
theorem dX2_executedCountAt_0 : decode cX2_executedCountAt 0 = .ok (.aload_n 0, 1) := by decide +kernel
theorem dX2_executedCountAt_1 : decode cX2_executedCountAt 1 = .ok (.getfield 35, 3) := by decide +kernel
theorem dX2_executedCountAt_4 : decode cX2_executedCountAt 4 = .ok (.iload_n 1, 1) := by decide +kernel
theorem dX2_executedCountAt_5 : decode cX2_executedCountAt 5 = .ok (.sipush 255, 3) := by decide +kernel
theorem dX2_executedCountAt_8 : decode cX2_executedCountAt 8 = .ok (.iand, 1) := by decide +kernel
theorem dX2_executedCountAt_9 : decode cX2_executedCountAt 9 = .ok (.iaload, 1) := by decide +kernel
theorem dX2_executedCountAt_10 : decode cX2_executedCountAt 10 = .ok (.ireturn, 1) := by decide +kernel
theorem dX2_executeUpTo_0 : decode cX2_executeUpTo 0 = .ok (.aload_n 0, 1) := by decide +kernel
theorem dX2_executeUpTo_1 : decode cX2_executeUpTo 1 = .ok (.getfield 46, 3) := by decide +kernel
theorem dX2_executeUpTo_4 : decode cX2_executeUpTo 4 = .ok (.istore_n 2, 1) := by decide +kernel
theorem dX2_executeUpTo_5 : decode cX2_executeUpTo 5 = .ok (.iconst 0, 1) := by decide +kernel
theorem dX2_executeUpTo_6 : decode cX2_executeUpTo 6 = .ok (.istore_n 3, 1) := by decide +kernel
theorem dX2_executeUpTo_7 : decode cX2_executeUpTo 7 = .ok (.iload_n 3, 1) := by decide +kernel
theorem dX2_executeUpTo_8 : decode cX2_executeUpTo 8 = .ok (.iload_n 1, 1) := by decide +kernel
theorem dX2_executeUpTo_9 : decode cX2_executeUpTo 9 = .ok (.if_icmp .ge 20, 3) := by decide +kernel
theorem dX2_executeUpTo_12 : decode cX2_executeUpTo 12 = .ok (.aload_n 0, 1) := by decide +kernel
theorem dX2_executeUpTo_13 : decode cX2_executeUpTo 13 = .ok (.getfield 39, 3) := by decide +kernel
theorem dX2_executeUpTo_16 : decode cX2_executeUpTo 16 = .ok (.ifCond .ne 13, 3) := by decide +kernel
theorem dX2_executeUpTo_19 : decode cX2_executeUpTo 19 = .ok (.aload_n 0, 1) := by decide +kernel
theorem dX2_executeUpTo_20 : decode cX2_executeUpTo 20 = .ok (.invokevirtual 49, 3) := by decide +kernel
theorem dX2_executeUpTo_23 : decode cX2_executeUpTo 23 = .ok (.iinc 3 1, 3) := by decide +kernel
theorem dX2_executeUpTo_26 : decode cX2_executeUpTo 26 = .ok (.goto (-19), 3) := by decide +kernel
theorem dX2_executeUpTo_29 : decode cX2_executeUpTo 29 = .ok (.aload_n 0, 1) := by decide +kernel
theorem dX2_executeUpTo_30 : decode cX2_executeUpTo 30 = .ok (.getfield 46, 3) := by decide +kernel
theorem dX2_executeUpTo_33 : decode cX2_executeUpTo 33 = .ok (.iload_n 2, 1) := by decide +kernel
theorem dX2_executeUpTo_34 : decode cX2_executeUpTo 34 = .ok (.isub, 1) := by decide +kernel
theorem dX2_executeUpTo_35 : decode cX2_executeUpTo 35 = .ok (.ireturn, 1) := by decide +kernel
theorem dX2_executeNext_0 : decode cX2_executeNext 0 = .ok (.aload_n 0, 1) := by decide +kernel
theorem dX2_executeNext_1 : decode cX2_executeNext 1 = .ok (.aload_n 0, 1) := by decide +kernel
theorem dX2_executeNext_2 : decode cX2_executeNext 2 = .ok (.getfield 43, 3) := by decide +kernel
theorem dX2_executeNext_5 : decode cX2_executeNext 5 = .ok (.invokevirtual 52, 3) := by decide +kernel
theorem dX2_executeNext_8 : decode cX2_executeNext 8 = .ok (.aload_n 0, 1) := by decide +kernel
theorem dX2_executeNext_9 : decode cX2_executeNext 9 = .ok (.getfield 12, 3) := by decide +kernel
theorem dX2_executeNext_12 : decode cX2_executeNext 12 = .ok (.aload_n 0, 1) := by decide +kernel
theorem dX2_executeNext_13 : decode cX2_executeNext 13 = .ok (.getfield 43, 3) := by decide +kernel
theorem dX2_executeNext_16 : decode cX2_executeNext 16 = .ok (.invokevirtual 56, 3) := by decide +kernel
theorem dX2_executeNext_19 : decode cX2_executeNext 19 = .ok (.istore_n 1, 1) := by decide +kernel
theorem dX2_executeNext_20 : decode cX2_executeNext 20 = .ok (.aload_n 0, 1) := by decide +kernel
theorem dX2_executeNext_21 : decode cX2_executeNext 21 = .ok (.iconst 1, 1) := by decide +kernel
theorem dX2_executeNext_22 : decode cX2_executeNext 22 = .ok (.invokevirtual 60, 3) := by decide +kernel
theorem dX2_executeNext_25 : decode cX2_executeNext 25 = .ok (.iload_n 1, 1) := by decide +kernel
theorem dX2_executeNext_26 : decode cX2_executeNext 26 = .ok (.invokestatic 63, 3) := by decide +kernel
theorem dX2_executeNext_29 : decode cX2_executeNext 29 = .ok (.istore_n 2, 1) := by decide +kernel
theorem dX2_executeNext_30 : decode cX2_executeNext 30 = .ok (.iload_n 2, 1) := by decide +kernel
theorem dX2_executeNext_31 : decode cX2_executeNext 31 = .ok (.bipush 13, 2) := by decide +kernel
theorem dX2_executeNext_33 : decode cX2_executeNext 33 = .ok (.if_icmp .ne 19, 3) := by decide +kernel
theorem dX2_executeNext_36 : decode cX2_executeNext 36 = .ok (.aload_n 0, 1) := by decide +kernel
theorem dX2_executeNext_37 : decode cX2_executeNext 37 = .ok (.getfield 28, 3) := by decide +kernel
theorem dX2_executeNext_40 : decode cX2_executeNext 40 = .ok (.getfield 68, 3) := by decide +kernel
theorem dX2_executeNext_43 : decode cX2_executeNext 43 = .ok (.ifCond .ne 9, 3) := by decide +kernel
theorem dX2_executeNext_46 : decode cX2_executeNext 46 = .ok (.aload_n 0, 1) := by decide +kernel
theorem dX2_executeNext_47 : decode cX2_executeNext 47 = .ok (.iconst 2, 1) := by decide +kernel
theorem dX2_executeNext_48 : decode cX2_executeNext 48 = .ok (.putfield 39, 3) := by decide +kernel
theorem dX2_executeNext_51 : decode cX2_executeNext 51 = .ok (.return_, 1) := by decide +kernel
theorem dX2_executeNext_52 : decode cX2_executeNext 52 = .ok (.iload_n 2, 1) := by decide +kernel
theorem dX2_executeNext_53 : decode cX2_executeNext 53 = .ok (.bipush 14, 2) := by decide +kernel
theorem dX2_executeNext_55 : decode cX2_executeNext 55 = .ok (.if_icmp .ne 19, 3) := by decide +kernel
theorem dX2_executeNext_58 : decode cX2_executeNext 58 = .ok (.aload_n 0, 1) := by decide +kernel
theorem dX2_executeNext_59 : decode cX2_executeNext 59 = .ok (.getfield 32, 3) := by decide +kernel
theorem dX2_executeNext_62 : decode cX2_executeNext 62 = .ok (.invokevirtual 71, 3) := by decide +kernel
theorem dX2_executeNext_65 : decode cX2_executeNext 65 = .ok (.ifCond .eq 9, 3) := by decide +kernel
theorem dX2_executeNext_68 : decode cX2_executeNext 68 = .ok (.aload_n 0, 1) := by decide +kernel
theorem dX2_executeNext_69 : decode cX2_executeNext 69 = .ok (.iconst 3, 1) := by decide +kernel
theorem dX2_executeNext_70 : decode cX2_executeNext 70 = .ok (.putfield 39, 3) := by decide +kernel
theorem dX2_executeNext_73 : decode cX2_executeNext 73 = .ok (.return_, 1) := by decide +kernel
theorem dX2_executeNext_74 : decode cX2_executeNext 74 = .ok (.iload_n 1, 1) := by decide +kernel
theorem dX2_executeNext_75 : decode cX2_executeNext 75 = .ok (.invokestatic 75, 3) := by decide +kernel
theorem dX2_executeNext_78 : decode cX2_executeNext 78 = .ok (.istore_n 3, 1) := by decide +kernel
theorem dX2_executeNext_79 : decode cX2_executeNext 79 = .ok (.iload_n 2, 1) := by decide +kernel
theorem dX2_executeNext_80 : decode cX2_executeNext 80 = .ok (.invokestatic 78, 3) := by decide +kernel
theorem dX2_executeNext_83 : decode cX2_executeNext 83 = .ok (.ifCond .eq 8, 3) := by decide +kernel
theorem dX2_executeNext_86 : decode cX2_executeNext 86 = .ok (.aload_n 0, 1) := by decide +kernel
theorem dX2_executeNext_87 : decode cX2_executeNext 87 = .ok (.iload_n 3, 1) := by decide +kernel
theorem dX2_executeNext_88 : decode cX2_executeNext 88 = .ok (.invokevirtual 52, 3) := by decide +kernel
theorem dX2_executeNext_91 : decode cX2_executeNext 91 = .ok (.aload_n 0, 1) := by decide +kernel
theorem dX2_executeNext_92 : decode cX2_executeNext 92 = .ok (.iload_n 2, 1) := by decide +kernel
theorem dX2_executeNext_93 : decode cX2_executeNext 93 = .ok (.invokevirtual 82, 3) := by decide +kernel
theorem dX2_executeNext_96 : decode cX2_executeNext 96 = .ok (.istore 4, 2) := by decide +kernel
theorem dX2_executeNext_98 : decode cX2_executeNext 98 = .ok (.aload_n 0, 1) := by decide +kernel
theorem dX2_executeNext_99 : decode cX2_executeNext 99 = .ok (.iload_n 2, 1) := by decide +kernel
theorem dX2_executeNext_100 : decode cX2_executeNext 100 = .ok (.iload_n 3, 1) := by decide +kernel
theorem dX2_executeNext_101 : decode cX2_executeNext 101 = .ok (.invokevirtual 85, 3) := by decide +kernel
theorem dX2_executeNext_104 : decode cX2_executeNext 104 = .ok (.iload_n 2, 1) := by decide +kernel
theorem dX2_executeNext_105 : decode cX2_executeNext 105 = .ok (.bipush 15, 2) := by decide +kernel
theorem dX2_executeNext_107 : decode cX2_executeNext 107 = .ok (.if_icmp .ne 29, 3) := by decide +kernel
theorem dX2_executeNext_110 : decode cX2_executeNext 110 = .ok (.aload_n 0, 1) := by decide +kernel
theorem dX2_executeNext_111 : decode cX2_executeNext 111 = .ok (.bipush 32, 2) := by decide +kernel
theorem dX2_executeNext_113 : decode cX2_executeNext 113 = .ok (.invokevirtual 60, 3) := by decide +kernel
theorem dX2_executeNext_116 : decode cX2_executeNext 116 = .ok (.aload_n 0, 1) := by decide +kernel
theorem dX2_executeNext_117 : decode cX2_executeNext 117 = .ok (.getfield 12, 3) := by decide +kernel
theorem dX2_executeNext_120 : decode cX2_executeNext 120 = .ok (.iload_n 3, 1) := by decide +kernel
theorem dX2_executeNext_121 : decode cX2_executeNext 121 = .ok (.aload_n 0, 1) := by decide +kernel
theorem dX2_executeNext_122 : decode cX2_executeNext 122 = .ok (.getfield 89, 3) := by decide +kernel
theorem dX2_executeNext_125 : decode cX2_executeNext 125 = .ok (.invokevirtual 92, 3) := by decide +kernel
theorem dX2_executeNext_128 : decode cX2_executeNext 128 = .ok (.aload_n 0, 1) := by decide +kernel
theorem dX2_executeNext_129 : decode cX2_executeNext 129 = .ok (.iconst 1, 1) := by decide +kernel
theorem dX2_executeNext_130 : decode cX2_executeNext 130 = .ok (.invokevirtual 60, 3) := by decide +kernel
theorem dX2_executeNext_133 : decode cX2_executeNext 133 = .ok (.goto 11, 3) := by decide +kernel
theorem dX2_executeNext_136 : decode cX2_executeNext 136 = .ok (.aload_n 0, 1) := by decide +kernel
theorem dX2_executeNext_137 : decode cX2_executeNext 137 = .ok (.iload_n 1, 1) := by decide +kernel
theorem dX2_executeNext_138 : decode cX2_executeNext 138 = .ok (.invokestatic 95, 3) := by decide +kernel
theorem dX2_executeNext_141 : decode cX2_executeNext 141 = .ok (.invokevirtual 60, 3) := by decide +kernel
theorem dX2_executeNext_144 : decode cX2_executeNext 144 = .ok (.aload_n 0, 1) := by decide +kernel
theorem dX2_executeNext_145 : decode cX2_executeNext 145 = .ok (.dup, 1) := by decide +kernel
theorem dX2_executeNext_146 : decode cX2_executeNext 146 = .ok (.getfield 46, 3) := by decide +kernel
theorem dX2_executeNext_149 : decode cX2_executeNext 149 = .ok (.iconst 1, 1) := by decide +kernel
theorem dX2_executeNext_150 : decode cX2_executeNext 150 = .ok (.iadd, 1) := by decide +kernel
theorem dX2_executeNext_151 : decode cX2_executeNext 151 = .ok (.putfield 46, 3) := by decide +kernel
theorem dX2_executeNext_154 : decode cX2_executeNext 154 = .ok (.aload_n 0, 1) := by decide +kernel
theorem dX2_executeNext_155 : decode cX2_executeNext 155 = .ok (.getfield 35, 3) := by decide +kernel
theorem dX2_executeNext_158 : decode cX2_executeNext 158 = .ok (.aload_n 0, 1) := by decide +kernel
theorem dX2_executeNext_159 : decode cX2_executeNext 159 = .ok (.getfield 43, 3) := by decide +kernel
theorem dX2_executeNext_162 : decode cX2_executeNext 162 = .ok (.sipush 255, 3) := by decide +kernel
theorem dX2_executeNext_165 : decode cX2_executeNext 165 = .ok (.iand, 1) := by decide +kernel
theorem dX2_executeNext_166 : decode cX2_executeNext 166 = .ok (.dup2, 1) := by decide +kernel
theorem dX2_executeNext_167 : decode cX2_executeNext 167 = .ok (.iaload, 1) := by decide +kernel
theorem dX2_executeNext_168 : decode cX2_executeNext 168 = .ok (.iconst 1, 1) := by decide +kernel
theorem dX2_executeNext_169 : decode cX2_executeNext 169 = .ok (.iadd, 1) := by decide +kernel
theorem dX2_executeNext_170 : decode cX2_executeNext 170 = .ok (.iastore, 1) := by decide +kernel
theorem dX2_executeNext_171 : decode cX2_executeNext 171 = .ok (.aload_n 0, 1) := by decide +kernel
theorem dX2_executeNext_172 : decode cX2_executeNext 172 = .ok (.iload 4, 2) := by decide +kernel
theorem dX2_executeNext_174 : decode cX2_executeNext 174 = .ok (.ifCond .eq 7, 3) := by decide +kernel
theorem dX2_executeNext_177 : decode cX2_executeNext 177 = .ok (.iload_n 3, 1) := by decide +kernel
theorem dX2_executeNext_178 : decode cX2_executeNext 178 = .ok (.goto 7, 3) := by decide +kernel
theorem dX2_executeNext_181 : decode cX2_executeNext 181 = .ok (.iload_n 1, 1) := by decide +kernel
theorem dX2_executeNext_182 : decode cX2_executeNext 182 = .ok (.invokestatic 98, 3) := by decide +kernel
theorem dX2_executeNext_185 : decode cX2_executeNext 185 = .ok (.putfield 43, 3) := by decide +kernel
theorem dX2_executeNext_188 : decode cX2_executeNext 188 = .ok (.return_, 1) := by decide +kernel
theorem dX2_isJumpTaken_0 : decode cX2_isJumpTaken 0 = .ok (.iload_n 1, 1) := by decide +kernel
theorem dX2_isJumpTaken_1 : decode cX2_isJumpTaken 1 = .ok (.tableswitch 58 10 12 #[27, 40, 53], 27) := by decide +kernel
theorem dX2_isJumpTaken_28 : decode cX2_isJumpTaken 28 = .ok (.aload_n 0, 1) := by decide +kernel
theorem dX2_isJumpTaken_29 : decode cX2_isJumpTaken 29 = .ok (.getfield 89, 3) := by decide +kernel
theorem dX2_isJumpTaken_32 : decode cX2_isJumpTaken 32 = .ok (.ifCond .ge 7, 3) := by decide +kernel
theorem dX2_isJumpTaken_35 : decode cX2_isJumpTaken 35 = .ok (.iconst 1, 1) := by decide +kernel
theorem dX2_isJumpTaken_36 : decode cX2_isJumpTaken 36 = .ok (.goto 4, 3) := by decide +kernel
theorem dX2_isJumpTaken_39 : decode cX2_isJumpTaken 39 = .ok (.iconst 0, 1) := by decide +kernel
theorem dX2_isJumpTaken_40 : decode cX2_isJumpTaken 40 = .ok (.ireturn, 1) := by decide +kernel
theorem dX2_isJumpTaken_41 : decode cX2_isJumpTaken 41 = .ok (.aload_n 0, 1) := by decide +kernel
theorem dX2_isJumpTaken_42 : decode cX2_isJumpTaken 42 = .ok (.getfield 89, 3) := by decide +kernel
theorem dX2_isJumpTaken_45 : decode cX2_isJumpTaken 45 = .ok (.ifCond .ne 7, 3) := by decide +kernel
theorem dX2_isJumpTaken_48 : decode cX2_isJumpTaken 48 = .ok (.iconst 1, 1) := by decide +kernel
theorem dX2_isJumpTaken_49 : decode cX2_isJumpTaken 49 = .ok (.goto 4, 3) := by decide +kernel
theorem dX2_isJumpTaken_52 : decode cX2_isJumpTaken 52 = .ok (.iconst 0, 1) := by decide +kernel
theorem dX2_isJumpTaken_53 : decode cX2_isJumpTaken 53 = .ok (.ireturn, 1) := by decide +kernel
theorem dX2_isJumpTaken_54 : decode cX2_isJumpTaken 54 = .ok (.aload_n 0, 1) := by decide +kernel
theorem dX2_isJumpTaken_55 : decode cX2_isJumpTaken 55 = .ok (.getfield 101, 3) := by decide +kernel
theorem dX2_isJumpTaken_58 : decode cX2_isJumpTaken 58 = .ok (.ireturn, 1) := by decide +kernel
theorem dX2_isJumpTaken_59 : decode cX2_isJumpTaken 59 = .ok (.iconst 0, 1) := by decide +kernel
theorem dX2_isJumpTaken_60 : decode cX2_isJumpTaken 60 = .ok (.ireturn, 1) := by decide +kernel
theorem dX2_perform_0 : decode cX2_perform 0 = .ok (.iload_n 1, 1) := by decide +kernel
theorem dX2_perform_1 : decode cX2_perform 1 = .ok (.tableswitch 170 0 14 #[75, 170, 83, 170, 170, 170, 170, 170, 98, 118, 170, 170, 134, 142, 156], 75) := by decide +kernel
theorem dX2_perform_76 : decode cX2_perform 76 = .ok (.aload_n 0, 1) := by decide +kernel
theorem dX2_perform_77 : decode cX2_perform 77 = .ok (.iconst 1, 1) := by decide +kernel
theorem dX2_perform_78 : decode cX2_perform 78 = .ok (.putfield 39, 3) := by decide +kernel
theorem dX2_perform_81 : decode cX2_perform 81 = .ok (.goto 103, 3) := by decide +kernel
theorem dX2_perform_84 : decode cX2_perform 84 = .ok (.aload_n 0, 1) := by decide +kernel
theorem dX2_perform_85 : decode cX2_perform 85 = .ok (.getfield 12, 3) := by decide +kernel
theorem dX2_perform_88 : decode cX2_perform 88 = .ok (.iload_n 2, 1) := by decide +kernel
theorem dX2_perform_89 : decode cX2_perform 89 = .ok (.aload_n 0, 1) := by decide +kernel
theorem dX2_perform_90 : decode cX2_perform 90 = .ok (.getfield 89, 3) := by decide +kernel
theorem dX2_perform_93 : decode cX2_perform 93 = .ok (.invokevirtual 92, 3) := by decide +kernel
theorem dX2_perform_96 : decode cX2_perform 96 = .ok (.goto 88, 3) := by decide +kernel
theorem dX2_perform_99 : decode cX2_perform 99 = .ok (.aload_n 0, 1) := by decide +kernel
theorem dX2_perform_100 : decode cX2_perform 100 = .ok (.aload_n 0, 1) := by decide +kernel
theorem dX2_perform_101 : decode cX2_perform 101 = .ok (.getfield 89, 3) := by decide +kernel
theorem dX2_perform_104 : decode cX2_perform 104 = .ok (.i2l, 1) := by decide +kernel
theorem dX2_perform_105 : decode cX2_perform 105 = .ok (.iload_n 2, 1) := by decide +kernel
theorem dX2_perform_106 : decode cX2_perform 106 = .ok (.invokestatic 105, 3) := by decide +kernel
theorem dX2_perform_109 : decode cX2_perform 109 = .ok (.lshl, 1) := by decide +kernel
theorem dX2_perform_110 : decode cX2_perform 110 = .ok (.invokestatic 108, 3) := by decide +kernel
theorem dX2_perform_113 : decode cX2_perform 113 = .ok (.putfield 89, 3) := by decide +kernel
theorem dX2_perform_116 : decode cX2_perform 116 = .ok (.goto 68, 3) := by decide +kernel
theorem dX2_perform_119 : decode cX2_perform 119 = .ok (.aload_n 0, 1) := by decide +kernel
theorem dX2_perform_120 : decode cX2_perform 120 = .ok (.aload_n 0, 1) := by decide +kernel
theorem dX2_perform_121 : decode cX2_perform 121 = .ok (.getfield 89, 3) := by decide +kernel
theorem dX2_perform_124 : decode cX2_perform 124 = .ok (.iload_n 2, 1) := by decide +kernel
theorem dX2_perform_125 : decode cX2_perform 125 = .ok (.invokestatic 105, 3) := by decide +kernel
theorem dX2_perform_128 : decode cX2_perform 128 = .ok (.ishr, 1) := by decide +kernel
theorem dX2_perform_129 : decode cX2_perform 129 = .ok (.putfield 89, 3) := by decide +kernel
theorem dX2_perform_132 : decode cX2_perform 132 = .ok (.goto 52, 3) := by decide +kernel
theorem dX2_perform_135 : decode cX2_perform 135 = .ok (.aload_n 0, 1) := by decide +kernel
theorem dX2_perform_136 : decode cX2_perform 136 = .ok (.iconst 0, 1) := by decide +kernel
theorem dX2_perform_137 : decode cX2_perform 137 = .ok (.putfield 101, 3) := by decide +kernel
theorem dX2_perform_140 : decode cX2_perform 140 = .ok (.goto 44, 3) := by decide +kernel
theorem dX2_perform_143 : decode cX2_perform 143 = .ok (.aload_n 0, 1) := by decide +kernel
theorem dX2_perform_144 : decode cX2_perform 144 = .ok (.aload_n 0, 1) := by decide +kernel
theorem dX2_perform_145 : decode cX2_perform 145 = .ok (.getfield 28, 3) := by decide +kernel
theorem dX2_perform_148 : decode cX2_perform 148 = .ok (.invokevirtual 112, 3) := by decide +kernel
theorem dX2_perform_151 : decode cX2_perform 151 = .ok (.putfield 89, 3) := by decide +kernel
theorem dX2_perform_154 : decode cX2_perform 154 = .ok (.goto 30, 3) := by decide +kernel
theorem dX2_perform_157 : decode cX2_perform 157 = .ok (.aload_n 0, 1) := by decide +kernel
theorem dX2_perform_158 : decode cX2_perform 158 = .ok (.getfield 32, 3) := by decide +kernel
theorem dX2_perform_161 : decode cX2_perform 161 = .ok (.aload_n 0, 1) := by decide +kernel
theorem dX2_perform_162 : decode cX2_perform 162 = .ok (.getfield 89, 3) := by decide +kernel
theorem dX2_perform_165 : decode cX2_perform 165 = .ok (.invokevirtual 116, 3) := by decide +kernel
theorem dX2_perform_168 : decode cX2_perform 168 = .ok (.goto 16, 3) := by decide +kernel
theorem dX2_perform_171 : decode cX2_perform 171 = .ok (.aload_n 0, 1) := by decide +kernel
theorem dX2_perform_172 : decode cX2_perform 172 = .ok (.iload_n 1, 1) := by decide +kernel
theorem dX2_perform_173 : decode cX2_perform 173 = .ok (.aload_n 0, 1) := by decide +kernel
theorem dX2_perform_174 : decode cX2_perform 174 = .ok (.getfield 12, 3) := by decide +kernel
theorem dX2_perform_177 : decode cX2_perform 177 = .ok (.iload_n 2, 1) := by decide +kernel
theorem dX2_perform_178 : decode cX2_perform 178 = .ok (.invokevirtual 56, 3) := by decide +kernel
theorem dX2_perform_181 : decode cX2_perform 181 = .ok (.invokevirtual 119, 3) := by decide +kernel
theorem dX2_perform_184 : decode cX2_perform 184 = .ok (.return_, 1) := by decide +kernel
theorem dX2_combine_0 : decode cX2_combine 0 = .ok (.iload_n 1, 1) := by decide +kernel
theorem dX2_combine_1 : decode cX2_combine 1 = .ok (.tableswitch 168 1 15 #[75, 168, 83, 98, 113, 126, 139, 168, 168, 168, 168, 168, 168, 168, 154], 75) := by decide +kernel
theorem dX2_combine_76 : decode cX2_combine 76 = .ok (.aload_n 0, 1) := by decide +kernel
theorem dX2_combine_77 : decode cX2_combine 77 = .ok (.iload_n 2, 1) := by decide +kernel
theorem dX2_combine_78 : decode cX2_combine 78 = .ok (.putfield 89, 3) := by decide +kernel
theorem dX2_combine_81 : decode cX2_combine 81 = .ok (.goto 88, 3) := by decide +kernel
theorem dX2_combine_84 : decode cX2_combine 84 = .ok (.aload_n 0, 1) := by decide +kernel
theorem dX2_combine_85 : decode cX2_combine 85 = .ok (.aload_n 0, 1) := by decide +kernel
theorem dX2_combine_86 : decode cX2_combine 86 = .ok (.getfield 89, 3) := by decide +kernel
theorem dX2_combine_89 : decode cX2_combine 89 = .ok (.i2l, 1) := by decide +kernel
theorem dX2_combine_90 : decode cX2_combine 90 = .ok (.iload_n 2, 1) := by decide +kernel
theorem dX2_combine_91 : decode cX2_combine 91 = .ok (.i2l, 1) := by decide +kernel
theorem dX2_combine_92 : decode cX2_combine 92 = .ok (.ladd, 1) := by decide +kernel
theorem dX2_combine_93 : decode cX2_combine 93 = .ok (.invokevirtual 122, 3) := by decide +kernel
theorem dX2_combine_96 : decode cX2_combine 96 = .ok (.goto 73, 3) := by decide +kernel
theorem dX2_combine_99 : decode cX2_combine 99 = .ok (.aload_n 0, 1) := by decide +kernel
theorem dX2_combine_100 : decode cX2_combine 100 = .ok (.aload_n 0, 1) := by decide +kernel
theorem dX2_combine_101 : decode cX2_combine 101 = .ok (.getfield 89, 3) := by decide +kernel
theorem dX2_combine_104 : decode cX2_combine 104 = .ok (.i2l, 1) := by decide +kernel
theorem dX2_combine_105 : decode cX2_combine 105 = .ok (.iload_n 2, 1) := by decide +kernel
theorem dX2_combine_106 : decode cX2_combine 106 = .ok (.i2l, 1) := by decide +kernel
theorem dX2_combine_107 : decode cX2_combine 107 = .ok (.lsub, 1) := by decide +kernel
theorem dX2_combine_108 : decode cX2_combine 108 = .ok (.invokevirtual 122, 3) := by decide +kernel
theorem dX2_combine_111 : decode cX2_combine 111 = .ok (.goto 58, 3) := by decide +kernel
theorem dX2_combine_114 : decode cX2_combine 114 = .ok (.aload_n 0, 1) := by decide +kernel
theorem dX2_combine_115 : decode cX2_combine 115 = .ok (.dup, 1) := by decide +kernel
theorem dX2_combine_116 : decode cX2_combine 116 = .ok (.getfield 89, 3) := by decide +kernel
theorem dX2_combine_119 : decode cX2_combine 119 = .ok (.iload_n 2, 1) := by decide +kernel
theorem dX2_combine_120 : decode cX2_combine 120 = .ok (.iand, 1) := by decide +kernel
theorem dX2_combine_121 : decode cX2_combine 121 = .ok (.putfield 89, 3) := by decide +kernel
theorem dX2_combine_124 : decode cX2_combine 124 = .ok (.goto 45, 3) := by decide +kernel
theorem dX2_combine_127 : decode cX2_combine 127 = .ok (.aload_n 0, 1) := by decide +kernel
theorem dX2_combine_128 : decode cX2_combine 128 = .ok (.dup, 1) := by decide +kernel
theorem dX2_combine_129 : decode cX2_combine 129 = .ok (.getfield 89, 3) := by decide +kernel
theorem dX2_combine_132 : decode cX2_combine 132 = .ok (.iload_n 2, 1) := by decide +kernel
theorem dX2_combine_133 : decode cX2_combine 133 = .ok (.ixor, 1) := by decide +kernel
theorem dX2_combine_134 : decode cX2_combine 134 = .ok (.putfield 89, 3) := by decide +kernel
theorem dX2_combine_137 : decode cX2_combine 137 = .ok (.goto 32, 3) := by decide +kernel
theorem dX2_combine_140 : decode cX2_combine 140 = .ok (.aload_n 0, 1) := by decide +kernel
theorem dX2_combine_141 : decode cX2_combine 141 = .ok (.aload_n 0, 1) := by decide +kernel
theorem dX2_combine_142 : decode cX2_combine 142 = .ok (.getfield 89, 3) := by decide +kernel
theorem dX2_combine_145 : decode cX2_combine 145 = .ok (.i2l, 1) := by decide +kernel
theorem dX2_combine_146 : decode cX2_combine 146 = .ok (.iload_n 2, 1) := by decide +kernel
theorem dX2_combine_147 : decode cX2_combine 147 = .ok (.i2l, 1) := by decide +kernel
theorem dX2_combine_148 : decode cX2_combine 148 = .ok (.lmul, 1) := by decide +kernel
theorem dX2_combine_149 : decode cX2_combine 149 = .ok (.invokevirtual 122, 3) := by decide +kernel
theorem dX2_combine_152 : decode cX2_combine 152 = .ok (.goto 17, 3) := by decide +kernel
theorem dX2_combine_155 : decode cX2_combine 155 = .ok (.aload_n 0, 1) := by decide +kernel
theorem dX2_combine_156 : decode cX2_combine 156 = .ok (.iload_n 2, 1) := by decide +kernel
theorem dX2_combine_157 : decode cX2_combine 157 = .ok (.i2l, 1) := by decide +kernel
theorem dX2_combine_158 : decode cX2_combine 158 = .ok (.lconst 1, 1) := by decide +kernel
theorem dX2_combine_159 : decode cX2_combine 159 = .ok (.lsub, 1) := by decide +kernel
theorem dX2_combine_160 : decode cX2_combine 160 = .ok (.invokestatic 108, 3) := by decide +kernel
theorem dX2_combine_163 : decode cX2_combine 163 = .ok (.putfield 89, 3) := by decide +kernel
theorem dX2_combine_166 : decode cX2_combine 166 = .ok (.goto 3, 3) := by decide +kernel
theorem dX2_combine_169 : decode cX2_combine 169 = .ok (.return_, 1) := by decide +kernel
theorem dX2_putResult_0 : decode cX2_putResult 0 = .ok (.aload_n 0, 1) := by decide +kernel
theorem dX2_putResult_1 : decode cX2_putResult 1 = .ok (.lload_n 1, 1) := by decide +kernel
theorem dX2_putResult_2 : decode cX2_putResult 2 = .ok (.invokestatic 108, 3) := by decide +kernel
theorem dX2_putResult_5 : decode cX2_putResult 5 = .ok (.putfield 89, 3) := by decide +kernel
theorem dX2_putResult_8 : decode cX2_putResult 8 = .ok (.aload_n 0, 1) := by decide +kernel
theorem dX2_putResult_9 : decode cX2_putResult 9 = .ok (.getfield 89, 3) := by decide +kernel
theorem dX2_putResult_12 : decode cX2_putResult 12 = .ok (.i2l, 1) := by decide +kernel
theorem dX2_putResult_13 : decode cX2_putResult 13 = .ok (.lload_n 1, 1) := by decide +kernel
theorem dX2_putResult_14 : decode cX2_putResult 14 = .ok (.lcmp, 1) := by decide +kernel
theorem dX2_putResult_15 : decode cX2_putResult 15 = .ok (.ifCond .eq 8, 3) := by decide +kernel
theorem dX2_putResult_18 : decode cX2_putResult 18 = .ok (.aload_n 0, 1) := by decide +kernel
theorem dX2_putResult_19 : decode cX2_putResult 19 = .ok (.iconst 1, 1) := by decide +kernel
theorem dX2_putResult_20 : decode cX2_putResult 20 = .ok (.putfield 101, 3) := by decide +kernel
theorem dX2_putResult_23 : decode cX2_putResult 23 = .ok (.return_, 1) := by decide +kernel
theorem dX2_awaitCycle_0 : decode cX2_awaitCycle 0 = .ok (.iload_n 1, 1) := by decide +kernel
theorem dX2_awaitCycle_1 : decode cX2_awaitCycle 1 = .ok (.aload_n 0, 1) := by decide +kernel
theorem dX2_awaitCycle_2 : decode cX2_awaitCycle 2 = .ok (.getfield 126, 3) := by decide +kernel
theorem dX2_awaitCycle_5 : decode cX2_awaitCycle 5 = .ok (.invokestatic 129, 3) := by decide +kernel
theorem dX2_awaitCycle_8 : decode cX2_awaitCycle 8 = .ok (.istore_n 2, 1) := by decide +kernel
theorem dX2_awaitCycle_9 : decode cX2_awaitCycle 9 = .ok (.aload_n 0, 1) := by decide +kernel
theorem dX2_awaitCycle_10 : decode cX2_awaitCycle 10 = .ok (.dup, 1) := by decide +kernel
theorem dX2_awaitCycle_11 : decode cX2_awaitCycle 11 = .ok (.getfield 133, 3) := by decide +kernel
theorem dX2_awaitCycle_14 : decode cX2_awaitCycle 14 = .ok (.iload_n 2, 1) := by decide +kernel
theorem dX2_awaitCycle_15 : decode cX2_awaitCycle 15 = .ok (.iadd, 1) := by decide +kernel
theorem dX2_awaitCycle_16 : decode cX2_awaitCycle 16 = .ok (.putfield 133, 3) := by decide +kernel
theorem dX2_awaitCycle_19 : decode cX2_awaitCycle 19 = .ok (.aload_n 0, 1) := by decide +kernel
theorem dX2_awaitCycle_20 : decode cX2_awaitCycle 20 = .ok (.iload_n 2, 1) := by decide +kernel
theorem dX2_awaitCycle_21 : decode cX2_awaitCycle 21 = .ok (.invokevirtual 60, 3) := by decide +kernel
theorem dX2_awaitCycle_24 : decode cX2_awaitCycle 24 = .ok (.return_, 1) := by decide +kernel
theorem dX2_pass_0 : decode cX2_pass 0 = .ok (.aload_n 0, 1) := by decide +kernel
theorem dX2_pass_1 : decode cX2_pass 1 = .ok (.getfield 126, 3) := by decide +kernel
theorem dX2_pass_4 : decode cX2_pass 4 = .ok (.iload_n 1, 1) := by decide +kernel
theorem dX2_pass_5 : decode cX2_pass 5 = .ok (.iadd, 1) := by decide +kernel
theorem dX2_pass_6 : decode cX2_pass 6 = .ok (.istore_n 2, 1) := by decide +kernel
theorem dX2_pass_7 : decode cX2_pass 7 = .ok (.aload_n 0, 1) := by decide +kernel
theorem dX2_pass_8 : decode cX2_pass 8 = .ok (.getfield 126, 3) := by decide +kernel
theorem dX2_pass_11 : decode cX2_pass 11 = .ok (.bipush 32, 2) := by decide +kernel
theorem dX2_pass_13 : decode cX2_pass 13 = .ok (.idiv, 1) := by decide +kernel
theorem dX2_pass_14 : decode cX2_pass 14 = .ok (.iconst 1, 1) := by decide +kernel
theorem dX2_pass_15 : decode cX2_pass 15 = .ok (.iadd, 1) := by decide +kernel
theorem dX2_pass_16 : decode cX2_pass 16 = .ok (.istore_n 3, 1) := by decide +kernel
theorem dX2_pass_17 : decode cX2_pass 17 = .ok (.iload_n 3, 1) := by decide +kernel
theorem dX2_pass_18 : decode cX2_pass 18 = .ok (.iload_n 2, 1) := by decide +kernel
theorem dX2_pass_19 : decode cX2_pass 19 = .ok (.bipush 32, 2) := by decide +kernel
theorem dX2_pass_21 : decode cX2_pass 21 = .ok (.idiv, 1) := by decide +kernel
theorem dX2_pass_22 : decode cX2_pass 22 = .ok (.if_icmp .gt 14, 3) := by decide +kernel
theorem dX2_pass_25 : decode cX2_pass 25 = .ok (.aload_n 0, 1) := by decide +kernel
theorem dX2_pass_26 : decode cX2_pass 26 = .ok (.iload_n 3, 1) := by decide +kernel
theorem dX2_pass_27 : decode cX2_pass 27 = .ok (.invokevirtual 136, 3) := by decide +kernel
theorem dX2_pass_30 : decode cX2_pass 30 = .ok (.iinc 3 1, 3) := by decide +kernel
theorem dX2_pass_33 : decode cX2_pass 33 = .ok (.goto (-16), 3) := by decide +kernel
theorem dX2_pass_36 : decode cX2_pass 36 = .ok (.aload_n 0, 1) := by decide +kernel
theorem dX2_pass_37 : decode cX2_pass 37 = .ok (.iload_n 2, 1) := by decide +kernel
theorem dX2_pass_38 : decode cX2_pass 38 = .ok (.putfield 126, 3) := by decide +kernel
theorem dX2_pass_41 : decode cX2_pass 41 = .ok (.return_, 1) := by decide +kernel
theorem dX2_endMajorCycle_0 : decode cX2_endMajorCycle 0 = .ok (.aload_n 0, 1) := by decide +kernel
theorem dX2_endMajorCycle_1 : decode cX2_endMajorCycle 1 = .ok (.getfield 21, 3) := by decide +kernel
theorem dX2_endMajorCycle_4 : decode cX2_endMajorCycle 4 = .ok (.invokevirtual 139, 3) := by decide +kernel
theorem dX2_endMajorCycle_7 : decode cX2_endMajorCycle 7 = .ok (.istore_n 2, 1) := by decide +kernel
theorem dX2_endMajorCycle_8 : decode cX2_endMajorCycle 8 = .ok (.iload_n 2, 1) := by decide +kernel
theorem dX2_endMajorCycle_9 : decode cX2_endMajorCycle 9 = .ok (.ifCond .gt 4, 3) := by decide +kernel
theorem dX2_endMajorCycle_12 : decode cX2_endMajorCycle 12 = .ok (.return_, 1) := by decide +kernel
theorem dX2_endMajorCycle_13 : decode cX2_endMajorCycle 13 = .ok (.iconst 0, 1) := by decide +kernel
theorem dX2_endMajorCycle_14 : decode cX2_endMajorCycle 14 = .ok (.istore_n 3, 1) := by decide +kernel
theorem dX2_endMajorCycle_15 : decode cX2_endMajorCycle 15 = .ok (.iload_n 3, 1) := by decide +kernel
theorem dX2_endMajorCycle_16 : decode cX2_endMajorCycle 16 = .ok (.bipush 8, 2) := by decide +kernel
theorem dX2_endMajorCycle_18 : decode cX2_endMajorCycle 18 = .ok (.if_icmp .ge 79, 3) := by decide +kernel
theorem dX2_endMajorCycle_21 : decode cX2_endMajorCycle 21 = .ok (.aload_n 0, 1) := by decide +kernel
theorem dX2_endMajorCycle_22 : decode cX2_endMajorCycle 22 = .ok (.getfield 21, 3) := by decide +kernel
theorem dX2_endMajorCycle_25 : decode cX2_endMajorCycle 25 = .ok (.iload_n 3, 1) := by decide +kernel
theorem dX2_endMajorCycle_26 : decode cX2_endMajorCycle 26 = .ok (.invokevirtual 142, 3) := by decide +kernel
theorem dX2_endMajorCycle_29 : decode cX2_endMajorCycle 29 = .ok (.iload_n 2, 1) := by decide +kernel
theorem dX2_endMajorCycle_30 : decode cX2_endMajorCycle 30 = .ok (.invokestatic 145, 3) := by decide +kernel
theorem dX2_endMajorCycle_33 : decode cX2_endMajorCycle 33 = .ok (.istore 4, 2) := by decide +kernel
theorem dX2_endMajorCycle_35 : decode cX2_endMajorCycle 35 = .ok (.iload 4, 2) := by decide +kernel
theorem dX2_endMajorCycle_37 : decode cX2_endMajorCycle 37 = .ok (.iload_n 2, 1) := by decide +kernel
theorem dX2_endMajorCycle_38 : decode cX2_endMajorCycle 38 = .ok (.iconst 2, 1) := by decide +kernel
theorem dX2_endMajorCycle_39 : decode cX2_endMajorCycle 39 = .ok (.idiv, 1) := by decide +kernel
theorem dX2_endMajorCycle_40 : decode cX2_endMajorCycle 40 = .ok (.iadd, 1) := by decide +kernel
theorem dX2_endMajorCycle_41 : decode cX2_endMajorCycle 41 = .ok (.iload_n 2, 1) := by decide +kernel
theorem dX2_endMajorCycle_42 : decode cX2_endMajorCycle 42 = .ok (.invokestatic 148, 3) := by decide +kernel
theorem dX2_endMajorCycle_45 : decode cX2_endMajorCycle 45 = .ok (.istore 5, 2) := by decide +kernel
theorem dX2_endMajorCycle_47 : decode cX2_endMajorCycle 47 = .ok (.aload_n 0, 1) := by decide +kernel
theorem dX2_endMajorCycle_48 : decode cX2_endMajorCycle 48 = .ok (.getfield 12, 3) := by decide +kernel
theorem dX2_endMajorCycle_51 : decode cX2_endMajorCycle 51 = .ok (.iload_n 3, 1) := by decide +kernel
theorem dX2_endMajorCycle_52 : decode cX2_endMajorCycle 52 = .ok (.iload 5, 2) := by decide +kernel
theorem dX2_endMajorCycle_54 : decode cX2_endMajorCycle 54 = .ok (.invokevirtual 153, 3) := by decide +kernel
theorem dX2_endMajorCycle_57 : decode cX2_endMajorCycle 57 = .ok (.iload 4, 2) := by decide +kernel
theorem dX2_endMajorCycle_59 : decode cX2_endMajorCycle 59 = .ok (.iload 5, 2) := by decide +kernel
theorem dX2_endMajorCycle_61 : decode cX2_endMajorCycle 61 = .ok (.iload_n 2, 1) := by decide +kernel
theorem dX2_endMajorCycle_62 : decode cX2_endMajorCycle 62 = .ok (.imul, 1) := by decide +kernel
theorem dX2_endMajorCycle_63 : decode cX2_endMajorCycle 63 = .ok (.isub, 1) := by decide +kernel
theorem dX2_endMajorCycle_64 : decode cX2_endMajorCycle 64 = .ok (.invokestatic 156, 3) := by decide +kernel
theorem dX2_endMajorCycle_67 : decode cX2_endMajorCycle 67 = .ok (.iload_n 2, 1) := by decide +kernel
theorem dX2_endMajorCycle_68 : decode cX2_endMajorCycle 68 = .ok (.iconst 4, 1) := by decide +kernel
theorem dX2_endMajorCycle_69 : decode cX2_endMajorCycle 69 = .ok (.idiv, 1) := by decide +kernel
theorem dX2_endMajorCycle_70 : decode cX2_endMajorCycle 70 = .ok (.if_icmp .le 21, 3) := by decide +kernel
theorem dX2_endMajorCycle_73 : decode cX2_endMajorCycle 73 = .ok (.aload_n 0, 1) := by decide +kernel
theorem dX2_endMajorCycle_74 : decode cX2_endMajorCycle 74 = .ok (.getfield 12, 3) := by decide +kernel
theorem dX2_endMajorCycle_77 : decode cX2_endMajorCycle 77 = .ok (.iload_n 3, 1) := by decide +kernel
theorem dX2_endMajorCycle_78 : decode cX2_endMajorCycle 78 = .ok (.bipush 7, 2) := by decide +kernel
theorem dX2_endMajorCycle_80 : decode cX2_endMajorCycle 80 = .ok (.iload_n 1, 1) := by decide +kernel
theorem dX2_endMajorCycle_81 : decode cX2_endMajorCycle 81 = .ok (.imul, 1) := by decide +kernel
theorem dX2_endMajorCycle_82 : decode cX2_endMajorCycle 82 = .ok (.iload_n 3, 1) := by decide +kernel
theorem dX2_endMajorCycle_83 : decode cX2_endMajorCycle 83 = .ok (.iadd, 1) := by decide +kernel
theorem dX2_endMajorCycle_84 : decode cX2_endMajorCycle 84 = .ok (.sipush 640, 3) := by decide +kernel
theorem dX2_endMajorCycle_87 : decode cX2_endMajorCycle 87 = .ok (.irem, 1) := by decide +kernel
theorem dX2_endMajorCycle_88 : decode cX2_endMajorCycle 88 = .ok (.invokevirtual 159, 3) := by decide +kernel
theorem dX2_endMajorCycle_91 : decode cX2_endMajorCycle 91 = .ok (.iinc 3 1, 3) := by decide +kernel
theorem dX2_endMajorCycle_94 : decode cX2_endMajorCycle 94 = .ok (.goto (-79), 3) := by decide +kernel
theorem dX2_endMajorCycle_97 : decode cX2_endMajorCycle 97 = .ok (.aload_n 0, 1) := by decide +kernel
theorem dX2_endMajorCycle_98 : decode cX2_endMajorCycle 98 = .ok (.getfield 21, 3) := by decide +kernel
theorem dX2_endMajorCycle_101 : decode cX2_endMajorCycle 101 = .ok (.invokevirtual 162, 3) := by decide +kernel
theorem dX2_endMajorCycle_104 : decode cX2_endMajorCycle 104 = .ok (.return_, 1) := by decide +kernel
theorem dX2_copyFrom_0 : decode cX2_copyFrom 0 = .ok (.aload_n 0, 1) := by decide +kernel
theorem dX2_copyFrom_1 : decode cX2_copyFrom 1 = .ok (.getfield 12, 3) := by decide +kernel
theorem dX2_copyFrom_4 : decode cX2_copyFrom 4 = .ok (.aload_n 1, 1) := by decide +kernel
theorem dX2_copyFrom_5 : decode cX2_copyFrom 5 = .ok (.getfield 12, 3) := by decide +kernel
theorem dX2_copyFrom_8 : decode cX2_copyFrom 8 = .ok (.invokevirtual 165, 3) := by decide +kernel
theorem dX2_copyFrom_11 : decode cX2_copyFrom 11 = .ok (.aload_n 0, 1) := by decide +kernel
theorem dX2_copyFrom_12 : decode cX2_copyFrom 12 = .ok (.getfield 21, 3) := by decide +kernel
theorem dX2_copyFrom_15 : decode cX2_copyFrom 15 = .ok (.aload_n 1, 1) := by decide +kernel
theorem dX2_copyFrom_16 : decode cX2_copyFrom 16 = .ok (.getfield 21, 3) := by decide +kernel
theorem dX2_copyFrom_19 : decode cX2_copyFrom 19 = .ok (.invokevirtual 169, 3) := by decide +kernel
theorem dX2_copyFrom_22 : decode cX2_copyFrom 22 = .ok (.aload_n 0, 1) := by decide +kernel
theorem dX2_copyFrom_23 : decode cX2_copyFrom 23 = .ok (.getfield 28, 3) := by decide +kernel
theorem dX2_copyFrom_26 : decode cX2_copyFrom 26 = .ok (.aload_n 1, 1) := by decide +kernel
theorem dX2_copyFrom_27 : decode cX2_copyFrom 27 = .ok (.getfield 28, 3) := by decide +kernel
theorem dX2_copyFrom_30 : decode cX2_copyFrom 30 = .ok (.invokevirtual 172, 3) := by decide +kernel
theorem dX2_copyFrom_33 : decode cX2_copyFrom 33 = .ok (.aload_n 0, 1) := by decide +kernel
theorem dX2_copyFrom_34 : decode cX2_copyFrom 34 = .ok (.getfield 32, 3) := by decide +kernel
theorem dX2_copyFrom_37 : decode cX2_copyFrom 37 = .ok (.aload_n 1, 1) := by decide +kernel
theorem dX2_copyFrom_38 : decode cX2_copyFrom 38 = .ok (.getfield 32, 3) := by decide +kernel
theorem dX2_copyFrom_41 : decode cX2_copyFrom 41 = .ok (.invokevirtual 172, 3) := by decide +kernel
theorem dX2_copyFrom_44 : decode cX2_copyFrom 44 = .ok (.aload_n 1, 1) := by decide +kernel
theorem dX2_copyFrom_45 : decode cX2_copyFrom 45 = .ok (.getfield 35, 3) := by decide +kernel
theorem dX2_copyFrom_48 : decode cX2_copyFrom 48 = .ok (.aload_n 0, 1) := by decide +kernel
theorem dX2_copyFrom_49 : decode cX2_copyFrom 49 = .ok (.getfield 35, 3) := by decide +kernel
theorem dX2_copyFrom_52 : decode cX2_copyFrom 52 = .ok (.invokestatic 175, 3) := by decide +kernel
theorem dX2_copyFrom_55 : decode cX2_copyFrom 55 = .ok (.aload_n 0, 1) := by decide +kernel
theorem dX2_copyFrom_56 : decode cX2_copyFrom 56 = .ok (.aload_n 1, 1) := by decide +kernel
theorem dX2_copyFrom_57 : decode cX2_copyFrom 57 = .ok (.getfield 46, 3) := by decide +kernel
theorem dX2_copyFrom_60 : decode cX2_copyFrom 60 = .ok (.putfield 46, 3) := by decide +kernel
theorem dX2_copyFrom_63 : decode cX2_copyFrom 63 = .ok (.aload_n 0, 1) := by decide +kernel
theorem dX2_copyFrom_64 : decode cX2_copyFrom 64 = .ok (.aload_n 1, 1) := by decide +kernel
theorem dX2_copyFrom_65 : decode cX2_copyFrom 65 = .ok (.getfield 133, 3) := by decide +kernel
theorem dX2_copyFrom_68 : decode cX2_copyFrom 68 = .ok (.putfield 133, 3) := by decide +kernel
theorem dX2_copyFrom_71 : decode cX2_copyFrom 71 = .ok (.aload_n 0, 1) := by decide +kernel
theorem dX2_copyFrom_72 : decode cX2_copyFrom 72 = .ok (.aload_n 1, 1) := by decide +kernel
theorem dX2_copyFrom_73 : decode cX2_copyFrom 73 = .ok (.getfield 126, 3) := by decide +kernel
theorem dX2_copyFrom_76 : decode cX2_copyFrom 76 = .ok (.putfield 126, 3) := by decide +kernel
theorem dX2_copyFrom_79 : decode cX2_copyFrom 79 = .ok (.aload_n 0, 1) := by decide +kernel
theorem dX2_copyFrom_80 : decode cX2_copyFrom 80 = .ok (.aload_n 1, 1) := by decide +kernel
theorem dX2_copyFrom_81 : decode cX2_copyFrom 81 = .ok (.getfield 39, 3) := by decide +kernel
theorem dX2_copyFrom_84 : decode cX2_copyFrom 84 = .ok (.putfield 39, 3) := by decide +kernel
theorem dX2_copyFrom_87 : decode cX2_copyFrom 87 = .ok (.aload_n 0, 1) := by decide +kernel
theorem dX2_copyFrom_88 : decode cX2_copyFrom 88 = .ok (.aload_n 1, 1) := by decide +kernel
theorem dX2_copyFrom_89 : decode cX2_copyFrom 89 = .ok (.getfield 43, 3) := by decide +kernel
theorem dX2_copyFrom_92 : decode cX2_copyFrom 92 = .ok (.putfield 43, 3) := by decide +kernel
theorem dX2_copyFrom_95 : decode cX2_copyFrom 95 = .ok (.aload_n 0, 1) := by decide +kernel
theorem dX2_copyFrom_96 : decode cX2_copyFrom 96 = .ok (.aload_n 1, 1) := by decide +kernel
theorem dX2_copyFrom_97 : decode cX2_copyFrom 97 = .ok (.getfield 89, 3) := by decide +kernel
theorem dX2_copyFrom_100 : decode cX2_copyFrom 100 = .ok (.putfield 89, 3) := by decide +kernel
theorem dX2_copyFrom_103 : decode cX2_copyFrom 103 = .ok (.aload_n 0, 1) := by decide +kernel
theorem dX2_copyFrom_104 : decode cX2_copyFrom 104 = .ok (.aload_n 1, 1) := by decide +kernel
theorem dX2_copyFrom_105 : decode cX2_copyFrom 105 = .ok (.getfield 101, 3) := by decide +kernel
theorem dX2_copyFrom_108 : decode cX2_copyFrom 108 = .ok (.putfield 101, 3) := by decide +kernel
theorem dX2_copyFrom_111 : decode cX2_copyFrom 111 = .ok (.return_, 1) := by decide +kernel
theorem dX3_opcode_0 : decode cX3_opcode 0 = .ok (.iload_n 0, 1) := by decide +kernel
theorem dX3_opcode_1 : decode cX3_opcode 1 = .ok (.bipush 15, 2) := by decide +kernel
theorem dX3_opcode_3 : decode cX3_opcode 3 = .ok (.iand, 1) := by decide +kernel
theorem dX3_opcode_4 : decode cX3_opcode 4 = .ok (.ireturn, 1) := by decide +kernel
theorem dX3_operand_0 : decode cX3_operand 0 = .ok (.iload_n 0, 1) := by decide +kernel
theorem dX3_operand_1 : decode cX3_operand 1 = .ok (.iconst 4, 1) := by decide +kernel
theorem dX3_operand_2 : decode cX3_operand 2 = .ok (.ishr, 1) := by decide +kernel
theorem dX3_operand_3 : decode cX3_operand 3 = .ok (.bipush 7, 2) := by decide +kernel
theorem dX3_operand_5 : decode cX3_operand 5 = .ok (.iand, 1) := by decide +kernel
theorem dX3_operand_6 : decode cX3_operand 6 = .ok (.iload_n 0, 1) := by decide +kernel
theorem dX3_operand_7 : decode cX3_operand 7 = .ok (.bipush 7, 2) := by decide +kernel
theorem dX3_operand_9 : decode cX3_operand 9 = .ok (.ishr, 1) := by decide +kernel
theorem dX3_operand_10 : decode cX3_operand 10 = .ok (.bipush 31, 2) := by decide +kernel
theorem dX3_operand_12 : decode cX3_operand 12 = .ok (.iand, 1) := by decide +kernel
theorem dX3_operand_13 : decode cX3_operand 13 = .ok (.invokestatic 9, 3) := by decide +kernel
theorem dX3_operand_16 : decode cX3_operand 16 = .ok (.ireturn, 1) := by decide +kernel
theorem dX3_next_0 : decode cX3_next 0 = .ok (.iload_n 0, 1) := by decide +kernel
theorem dX3_next_1 : decode cX3_next 1 = .ok (.bipush 12, 2) := by decide +kernel
theorem dX3_next_3 : decode cX3_next 3 = .ok (.ishr, 1) := by decide +kernel
theorem dX3_next_4 : decode cX3_next 4 = .ok (.bipush 7, 2) := by decide +kernel
theorem dX3_next_6 : decode cX3_next 6 = .ok (.iand, 1) := by decide +kernel
theorem dX3_next_7 : decode cX3_next 7 = .ok (.iload_n 0, 1) := by decide +kernel
theorem dX3_next_8 : decode cX3_next 8 = .ok (.bipush 15, 2) := by decide +kernel
theorem dX3_next_10 : decode cX3_next 10 = .ok (.ishr, 1) := by decide +kernel
theorem dX3_next_11 : decode cX3_next 11 = .ok (.bipush 31, 2) := by decide +kernel
theorem dX3_next_13 : decode cX3_next 13 = .ok (.iand, 1) := by decide +kernel
theorem dX3_next_14 : decode cX3_next 14 = .ok (.invokestatic 9, 3) := by decide +kernel
theorem dX3_next_17 : decode cX3_next 17 = .ok (.ireturn, 1) := by decide +kernel
theorem dX3_encode_0 : decode cX3_encode 0 = .ok (.iload_n 1, 1) := by decide +kernel
theorem dX3_encode_1 : decode cX3_encode 1 = .ok (.bipush 32, 2) := by decide +kernel
theorem dX3_encode_3 : decode cX3_encode 3 = .ok (.idiv, 1) := by decide +kernel
theorem dX3_encode_4 : decode cX3_encode 4 = .ok (.iconst 4, 1) := by decide +kernel
theorem dX3_encode_5 : decode cX3_encode 5 = .ok (.ishl, 1) := by decide +kernel
theorem dX3_encode_6 : decode cX3_encode 6 = .ok (.iload_n 1, 1) := by decide +kernel
theorem dX3_encode_7 : decode cX3_encode 7 = .ok (.invokestatic 13, 3) := by decide +kernel
theorem dX3_encode_10 : decode cX3_encode 10 = .ok (.bipush 7, 2) := by decide +kernel
theorem dX3_encode_12 : decode cX3_encode 12 = .ok (.ishl, 1) := by decide +kernel
theorem dX3_encode_13 : decode cX3_encode 13 = .ok (.ior, 1) := by decide +kernel
theorem dX3_encode_14 : decode cX3_encode 14 = .ok (.istore_n 3, 1) := by decide +kernel
theorem dX3_encode_15 : decode cX3_encode 15 = .ok (.iload_n 0, 1) := by decide +kernel
theorem dX3_encode_16 : decode cX3_encode 16 = .ok (.iload_n 3, 1) := by decide +kernel
theorem dX3_encode_17 : decode cX3_encode 17 = .ok (.ior, 1) := by decide +kernel
theorem dX3_encode_18 : decode cX3_encode 18 = .ok (.iload_n 2, 1) := by decide +kernel
theorem dX3_encode_19 : decode cX3_encode 19 = .ok (.invokestatic 17, 3) := by decide +kernel
theorem dX3_encode_22 : decode cX3_encode 22 = .ok (.ireturn, 1) := by decide +kernel
theorem dX3_withNext_0 : decode cX3_withNext 0 = .ok (.iload_n 1, 1) := by decide +kernel
theorem dX3_withNext_1 : decode cX3_withNext 1 = .ok (.bipush 32, 2) := by decide +kernel
theorem dX3_withNext_3 : decode cX3_withNext 3 = .ok (.idiv, 1) := by decide +kernel
theorem dX3_withNext_4 : decode cX3_withNext 4 = .ok (.bipush 12, 2) := by decide +kernel
theorem dX3_withNext_6 : decode cX3_withNext 6 = .ok (.ishl, 1) := by decide +kernel
theorem dX3_withNext_7 : decode cX3_withNext 7 = .ok (.iload_n 1, 1) := by decide +kernel
theorem dX3_withNext_8 : decode cX3_withNext 8 = .ok (.invokestatic 13, 3) := by decide +kernel
theorem dX3_withNext_11 : decode cX3_withNext 11 = .ok (.bipush 15, 2) := by decide +kernel
theorem dX3_withNext_13 : decode cX3_withNext 13 = .ok (.ishl, 1) := by decide +kernel
theorem dX3_withNext_14 : decode cX3_withNext 14 = .ok (.ior, 1) := by decide +kernel
theorem dX3_withNext_15 : decode cX3_withNext 15 = .ok (.istore_n 2, 1) := by decide +kernel
theorem dX3_withNext_16 : decode cX3_withNext 16 = .ok (.iload_n 0, 1) := by decide +kernel
theorem dX3_withNext_17 : decode cX3_withNext 17 = .ok (.sipush 4095, 3) := by decide +kernel
theorem dX3_withNext_20 : decode cX3_withNext 20 = .ok (.iand, 1) := by decide +kernel
theorem dX3_withNext_21 : decode cX3_withNext 21 = .ok (.iload_n 2, 1) := by decide +kernel
theorem dX3_withNext_22 : decode cX3_withNext 22 = .ok (.ior, 1) := by decide +kernel
theorem dX3_withNext_23 : decode cX3_withNext 23 = .ok (.i2l, 1) := by decide +kernel
theorem dX3_withNext_24 : decode cX3_withNext 24 = .ok (.invokestatic 22, 3) := by decide +kernel
theorem dX3_withNext_27 : decode cX3_withNext 27 = .ok (.ireturn, 1) := by decide +kernel
theorem dX3_mnemonic_0 : decode cX3_mnemonic 0 = .ok (.iload_n 0, 1) := by decide +kernel
theorem dX3_mnemonic_1 : decode cX3_mnemonic 1 = .ok (.tableswitch 120 1 15 #[75, 78, 81, 84, 87, 90, 93, 96, 99, 102, 105, 108, 111, 114, 117], 75) := by decide +kernel
theorem dX3_mnemonic_76 : decode cX3_mnemonic 76 = .ok (.ldc 26, 2) := by decide +kernel
theorem dX3_mnemonic_78 : decode cX3_mnemonic 78 = .ok (.areturn, 1) := by decide +kernel
theorem dX3_mnemonic_79 : decode cX3_mnemonic 79 = .ok (.ldc 28, 2) := by decide +kernel
theorem dX3_mnemonic_81 : decode cX3_mnemonic 81 = .ok (.areturn, 1) := by decide +kernel
theorem dX3_mnemonic_82 : decode cX3_mnemonic 82 = .ok (.ldc 30, 2) := by decide +kernel
theorem dX3_mnemonic_84 : decode cX3_mnemonic 84 = .ok (.areturn, 1) := by decide +kernel
theorem dX3_mnemonic_85 : decode cX3_mnemonic 85 = .ok (.ldc 32, 2) := by decide +kernel
theorem dX3_mnemonic_87 : decode cX3_mnemonic 87 = .ok (.areturn, 1) := by decide +kernel
theorem dX3_mnemonic_88 : decode cX3_mnemonic 88 = .ok (.ldc 34, 2) := by decide +kernel
theorem dX3_mnemonic_90 : decode cX3_mnemonic 90 = .ok (.areturn, 1) := by decide +kernel
theorem dX3_mnemonic_91 : decode cX3_mnemonic 91 = .ok (.ldc 36, 2) := by decide +kernel
theorem dX3_mnemonic_93 : decode cX3_mnemonic 93 = .ok (.areturn, 1) := by decide +kernel
theorem dX3_mnemonic_94 : decode cX3_mnemonic 94 = .ok (.ldc 38, 2) := by decide +kernel
theorem dX3_mnemonic_96 : decode cX3_mnemonic 96 = .ok (.areturn, 1) := by decide +kernel
theorem dX3_mnemonic_97 : decode cX3_mnemonic 97 = .ok (.ldc 40, 2) := by decide +kernel
theorem dX3_mnemonic_99 : decode cX3_mnemonic 99 = .ok (.areturn, 1) := by decide +kernel
theorem dX3_mnemonic_100 : decode cX3_mnemonic 100 = .ok (.ldc 42, 2) := by decide +kernel
theorem dX3_mnemonic_102 : decode cX3_mnemonic 102 = .ok (.areturn, 1) := by decide +kernel
theorem dX3_mnemonic_103 : decode cX3_mnemonic 103 = .ok (.ldc 44, 2) := by decide +kernel
theorem dX3_mnemonic_105 : decode cX3_mnemonic 105 = .ok (.areturn, 1) := by decide +kernel
theorem dX3_mnemonic_106 : decode cX3_mnemonic 106 = .ok (.ldc 46, 2) := by decide +kernel
theorem dX3_mnemonic_108 : decode cX3_mnemonic 108 = .ok (.areturn, 1) := by decide +kernel
theorem dX3_mnemonic_109 : decode cX3_mnemonic 109 = .ok (.ldc 48, 2) := by decide +kernel
theorem dX3_mnemonic_111 : decode cX3_mnemonic 111 = .ok (.areturn, 1) := by decide +kernel
theorem dX3_mnemonic_112 : decode cX3_mnemonic 112 = .ok (.ldc 50, 2) := by decide +kernel
theorem dX3_mnemonic_114 : decode cX3_mnemonic 114 = .ok (.areturn, 1) := by decide +kernel
theorem dX3_mnemonic_115 : decode cX3_mnemonic 115 = .ok (.ldc 52, 2) := by decide +kernel
theorem dX3_mnemonic_117 : decode cX3_mnemonic 117 = .ok (.areturn, 1) := by decide +kernel
theorem dX3_mnemonic_118 : decode cX3_mnemonic 118 = .ok (.ldc 54, 2) := by decide +kernel
theorem dX3_mnemonic_120 : decode cX3_mnemonic 120 = .ok (.areturn, 1) := by decide +kernel
theorem dX3_mnemonic_121 : decode cX3_mnemonic 121 = .ok (.ldc 56, 2) := by decide +kernel
theorem dX3_mnemonic_123 : decode cX3_mnemonic 123 = .ok (.areturn, 1) := by decide +kernel
theorem dX3_operandForm_0 : decode cX3_operandForm 0 = .ok (.iload_n 0, 1) := by decide +kernel
theorem dX3_operandForm_1 : decode cX3_operandForm 1 = .ok (.tableswitch 79 0 14 #[75, 79, 79, 79, 79, 79, 79, 79, 77, 77, 79, 79, 79, 75, 75], 75) := by decide +kernel
theorem dX3_operandForm_76 : decode cX3_operandForm 76 = .ok (.iconst 0, 1) := by decide +kernel
theorem dX3_operandForm_77 : decode cX3_operandForm 77 = .ok (.ireturn, 1) := by decide +kernel
theorem dX3_operandForm_78 : decode cX3_operandForm 78 = .ok (.iconst 2, 1) := by decide +kernel
theorem dX3_operandForm_79 : decode cX3_operandForm 79 = .ok (.ireturn, 1) := by decide +kernel
theorem dX3_operandForm_80 : decode cX3_operandForm 80 = .ok (.iconst 1, 1) := by decide +kernel
theorem dX3_operandForm_81 : decode cX3_operandForm 81 = .ok (.ireturn, 1) := by decide +kernel
theorem dX3_isJump_0 : decode cX3_isJump 0 = .ok (.iload_n 0, 1) := by decide +kernel
theorem dX3_isJump_1 : decode cX3_isJump 1 = .ok (.bipush 10, 2) := by decide +kernel
theorem dX3_isJump_3 : decode cX3_isJump 3 = .ok (.if_icmp .eq 15, 3) := by decide +kernel
theorem dX3_isJump_6 : decode cX3_isJump 6 = .ok (.iload_n 0, 1) := by decide +kernel
theorem dX3_isJump_7 : decode cX3_isJump 7 = .ok (.bipush 11, 2) := by decide +kernel
theorem dX3_isJump_9 : decode cX3_isJump 9 = .ok (.if_icmp .eq 9, 3) := by decide +kernel
theorem dX3_isJump_12 : decode cX3_isJump 12 = .ok (.iload_n 0, 1) := by decide +kernel
theorem dX3_isJump_13 : decode cX3_isJump 13 = .ok (.bipush 12, 2) := by decide +kernel
theorem dX3_isJump_15 : decode cX3_isJump 15 = .ok (.if_icmp .ne 7, 3) := by decide +kernel
theorem dX3_isJump_18 : decode cX3_isJump 18 = .ok (.iconst 1, 1) := by decide +kernel
theorem dX3_isJump_19 : decode cX3_isJump 19 = .ok (.goto 4, 3) := by decide +kernel
theorem dX3_isJump_22 : decode cX3_isJump 22 = .ok (.iconst 0, 1) := by decide +kernel
theorem dX3_isJump_23 : decode cX3_isJump 23 = .ok (.ireturn, 1) := by decide +kernel
theorem dX3_waitsForOperand_0 : decode cX3_waitsForOperand 0 = .ok (.iload_n 0, 1) := by decide +kernel
theorem dX3_waitsForOperand_1 : decode cX3_waitsForOperand 1 = .ok (.invokestatic 58, 3) := by decide +kernel
theorem dX3_waitsForOperand_4 : decode cX3_waitsForOperand 4 = .ok (.iconst 1, 1) := by decide +kernel
theorem dX3_waitsForOperand_5 : decode cX3_waitsForOperand 5 = .ok (.if_icmp .ne 14, 3) := by decide +kernel
theorem dX3_waitsForOperand_8 : decode cX3_waitsForOperand 8 = .ok (.iload_n 0, 1) := by decide +kernel
theorem dX3_waitsForOperand_9 : decode cX3_waitsForOperand 9 = .ok (.invokestatic 61, 3) := by decide +kernel
theorem dX3_waitsForOperand_12 : decode cX3_waitsForOperand 12 = .ok (.ifCond .ne 7, 3) := by decide +kernel
theorem dX3_waitsForOperand_15 : decode cX3_waitsForOperand 15 = .ok (.iconst 1, 1) := by decide +kernel
theorem dX3_waitsForOperand_16 : decode cX3_waitsForOperand 16 = .ok (.goto 4, 3) := by decide +kernel
theorem dX3_waitsForOperand_19 : decode cX3_waitsForOperand 19 = .ok (.iconst 0, 1) := by decide +kernel
theorem dX3_waitsForOperand_20 : decode cX3_waitsForOperand 20 = .ok (.ireturn, 1) := by decide +kernel
theorem dX3_ownTime_0 : decode cX3_ownTime 0 = .ok (.iload_n 0, 1) := by decide +kernel
theorem dX3_ownTime_1 : decode cX3_ownTime 1 = .ok (.invokestatic 65, 3) := by decide +kernel
theorem dX3_ownTime_4 : decode cX3_ownTime 4 = .ok (.lookupswitch 80 #[(0, 52), (7, 54), (8, 57), (9, 67), (15, 77)], 52) := by decide +kernel
theorem dX3_ownTime_56 : decode cX3_ownTime 56 = .ok (.iconst 0, 1) := by decide +kernel
theorem dX3_ownTime_57 : decode cX3_ownTime 57 = .ok (.ireturn, 1) := by decide +kernel
theorem dX3_ownTime_58 : decode cX3_ownTime 58 = .ok (.bipush 21, 2) := by decide +kernel
theorem dX3_ownTime_60 : decode cX3_ownTime 60 = .ok (.ireturn, 1) := by decide +kernel
theorem dX3_ownTime_61 : decode cX3_ownTime 61 = .ok (.iconst 1, 1) := by decide +kernel
theorem dX3_ownTime_62 : decode cX3_ownTime 62 = .ok (.iload_n 0, 1) := by decide +kernel
theorem dX3_ownTime_63 : decode cX3_ownTime 63 = .ok (.invokestatic 68, 3) := by decide +kernel
theorem dX3_ownTime_66 : decode cX3_ownTime 66 = .ok (.invokestatic 13, 3) := by decide +kernel
theorem dX3_ownTime_69 : decode cX3_ownTime 69 = .ok (.iadd, 1) := by decide +kernel
theorem dX3_ownTime_70 : decode cX3_ownTime 70 = .ok (.ireturn, 1) := by decide +kernel
theorem dX3_ownTime_71 : decode cX3_ownTime 71 = .ok (.iconst 1, 1) := by decide +kernel
theorem dX3_ownTime_72 : decode cX3_ownTime 72 = .ok (.iload_n 0, 1) := by decide +kernel
theorem dX3_ownTime_73 : decode cX3_ownTime 73 = .ok (.invokestatic 68, 3) := by decide +kernel
theorem dX3_ownTime_76 : decode cX3_ownTime 76 = .ok (.invokestatic 13, 3) := by decide +kernel
theorem dX3_ownTime_79 : decode cX3_ownTime 79 = .ok (.iadd, 1) := by decide +kernel
theorem dX3_ownTime_80 : decode cX3_ownTime 80 = .ok (.ireturn, 1) := by decide +kernel
theorem dX3_ownTime_81 : decode cX3_ownTime 81 = .ok (.bipush 33, 2) := by decide +kernel
theorem dX3_ownTime_83 : decode cX3_ownTime 83 = .ok (.ireturn, 1) := by decide +kernel
theorem dX3_ownTime_84 : decode cX3_ownTime 84 = .ok (.iconst 1, 1) := by decide +kernel
theorem dX3_ownTime_85 : decode cX3_ownTime 85 = .ok (.ireturn, 1) := by decide +kernel
theorem dX3_duration_0 : decode cX3_duration 0 = .ok (.iload_n 0, 1) := by decide +kernel
theorem dX3_duration_1 : decode cX3_duration 1 = .ok (.invokestatic 65, 3) := by decide +kernel
theorem dX3_duration_4 : decode cX3_duration 4 = .ok (.invokestatic 71, 3) := by decide +kernel
theorem dX3_duration_7 : decode cX3_duration 7 = .ok (.ifCond .eq 16, 3) := by decide +kernel
theorem dX3_duration_10 : decode cX3_duration 10 = .ok (.iload_n 0, 1) := by decide +kernel
theorem dX3_duration_11 : decode cX3_duration 11 = .ok (.invokestatic 68, 3) := by decide +kernel
theorem dX3_duration_14 : decode cX3_duration 14 = .ok (.iload_n 1, 1) := by decide +kernel
theorem dX3_duration_15 : decode cX3_duration 15 = .ok (.iconst 1, 1) := by decide +kernel
theorem dX3_duration_16 : decode cX3_duration 16 = .ok (.iadd, 1) := by decide +kernel
theorem dX3_duration_17 : decode cX3_duration 17 = .ok (.invokestatic 74, 3) := by decide +kernel
theorem dX3_duration_20 : decode cX3_duration 20 = .ok (.goto 4, 3) := by decide +kernel
theorem dX3_duration_23 : decode cX3_duration 23 = .ok (.iconst 0, 1) := by decide +kernel
theorem dX3_duration_24 : decode cX3_duration 24 = .ok (.istore_n 2, 1) := by decide +kernel
theorem dX3_duration_25 : decode cX3_duration 25 = .ok (.iconst 1, 1) := by decide +kernel
theorem dX3_duration_26 : decode cX3_duration 26 = .ok (.iload_n 2, 1) := by decide +kernel
theorem dX3_duration_27 : decode cX3_duration 27 = .ok (.iadd, 1) := by decide +kernel
theorem dX3_duration_28 : decode cX3_duration 28 = .ok (.iload_n 0, 1) := by decide +kernel
theorem dX3_duration_29 : decode cX3_duration 29 = .ok (.invokestatic 77, 3) := by decide +kernel
theorem dX3_duration_32 : decode cX3_duration 32 = .ok (.iadd, 1) := by decide +kernel
theorem dX3_duration_33 : decode cX3_duration 33 = .ok (.ireturn, 1) := by decide +kernel
theorem dX4_init_0 : decode cX4_init 0 = .ok (.aload_n 0, 1) := by decide +kernel
theorem dX4_init_1 : decode cX4_init 1 = .ok (.invokespecial 3, 3) := by decide +kernel
theorem dX4_init_4 : decode cX4_init 4 = .ok (.aload_n 0, 1) := by decide +kernel
theorem dX4_init_5 : decode cX4_init 5 = .ok (.bipush 64, 2) := by decide +kernel
theorem dX4_init_7 : decode cX4_init 7 = .ok (.newarray .int, 2) := by decide +kernel
theorem dX4_init_9 : decode cX4_init 9 = .ok (.putfield 9, 3) := by decide +kernel
theorem dX4_init_12 : decode cX4_init 12 = .ok (.return_, 1) := by decide +kernel
theorem dX4_isFull_0 : decode cX4_isFull 0 = .ok (.aload_n 0, 1) := by decide +kernel
theorem dX4_isFull_1 : decode cX4_isFull 1 = .ok (.getfield 15, 3) := by decide +kernel
theorem dX4_isFull_4 : decode cX4_isFull 4 = .ok (.bipush 64, 2) := by decide +kernel
theorem dX4_isFull_6 : decode cX4_isFull 6 = .ok (.if_icmp .lt 7, 3) := by decide +kernel
theorem dX4_isFull_9 : decode cX4_isFull 9 = .ok (.iconst 1, 1) := by decide +kernel
theorem dX4_isFull_10 : decode cX4_isFull 10 = .ok (.goto 4, 3) := by decide +kernel
theorem dX4_isFull_13 : decode cX4_isFull 13 = .ok (.iconst 0, 1) := by decide +kernel
theorem dX4_isFull_14 : decode cX4_isFull 14 = .ok (.ireturn, 1) := by decide +kernel
theorem dX4_addLast_0 : decode cX4_addLast 0 = .ok (.aload_n 0, 1) := by decide +kernel
theorem dX4_addLast_1 : decode cX4_addLast 1 = .ok (.getfield 9, 3) := by decide +kernel
theorem dX4_addLast_4 : decode cX4_addLast 4 = .ok (.aload_n 0, 1) := by decide +kernel
theorem dX4_addLast_5 : decode cX4_addLast 5 = .ok (.getfield 19, 3) := by decide +kernel
theorem dX4_addLast_8 : decode cX4_addLast 8 = .ok (.aload_n 0, 1) := by decide +kernel
theorem dX4_addLast_9 : decode cX4_addLast 9 = .ok (.getfield 15, 3) := by decide +kernel
theorem dX4_addLast_12 : decode cX4_addLast 12 = .ok (.iadd, 1) := by decide +kernel
theorem dX4_addLast_13 : decode cX4_addLast 13 = .ok (.bipush 63, 2) := by decide +kernel
theorem dX4_addLast_15 : decode cX4_addLast 15 = .ok (.iand, 1) := by decide +kernel
theorem dX4_addLast_16 : decode cX4_addLast 16 = .ok (.iload_n 1, 1) := by decide +kernel
theorem dX4_addLast_17 : decode cX4_addLast 17 = .ok (.iastore, 1) := by decide +kernel
theorem dX4_addLast_18 : decode cX4_addLast 18 = .ok (.aload_n 0, 1) := by decide +kernel
theorem dX4_addLast_19 : decode cX4_addLast 19 = .ok (.dup, 1) := by decide +kernel
theorem dX4_addLast_20 : decode cX4_addLast 20 = .ok (.getfield 15, 3) := by decide +kernel
theorem dX4_addLast_23 : decode cX4_addLast 23 = .ok (.iconst 1, 1) := by decide +kernel
theorem dX4_addLast_24 : decode cX4_addLast 24 = .ok (.iadd, 1) := by decide +kernel
theorem dX4_addLast_25 : decode cX4_addLast 25 = .ok (.putfield 15, 3) := by decide +kernel
theorem dX4_addLast_28 : decode cX4_addLast 28 = .ok (.return_, 1) := by decide +kernel
theorem dX4_removeFirst_0 : decode cX4_removeFirst 0 = .ok (.aload_n 0, 1) := by decide +kernel
theorem dX4_removeFirst_1 : decode cX4_removeFirst 1 = .ok (.getfield 9, 3) := by decide +kernel
theorem dX4_removeFirst_4 : decode cX4_removeFirst 4 = .ok (.aload_n 0, 1) := by decide +kernel
theorem dX4_removeFirst_5 : decode cX4_removeFirst 5 = .ok (.getfield 19, 3) := by decide +kernel
theorem dX4_removeFirst_8 : decode cX4_removeFirst 8 = .ok (.bipush 63, 2) := by decide +kernel
theorem dX4_removeFirst_10 : decode cX4_removeFirst 10 = .ok (.iand, 1) := by decide +kernel
theorem dX4_removeFirst_11 : decode cX4_removeFirst 11 = .ok (.iaload, 1) := by decide +kernel
theorem dX4_removeFirst_12 : decode cX4_removeFirst 12 = .ok (.istore_n 1, 1) := by decide +kernel
theorem dX4_removeFirst_13 : decode cX4_removeFirst 13 = .ok (.aload_n 0, 1) := by decide +kernel
theorem dX4_removeFirst_14 : decode cX4_removeFirst 14 = .ok (.aload_n 0, 1) := by decide +kernel
theorem dX4_removeFirst_15 : decode cX4_removeFirst 15 = .ok (.getfield 19, 3) := by decide +kernel
theorem dX4_removeFirst_18 : decode cX4_removeFirst 18 = .ok (.iconst 1, 1) := by decide +kernel
theorem dX4_removeFirst_19 : decode cX4_removeFirst 19 = .ok (.iadd, 1) := by decide +kernel
theorem dX4_removeFirst_20 : decode cX4_removeFirst 20 = .ok (.bipush 63, 2) := by decide +kernel
theorem dX4_removeFirst_22 : decode cX4_removeFirst 22 = .ok (.iand, 1) := by decide +kernel
theorem dX4_removeFirst_23 : decode cX4_removeFirst 23 = .ok (.putfield 19, 3) := by decide +kernel
theorem dX4_removeFirst_26 : decode cX4_removeFirst 26 = .ok (.aload_n 0, 1) := by decide +kernel
theorem dX4_removeFirst_27 : decode cX4_removeFirst 27 = .ok (.dup, 1) := by decide +kernel
theorem dX4_removeFirst_28 : decode cX4_removeFirst 28 = .ok (.getfield 15, 3) := by decide +kernel
theorem dX4_removeFirst_31 : decode cX4_removeFirst 31 = .ok (.iconst 1, 1) := by decide +kernel
theorem dX4_removeFirst_32 : decode cX4_removeFirst 32 = .ok (.isub, 1) := by decide +kernel
theorem dX4_removeFirst_33 : decode cX4_removeFirst 33 = .ok (.putfield 15, 3) := by decide +kernel
theorem dX4_removeFirst_36 : decode cX4_removeFirst 36 = .ok (.iload_n 1, 1) := by decide +kernel
theorem dX4_removeFirst_37 : decode cX4_removeFirst 37 = .ok (.ireturn, 1) := by decide +kernel
theorem dX4_copyFrom_0 : decode cX4_copyFrom 0 = .ok (.aload_n 1, 1) := by decide +kernel
theorem dX4_copyFrom_1 : decode cX4_copyFrom 1 = .ok (.getfield 9, 3) := by decide +kernel
theorem dX4_copyFrom_4 : decode cX4_copyFrom 4 = .ok (.aload_n 0, 1) := by decide +kernel
theorem dX4_copyFrom_5 : decode cX4_copyFrom 5 = .ok (.getfield 9, 3) := by decide +kernel
theorem dX4_copyFrom_8 : decode cX4_copyFrom 8 = .ok (.invokestatic 22, 3) := by decide +kernel
theorem dX4_copyFrom_11 : decode cX4_copyFrom 11 = .ok (.aload_n 0, 1) := by decide +kernel
theorem dX4_copyFrom_12 : decode cX4_copyFrom 12 = .ok (.aload_n 1, 1) := by decide +kernel
theorem dX4_copyFrom_13 : decode cX4_copyFrom 13 = .ok (.getfield 19, 3) := by decide +kernel
theorem dX4_copyFrom_16 : decode cX4_copyFrom 16 = .ok (.putfield 19, 3) := by decide +kernel
theorem dX4_copyFrom_19 : decode cX4_copyFrom 19 = .ok (.aload_n 0, 1) := by decide +kernel
theorem dX4_copyFrom_20 : decode cX4_copyFrom 20 = .ok (.aload_n 1, 1) := by decide +kernel
theorem dX4_copyFrom_21 : decode cX4_copyFrom 21 = .ok (.getfield 15, 3) := by decide +kernel
theorem dX4_copyFrom_24 : decode cX4_copyFrom 24 = .ok (.putfield 15, 3) := by decide +kernel
theorem dX4_copyFrom_27 : decode cX4_copyFrom 27 = .ok (.return_, 1) := by decide +kernel
theorem dX5_init_0 : decode cX5_init 0 = .ok (.aload_n 0, 1) := by decide +kernel
theorem dX5_init_1 : decode cX5_init 1 = .ok (.invokespecial 3, 3) := by decide +kernel
theorem dX5_init_4 : decode cX5_init 4 = .ok (.aload_n 0, 1) := by decide +kernel
theorem dX5_init_5 : decode cX5_init 5 = .ok (.sipush 256, 3) := by decide +kernel
theorem dX5_init_8 : decode cX5_init 8 = .ok (.newarray .int, 2) := by decide +kernel
theorem dX5_init_10 : decode cX5_init 10 = .ok (.putfield 9, 3) := by decide +kernel
theorem dX5_init_13 : decode cX5_init 13 = .ok (.aload_n 0, 1) := by decide +kernel
theorem dX5_init_14 : decode cX5_init 14 = .ok (.bipush 32, 2) := by decide +kernel
theorem dX5_init_16 : decode cX5_init 16 = .ok (.newarray .int, 2) := by decide +kernel
theorem dX5_init_18 : decode cX5_init 18 = .ok (.putfield 15, 3) := by decide +kernel
theorem dX5_init_21 : decode cX5_init 21 = .ok (.aload_n 0, 1) := by decide +kernel
theorem dX5_init_22 : decode cX5_init 22 = .ok (.bipush 8, 2) := by decide +kernel
theorem dX5_init_24 : decode cX5_init 24 = .ok (.newarray .int, 2) := by decide +kernel
theorem dX5_init_26 : decode cX5_init 26 = .ok (.putfield 18, 3) := by decide +kernel
theorem dX5_init_29 : decode cX5_init 29 = .ok (.return_, 1) := by decide +kernel
theorem dX5_wordAt_0 : decode cX5_wordAt 0 = .ok (.aload_n 0, 1) := by decide +kernel
theorem dX5_wordAt_1 : decode cX5_wordAt 1 = .ok (.getfield 9, 3) := by decide +kernel
theorem dX5_wordAt_4 : decode cX5_wordAt 4 = .ok (.iload_n 1, 1) := by decide +kernel
theorem dX5_wordAt_5 : decode cX5_wordAt 5 = .ok (.sipush 255, 3) := by decide +kernel
theorem dX5_wordAt_8 : decode cX5_wordAt 8 = .ok (.iand, 1) := by decide +kernel
theorem dX5_wordAt_9 : decode cX5_wordAt 9 = .ok (.iaload, 1) := by decide +kernel
theorem dX5_wordAt_10 : decode cX5_wordAt 10 = .ok (.i2l, 1) := by decide +kernel
theorem dX5_wordAt_11 : decode cX5_wordAt 11 = .ok (.invokestatic 21, 3) := by decide +kernel
theorem dX5_wordAt_14 : decode cX5_wordAt 14 = .ok (.ireturn, 1) := by decide +kernel
theorem dX5_putWord_0 : decode cX5_putWord 0 = .ok (.aload_n 0, 1) := by decide +kernel
theorem dX5_putWord_1 : decode cX5_putWord 1 = .ok (.getfield 9, 3) := by decide +kernel
theorem dX5_putWord_4 : decode cX5_putWord 4 = .ok (.iload_n 1, 1) := by decide +kernel
theorem dX5_putWord_5 : decode cX5_putWord 5 = .ok (.sipush 255, 3) := by decide +kernel
theorem dX5_putWord_8 : decode cX5_putWord 8 = .ok (.iand, 1) := by decide +kernel
theorem dX5_putWord_9 : decode cX5_putWord 9 = .ok (.iload_n 2, 1) := by decide +kernel
theorem dX5_putWord_10 : decode cX5_putWord 10 = .ok (.ldc 25, 2) := by decide +kernel
theorem dX5_putWord_12 : decode cX5_putWord 12 = .ok (.iand, 1) := by decide +kernel
theorem dX5_putWord_13 : decode cX5_putWord 13 = .ok (.iastore, 1) := by decide +kernel
theorem dX5_putWord_14 : decode cX5_putWord 14 = .ok (.return_, 1) := by decide +kernel
theorem dX5_slipCountOf_0 : decode cX5_slipCountOf 0 = .ok (.aload_n 0, 1) := by decide +kernel
theorem dX5_slipCountOf_1 : decode cX5_slipCountOf 1 = .ok (.getfield 18, 3) := by decide +kernel
theorem dX5_slipCountOf_4 : decode cX5_slipCountOf 4 = .ok (.iload_n 1, 1) := by decide +kernel
theorem dX5_slipCountOf_5 : decode cX5_slipCountOf 5 = .ok (.bipush 7, 2) := by decide +kernel
theorem dX5_slipCountOf_7 : decode cX5_slipCountOf 7 = .ok (.iand, 1) := by decide +kernel
theorem dX5_slipCountOf_8 : decode cX5_slipCountOf 8 = .ok (.iaload, 1) := by decide +kernel
theorem dX5_slipCountOf_9 : decode cX5_slipCountOf 9 = .ok (.ireturn, 1) := by decide +kernel
theorem dX5_countOnes_0 : decode cX5_countOnes 0 = .ok (.iconst 0, 1) := by decide +kernel
theorem dX5_countOnes_1 : decode cX5_countOnes 1 = .ok (.istore_n 2, 1) := by decide +kernel
theorem dX5_countOnes_2 : decode cX5_countOnes 2 = .ok (.iconst 0, 1) := by decide +kernel
theorem dX5_countOnes_3 : decode cX5_countOnes 3 = .ok (.istore_n 3, 1) := by decide +kernel
theorem dX5_countOnes_4 : decode cX5_countOnes 4 = .ok (.iload_n 3, 1) := by decide +kernel
theorem dX5_countOnes_5 : decode cX5_countOnes 5 = .ok (.bipush 32, 2) := by decide +kernel
theorem dX5_countOnes_7 : decode cX5_countOnes 7 = .ok (.if_icmp .ge 29, 3) := by decide +kernel
theorem dX5_countOnes_10 : decode cX5_countOnes 10 = .ok (.iload_n 2, 1) := by decide +kernel
theorem dX5_countOnes_11 : decode cX5_countOnes 11 = .ok (.aload_n 0, 1) := by decide +kernel
theorem dX5_countOnes_12 : decode cX5_countOnes 12 = .ok (.getfield 9, 3) := by decide +kernel
theorem dX5_countOnes_15 : decode cX5_countOnes 15 = .ok (.iload_n 1, 1) := by decide +kernel
theorem dX5_countOnes_16 : decode cX5_countOnes 16 = .ok (.iload_n 3, 1) := by decide +kernel
theorem dX5_countOnes_17 : decode cX5_countOnes 17 = .ok (.invokestatic 26, 3) := by decide +kernel
theorem dX5_countOnes_20 : decode cX5_countOnes 20 = .ok (.sipush 255, 3) := by decide +kernel
theorem dX5_countOnes_23 : decode cX5_countOnes 23 = .ok (.iand, 1) := by decide +kernel
theorem dX5_countOnes_24 : decode cX5_countOnes 24 = .ok (.iaload, 1) := by decide +kernel
theorem dX5_countOnes_25 : decode cX5_countOnes 25 = .ok (.invokestatic 30, 3) := by decide +kernel
theorem dX5_countOnes_28 : decode cX5_countOnes 28 = .ok (.iadd, 1) := by decide +kernel
theorem dX5_countOnes_29 : decode cX5_countOnes 29 = .ok (.istore_n 2, 1) := by decide +kernel
theorem dX5_countOnes_30 : decode cX5_countOnes 30 = .ok (.iinc 3 1, 3) := by decide +kernel
theorem dX5_countOnes_33 : decode cX5_countOnes 33 = .ok (.goto (-29), 3) := by decide +kernel
theorem dX5_countOnes_36 : decode cX5_countOnes 36 = .ok (.iload_n 2, 1) := by decide +kernel
theorem dX5_countOnes_37 : decode cX5_countOnes 37 = .ok (.ireturn, 1) := by decide +kernel
theorem dX5_clearBits_0 : decode cX5_clearBits 0 = .ok (.iconst 0, 1) := by decide +kernel
theorem dX5_clearBits_1 : decode cX5_clearBits 1 = .ok (.istore_n 2, 1) := by decide +kernel
theorem dX5_clearBits_2 : decode cX5_clearBits 2 = .ok (.iload_n 2, 1) := by decide +kernel
theorem dX5_clearBits_3 : decode cX5_clearBits 3 = .ok (.bipush 32, 2) := by decide +kernel
theorem dX5_clearBits_5 : decode cX5_clearBits 5 = .ok (.if_icmp .ge 19, 3) := by decide +kernel
theorem dX5_clearBits_8 : decode cX5_clearBits 8 = .ok (.aload_n 0, 1) := by decide +kernel
theorem dX5_clearBits_9 : decode cX5_clearBits 9 = .ok (.iload_n 1, 1) := by decide +kernel
theorem dX5_clearBits_10 : decode cX5_clearBits 10 = .ok (.iload_n 2, 1) := by decide +kernel
theorem dX5_clearBits_11 : decode cX5_clearBits 11 = .ok (.invokestatic 26, 3) := by decide +kernel
theorem dX5_clearBits_14 : decode cX5_clearBits 14 = .ok (.iconst 0, 1) := by decide +kernel
theorem dX5_clearBits_15 : decode cX5_clearBits 15 = .ok (.invokevirtual 36, 3) := by decide +kernel
theorem dX5_clearBits_18 : decode cX5_clearBits 18 = .ok (.iinc 2 1, 3) := by decide +kernel
theorem dX5_clearBits_21 : decode cX5_clearBits 21 = .ok (.goto (-19), 3) := by decide +kernel
theorem dX5_clearBits_24 : decode cX5_clearBits 24 = .ok (.return_, 1) := by decide +kernel
theorem dX5_exchange_0 : decode cX5_exchange 0 = .ok (.iconst 0, 1) := by decide +kernel
theorem dX5_exchange_1 : decode cX5_exchange 1 = .ok (.istore_n 3, 1) := by decide +kernel
theorem dX5_exchange_2 : decode cX5_exchange 2 = .ok (.iload_n 3, 1) := by decide +kernel
theorem dX5_exchange_3 : decode cX5_exchange 3 = .ok (.bipush 32, 2) := by decide +kernel
theorem dX5_exchange_5 : decode cX5_exchange 5 = .ok (.if_icmp .ge 49, 3) := by decide +kernel
theorem dX5_exchange_8 : decode cX5_exchange 8 = .ok (.aload_n 0, 1) := by decide +kernel
theorem dX5_exchange_9 : decode cX5_exchange 9 = .ok (.iload_n 1, 1) := by decide +kernel
theorem dX5_exchange_10 : decode cX5_exchange 10 = .ok (.iload_n 3, 1) := by decide +kernel
theorem dX5_exchange_11 : decode cX5_exchange 11 = .ok (.invokestatic 26, 3) := by decide +kernel
theorem dX5_exchange_14 : decode cX5_exchange 14 = .ok (.invokevirtual 40, 3) := by decide +kernel
theorem dX5_exchange_17 : decode cX5_exchange 17 = .ok (.istore 4, 2) := by decide +kernel
theorem dX5_exchange_19 : decode cX5_exchange 19 = .ok (.aload_n 0, 1) := by decide +kernel
theorem dX5_exchange_20 : decode cX5_exchange 20 = .ok (.iload_n 1, 1) := by decide +kernel
theorem dX5_exchange_21 : decode cX5_exchange 21 = .ok (.iload_n 3, 1) := by decide +kernel
theorem dX5_exchange_22 : decode cX5_exchange 22 = .ok (.invokestatic 26, 3) := by decide +kernel
theorem dX5_exchange_25 : decode cX5_exchange 25 = .ok (.aload_n 0, 1) := by decide +kernel
theorem dX5_exchange_26 : decode cX5_exchange 26 = .ok (.iload_n 2, 1) := by decide +kernel
theorem dX5_exchange_27 : decode cX5_exchange 27 = .ok (.iload_n 3, 1) := by decide +kernel
theorem dX5_exchange_28 : decode cX5_exchange 28 = .ok (.invokestatic 26, 3) := by decide +kernel
theorem dX5_exchange_31 : decode cX5_exchange 31 = .ok (.invokevirtual 40, 3) := by decide +kernel
theorem dX5_exchange_34 : decode cX5_exchange 34 = .ok (.invokevirtual 36, 3) := by decide +kernel
theorem dX5_exchange_37 : decode cX5_exchange 37 = .ok (.aload_n 0, 1) := by decide +kernel
theorem dX5_exchange_38 : decode cX5_exchange 38 = .ok (.iload_n 2, 1) := by decide +kernel
theorem dX5_exchange_39 : decode cX5_exchange 39 = .ok (.iload_n 3, 1) := by decide +kernel
theorem dX5_exchange_40 : decode cX5_exchange 40 = .ok (.invokestatic 26, 3) := by decide +kernel
theorem dX5_exchange_43 : decode cX5_exchange 43 = .ok (.iload 4, 2) := by decide +kernel
theorem dX5_exchange_45 : decode cX5_exchange 45 = .ok (.invokevirtual 36, 3) := by decide +kernel
theorem dX5_exchange_48 : decode cX5_exchange 48 = .ok (.iinc 3 1, 3) := by decide +kernel
theorem dX5_exchange_51 : decode cX5_exchange 51 = .ok (.goto (-49), 3) := by decide +kernel
theorem dX5_exchange_54 : decode cX5_exchange 54 = .ok (.aload_n 0, 1) := by decide +kernel
theorem dX5_exchange_55 : decode cX5_exchange 55 = .ok (.iload_n 1, 1) := by decide +kernel
theorem dX5_exchange_56 : decode cX5_exchange 56 = .ok (.invokevirtual 43, 3) := by decide +kernel
theorem dX5_exchange_59 : decode cX5_exchange 59 = .ok (.istore_n 3, 1) := by decide +kernel
theorem dX5_exchange_60 : decode cX5_exchange 60 = .ok (.aload_n 0, 1) := by decide +kernel
theorem dX5_exchange_61 : decode cX5_exchange 61 = .ok (.getfield 18, 3) := by decide +kernel
theorem dX5_exchange_64 : decode cX5_exchange 64 = .ok (.iload_n 1, 1) := by decide +kernel
theorem dX5_exchange_65 : decode cX5_exchange 65 = .ok (.bipush 7, 2) := by decide +kernel
theorem dX5_exchange_67 : decode cX5_exchange 67 = .ok (.iand, 1) := by decide +kernel
theorem dX5_exchange_68 : decode cX5_exchange 68 = .ok (.aload_n 0, 1) := by decide +kernel
theorem dX5_exchange_69 : decode cX5_exchange 69 = .ok (.iload_n 2, 1) := by decide +kernel
theorem dX5_exchange_70 : decode cX5_exchange 70 = .ok (.invokevirtual 43, 3) := by decide +kernel
theorem dX5_exchange_73 : decode cX5_exchange 73 = .ok (.iastore, 1) := by decide +kernel
theorem dX5_exchange_74 : decode cX5_exchange 74 = .ok (.aload_n 0, 1) := by decide +kernel
theorem dX5_exchange_75 : decode cX5_exchange 75 = .ok (.getfield 18, 3) := by decide +kernel
theorem dX5_exchange_78 : decode cX5_exchange 78 = .ok (.iload_n 2, 1) := by decide +kernel
theorem dX5_exchange_79 : decode cX5_exchange 79 = .ok (.bipush 7, 2) := by decide +kernel
theorem dX5_exchange_81 : decode cX5_exchange 81 = .ok (.iand, 1) := by decide +kernel
theorem dX5_exchange_82 : decode cX5_exchange 82 = .ok (.iload_n 3, 1) := by decide +kernel
theorem dX5_exchange_83 : decode cX5_exchange 83 = .ok (.iastore, 1) := by decide +kernel
theorem dX5_exchange_84 : decode cX5_exchange 84 = .ok (.return_, 1) := by decide +kernel
theorem dX5_moveBits_0 : decode cX5_moveBits 0 = .ok (.iload_n 2, 1) := by decide +kernel
theorem dX5_moveBits_1 : decode cX5_moveBits 1 = .ok (.ifCond .ne 4, 3) := by decide +kernel
theorem dX5_moveBits_4 : decode cX5_moveBits 4 = .ok (.return_, 1) := by decide +kernel
theorem dX5_moveBits_5 : decode cX5_moveBits 5 = .ok (.iload_n 2, 1) := by decide +kernel
theorem dX5_moveBits_6 : decode cX5_moveBits 6 = .ok (.sipush 640, 3) := by decide +kernel
theorem dX5_moveBits_9 : decode cX5_moveBits 9 = .ok (.invokestatic 46, 3) := by decide +kernel
theorem dX5_moveBits_12 : decode cX5_moveBits 12 = .ok (.istore_n 3, 1) := by decide +kernel
theorem dX5_moveBits_13 : decode cX5_moveBits 13 = .ok (.iload_n 3, 1) := by decide +kernel
theorem dX5_moveBits_14 : decode cX5_moveBits 14 = .ok (.bipush 20, 2) := by decide +kernel
theorem dX5_moveBits_16 : decode cX5_moveBits 16 = .ok (.idiv, 1) := by decide +kernel
theorem dX5_moveBits_17 : decode cX5_moveBits 17 = .ok (.istore 4, 2) := by decide +kernel
theorem dX5_moveBits_19 : decode cX5_moveBits 19 = .ok (.iload_n 3, 1) := by decide +kernel
theorem dX5_moveBits_20 : decode cX5_moveBits 20 = .ok (.bipush 20, 2) := by decide +kernel
theorem dX5_moveBits_22 : decode cX5_moveBits 22 = .ok (.irem, 1) := by decide +kernel
theorem dX5_moveBits_23 : decode cX5_moveBits 23 = .ok (.istore 5, 2) := by decide +kernel
theorem dX5_moveBits_25 : decode cX5_moveBits 25 = .ok (.iconst 0, 1) := by decide +kernel
theorem dX5_moveBits_26 : decode cX5_moveBits 26 = .ok (.istore 6, 2) := by decide +kernel
theorem dX5_moveBits_28 : decode cX5_moveBits 28 = .ok (.iload 6, 2) := by decide +kernel
theorem dX5_moveBits_30 : decode cX5_moveBits 30 = .ok (.bipush 32, 2) := by decide +kernel
theorem dX5_moveBits_32 : decode cX5_moveBits 32 = .ok (.if_icmp .ge 31, 3) := by decide +kernel
theorem dX5_moveBits_35 : decode cX5_moveBits 35 = .ok (.aload_n 0, 1) := by decide +kernel
theorem dX5_moveBits_36 : decode cX5_moveBits 36 = .ok (.getfield 15, 3) := by decide +kernel
theorem dX5_moveBits_39 : decode cX5_moveBits 39 = .ok (.iload 6, 2) := by decide +kernel
theorem dX5_moveBits_41 : decode cX5_moveBits 41 = .ok (.aload_n 0, 1) := by decide +kernel
theorem dX5_moveBits_42 : decode cX5_moveBits 42 = .ok (.getfield 9, 3) := by decide +kernel
theorem dX5_moveBits_45 : decode cX5_moveBits 45 = .ok (.iload_n 1, 1) := by decide +kernel
theorem dX5_moveBits_46 : decode cX5_moveBits 46 = .ok (.iload 6, 2) := by decide +kernel
theorem dX5_moveBits_48 : decode cX5_moveBits 48 = .ok (.invokestatic 26, 3) := by decide +kernel
theorem dX5_moveBits_51 : decode cX5_moveBits 51 = .ok (.sipush 255, 3) := by decide +kernel
theorem dX5_moveBits_54 : decode cX5_moveBits 54 = .ok (.iand, 1) := by decide +kernel
theorem dX5_moveBits_55 : decode cX5_moveBits 55 = .ok (.iaload, 1) := by decide +kernel
theorem dX5_moveBits_56 : decode cX5_moveBits 56 = .ok (.iastore, 1) := by decide +kernel
theorem dX5_moveBits_57 : decode cX5_moveBits 57 = .ok (.iinc 6 1, 3) := by decide +kernel
theorem dX5_moveBits_60 : decode cX5_moveBits 60 = .ok (.goto (-32), 3) := by decide +kernel
theorem dX5_moveBits_63 : decode cX5_moveBits 63 = .ok (.iconst 0, 1) := by decide +kernel
theorem dX5_moveBits_64 : decode cX5_moveBits 64 = .ok (.istore 6, 2) := by decide +kernel
theorem dX5_moveBits_66 : decode cX5_moveBits 66 = .ok (.iload 6, 2) := by decide +kernel
theorem dX5_moveBits_68 : decode cX5_moveBits 68 = .ok (.bipush 32, 2) := by decide +kernel
theorem dX5_moveBits_70 : decode cX5_moveBits 70 = .ok (.if_icmp .ge 73, 3) := by decide +kernel
theorem dX5_moveBits_73 : decode cX5_moveBits 73 = .ok (.aload_n 0, 1) := by decide +kernel
theorem dX5_moveBits_74 : decode cX5_moveBits 74 = .ok (.getfield 15, 3) := by decide +kernel
theorem dX5_moveBits_77 : decode cX5_moveBits 77 = .ok (.iload 6, 2) := by decide +kernel
theorem dX5_moveBits_79 : decode cX5_moveBits 79 = .ok (.iload 4, 2) := by decide +kernel
theorem dX5_moveBits_81 : decode cX5_moveBits 81 = .ok (.isub, 1) := by decide +kernel
theorem dX5_moveBits_82 : decode cX5_moveBits 82 = .ok (.invokestatic 51, 3) := by decide +kernel
theorem dX5_moveBits_85 : decode cX5_moveBits 85 = .ok (.iaload, 1) := by decide +kernel
theorem dX5_moveBits_86 : decode cX5_moveBits 86 = .ok (.iload 5, 2) := by decide +kernel
theorem dX5_moveBits_88 : decode cX5_moveBits 88 = .ok (.ishl, 1) := by decide +kernel
theorem dX5_moveBits_89 : decode cX5_moveBits 89 = .ok (.istore 7, 2) := by decide +kernel
theorem dX5_moveBits_91 : decode cX5_moveBits 91 = .ok (.aload_n 0, 1) := by decide +kernel
theorem dX5_moveBits_92 : decode cX5_moveBits 92 = .ok (.getfield 15, 3) := by decide +kernel
theorem dX5_moveBits_95 : decode cX5_moveBits 95 = .ok (.iload 6, 2) := by decide +kernel
theorem dX5_moveBits_97 : decode cX5_moveBits 97 = .ok (.iload 4, 2) := by decide +kernel
theorem dX5_moveBits_99 : decode cX5_moveBits 99 = .ok (.isub, 1) := by decide +kernel
theorem dX5_moveBits_100 : decode cX5_moveBits 100 = .ok (.iconst 1, 1) := by decide +kernel
theorem dX5_moveBits_101 : decode cX5_moveBits 101 = .ok (.isub, 1) := by decide +kernel
theorem dX5_moveBits_102 : decode cX5_moveBits 102 = .ok (.invokestatic 51, 3) := by decide +kernel
theorem dX5_moveBits_105 : decode cX5_moveBits 105 = .ok (.iaload, 1) := by decide +kernel
theorem dX5_moveBits_106 : decode cX5_moveBits 106 = .ok (.bipush 20, 2) := by decide +kernel
theorem dX5_moveBits_108 : decode cX5_moveBits 108 = .ok (.iload 5, 2) := by decide +kernel
theorem dX5_moveBits_110 : decode cX5_moveBits 110 = .ok (.isub, 1) := by decide +kernel
theorem dX5_moveBits_111 : decode cX5_moveBits 111 = .ok (.ishr, 1) := by decide +kernel
theorem dX5_moveBits_112 : decode cX5_moveBits 112 = .ok (.istore 8, 2) := by decide +kernel
theorem dX5_moveBits_114 : decode cX5_moveBits 114 = .ok (.aload_n 0, 1) := by decide +kernel
theorem dX5_moveBits_115 : decode cX5_moveBits 115 = .ok (.getfield 9, 3) := by decide +kernel
theorem dX5_moveBits_118 : decode cX5_moveBits 118 = .ok (.iload_n 1, 1) := by decide +kernel
theorem dX5_moveBits_119 : decode cX5_moveBits 119 = .ok (.iload 6, 2) := by decide +kernel
theorem dX5_moveBits_121 : decode cX5_moveBits 121 = .ok (.invokestatic 26, 3) := by decide +kernel
theorem dX5_moveBits_124 : decode cX5_moveBits 124 = .ok (.sipush 255, 3) := by decide +kernel
theorem dX5_moveBits_127 : decode cX5_moveBits 127 = .ok (.iand, 1) := by decide +kernel
theorem dX5_moveBits_128 : decode cX5_moveBits 128 = .ok (.iload 7, 2) := by decide +kernel
theorem dX5_moveBits_130 : decode cX5_moveBits 130 = .ok (.iload 8, 2) := by decide +kernel
theorem dX5_moveBits_132 : decode cX5_moveBits 132 = .ok (.ior, 1) := by decide +kernel
theorem dX5_moveBits_133 : decode cX5_moveBits 133 = .ok (.ldc 25, 2) := by decide +kernel
theorem dX5_moveBits_135 : decode cX5_moveBits 135 = .ok (.iand, 1) := by decide +kernel
theorem dX5_moveBits_136 : decode cX5_moveBits 136 = .ok (.iastore, 1) := by decide +kernel
theorem dX5_moveBits_137 : decode cX5_moveBits 137 = .ok (.iinc 6 1, 3) := by decide +kernel
theorem dX5_moveBits_140 : decode cX5_moveBits 140 = .ok (.goto (-74), 3) := by decide +kernel
theorem dX5_moveBits_143 : decode cX5_moveBits 143 = .ok (.aload_n 0, 1) := by decide +kernel
theorem dX5_moveBits_144 : decode cX5_moveBits 144 = .ok (.getfield 18, 3) := by decide +kernel
theorem dX5_moveBits_147 : decode cX5_moveBits 147 = .ok (.iload_n 1, 1) := by decide +kernel
theorem dX5_moveBits_148 : decode cX5_moveBits 148 = .ok (.bipush 7, 2) := by decide +kernel
theorem dX5_moveBits_150 : decode cX5_moveBits 150 = .ok (.iand, 1) := by decide +kernel
theorem dX5_moveBits_151 : decode cX5_moveBits 151 = .ok (.dup2, 1) := by decide +kernel
theorem dX5_moveBits_152 : decode cX5_moveBits 152 = .ok (.iaload, 1) := by decide +kernel
theorem dX5_moveBits_153 : decode cX5_moveBits 153 = .ok (.iload_n 2, 1) := by decide +kernel
theorem dX5_moveBits_154 : decode cX5_moveBits 154 = .ok (.invokestatic 54, 3) := by decide +kernel
theorem dX5_moveBits_157 : decode cX5_moveBits 157 = .ok (.iadd, 1) := by decide +kernel
theorem dX5_moveBits_158 : decode cX5_moveBits 158 = .ok (.iastore, 1) := by decide +kernel
theorem dX5_moveBits_159 : decode cX5_moveBits 159 = .ok (.return_, 1) := by decide +kernel
theorem dX5_dropBit_0 : decode cX5_dropBit 0 = .ok (.iload_n 1, 1) := by decide +kernel
theorem dX5_dropBit_1 : decode cX5_dropBit 1 = .ok (.iload_n 2, 1) := by decide +kernel
theorem dX5_dropBit_2 : decode cX5_dropBit 2 = .ok (.bipush 20, 2) := by decide +kernel
theorem dX5_dropBit_4 : decode cX5_dropBit 4 = .ok (.idiv, 1) := by decide +kernel
theorem dX5_dropBit_5 : decode cX5_dropBit 5 = .ok (.invokestatic 26, 3) := by decide +kernel
theorem dX5_dropBit_8 : decode cX5_dropBit 8 = .ok (.sipush 255, 3) := by decide +kernel
theorem dX5_dropBit_11 : decode cX5_dropBit 11 = .ok (.iand, 1) := by decide +kernel
theorem dX5_dropBit_12 : decode cX5_dropBit 12 = .ok (.istore_n 3, 1) := by decide +kernel
theorem dX5_dropBit_13 : decode cX5_dropBit 13 = .ok (.iconst 1, 1) := by decide +kernel
theorem dX5_dropBit_14 : decode cX5_dropBit 14 = .ok (.iload_n 2, 1) := by decide +kernel
theorem dX5_dropBit_15 : decode cX5_dropBit 15 = .ok (.bipush 20, 2) := by decide +kernel
theorem dX5_dropBit_17 : decode cX5_dropBit 17 = .ok (.irem, 1) := by decide +kernel
theorem dX5_dropBit_18 : decode cX5_dropBit 18 = .ok (.ishl, 1) := by decide +kernel
theorem dX5_dropBit_19 : decode cX5_dropBit 19 = .ok (.istore 4, 2) := by decide +kernel
theorem dX5_dropBit_21 : decode cX5_dropBit 21 = .ok (.aload_n 0, 1) := by decide +kernel
theorem dX5_dropBit_22 : decode cX5_dropBit 22 = .ok (.getfield 9, 3) := by decide +kernel
theorem dX5_dropBit_25 : decode cX5_dropBit 25 = .ok (.iload_n 3, 1) := by decide +kernel
theorem dX5_dropBit_26 : decode cX5_dropBit 26 = .ok (.iaload, 1) := by decide +kernel
theorem dX5_dropBit_27 : decode cX5_dropBit 27 = .ok (.iload 4, 2) := by decide +kernel
theorem dX5_dropBit_29 : decode cX5_dropBit 29 = .ok (.iand, 1) := by decide +kernel
theorem dX5_dropBit_30 : decode cX5_dropBit 30 = .ok (.ifCond .eq 26, 3) := by decide +kernel
theorem dX5_dropBit_33 : decode cX5_dropBit 33 = .ok (.aload_n 0, 1) := by decide +kernel
theorem dX5_dropBit_34 : decode cX5_dropBit 34 = .ok (.getfield 9, 3) := by decide +kernel
theorem dX5_dropBit_37 : decode cX5_dropBit 37 = .ok (.iload_n 3, 1) := by decide +kernel
theorem dX5_dropBit_38 : decode cX5_dropBit 38 = .ok (.dup2, 1) := by decide +kernel
theorem dX5_dropBit_39 : decode cX5_dropBit 39 = .ok (.iaload, 1) := by decide +kernel
theorem dX5_dropBit_40 : decode cX5_dropBit 40 = .ok (.iload 4, 2) := by decide +kernel
theorem dX5_dropBit_42 : decode cX5_dropBit 42 = .ok (.iconst (-1), 1) := by decide +kernel
theorem dX5_dropBit_43 : decode cX5_dropBit 43 = .ok (.ixor, 1) := by decide +kernel
theorem dX5_dropBit_44 : decode cX5_dropBit 44 = .ok (.iand, 1) := by decide +kernel
theorem dX5_dropBit_45 : decode cX5_dropBit 45 = .ok (.iastore, 1) := by decide +kernel
theorem dX5_dropBit_46 : decode cX5_dropBit 46 = .ok (.aload_n 0, 1) := by decide +kernel
theorem dX5_dropBit_47 : decode cX5_dropBit 47 = .ok (.dup, 1) := by decide +kernel
theorem dX5_dropBit_48 : decode cX5_dropBit 48 = .ok (.getfield 57, 3) := by decide +kernel
theorem dX5_dropBit_51 : decode cX5_dropBit 51 = .ok (.iconst 1, 1) := by decide +kernel
theorem dX5_dropBit_52 : decode cX5_dropBit 52 = .ok (.iadd, 1) := by decide +kernel
theorem dX5_dropBit_53 : decode cX5_dropBit 53 = .ok (.putfield 57, 3) := by decide +kernel
theorem dX5_dropBit_56 : decode cX5_dropBit 56 = .ok (.return_, 1) := by decide +kernel
theorem dX5_copyFrom_0 : decode cX5_copyFrom 0 = .ok (.aload_n 1, 1) := by decide +kernel
theorem dX5_copyFrom_1 : decode cX5_copyFrom 1 = .ok (.getfield 9, 3) := by decide +kernel
theorem dX5_copyFrom_4 : decode cX5_copyFrom 4 = .ok (.aload_n 0, 1) := by decide +kernel
theorem dX5_copyFrom_5 : decode cX5_copyFrom 5 = .ok (.getfield 9, 3) := by decide +kernel
theorem dX5_copyFrom_8 : decode cX5_copyFrom 8 = .ok (.invokestatic 61, 3) := by decide +kernel
theorem dX5_copyFrom_11 : decode cX5_copyFrom 11 = .ok (.aload_n 1, 1) := by decide +kernel
theorem dX5_copyFrom_12 : decode cX5_copyFrom 12 = .ok (.getfield 18, 3) := by decide +kernel
theorem dX5_copyFrom_15 : decode cX5_copyFrom 15 = .ok (.aload_n 0, 1) := by decide +kernel
theorem dX5_copyFrom_16 : decode cX5_copyFrom 16 = .ok (.getfield 18, 3) := by decide +kernel
theorem dX5_copyFrom_19 : decode cX5_copyFrom 19 = .ok (.invokestatic 61, 3) := by decide +kernel
theorem dX5_copyFrom_22 : decode cX5_copyFrom 22 = .ok (.aload_n 0, 1) := by decide +kernel
theorem dX5_copyFrom_23 : decode cX5_copyFrom 23 = .ok (.aload_n 1, 1) := by decide +kernel
theorem dX5_copyFrom_24 : decode cX5_copyFrom 24 = .ok (.getfield 57, 3) := by decide +kernel
theorem dX5_copyFrom_27 : decode cX5_copyFrom 27 = .ok (.putfield 57, 3) := by decide +kernel
theorem dX5_copyFrom_30 : decode cX5_copyFrom 30 = .ok (.return_, 1) := by decide +kernel
theorem dX6_init_0 : decode cX6_init 0 = .ok (.aload_n 0, 1) := by decide +kernel
theorem dX6_init_1 : decode cX6_init 1 = .ok (.invokespecial 3, 3) := by decide +kernel
theorem dX6_init_4 : decode cX6_init 4 = .ok (.aload_n 0, 1) := by decide +kernel
theorem dX6_init_5 : decode cX6_init 5 = .ok (.new 9, 3) := by decide +kernel
theorem dX6_init_8 : decode cX6_init 8 = .ok (.dup, 1) := by decide +kernel
theorem dX6_init_9 : decode cX6_init 9 = .ok (.invokespecial 11, 3) := by decide +kernel
theorem dX6_init_12 : decode cX6_init 12 = .ok (.putfield 12, 3) := by decide +kernel
theorem dX6_init_15 : decode cX6_init 15 = .ok (.aload_n 0, 1) := by decide +kernel
theorem dX6_init_16 : decode cX6_init 16 = .ok (.new 9, 3) := by decide +kernel
theorem dX6_init_19 : decode cX6_init 19 = .ok (.dup, 1) := by decide +kernel
theorem dX6_init_20 : decode cX6_init 20 = .ok (.invokespecial 11, 3) := by decide +kernel
theorem dX6_init_23 : decode cX6_init 23 = .ok (.putfield 16, 3) := by decide +kernel
theorem dX6_init_26 : decode cX6_init 26 = .ok (.aload_n 0, 1) := by decide +kernel
theorem dX6_init_27 : decode cX6_init 27 = .ok (.new 9, 3) := by decide +kernel
theorem dX6_init_30 : decode cX6_init 30 = .ok (.dup, 1) := by decide +kernel
theorem dX6_init_31 : decode cX6_init 31 = .ok (.invokespecial 11, 3) := by decide +kernel
theorem dX6_init_34 : decode cX6_init 34 = .ok (.putfield 19, 3) := by decide +kernel
theorem dX6_init_37 : decode cX6_init 37 = .ok (.aload_n 0, 1) := by decide +kernel
theorem dX6_init_38 : decode cX6_init 38 = .ok (.new 9, 3) := by decide +kernel
theorem dX6_init_41 : decode cX6_init 41 = .ok (.dup, 1) := by decide +kernel
theorem dX6_init_42 : decode cX6_init 42 = .ok (.invokespecial 11, 3) := by decide +kernel
theorem dX6_init_45 : decode cX6_init 45 = .ok (.putfield 22, 3) := by decide +kernel
theorem dX6_init_48 : decode cX6_init 48 = .ok (.aload_n 0, 1) := by decide +kernel
theorem dX6_init_49 : decode cX6_init 49 = .ok (.new 25, 3) := by decide +kernel
theorem dX6_init_52 : decode cX6_init 52 = .ok (.dup, 1) := by decide +kernel
theorem dX6_init_53 : decode cX6_init 53 = .ok (.invokespecial 27, 3) := by decide +kernel
theorem dX6_init_56 : decode cX6_init 56 = .ok (.putfield 28, 3) := by decide +kernel
theorem dX6_init_59 : decode cX6_init 59 = .ok (.aload_n 0, 1) := by decide +kernel
theorem dX6_init_60 : decode cX6_init 60 = .ok (.new 32, 3) := by decide +kernel
theorem dX6_init_63 : decode cX6_init 63 = .ok (.dup, 1) := by decide +kernel
theorem dX6_init_64 : decode cX6_init 64 = .ok (.invokespecial 34, 3) := by decide +kernel
theorem dX6_init_67 : decode cX6_init 67 = .ok (.putfield 35, 3) := by decide +kernel
theorem dX6_init_70 : decode cX6_init 70 = .ok (.return_, 1) := by decide +kernel
theorem dX6_append_0 : decode cX6_append 0 = .ok (.aload_n 0, 1) := by decide +kernel
theorem dX6_append_1 : decode cX6_append 1 = .ok (.getfield 28, 3) := by decide +kernel
theorem dX6_append_4 : decode cX6_append 4 = .ok (.getfield 39, 3) := by decide +kernel
theorem dX6_append_7 : decode cX6_append 7 = .ok (.bipush 20, 2) := by decide +kernel
theorem dX6_append_9 : decode cX6_append 9 = .ok (.iadd, 1) := by decide +kernel
theorem dX6_append_10 : decode cX6_append 10 = .ok (.sipush 600, 3) := by decide +kernel
theorem dX6_append_13 : decode cX6_append 13 = .ok (.if_icmp .le 13, 3) := by decide +kernel
theorem dX6_append_16 : decode cX6_append 16 = .ok (.new 43, 3) := by decide +kernel
theorem dX6_append_19 : decode cX6_append 19 = .ok (.dup, 1) := by decide +kernel
theorem dX6_append_20 : decode cX6_append 20 = .ok (.ldc 45, 2) := by decide +kernel
theorem dX6_append_22 : decode cX6_append 22 = .ok (.invokespecial 47, 3) := by decide +kernel
theorem dX6_append_25 : decode cX6_append 25 = .ok (.athrow, 1) := by decide +kernel
theorem dX6_append_26 : decode cX6_append 26 = .ok (.aload_n 0, 1) := by decide +kernel
theorem dX6_append_27 : decode cX6_append 27 = .ok (.getfield 28, 3) := by decide +kernel
theorem dX6_append_30 : decode cX6_append 30 = .ok (.iload_n 1, 1) := by decide +kernel
theorem dX6_append_31 : decode cX6_append 31 = .ok (.invokevirtual 50, 3) := by decide +kernel
theorem dX6_append_34 : decode cX6_append 34 = .ok (.aload_n 0, 1) := by decide +kernel
theorem dX6_append_35 : decode cX6_append 35 = .ok (.getfield 28, 3) := by decide +kernel
theorem dX6_append_38 : decode cX6_append 38 = .ok (.iload_n 2, 1) := by decide +kernel
theorem dX6_append_39 : decode cX6_append 39 = .ok (.invokevirtual 50, 3) := by decide +kernel
theorem dX6_append_42 : decode cX6_append 42 = .ok (.aload_n 0, 1) := by decide +kernel
theorem dX6_append_43 : decode cX6_append 43 = .ok (.getfield 28, 3) := by decide +kernel
theorem dX6_append_46 : decode cX6_append 46 = .ok (.iload_n 3, 1) := by decide +kernel
theorem dX6_append_47 : decode cX6_append 47 = .ok (.invokevirtual 50, 3) := by decide +kernel
theorem dX6_append_50 : decode cX6_append 50 = .ok (.aload_n 0, 1) := by decide +kernel
theorem dX6_append_51 : decode cX6_append 51 = .ok (.getfield 28, 3) := by decide +kernel
theorem dX6_append_54 : decode cX6_append 54 = .ok (.iload 4, 2) := by decide +kernel
theorem dX6_append_56 : decode cX6_append 56 = .ok (.invokevirtual 50, 3) := by decide +kernel
theorem dX6_append_59 : decode cX6_append 59 = .ok (.aload_n 0, 1) := by decide +kernel
theorem dX6_append_60 : decode cX6_append 60 = .ok (.getfield 28, 3) := by decide +kernel
theorem dX6_append_63 : decode cX6_append 63 = .ok (.iload 5, 2) := by decide +kernel
theorem dX6_append_65 : decode cX6_append 65 = .ok (.invokevirtual 50, 3) := by decide +kernel
theorem dX6_append_68 : decode cX6_append 68 = .ok (.aload_n 0, 1) := by decide +kernel
theorem dX6_append_69 : decode cX6_append 69 = .ok (.getfield 28, 3) := by decide +kernel
theorem dX6_append_72 : decode cX6_append 72 = .ok (.getfield 39, 3) := by decide +kernel
theorem dX6_append_75 : decode cX6_append 75 = .ok (.ireturn, 1) := by decide +kernel
theorem dX6_truncate_0 : decode cX6_truncate 0 = .ok (.iload_n 1, 1) := by decide +kernel
theorem dX6_truncate_1 : decode cX6_truncate 1 = .ok (.ifCond .lt 14, 3) := by decide +kernel
theorem dX6_truncate_4 : decode cX6_truncate 4 = .ok (.iload_n 1, 1) := by decide +kernel
theorem dX6_truncate_5 : decode cX6_truncate 5 = .ok (.aload_n 0, 1) := by decide +kernel
theorem dX6_truncate_6 : decode cX6_truncate 6 = .ok (.getfield 28, 3) := by decide +kernel
theorem dX6_truncate_9 : decode cX6_truncate 9 = .ok (.getfield 39, 3) := by decide +kernel
theorem dX6_truncate_12 : decode cX6_truncate 12 = .ok (.if_icmp .le 13, 3) := by decide +kernel
theorem dX6_truncate_15 : decode cX6_truncate 15 = .ok (.new 54, 3) := by decide +kernel
theorem dX6_truncate_18 : decode cX6_truncate 18 = .ok (.dup, 1) := by decide +kernel
theorem dX6_truncate_19 : decode cX6_truncate 19 = .ok (.ldc 56, 2) := by decide +kernel
theorem dX6_truncate_21 : decode cX6_truncate 21 = .ok (.invokespecial 58, 3) := by decide +kernel
theorem dX6_truncate_24 : decode cX6_truncate 24 = .ok (.athrow, 1) := by decide +kernel
theorem dX6_truncate_25 : decode cX6_truncate 25 = .ok (.aload_n 0, 1) := by decide +kernel
theorem dX6_truncate_26 : decode cX6_truncate 26 = .ok (.getfield 28, 3) := by decide +kernel
theorem dX6_truncate_29 : decode cX6_truncate 29 = .ok (.iload_n 1, 1) := by decide +kernel
theorem dX6_truncate_30 : decode cX6_truncate 30 = .ok (.putfield 39, 3) := by decide +kernel
theorem dX6_truncate_33 : decode cX6_truncate 33 = .ok (.iload_n 1, 1) := by decide +kernel
theorem dX6_truncate_34 : decode cX6_truncate 34 = .ok (.ireturn, 1) := by decide +kernel
theorem dX6_assemble_0 : decode cX6_assemble 0 = .ok (.aload_n 0, 1) := by decide +kernel
theorem dX6_assemble_1 : decode cX6_assemble 1 = .ok (.getfield 28, 3) := by decide +kernel
theorem dX6_assemble_4 : decode cX6_assemble 4 = .ok (.invokevirtual 59, 3) := by decide +kernel
theorem dX6_assemble_7 : decode cX6_assemble 7 = .ok (.istore_n 1, 1) := by decide +kernel
theorem dX6_assemble_8 : decode cX6_assemble 8 = .ok (.aload_n 0, 1) := by decide +kernel
theorem dX6_assemble_9 : decode cX6_assemble 9 = .ok (.getfield 28, 3) := by decide +kernel
theorem dX6_assemble_12 : decode cX6_assemble 12 = .ok (.iconst 0, 1) := by decide +kernel
theorem dX6_assemble_13 : decode cX6_assemble 13 = .ok (.putfield 39, 3) := by decide +kernel
theorem dX6_assemble_16 : decode cX6_assemble 16 = .ok (.iload_n 1, 1) := by decide +kernel
theorem dX6_assemble_17 : decode cX6_assemble 17 = .ok (.ifCond .ne 13, 3) := by decide +kernel
theorem dX6_assemble_20 : decode cX6_assemble 20 = .ok (.new 63, 3) := by decide +kernel
theorem dX6_assemble_23 : decode cX6_assemble 23 = .ok (.dup, 1) := by decide +kernel
theorem dX6_assemble_24 : decode cX6_assemble 24 = .ok (.ldc 65, 2) := by decide +kernel
theorem dX6_assemble_26 : decode cX6_assemble 26 = .ok (.invokespecial 67, 3) := by decide +kernel
theorem dX6_assemble_29 : decode cX6_assemble 29 = .ok (.athrow, 1) := by decide +kernel
theorem dX6_assemble_30 : decode cX6_assemble 30 = .ok (.iconst 0, 1) := by decide +kernel
theorem dX6_assemble_31 : decode cX6_assemble 31 = .ok (.istore_n 2, 1) := by decide +kernel
theorem dX6_assemble_32 : decode cX6_assemble 32 = .ok (.iload_n 2, 1) := by decide +kernel
theorem dX6_assemble_33 : decode cX6_assemble 33 = .ok (.sipush 256, 3) := by decide +kernel
theorem dX6_assemble_36 : decode cX6_assemble 36 = .ok (.if_icmp .ge 39, 3) := by decide +kernel
theorem dX6_assemble_39 : decode cX6_assemble 39 = .ok (.aload_n 0, 1) := by decide +kernel
theorem dX6_assemble_40 : decode cX6_assemble 40 = .ok (.getfield 28, 3) := by decide +kernel
theorem dX6_assemble_43 : decode cX6_assemble 43 = .ok (.iload_n 2, 1) := by decide +kernel
theorem dX6_assemble_44 : decode cX6_assemble 44 = .ok (.invokevirtual 68, 3) := by decide +kernel
theorem dX6_assemble_47 : decode cX6_assemble 47 = .ok (.ifCond .eq 22, 3) := by decide +kernel
theorem dX6_assemble_50 : decode cX6_assemble 50 = .ok (.aload_n 0, 1) := by decide +kernel
theorem dX6_assemble_51 : decode cX6_assemble 51 = .ok (.getfield 12, 3) := by decide +kernel
theorem dX6_assemble_54 : decode cX6_assemble 54 = .ok (.getfield 72, 3) := by decide +kernel
theorem dX6_assemble_57 : decode cX6_assemble 57 = .ok (.iload_n 2, 1) := by decide +kernel
theorem dX6_assemble_58 : decode cX6_assemble 58 = .ok (.aload_n 0, 1) := by decide +kernel
theorem dX6_assemble_59 : decode cX6_assemble 59 = .ok (.getfield 28, 3) := by decide +kernel
theorem dX6_assemble_62 : decode cX6_assemble 62 = .ok (.iload_n 2, 1) := by decide +kernel
theorem dX6_assemble_63 : decode cX6_assemble 63 = .ok (.invokevirtual 76, 3) := by decide +kernel
theorem dX6_assemble_66 : decode cX6_assemble 66 = .ok (.invokevirtual 80, 3) := by decide +kernel
theorem dX6_assemble_69 : decode cX6_assemble 69 = .ok (.iinc 2 1, 3) := by decide +kernel
theorem dX6_assemble_72 : decode cX6_assemble 72 = .ok (.goto (-40), 3) := by decide +kernel
theorem dX6_assemble_75 : decode cX6_assemble 75 = .ok (.aload_n 0, 1) := by decide +kernel
theorem dX6_assemble_76 : decode cX6_assemble 76 = .ok (.getfield 28, 3) := by decide +kernel
theorem dX6_assemble_79 : decode cX6_assemble 79 = .ok (.getfield 86, 3) := by decide +kernel
theorem dX6_assemble_82 : decode cX6_assemble 82 = .ok (.iconst (-1), 1) := by decide +kernel
theorem dX6_assemble_83 : decode cX6_assemble 83 = .ok (.if_icmp .eq 17, 3) := by decide +kernel
theorem dX6_assemble_86 : decode cX6_assemble 86 = .ok (.aload_n 0, 1) := by decide +kernel
theorem dX6_assemble_87 : decode cX6_assemble 87 = .ok (.getfield 12, 3) := by decide +kernel
theorem dX6_assemble_90 : decode cX6_assemble 90 = .ok (.aload_n 0, 1) := by decide +kernel
theorem dX6_assemble_91 : decode cX6_assemble 91 = .ok (.getfield 28, 3) := by decide +kernel
theorem dX6_assemble_94 : decode cX6_assemble 94 = .ok (.getfield 86, 3) := by decide +kernel
theorem dX6_assemble_97 : decode cX6_assemble 97 = .ok (.invokevirtual 89, 3) := by decide +kernel
theorem dX6_assemble_100 : decode cX6_assemble 100 = .ok (.aload_n 0, 1) := by decide +kernel
theorem dX6_assemble_101 : decode cX6_assemble 101 = .ok (.getfield 28, 3) := by decide +kernel
theorem dX6_assemble_104 : decode cX6_assemble 104 = .ok (.getfield 92, 3) := by decide +kernel
theorem dX6_assemble_107 : decode cX6_assemble 107 = .ok (.ireturn, 1) := by decide +kernel
theorem dX6_errorCode_0 : decode cX6_errorCode 0 = .ok (.aload_n 0, 1) := by decide +kernel
theorem dX6_errorCode_1 : decode cX6_errorCode 1 = .ok (.getfield 28, 3) := by decide +kernel
theorem dX6_errorCode_4 : decode cX6_errorCode 4 = .ok (.getfield 95, 3) := by decide +kernel
theorem dX6_errorCode_7 : decode cX6_errorCode 7 = .ok (.ireturn, 1) := by decide +kernel
theorem dX6_errorPosition_0 : decode cX6_errorPosition 0 = .ok (.aload_n 0, 1) := by decide +kernel
theorem dX6_errorPosition_1 : decode cX6_errorPosition 1 = .ok (.getfield 28, 3) := by decide +kernel
theorem dX6_errorPosition_4 : decode cX6_errorPosition 4 = .ok (.getfield 98, 3) := by decide +kernel
theorem dX6_errorPosition_7 : decode cX6_errorPosition 7 = .ok (.ireturn, 1) := by decide +kernel
theorem dX6_readWord_0 : decode cX6_readWord 0 = .ok (.iload_n 1, 1) := by decide +kernel
theorem dX6_readWord_1 : decode cX6_readWord 1 = .ok (.iload_n 2, 1) := by decide +kernel
theorem dX6_readWord_2 : decode cX6_readWord 2 = .ok (.invokestatic 101, 3) := by decide +kernel
theorem dX6_readWord_5 : decode cX6_readWord 5 = .ok (.aload_n 0, 1) := by decide +kernel
theorem dX6_readWord_6 : decode cX6_readWord 6 = .ok (.getfield 12, 3) := by decide +kernel
theorem dX6_readWord_9 : decode cX6_readWord 9 = .ok (.getfield 72, 3) := by decide +kernel
theorem dX6_readWord_12 : decode cX6_readWord 12 = .ok (.iload_n 1, 1) := by decide +kernel
theorem dX6_readWord_13 : decode cX6_readWord 13 = .ok (.iload_n 2, 1) := by decide +kernel
theorem dX6_readWord_14 : decode cX6_readWord 14 = .ok (.invokestatic 104, 3) := by decide +kernel
theorem dX6_readWord_17 : decode cX6_readWord 17 = .ok (.invokevirtual 108, 3) := by decide +kernel
theorem dX6_readWord_20 : decode cX6_readWord 20 = .ok (.ireturn, 1) := by decide +kernel
theorem dX6_writeWord_0 : decode cX6_writeWord 0 = .ok (.iload_n 1, 1) := by decide +kernel
theorem dX6_writeWord_1 : decode cX6_writeWord 1 = .ok (.iload_n 2, 1) := by decide +kernel
theorem dX6_writeWord_2 : decode cX6_writeWord 2 = .ok (.invokestatic 101, 3) := by decide +kernel
theorem dX6_writeWord_5 : decode cX6_writeWord 5 = .ok (.iload_n 3, 1) := by decide +kernel
theorem dX6_writeWord_6 : decode cX6_writeWord 6 = .ok (.invokestatic 111, 3) := by decide +kernel
theorem dX6_writeWord_9 : decode cX6_writeWord 9 = .ok (.iload_n 1, 1) := by decide +kernel
theorem dX6_writeWord_10 : decode cX6_writeWord 10 = .ok (.iload_n 2, 1) := by decide +kernel
theorem dX6_writeWord_11 : decode cX6_writeWord 11 = .ok (.invokestatic 104, 3) := by decide +kernel
theorem dX6_writeWord_14 : decode cX6_writeWord 14 = .ok (.istore 4, 2) := by decide +kernel
theorem dX6_writeWord_16 : decode cX6_writeWord 16 = .ok (.aload_n 0, 1) := by decide +kernel
theorem dX6_writeWord_17 : decode cX6_writeWord 17 = .ok (.getfield 12, 3) := by decide +kernel
theorem dX6_writeWord_20 : decode cX6_writeWord 20 = .ok (.getfield 72, 3) := by decide +kernel
theorem dX6_writeWord_23 : decode cX6_writeWord 23 = .ok (.iload 4, 2) := by decide +kernel
theorem dX6_writeWord_25 : decode cX6_writeWord 25 = .ok (.invokevirtual 108, 3) := by decide +kernel
theorem dX6_writeWord_28 : decode cX6_writeWord 28 = .ok (.istore 5, 2) := by decide +kernel
theorem dX6_writeWord_30 : decode cX6_writeWord 30 = .ok (.aload_n 0, 1) := by decide +kernel
theorem dX6_writeWord_31 : decode cX6_writeWord 31 = .ok (.getfield 12, 3) := by decide +kernel
theorem dX6_writeWord_34 : decode cX6_writeWord 34 = .ok (.getfield 72, 3) := by decide +kernel
theorem dX6_writeWord_37 : decode cX6_writeWord 37 = .ok (.iload 4, 2) := by decide +kernel
theorem dX6_writeWord_39 : decode cX6_writeWord 39 = .ok (.iload_n 3, 1) := by decide +kernel
theorem dX6_writeWord_40 : decode cX6_writeWord 40 = .ok (.invokevirtual 80, 3) := by decide +kernel
theorem dX6_writeWord_43 : decode cX6_writeWord 43 = .ok (.iload 5, 2) := by decide +kernel
theorem dX6_writeWord_45 : decode cX6_writeWord 45 = .ok (.ireturn, 1) := by decide +kernel
theorem dX6_clearTank_0 : decode cX6_clearTank 0 = .ok (.iload_n 1, 1) := by decide +kernel
theorem dX6_clearTank_1 : decode cX6_clearTank 1 = .ok (.invokestatic 114, 3) := by decide +kernel
theorem dX6_clearTank_4 : decode cX6_clearTank 4 = .ok (.aload_n 0, 1) := by decide +kernel
theorem dX6_clearTank_5 : decode cX6_clearTank 5 = .ok (.getfield 12, 3) := by decide +kernel
theorem dX6_clearTank_8 : decode cX6_clearTank 8 = .ok (.getfield 72, 3) := by decide +kernel
theorem dX6_clearTank_11 : decode cX6_clearTank 11 = .ok (.iload_n 1, 1) := by decide +kernel
theorem dX6_clearTank_12 : decode cX6_clearTank 12 = .ok (.invokevirtual 117, 3) := by decide +kernel
theorem dX6_clearTank_15 : decode cX6_clearTank 15 = .ok (.istore_n 2, 1) := by decide +kernel
theorem dX6_clearTank_16 : decode cX6_clearTank 16 = .ok (.aload_n 0, 1) := by decide +kernel
theorem dX6_clearTank_17 : decode cX6_clearTank 17 = .ok (.getfield 12, 3) := by decide +kernel
theorem dX6_clearTank_20 : decode cX6_clearTank 20 = .ok (.getfield 72, 3) := by decide +kernel
theorem dX6_clearTank_23 : decode cX6_clearTank 23 = .ok (.iload_n 1, 1) := by decide +kernel
theorem dX6_clearTank_24 : decode cX6_clearTank 24 = .ok (.invokevirtual 120, 3) := by decide +kernel
theorem dX6_clearTank_27 : decode cX6_clearTank 27 = .ok (.iload_n 2, 1) := by decide +kernel
theorem dX6_clearTank_28 : decode cX6_clearTank 28 = .ok (.ireturn, 1) := by decide +kernel
theorem dX6_swapTanks_0 : decode cX6_swapTanks 0 = .ok (.iload_n 1, 1) := by decide +kernel
theorem dX6_swapTanks_1 : decode cX6_swapTanks 1 = .ok (.invokestatic 114, 3) := by decide +kernel
theorem dX6_swapTanks_4 : decode cX6_swapTanks 4 = .ok (.iload_n 2, 1) := by decide +kernel
theorem dX6_swapTanks_5 : decode cX6_swapTanks 5 = .ok (.invokestatic 114, 3) := by decide +kernel
theorem dX6_swapTanks_8 : decode cX6_swapTanks 8 = .ok (.aload_n 0, 1) := by decide +kernel
theorem dX6_swapTanks_9 : decode cX6_swapTanks 9 = .ok (.getfield 12, 3) := by decide +kernel
theorem dX6_swapTanks_12 : decode cX6_swapTanks 12 = .ok (.getfield 72, 3) := by decide +kernel
theorem dX6_swapTanks_15 : decode cX6_swapTanks 15 = .ok (.iload_n 1, 1) := by decide +kernel
theorem dX6_swapTanks_16 : decode cX6_swapTanks 16 = .ok (.iload_n 2, 1) := by decide +kernel
theorem dX6_swapTanks_17 : decode cX6_swapTanks 17 = .ok (.invokevirtual 123, 3) := by decide +kernel
theorem dX6_swapTanks_20 : decode cX6_swapTanks 20 = .ok (.aload_n 0, 1) := by decide +kernel
theorem dX6_swapTanks_21 : decode cX6_swapTanks 21 = .ok (.getfield 12, 3) := by decide +kernel
theorem dX6_swapTanks_24 : decode cX6_swapTanks 24 = .ok (.getfield 126, 3) := by decide +kernel
theorem dX6_swapTanks_27 : decode cX6_swapTanks 27 = .ok (.iload_n 1, 1) := by decide +kernel
theorem dX6_swapTanks_28 : decode cX6_swapTanks 28 = .ok (.iload_n 2, 1) := by decide +kernel
theorem dX6_swapTanks_29 : decode cX6_swapTanks 29 = .ok (.invokevirtual 130, 3) := by decide +kernel
theorem dX6_swapTanks_32 : decode cX6_swapTanks 32 = .ok (.return_, 1) := by decide +kernel
theorem dX6_bitCount_0 : decode cX6_bitCount 0 = .ok (.iload_n 1, 1) := by decide +kernel
theorem dX6_bitCount_1 : decode cX6_bitCount 1 = .ok (.invokestatic 114, 3) := by decide +kernel
theorem dX6_bitCount_4 : decode cX6_bitCount 4 = .ok (.aload_n 0, 1) := by decide +kernel
theorem dX6_bitCount_5 : decode cX6_bitCount 5 = .ok (.getfield 12, 3) := by decide +kernel
theorem dX6_bitCount_8 : decode cX6_bitCount 8 = .ok (.getfield 72, 3) := by decide +kernel
theorem dX6_bitCount_11 : decode cX6_bitCount 11 = .ok (.iload_n 1, 1) := by decide +kernel
theorem dX6_bitCount_12 : decode cX6_bitCount 12 = .ok (.invokevirtual 117, 3) := by decide +kernel
theorem dX6_bitCount_15 : decode cX6_bitCount 15 = .ok (.ireturn, 1) := by decide +kernel
theorem dX6_slips_0 : decode cX6_slips 0 = .ok (.iload_n 1, 1) := by decide +kernel
theorem dX6_slips_1 : decode cX6_slips 1 = .ok (.invokestatic 114, 3) := by decide +kernel
theorem dX6_slips_4 : decode cX6_slips 4 = .ok (.aload_n 0, 1) := by decide +kernel
theorem dX6_slips_5 : decode cX6_slips 5 = .ok (.getfield 12, 3) := by decide +kernel
theorem dX6_slips_8 : decode cX6_slips 8 = .ok (.getfield 72, 3) := by decide +kernel
theorem dX6_slips_11 : decode cX6_slips 11 = .ok (.iload_n 1, 1) := by decide +kernel
theorem dX6_slips_12 : decode cX6_slips 12 = .ok (.invokevirtual 133, 3) := by decide +kernel
theorem dX6_slips_15 : decode cX6_slips 15 = .ok (.ireturn, 1) := by decide +kernel
theorem dX6_dropouts_0 : decode cX6_dropouts 0 = .ok (.aload_n 0, 1) := by decide +kernel
theorem dX6_dropouts_1 : decode cX6_dropouts 1 = .ok (.getfield 12, 3) := by decide +kernel
theorem dX6_dropouts_4 : decode cX6_dropouts 4 = .ok (.getfield 72, 3) := by decide +kernel
theorem dX6_dropouts_7 : decode cX6_dropouts 7 = .ok (.getfield 136, 3) := by decide +kernel
theorem dX6_dropouts_10 : decode cX6_dropouts 10 = .ok (.ireturn, 1) := by decide +kernel
theorem dX6_setTemperature_0 : decode cX6_setTemperature 0 = .ok (.iload_n 1, 1) := by decide +kernel
theorem dX6_setTemperature_1 : decode cX6_setTemperature 1 = .ok (.invokestatic 114, 3) := by decide +kernel
theorem dX6_setTemperature_4 : decode cX6_setTemperature 4 = .ok (.iload_n 2, 1) := by decide +kernel
theorem dX6_setTemperature_5 : decode cX6_setTemperature 5 = .ok (.invokestatic 139, 3) := by decide +kernel
theorem dX6_setTemperature_8 : decode cX6_setTemperature 8 = .ok (.aload_n 0, 1) := by decide +kernel
theorem dX6_setTemperature_9 : decode cX6_setTemperature 9 = .ok (.getfield 12, 3) := by decide +kernel
theorem dX6_setTemperature_12 : decode cX6_setTemperature 12 = .ok (.getfield 126, 3) := by decide +kernel
theorem dX6_setTemperature_15 : decode cX6_setTemperature 15 = .ok (.iload_n 1, 1) := by decide +kernel
theorem dX6_setTemperature_16 : decode cX6_setTemperature 16 = .ok (.invokevirtual 142, 3) := by decide +kernel
theorem dX6_setTemperature_19 : decode cX6_setTemperature 19 = .ok (.istore_n 3, 1) := by decide +kernel
theorem dX6_setTemperature_20 : decode cX6_setTemperature 20 = .ok (.aload_n 0, 1) := by decide +kernel
theorem dX6_setTemperature_21 : decode cX6_setTemperature 21 = .ok (.getfield 12, 3) := by decide +kernel
theorem dX6_setTemperature_24 : decode cX6_setTemperature 24 = .ok (.getfield 126, 3) := by decide +kernel
theorem dX6_setTemperature_27 : decode cX6_setTemperature 27 = .ok (.iload_n 1, 1) := by decide +kernel
theorem dX6_setTemperature_28 : decode cX6_setTemperature 28 = .ok (.iload_n 2, 1) := by decide +kernel
theorem dX6_setTemperature_29 : decode cX6_setTemperature 29 = .ok (.invokevirtual 145, 3) := by decide +kernel
theorem dX6_setTemperature_32 : decode cX6_setTemperature 32 = .ok (.iload_n 3, 1) := by decide +kernel
theorem dX6_setTemperature_33 : decode cX6_setTemperature 33 = .ok (.ireturn, 1) := by decide +kernel
theorem dX6_temperature_0 : decode cX6_temperature 0 = .ok (.iload_n 1, 1) := by decide +kernel
theorem dX6_temperature_1 : decode cX6_temperature 1 = .ok (.invokestatic 114, 3) := by decide +kernel
theorem dX6_temperature_4 : decode cX6_temperature 4 = .ok (.aload_n 0, 1) := by decide +kernel
theorem dX6_temperature_5 : decode cX6_temperature 5 = .ok (.getfield 12, 3) := by decide +kernel
theorem dX6_temperature_8 : decode cX6_temperature 8 = .ok (.getfield 126, 3) := by decide +kernel
theorem dX6_temperature_11 : decode cX6_temperature 11 = .ok (.iload_n 1, 1) := by decide +kernel
theorem dX6_temperature_12 : decode cX6_temperature 12 = .ok (.invokevirtual 142, 3) := by decide +kernel
theorem dX6_temperature_15 : decode cX6_temperature 15 = .ok (.ireturn, 1) := by decide +kernel
theorem dX6_setOven_0 : decode cX6_setOven 0 = .ok (.iload_n 1, 1) := by decide +kernel
theorem dX6_setOven_1 : decode cX6_setOven 1 = .ok (.invokestatic 139, 3) := by decide +kernel
theorem dX6_setOven_4 : decode cX6_setOven 4 = .ok (.aload_n 0, 1) := by decide +kernel
theorem dX6_setOven_5 : decode cX6_setOven 5 = .ok (.getfield 12, 3) := by decide +kernel
theorem dX6_setOven_8 : decode cX6_setOven 8 = .ok (.getfield 126, 3) := by decide +kernel
theorem dX6_setOven_11 : decode cX6_setOven 11 = .ok (.getfield 148, 3) := by decide +kernel
theorem dX6_setOven_14 : decode cX6_setOven 14 = .ok (.istore_n 2, 1) := by decide +kernel
theorem dX6_setOven_15 : decode cX6_setOven 15 = .ok (.aload_n 0, 1) := by decide +kernel
theorem dX6_setOven_16 : decode cX6_setOven 16 = .ok (.getfield 12, 3) := by decide +kernel
theorem dX6_setOven_19 : decode cX6_setOven 19 = .ok (.getfield 126, 3) := by decide +kernel
theorem dX6_setOven_22 : decode cX6_setOven 22 = .ok (.iload_n 1, 1) := by decide +kernel
theorem dX6_setOven_23 : decode cX6_setOven 23 = .ok (.putfield 148, 3) := by decide +kernel
theorem dX6_setOven_26 : decode cX6_setOven 26 = .ok (.iload_n 2, 1) := by decide +kernel
theorem dX6_setOven_27 : decode cX6_setOven 27 = .ok (.ireturn, 1) := by decide +kernel
theorem dX6_setPilotTemperature_0 : decode cX6_setPilotTemperature 0 = .ok (.iload_n 1, 1) := by decide +kernel
theorem dX6_setPilotTemperature_1 : decode cX6_setPilotTemperature 1 = .ok (.invokestatic 139, 3) := by decide +kernel
theorem dX6_setPilotTemperature_4 : decode cX6_setPilotTemperature 4 = .ok (.aload_n 0, 1) := by decide +kernel
theorem dX6_setPilotTemperature_5 : decode cX6_setPilotTemperature 5 = .ok (.getfield 12, 3) := by decide +kernel
theorem dX6_setPilotTemperature_8 : decode cX6_setPilotTemperature 8 = .ok (.getfield 126, 3) := by decide +kernel
theorem dX6_setPilotTemperature_11 : decode cX6_setPilotTemperature 11 = .ok (.getfield 151, 3) := by decide +kernel
theorem dX6_setPilotTemperature_14 : decode cX6_setPilotTemperature 14 = .ok (.istore_n 2, 1) := by decide +kernel
theorem dX6_setPilotTemperature_15 : decode cX6_setPilotTemperature 15 = .ok (.aload_n 0, 1) := by decide +kernel
theorem dX6_setPilotTemperature_16 : decode cX6_setPilotTemperature 16 = .ok (.getfield 12, 3) := by decide +kernel
theorem dX6_setPilotTemperature_19 : decode cX6_setPilotTemperature 19 = .ok (.getfield 126, 3) := by decide +kernel
theorem dX6_setPilotTemperature_22 : decode cX6_setPilotTemperature 22 = .ok (.iload_n 1, 1) := by decide +kernel
theorem dX6_setPilotTemperature_23 : decode cX6_setPilotTemperature 23 = .ok (.putfield 151, 3) := by decide +kernel
theorem dX6_setPilotTemperature_26 : decode cX6_setPilotTemperature 26 = .ok (.iload_n 2, 1) := by decide +kernel
theorem dX6_setPilotTemperature_27 : decode cX6_setPilotTemperature 27 = .ok (.ireturn, 1) := by decide +kernel
theorem dX6_setPilot_0 : decode cX6_setPilot 0 = .ok (.aload_n 0, 1) := by decide +kernel
theorem dX6_setPilot_1 : decode cX6_setPilot 1 = .ok (.getfield 12, 3) := by decide +kernel
theorem dX6_setPilot_4 : decode cX6_setPilot 4 = .ok (.getfield 126, 3) := by decide +kernel
theorem dX6_setPilot_7 : decode cX6_setPilot 7 = .ok (.getfield 154, 3) := by decide +kernel
theorem dX6_setPilot_10 : decode cX6_setPilot 10 = .ok (.istore_n 2, 1) := by decide +kernel
theorem dX6_setPilot_11 : decode cX6_setPilot 11 = .ok (.aload_n 0, 1) := by decide +kernel
theorem dX6_setPilot_12 : decode cX6_setPilot 12 = .ok (.getfield 12, 3) := by decide +kernel
theorem dX6_setPilot_15 : decode cX6_setPilot 15 = .ok (.getfield 126, 3) := by decide +kernel
theorem dX6_setPilot_18 : decode cX6_setPilot 18 = .ok (.iload_n 1, 1) := by decide +kernel
theorem dX6_setPilot_19 : decode cX6_setPilot 19 = .ok (.putfield 154, 3) := by decide +kernel
theorem dX6_setPilot_22 : decode cX6_setPilot 22 = .ok (.iload_n 2, 1) := by decide +kernel
theorem dX6_setPilot_23 : decode cX6_setPilot 23 = .ok (.ireturn, 1) := by decide +kernel
theorem dX6_setFixedPeriod_0 : decode cX6_setFixedPeriod 0 = .ok (.iload_n 1, 1) := by decide +kernel
theorem dX6_setFixedPeriod_1 : decode cX6_setFixedPeriod 1 = .ok (.ldc 158, 2) := by decide +kernel
theorem dX6_setFixedPeriod_3 : decode cX6_setFixedPeriod 3 = .ok (.if_icmp .lt 9, 3) := by decide +kernel
theorem dX6_setFixedPeriod_6 : decode cX6_setFixedPeriod 6 = .ok (.iload_n 1, 1) := by decide +kernel
theorem dX6_setFixedPeriod_7 : decode cX6_setFixedPeriod 7 = .ok (.ldc 159, 2) := by decide +kernel
theorem dX6_setFixedPeriod_9 : decode cX6_setFixedPeriod 9 = .ok (.if_icmp .le 13, 3) := by decide +kernel
theorem dX6_setFixedPeriod_12 : decode cX6_setFixedPeriod 12 = .ok (.new 63, 3) := by decide +kernel
theorem dX6_setFixedPeriod_15 : decode cX6_setFixedPeriod 15 = .ok (.dup, 1) := by decide +kernel
theorem dX6_setFixedPeriod_16 : decode cX6_setFixedPeriod 16 = .ok (.ldc 160, 2) := by decide +kernel
theorem dX6_setFixedPeriod_18 : decode cX6_setFixedPeriod 18 = .ok (.invokespecial 67, 3) := by decide +kernel
theorem dX6_setFixedPeriod_21 : decode cX6_setFixedPeriod 21 = .ok (.athrow, 1) := by decide +kernel
theorem dX6_setFixedPeriod_22 : decode cX6_setFixedPeriod 22 = .ok (.aload_n 0, 1) := by decide +kernel
theorem dX6_setFixedPeriod_23 : decode cX6_setFixedPeriod 23 = .ok (.getfield 12, 3) := by decide +kernel
theorem dX6_setFixedPeriod_26 : decode cX6_setFixedPeriod 26 = .ok (.getfield 126, 3) := by decide +kernel
theorem dX6_setFixedPeriod_29 : decode cX6_setFixedPeriod 29 = .ok (.getfield 162, 3) := by decide +kernel
theorem dX6_setFixedPeriod_32 : decode cX6_setFixedPeriod 32 = .ok (.istore_n 2, 1) := by decide +kernel
theorem dX6_setFixedPeriod_33 : decode cX6_setFixedPeriod 33 = .ok (.aload_n 0, 1) := by decide +kernel
theorem dX6_setFixedPeriod_34 : decode cX6_setFixedPeriod 34 = .ok (.getfield 12, 3) := by decide +kernel
theorem dX6_setFixedPeriod_37 : decode cX6_setFixedPeriod 37 = .ok (.getfield 126, 3) := by decide +kernel
theorem dX6_setFixedPeriod_40 : decode cX6_setFixedPeriod 40 = .ok (.iload_n 1, 1) := by decide +kernel
theorem dX6_setFixedPeriod_41 : decode cX6_setFixedPeriod 41 = .ok (.putfield 162, 3) := by decide +kernel
theorem dX6_setFixedPeriod_44 : decode cX6_setFixedPeriod 44 = .ok (.iload_n 2, 1) := by decide +kernel
theorem dX6_setFixedPeriod_45 : decode cX6_setFixedPeriod 45 = .ok (.ireturn, 1) := by decide +kernel
theorem dX6_period_0 : decode cX6_period 0 = .ok (.aload_n 0, 1) := by decide +kernel
theorem dX6_period_1 : decode cX6_period 1 = .ok (.getfield 12, 3) := by decide +kernel
theorem dX6_period_4 : decode cX6_period 4 = .ok (.getfield 126, 3) := by decide +kernel
theorem dX6_period_7 : decode cX6_period 7 = .ok (.invokevirtual 165, 3) := by decide +kernel
theorem dX6_period_10 : decode cX6_period 10 = .ok (.ireturn, 1) := by decide +kernel
theorem dX6_mismatch_0 : decode cX6_mismatch 0 = .ok (.iload_n 1, 1) := by decide +kernel
theorem dX6_mismatch_1 : decode cX6_mismatch 1 = .ok (.invokestatic 114, 3) := by decide +kernel
theorem dX6_mismatch_4 : decode cX6_mismatch 4 = .ok (.aload_n 0, 1) := by decide +kernel
theorem dX6_mismatch_5 : decode cX6_mismatch 5 = .ok (.getfield 12, 3) := by decide +kernel
theorem dX6_mismatch_8 : decode cX6_mismatch 8 = .ok (.getfield 126, 3) := by decide +kernel
theorem dX6_mismatch_11 : decode cX6_mismatch 11 = .ok (.astore_n 2, 1) := by decide +kernel
theorem dX6_mismatch_12 : decode cX6_mismatch 12 = .ok (.aload_n 2, 1) := by decide +kernel
theorem dX6_mismatch_13 : decode cX6_mismatch 13 = .ok (.iload_n 1, 1) := by decide +kernel
theorem dX6_mismatch_14 : decode cX6_mismatch 14 = .ok (.invokevirtual 142, 3) := by decide +kernel
theorem dX6_mismatch_17 : decode cX6_mismatch 17 = .ok (.aload_n 2, 1) := by decide +kernel
theorem dX6_mismatch_18 : decode cX6_mismatch 18 = .ok (.invokevirtual 165, 3) := by decide +kernel
theorem dX6_mismatch_21 : decode cX6_mismatch 21 = .ok (.invokestatic 169, 3) := by decide +kernel
theorem dX6_mismatch_24 : decode cX6_mismatch 24 = .ok (.ireturn, 1) := by decide +kernel
theorem dX6_leastSafeTemperature_0 : decode cX6_leastSafeTemperature 0 = .ok (.aload_n 0, 1) := by decide +kernel
theorem dX6_leastSafeTemperature_1 : decode cX6_leastSafeTemperature 1 = .ok (.getfield 12, 3) := by decide +kernel
theorem dX6_leastSafeTemperature_4 : decode cX6_leastSafeTemperature 4 = .ok (.getfield 126, 3) := by decide +kernel
theorem dX6_leastSafeTemperature_7 : decode cX6_leastSafeTemperature 7 = .ok (.invokevirtual 165, 3) := by decide +kernel
theorem dX6_leastSafeTemperature_10 : decode cX6_leastSafeTemperature 10 = .ok (.istore_n 1, 1) := by decide +kernel
theorem dX6_leastSafeTemperature_11 : decode cX6_leastSafeTemperature 11 = .ok (.iconst 0, 1) := by decide +kernel
theorem dX6_leastSafeTemperature_12 : decode cX6_leastSafeTemperature 12 = .ok (.istore_n 2, 1) := by decide +kernel
theorem dX6_leastSafeTemperature_13 : decode cX6_leastSafeTemperature 13 = .ok (.iload_n 2, 1) := by decide +kernel
theorem dX6_leastSafeTemperature_14 : decode cX6_leastSafeTemperature 14 = .ok (.sipush 1000, 3) := by decide +kernel
theorem dX6_leastSafeTemperature_17 : decode cX6_leastSafeTemperature 17 = .ok (.if_icmp .gt 19, 3) := by decide +kernel
theorem dX6_leastSafeTemperature_20 : decode cX6_leastSafeTemperature 20 = .ok (.iload_n 2, 1) := by decide +kernel
theorem dX6_leastSafeTemperature_21 : decode cX6_leastSafeTemperature 21 = .ok (.iload_n 1, 1) := by decide +kernel
theorem dX6_leastSafeTemperature_22 : decode cX6_leastSafeTemperature 22 = .ok (.invokestatic 172, 3) := by decide +kernel
theorem dX6_leastSafeTemperature_25 : decode cX6_leastSafeTemperature 25 = .ok (.ifCond .eq 5, 3) := by decide +kernel
theorem dX6_leastSafeTemperature_28 : decode cX6_leastSafeTemperature 28 = .ok (.iload_n 2, 1) := by decide +kernel
theorem dX6_leastSafeTemperature_29 : decode cX6_leastSafeTemperature 29 = .ok (.ireturn, 1) := by decide +kernel
theorem dX6_leastSafeTemperature_30 : decode cX6_leastSafeTemperature 30 = .ok (.iinc 2 1, 3) := by decide +kernel
theorem dX6_leastSafeTemperature_33 : decode cX6_leastSafeTemperature 33 = .ok (.goto (-20), 3) := by decide +kernel
theorem dX6_leastSafeTemperature_36 : decode cX6_leastSafeTemperature 36 = .ok (.iconst (-1), 1) := by decide +kernel
theorem dX6_leastSafeTemperature_37 : decode cX6_leastSafeTemperature 37 = .ok (.ireturn, 1) := by decide +kernel
theorem dX6_greatestSafeTemperature_0 : decode cX6_greatestSafeTemperature 0 = .ok (.aload_n 0, 1) := by decide +kernel
theorem dX6_greatestSafeTemperature_1 : decode cX6_greatestSafeTemperature 1 = .ok (.getfield 12, 3) := by decide +kernel
theorem dX6_greatestSafeTemperature_4 : decode cX6_greatestSafeTemperature 4 = .ok (.getfield 126, 3) := by decide +kernel
theorem dX6_greatestSafeTemperature_7 : decode cX6_greatestSafeTemperature 7 = .ok (.invokevirtual 165, 3) := by decide +kernel
theorem dX6_greatestSafeTemperature_10 : decode cX6_greatestSafeTemperature 10 = .ok (.istore_n 1, 1) := by decide +kernel
theorem dX6_greatestSafeTemperature_11 : decode cX6_greatestSafeTemperature 11 = .ok (.sipush 1000, 3) := by decide +kernel
theorem dX6_greatestSafeTemperature_14 : decode cX6_greatestSafeTemperature 14 = .ok (.istore_n 2, 1) := by decide +kernel
theorem dX6_greatestSafeTemperature_15 : decode cX6_greatestSafeTemperature 15 = .ok (.iload_n 2, 1) := by decide +kernel
theorem dX6_greatestSafeTemperature_16 : decode cX6_greatestSafeTemperature 16 = .ok (.ifCond .lt 19, 3) := by decide +kernel
theorem dX6_greatestSafeTemperature_19 : decode cX6_greatestSafeTemperature 19 = .ok (.iload_n 2, 1) := by decide +kernel
theorem dX6_greatestSafeTemperature_20 : decode cX6_greatestSafeTemperature 20 = .ok (.iload_n 1, 1) := by decide +kernel
theorem dX6_greatestSafeTemperature_21 : decode cX6_greatestSafeTemperature 21 = .ok (.invokestatic 172, 3) := by decide +kernel
theorem dX6_greatestSafeTemperature_24 : decode cX6_greatestSafeTemperature 24 = .ok (.ifCond .eq 5, 3) := by decide +kernel
theorem dX6_greatestSafeTemperature_27 : decode cX6_greatestSafeTemperature 27 = .ok (.iload_n 2, 1) := by decide +kernel
theorem dX6_greatestSafeTemperature_28 : decode cX6_greatestSafeTemperature 28 = .ok (.ireturn, 1) := by decide +kernel
theorem dX6_greatestSafeTemperature_29 : decode cX6_greatestSafeTemperature 29 = .ok (.iinc 2 (-1), 3) := by decide +kernel
theorem dX6_greatestSafeTemperature_32 : decode cX6_greatestSafeTemperature 32 = .ok (.goto (-17), 3) := by decide +kernel
theorem dX6_greatestSafeTemperature_35 : decode cX6_greatestSafeTemperature 35 = .ok (.iconst (-1), 1) := by decide +kernel
theorem dX6_greatestSafeTemperature_36 : decode cX6_greatestSafeTemperature 36 = .ok (.ireturn, 1) := by decide +kernel
theorem dX6_unsafeAfter_0 : decode cX6_unsafeAfter 0 = .ok (.aload_n 0, 1) := by decide +kernel
theorem dX6_unsafeAfter_1 : decode cX6_unsafeAfter 1 = .ok (.getfield 16, 3) := by decide +kernel
theorem dX6_unsafeAfter_4 : decode cX6_unsafeAfter 4 = .ok (.getfield 126, 3) := by decide +kernel
theorem dX6_unsafeAfter_7 : decode cX6_unsafeAfter 7 = .ok (.astore_n 1, 1) := by decide +kernel
theorem dX6_unsafeAfter_8 : decode cX6_unsafeAfter 8 = .ok (.aload_n 1, 1) := by decide +kernel
theorem dX6_unsafeAfter_9 : decode cX6_unsafeAfter 9 = .ok (.aload_n 0, 1) := by decide +kernel
theorem dX6_unsafeAfter_10 : decode cX6_unsafeAfter 10 = .ok (.getfield 12, 3) := by decide +kernel
theorem dX6_unsafeAfter_13 : decode cX6_unsafeAfter 13 = .ok (.getfield 126, 3) := by decide +kernel
theorem dX6_unsafeAfter_16 : decode cX6_unsafeAfter 16 = .ok (.invokevirtual 176, 3) := by decide +kernel
theorem dX6_unsafeAfter_19 : decode cX6_unsafeAfter 19 = .ok (.iconst 0, 1) := by decide +kernel
theorem dX6_unsafeAfter_20 : decode cX6_unsafeAfter 20 = .ok (.istore_n 2, 1) := by decide +kernel
theorem dX6_unsafeAfter_21 : decode cX6_unsafeAfter 21 = .ok (.iload_n 2, 1) := by decide +kernel
theorem dX6_unsafeAfter_22 : decode cX6_unsafeAfter 22 = .ok (.sipush 200, 3) := by decide +kernel
theorem dX6_unsafeAfter_25 : decode cX6_unsafeAfter 25 = .ok (.if_icmp .gt 22, 3) := by decide +kernel
theorem dX6_unsafeAfter_28 : decode cX6_unsafeAfter 28 = .ok (.aload_n 1, 1) := by decide +kernel
theorem dX6_unsafeAfter_29 : decode cX6_unsafeAfter 29 = .ok (.invokevirtual 180, 3) := by decide +kernel
theorem dX6_unsafeAfter_32 : decode cX6_unsafeAfter 32 = .ok (.ifCond .ne 5, 3) := by decide +kernel
theorem dX6_unsafeAfter_35 : decode cX6_unsafeAfter 35 = .ok (.iload_n 2, 1) := by decide +kernel
theorem dX6_unsafeAfter_36 : decode cX6_unsafeAfter 36 = .ok (.ireturn, 1) := by decide +kernel
theorem dX6_unsafeAfter_37 : decode cX6_unsafeAfter 37 = .ok (.aload_n 1, 1) := by decide +kernel
theorem dX6_unsafeAfter_38 : decode cX6_unsafeAfter 38 = .ok (.invokevirtual 183, 3) := by decide +kernel
theorem dX6_unsafeAfter_41 : decode cX6_unsafeAfter 41 = .ok (.iinc 2 1, 3) := by decide +kernel
theorem dX6_unsafeAfter_44 : decode cX6_unsafeAfter 44 = .ok (.goto (-23), 3) := by decide +kernel
theorem dX6_unsafeAfter_47 : decode cX6_unsafeAfter 47 = .ok (.iconst (-1), 1) := by decide +kernel
theorem dX6_unsafeAfter_48 : decode cX6_unsafeAfter 48 = .ok (.ireturn, 1) := by decide +kernel
theorem dX6_start_0 : decode cX6_start 0 = .ok (.iload_n 1, 1) := by decide +kernel
theorem dX6_start_1 : decode cX6_start 1 = .ok (.iload_n 2, 1) := by decide +kernel
theorem dX6_start_2 : decode cX6_start 2 = .ok (.invokestatic 101, 3) := by decide +kernel
theorem dX6_start_5 : decode cX6_start 5 = .ok (.aload_n 0, 1) := by decide +kernel
theorem dX6_start_6 : decode cX6_start 6 = .ok (.getfield 12, 3) := by decide +kernel
theorem dX6_start_9 : decode cX6_start 9 = .ok (.iload_n 1, 1) := by decide +kernel
theorem dX6_start_10 : decode cX6_start 10 = .ok (.iload_n 2, 1) := by decide +kernel
theorem dX6_start_11 : decode cX6_start 11 = .ok (.invokestatic 104, 3) := by decide +kernel
theorem dX6_start_14 : decode cX6_start 14 = .ok (.invokevirtual 89, 3) := by decide +kernel
theorem dX6_start_17 : decode cX6_start 17 = .ok (.return_, 1) := by decide +kernel
theorem dX6_run_0 : decode cX6_run 0 = .ok (.iload_n 1, 1) := by decide +kernel
theorem dX6_run_1 : decode cX6_run 1 = .ok (.sipush 500, 3) := by decide +kernel
theorem dX6_run_4 : decode cX6_run 4 = .ok (.invokestatic 186, 3) := by decide +kernel
theorem dX6_run_7 : decode cX6_run 7 = .ok (.aload_n 0, 1) := by decide +kernel
theorem dX6_run_8 : decode cX6_run 8 = .ok (.invokevirtual 189, 3) := by decide +kernel
theorem dX6_run_11 : decode cX6_run 11 = .ok (.aload_n 0, 1) := by decide +kernel
theorem dX6_run_12 : decode cX6_run 12 = .ok (.getfield 12, 3) := by decide +kernel
theorem dX6_run_15 : decode cX6_run 15 = .ok (.iload_n 1, 1) := by decide +kernel
theorem dX6_run_16 : decode cX6_run 16 = .ok (.invokevirtual 192, 3) := by decide +kernel
theorem dX6_run_19 : decode cX6_run 19 = .ok (.ireturn, 1) := by decide +kernel
theorem dX6_idle_0 : decode cX6_idle 0 = .ok (.iload_n 1, 1) := by decide +kernel
theorem dX6_idle_1 : decode cX6_idle 1 = .ok (.sipush 3200, 3) := by decide +kernel
theorem dX6_idle_4 : decode cX6_idle 4 = .ok (.invokestatic 186, 3) := by decide +kernel
theorem dX6_idle_7 : decode cX6_idle 7 = .ok (.aload_n 0, 1) := by decide +kernel
theorem dX6_idle_8 : decode cX6_idle 8 = .ok (.getfield 12, 3) := by decide +kernel
theorem dX6_idle_11 : decode cX6_idle 11 = .ok (.iload_n 1, 1) := by decide +kernel
theorem dX6_idle_12 : decode cX6_idle 12 = .ok (.invokevirtual 195, 3) := by decide +kernel
theorem dX6_idle_15 : decode cX6_idle 15 = .ok (.aload_n 0, 1) := by decide +kernel
theorem dX6_idle_16 : decode cX6_idle 16 = .ok (.getfield 12, 3) := by decide +kernel
theorem dX6_idle_19 : decode cX6_idle 19 = .ok (.getfield 198, 3) := by decide +kernel
theorem dX6_idle_22 : decode cX6_idle 22 = .ok (.ireturn, 1) := by decide +kernel
theorem dX6_time_0 : decode cX6_time 0 = .ok (.aload_n 0, 1) := by decide +kernel
theorem dX6_time_1 : decode cX6_time 1 = .ok (.getfield 12, 3) := by decide +kernel
theorem dX6_time_4 : decode cX6_time 4 = .ok (.getfield 198, 3) := by decide +kernel
theorem dX6_time_7 : decode cX6_time 7 = .ok (.ireturn, 1) := by decide +kernel
theorem dX6_state_0 : decode cX6_state 0 = .ok (.aload_n 0, 1) := by decide +kernel
theorem dX6_state_1 : decode cX6_state 1 = .ok (.getfield 12, 3) := by decide +kernel
theorem dX6_state_4 : decode cX6_state 4 = .ok (.getfield 201, 3) := by decide +kernel
theorem dX6_state_7 : decode cX6_state 7 = .ok (.ireturn, 1) := by decide +kernel
theorem dX6_accumulator_0 : decode cX6_accumulator 0 = .ok (.aload_n 0, 1) := by decide +kernel
theorem dX6_accumulator_1 : decode cX6_accumulator 1 = .ok (.getfield 12, 3) := by decide +kernel
theorem dX6_accumulator_4 : decode cX6_accumulator 4 = .ok (.getfield 204, 3) := by decide +kernel
theorem dX6_accumulator_7 : decode cX6_accumulator 7 = .ok (.ireturn, 1) := by decide +kernel
theorem dX6_hasOverflow_0 : decode cX6_hasOverflow 0 = .ok (.aload_n 0, 1) := by decide +kernel
theorem dX6_hasOverflow_1 : decode cX6_hasOverflow 1 = .ok (.getfield 12, 3) := by decide +kernel
theorem dX6_hasOverflow_4 : decode cX6_hasOverflow 4 = .ok (.getfield 207, 3) := by decide +kernel
theorem dX6_hasOverflow_7 : decode cX6_hasOverflow 7 = .ok (.ireturn, 1) := by decide +kernel
theorem dX6_location_0 : decode cX6_location 0 = .ok (.aload_n 0, 1) := by decide +kernel
theorem dX6_location_1 : decode cX6_location 1 = .ok (.getfield 12, 3) := by decide +kernel
theorem dX6_location_4 : decode cX6_location 4 = .ok (.getfield 210, 3) := by decide +kernel
theorem dX6_location_7 : decode cX6_location 7 = .ok (.ireturn, 1) := by decide +kernel
theorem dX6_offerInput_0 : decode cX6_offerInput 0 = .ok (.iload_n 1, 1) := by decide +kernel
theorem dX6_offerInput_1 : decode cX6_offerInput 1 = .ok (.invokestatic 111, 3) := by decide +kernel
theorem dX6_offerInput_4 : decode cX6_offerInput 4 = .ok (.aload_n 0, 1) := by decide +kernel
theorem dX6_offerInput_5 : decode cX6_offerInput 5 = .ok (.getfield 12, 3) := by decide +kernel
theorem dX6_offerInput_8 : decode cX6_offerInput 8 = .ok (.getfield 213, 3) := by decide +kernel
theorem dX6_offerInput_11 : decode cX6_offerInput 11 = .ok (.invokevirtual 217, 3) := by decide +kernel
theorem dX6_offerInput_14 : decode cX6_offerInput 14 = .ok (.ifCond .eq 13, 3) := by decide +kernel
theorem dX6_offerInput_17 : decode cX6_offerInput 17 = .ok (.new 43, 3) := by decide +kernel
theorem dX6_offerInput_20 : decode cX6_offerInput 20 = .ok (.dup, 1) := by decide +kernel
theorem dX6_offerInput_21 : decode cX6_offerInput 21 = .ok (.ldc 222, 2) := by decide +kernel
theorem dX6_offerInput_23 : decode cX6_offerInput 23 = .ok (.invokespecial 47, 3) := by decide +kernel
theorem dX6_offerInput_26 : decode cX6_offerInput 26 = .ok (.athrow, 1) := by decide +kernel
theorem dX6_offerInput_27 : decode cX6_offerInput 27 = .ok (.aload_n 0, 1) := by decide +kernel
theorem dX6_offerInput_28 : decode cX6_offerInput 28 = .ok (.getfield 12, 3) := by decide +kernel
theorem dX6_offerInput_31 : decode cX6_offerInput 31 = .ok (.getfield 213, 3) := by decide +kernel
theorem dX6_offerInput_34 : decode cX6_offerInput 34 = .ok (.iload_n 1, 1) := by decide +kernel
theorem dX6_offerInput_35 : decode cX6_offerInput 35 = .ok (.invokevirtual 224, 3) := by decide +kernel
theorem dX6_offerInput_38 : decode cX6_offerInput 38 = .ok (.aload_n 0, 1) := by decide +kernel
theorem dX6_offerInput_39 : decode cX6_offerInput 39 = .ok (.getfield 12, 3) := by decide +kernel
theorem dX6_offerInput_42 : decode cX6_offerInput 42 = .ok (.getfield 201, 3) := by decide +kernel
theorem dX6_offerInput_45 : decode cX6_offerInput 45 = .ok (.iconst 2, 1) := by decide +kernel
theorem dX6_offerInput_46 : decode cX6_offerInput 46 = .ok (.if_icmp .ne 11, 3) := by decide +kernel
theorem dX6_offerInput_49 : decode cX6_offerInput 49 = .ok (.aload_n 0, 1) := by decide +kernel
theorem dX6_offerInput_50 : decode cX6_offerInput 50 = .ok (.getfield 12, 3) := by decide +kernel
theorem dX6_offerInput_53 : decode cX6_offerInput 53 = .ok (.iconst 0, 1) := by decide +kernel
theorem dX6_offerInput_54 : decode cX6_offerInput 54 = .ok (.putfield 201, 3) := by decide +kernel
theorem dX6_offerInput_57 : decode cX6_offerInput 57 = .ok (.aload_n 0, 1) := by decide +kernel
theorem dX6_offerInput_58 : decode cX6_offerInput 58 = .ok (.getfield 12, 3) := by decide +kernel
theorem dX6_offerInput_61 : decode cX6_offerInput 61 = .ok (.getfield 213, 3) := by decide +kernel
theorem dX6_offerInput_64 : decode cX6_offerInput 64 = .ok (.getfield 227, 3) := by decide +kernel
theorem dX6_offerInput_67 : decode cX6_offerInput 67 = .ok (.ireturn, 1) := by decide +kernel
theorem dX6_takeOutput_0 : decode cX6_takeOutput 0 = .ok (.aload_n 0, 1) := by decide +kernel
theorem dX6_takeOutput_1 : decode cX6_takeOutput 1 = .ok (.getfield 12, 3) := by decide +kernel
theorem dX6_takeOutput_4 : decode cX6_takeOutput 4 = .ok (.getfield 228, 3) := by decide +kernel
theorem dX6_takeOutput_7 : decode cX6_takeOutput 7 = .ok (.getfield 227, 3) := by decide +kernel
theorem dX6_takeOutput_10 : decode cX6_takeOutput 10 = .ok (.ifCond .ne 13, 3) := by decide +kernel
theorem dX6_takeOutput_13 : decode cX6_takeOutput 13 = .ok (.new 231, 3) := by decide +kernel
theorem dX6_takeOutput_16 : decode cX6_takeOutput 16 = .ok (.dup, 1) := by decide +kernel
theorem dX6_takeOutput_17 : decode cX6_takeOutput 17 = .ok (.ldc 233, 2) := by decide +kernel
theorem dX6_takeOutput_19 : decode cX6_takeOutput 19 = .ok (.invokespecial 235, 3) := by decide +kernel
theorem dX6_takeOutput_22 : decode cX6_takeOutput 22 = .ok (.athrow, 1) := by decide +kernel
theorem dX6_takeOutput_23 : decode cX6_takeOutput 23 = .ok (.aload_n 0, 1) := by decide +kernel
theorem dX6_takeOutput_24 : decode cX6_takeOutput 24 = .ok (.getfield 12, 3) := by decide +kernel
theorem dX6_takeOutput_27 : decode cX6_takeOutput 27 = .ok (.getfield 201, 3) := by decide +kernel
theorem dX6_takeOutput_30 : decode cX6_takeOutput 30 = .ok (.iconst 3, 1) := by decide +kernel
theorem dX6_takeOutput_31 : decode cX6_takeOutput 31 = .ok (.if_icmp .ne 11, 3) := by decide +kernel
theorem dX6_takeOutput_34 : decode cX6_takeOutput 34 = .ok (.aload_n 0, 1) := by decide +kernel
theorem dX6_takeOutput_35 : decode cX6_takeOutput 35 = .ok (.getfield 12, 3) := by decide +kernel
theorem dX6_takeOutput_38 : decode cX6_takeOutput 38 = .ok (.iconst 0, 1) := by decide +kernel
theorem dX6_takeOutput_39 : decode cX6_takeOutput 39 = .ok (.putfield 201, 3) := by decide +kernel
theorem dX6_takeOutput_42 : decode cX6_takeOutput 42 = .ok (.aload_n 0, 1) := by decide +kernel
theorem dX6_takeOutput_43 : decode cX6_takeOutput 43 = .ok (.getfield 12, 3) := by decide +kernel
theorem dX6_takeOutput_46 : decode cX6_takeOutput 46 = .ok (.getfield 228, 3) := by decide +kernel
theorem dX6_takeOutput_49 : decode cX6_takeOutput 49 = .ok (.invokevirtual 236, 3) := by decide +kernel
theorem dX6_takeOutput_52 : decode cX6_takeOutput 52 = .ok (.ireturn, 1) := by decide +kernel
theorem dX6_outputLength_0 : decode cX6_outputLength 0 = .ok (.aload_n 0, 1) := by decide +kernel
theorem dX6_outputLength_1 : decode cX6_outputLength 1 = .ok (.getfield 12, 3) := by decide +kernel
theorem dX6_outputLength_4 : decode cX6_outputLength 4 = .ok (.getfield 228, 3) := by decide +kernel
theorem dX6_outputLength_7 : decode cX6_outputLength 7 = .ok (.getfield 227, 3) := by decide +kernel
theorem dX6_outputLength_10 : decode cX6_outputLength 10 = .ok (.ireturn, 1) := by decide +kernel
theorem dX6_executed_0 : decode cX6_executed 0 = .ok (.aload_n 0, 1) := by decide +kernel
theorem dX6_executed_1 : decode cX6_executed 1 = .ok (.getfield 12, 3) := by decide +kernel
theorem dX6_executed_4 : decode cX6_executed 4 = .ok (.getfield 239, 3) := by decide +kernel
theorem dX6_executed_7 : decode cX6_executed 7 = .ok (.ireturn, 1) := by decide +kernel
theorem dX6_executedAt_0 : decode cX6_executedAt 0 = .ok (.iload_n 1, 1) := by decide +kernel
theorem dX6_executedAt_1 : decode cX6_executedAt 1 = .ok (.iload_n 2, 1) := by decide +kernel
theorem dX6_executedAt_2 : decode cX6_executedAt 2 = .ok (.invokestatic 101, 3) := by decide +kernel
theorem dX6_executedAt_5 : decode cX6_executedAt 5 = .ok (.aload_n 0, 1) := by decide +kernel
theorem dX6_executedAt_6 : decode cX6_executedAt 6 = .ok (.getfield 12, 3) := by decide +kernel
theorem dX6_executedAt_9 : decode cX6_executedAt 9 = .ok (.iload_n 1, 1) := by decide +kernel
theorem dX6_executedAt_10 : decode cX6_executedAt 10 = .ok (.iload_n 2, 1) := by decide +kernel
theorem dX6_executedAt_11 : decode cX6_executedAt 11 = .ok (.invokestatic 104, 3) := by decide +kernel
theorem dX6_executedAt_14 : decode cX6_executedAt 14 = .ok (.invokevirtual 242, 3) := by decide +kernel
theorem dX6_executedAt_17 : decode cX6_executedAt 17 = .ok (.ireturn, 1) := by decide +kernel
theorem dX6_waited_0 : decode cX6_waited 0 = .ok (.aload_n 0, 1) := by decide +kernel
theorem dX6_waited_1 : decode cX6_waited 1 = .ok (.getfield 12, 3) := by decide +kernel
theorem dX6_waited_4 : decode cX6_waited 4 = .ok (.getfield 245, 3) := by decide +kernel
theorem dX6_waited_7 : decode cX6_waited 7 = .ok (.ireturn, 1) := by decide +kernel
theorem dX6_predictTime_0 : decode cX6_predictTime 0 = .ok (.iload_n 1, 1) := by decide +kernel
theorem dX6_predictTime_1 : decode cX6_predictTime 1 = .ok (.sipush 500, 3) := by decide +kernel
theorem dX6_predictTime_4 : decode cX6_predictTime 4 = .ok (.invokestatic 186, 3) := by decide +kernel
theorem dX6_predictTime_7 : decode cX6_predictTime 7 = .ok (.aload_n 0, 1) := by decide +kernel
theorem dX6_predictTime_8 : decode cX6_predictTime 8 = .ok (.invokevirtual 189, 3) := by decide +kernel
theorem dX6_predictTime_11 : decode cX6_predictTime 11 = .ok (.aload_n 0, 1) := by decide +kernel
theorem dX6_predictTime_12 : decode cX6_predictTime 12 = .ok (.getfield 16, 3) := by decide +kernel
theorem dX6_predictTime_15 : decode cX6_predictTime 15 = .ok (.aload_n 0, 1) := by decide +kernel
theorem dX6_predictTime_16 : decode cX6_predictTime 16 = .ok (.getfield 12, 3) := by decide +kernel
theorem dX6_predictTime_19 : decode cX6_predictTime 19 = .ok (.invokevirtual 248, 3) := by decide +kernel
theorem dX6_predictTime_22 : decode cX6_predictTime 22 = .ok (.aload_n 0, 1) := by decide +kernel
theorem dX6_predictTime_23 : decode cX6_predictTime 23 = .ok (.getfield 16, 3) := by decide +kernel
theorem dX6_predictTime_26 : decode cX6_predictTime 26 = .ok (.iload_n 1, 1) := by decide +kernel
theorem dX6_predictTime_27 : decode cX6_predictTime 27 = .ok (.invokevirtual 192, 3) := by decide +kernel
theorem dX6_predictTime_30 : decode cX6_predictTime 30 = .ok (.pop, 1) := by decide +kernel
theorem dX6_predictTime_31 : decode cX6_predictTime 31 = .ok (.aload_n 0, 1) := by decide +kernel
theorem dX6_predictTime_32 : decode cX6_predictTime 32 = .ok (.getfield 16, 3) := by decide +kernel
theorem dX6_predictTime_35 : decode cX6_predictTime 35 = .ok (.getfield 198, 3) := by decide +kernel
theorem dX6_predictTime_38 : decode cX6_predictTime 38 = .ok (.aload_n 0, 1) := by decide +kernel
theorem dX6_predictTime_39 : decode cX6_predictTime 39 = .ok (.getfield 12, 3) := by decide +kernel
theorem dX6_predictTime_42 : decode cX6_predictTime 42 = .ok (.getfield 198, 3) := by decide +kernel
theorem dX6_predictTime_45 : decode cX6_predictTime 45 = .ok (.isub, 1) := by decide +kernel
theorem dX6_predictTime_46 : decode cX6_predictTime 46 = .ok (.ireturn, 1) := by decide +kernel
theorem dX6_idealNextCycle_0 : decode cX6_idealNextCycle 0 = .ok (.iload_n 1, 1) := by decide +kernel
theorem dX6_idealNextCycle_1 : decode cX6_idealNextCycle 1 = .ok (.iload_n 2, 1) := by decide +kernel
theorem dX6_idealNextCycle_2 : decode cX6_idealNextCycle 2 = .ok (.invokestatic 101, 3) := by decide +kernel
theorem dX6_idealNextCycle_5 : decode cX6_idealNextCycle 5 = .ok (.aload_n 0, 1) := by decide +kernel
theorem dX6_idealNextCycle_6 : decode cX6_idealNextCycle 6 = .ok (.iload_n 1, 1) := by decide +kernel
theorem dX6_idealNextCycle_7 : decode cX6_idealNextCycle 7 = .ok (.iload_n 2, 1) := by decide +kernel
theorem dX6_idealNextCycle_8 : decode cX6_idealNextCycle 8 = .ok (.invokestatic 104, 3) := by decide +kernel
theorem dX6_idealNextCycle_11 : decode cX6_idealNextCycle 11 = .ok (.invokevirtual 251, 3) := by decide +kernel
theorem dX6_idealNextCycle_14 : decode cX6_idealNextCycle 14 = .ok (.ireturn, 1) := by decide +kernel
theorem dX6_pathTime_0 : decode cX6_pathTime 0 = .ok (.iload_n 1, 1) := by decide +kernel
theorem dX6_pathTime_1 : decode cX6_pathTime 1 = .ok (.iload_n 2, 1) := by decide +kernel
theorem dX6_pathTime_2 : decode cX6_pathTime 2 = .ok (.invokestatic 101, 3) := by decide +kernel
theorem dX6_pathTime_5 : decode cX6_pathTime 5 = .ok (.iload_n 3, 1) := by decide +kernel
theorem dX6_pathTime_6 : decode cX6_pathTime 6 = .ok (.sipush 200, 3) := by decide +kernel
theorem dX6_pathTime_9 : decode cX6_pathTime 9 = .ok (.invokestatic 186, 3) := by decide +kernel
theorem dX6_pathTime_12 : decode cX6_pathTime 12 = .ok (.iload_n 1, 1) := by decide +kernel
theorem dX6_pathTime_13 : decode cX6_pathTime 13 = .ok (.iload_n 2, 1) := by decide +kernel
theorem dX6_pathTime_14 : decode cX6_pathTime 14 = .ok (.invokestatic 104, 3) := by decide +kernel
theorem dX6_pathTime_17 : decode cX6_pathTime 17 = .ok (.istore 4, 2) := by decide +kernel
theorem dX6_pathTime_19 : decode cX6_pathTime 19 = .ok (.iconst 0, 1) := by decide +kernel
theorem dX6_pathTime_20 : decode cX6_pathTime 20 = .ok (.istore 5, 2) := by decide +kernel
theorem dX6_pathTime_22 : decode cX6_pathTime 22 = .ok (.iconst 0, 1) := by decide +kernel
theorem dX6_pathTime_23 : decode cX6_pathTime 23 = .ok (.istore 6, 2) := by decide +kernel
theorem dX6_pathTime_25 : decode cX6_pathTime 25 = .ok (.iload 6, 2) := by decide +kernel
theorem dX6_pathTime_27 : decode cX6_pathTime 27 = .ok (.iload_n 3, 1) := by decide +kernel
theorem dX6_pathTime_28 : decode cX6_pathTime 28 = .ok (.if_icmp .ge 84, 3) := by decide +kernel
theorem dX6_pathTime_31 : decode cX6_pathTime 31 = .ok (.aload_n 0, 1) := by decide +kernel
theorem dX6_pathTime_32 : decode cX6_pathTime 32 = .ok (.getfield 12, 3) := by decide +kernel
theorem dX6_pathTime_35 : decode cX6_pathTime 35 = .ok (.getfield 72, 3) := by decide +kernel
theorem dX6_pathTime_38 : decode cX6_pathTime 38 = .ok (.iload 4, 2) := by decide +kernel
theorem dX6_pathTime_40 : decode cX6_pathTime 40 = .ok (.invokevirtual 108, 3) := by decide +kernel
theorem dX6_pathTime_43 : decode cX6_pathTime 43 = .ok (.istore 7, 2) := by decide +kernel
theorem dX6_pathTime_45 : decode cX6_pathTime 45 = .ok (.iload 5, 2) := by decide +kernel
theorem dX6_pathTime_47 : decode cX6_pathTime 47 = .ok (.iload 7, 2) := by decide +kernel
theorem dX6_pathTime_49 : decode cX6_pathTime 49 = .ok (.iload 4, 2) := by decide +kernel
theorem dX6_pathTime_51 : decode cX6_pathTime 51 = .ok (.invokestatic 254, 3) := by decide +kernel
theorem dX6_pathTime_54 : decode cX6_pathTime 54 = .ok (.invokestatic 257, 3) := by decide +kernel
theorem dX6_pathTime_57 : decode cX6_pathTime 57 = .ok (.iadd, 1) := by decide +kernel
theorem dX6_pathTime_58 : decode cX6_pathTime 58 = .ok (.istore 5, 2) := by decide +kernel
theorem dX6_pathTime_60 : decode cX6_pathTime 60 = .ok (.iload 6, 2) := by decide +kernel
theorem dX6_pathTime_62 : decode cX6_pathTime 62 = .ok (.iload_n 3, 1) := by decide +kernel
theorem dX6_pathTime_63 : decode cX6_pathTime 63 = .ok (.iconst 1, 1) := by decide +kernel
theorem dX6_pathTime_64 : decode cX6_pathTime 64 = .ok (.isub, 1) := by decide +kernel
theorem dX6_pathTime_65 : decode cX6_pathTime 65 = .ok (.if_icmp .eq 11, 3) := by decide +kernel
theorem dX6_pathTime_68 : decode cX6_pathTime 68 = .ok (.iload 7, 2) := by decide +kernel
theorem dX6_pathTime_70 : decode cX6_pathTime 70 = .ok (.invokestatic 262, 3) := by decide +kernel
theorem dX6_pathTime_73 : decode cX6_pathTime 73 = .ok (.ifCond .ne 6, 3) := by decide +kernel
theorem dX6_pathTime_76 : decode cX6_pathTime 76 = .ok (.iload 5, 2) := by decide +kernel
theorem dX6_pathTime_78 : decode cX6_pathTime 78 = .ok (.ireturn, 1) := by decide +kernel
theorem dX6_pathTime_79 : decode cX6_pathTime 79 = .ok (.iload 7, 2) := by decide +kernel
theorem dX6_pathTime_81 : decode cX6_pathTime 81 = .ok (.invokestatic 265, 3) := by decide +kernel
theorem dX6_pathTime_84 : decode cX6_pathTime 84 = .ok (.istore 8, 2) := by decide +kernel
theorem dX6_pathTime_86 : decode cX6_pathTime 86 = .ok (.iload 5, 2) := by decide +kernel
theorem dX6_pathTime_88 : decode cX6_pathTime 88 = .ok (.iload 8, 2) := by decide +kernel
theorem dX6_pathTime_90 : decode cX6_pathTime 90 = .ok (.aload_n 0, 1) := by decide +kernel
theorem dX6_pathTime_91 : decode cX6_pathTime 91 = .ok (.iload 4, 2) := by decide +kernel
theorem dX6_pathTime_93 : decode cX6_pathTime 93 = .ok (.invokevirtual 251, 3) := by decide +kernel
theorem dX6_pathTime_96 : decode cX6_pathTime 96 = .ok (.invokestatic 268, 3) := by decide +kernel
theorem dX6_pathTime_99 : decode cX6_pathTime 99 = .ok (.iadd, 1) := by decide +kernel
theorem dX6_pathTime_100 : decode cX6_pathTime 100 = .ok (.istore 5, 2) := by decide +kernel
theorem dX6_pathTime_102 : decode cX6_pathTime 102 = .ok (.iload 8, 2) := by decide +kernel
theorem dX6_pathTime_104 : decode cX6_pathTime 104 = .ok (.istore 4, 2) := by decide +kernel
theorem dX6_pathTime_106 : decode cX6_pathTime 106 = .ok (.iinc 6 1, 3) := by decide +kernel
theorem dX6_pathTime_109 : decode cX6_pathTime 109 = .ok (.goto (-84), 3) := by decide +kernel
theorem dX6_pathTime_112 : decode cX6_pathTime 112 = .ok (.iload 5, 2) := by decide +kernel
theorem dX6_pathTime_114 : decode cX6_pathTime 114 = .ok (.ireturn, 1) := by decide +kernel
theorem dX6_bestFreeCycle_0 : decode cX6_bestFreeCycle 0 = .ok (.iload_n 1, 1) := by decide +kernel
theorem dX6_bestFreeCycle_1 : decode cX6_bestFreeCycle 1 = .ok (.iload_n 2, 1) := by decide +kernel
theorem dX6_bestFreeCycle_2 : decode cX6_bestFreeCycle 2 = .ok (.invokestatic 101, 3) := by decide +kernel
theorem dX6_bestFreeCycle_5 : decode cX6_bestFreeCycle 5 = .ok (.iload_n 3, 1) := by decide +kernel
theorem dX6_bestFreeCycle_6 : decode cX6_bestFreeCycle 6 = .ok (.invokestatic 114, 3) := by decide +kernel
theorem dX6_bestFreeCycle_9 : decode cX6_bestFreeCycle 9 = .ok (.aload_n 0, 1) := by decide +kernel
theorem dX6_bestFreeCycle_10 : decode cX6_bestFreeCycle 10 = .ok (.iload_n 1, 1) := by decide +kernel
theorem dX6_bestFreeCycle_11 : decode cX6_bestFreeCycle 11 = .ok (.iload_n 2, 1) := by decide +kernel
theorem dX6_bestFreeCycle_12 : decode cX6_bestFreeCycle 12 = .ok (.invokestatic 104, 3) := by decide +kernel
theorem dX6_bestFreeCycle_15 : decode cX6_bestFreeCycle 15 = .ok (.iload_n 3, 1) := by decide +kernel
theorem dX6_bestFreeCycle_16 : decode cX6_bestFreeCycle 16 = .ok (.invokevirtual 271, 3) := by decide +kernel
theorem dX6_bestFreeCycle_19 : decode cX6_bestFreeCycle 19 = .ok (.ireturn, 1) := by decide +kernel
theorem dX6_moveNext_0 : decode cX6_moveNext 0 = .ok (.iload_n 1, 1) := by decide +kernel
theorem dX6_moveNext_1 : decode cX6_moveNext 1 = .ok (.iload_n 2, 1) := by decide +kernel
theorem dX6_moveNext_2 : decode cX6_moveNext 2 = .ok (.invokestatic 101, 3) := by decide +kernel
theorem dX6_moveNext_5 : decode cX6_moveNext 5 = .ok (.iload_n 3, 1) := by decide +kernel
theorem dX6_moveNext_6 : decode cX6_moveNext 6 = .ok (.invokestatic 114, 3) := by decide +kernel
theorem dX6_moveNext_9 : decode cX6_moveNext 9 = .ok (.iload_n 1, 1) := by decide +kernel
theorem dX6_moveNext_10 : decode cX6_moveNext 10 = .ok (.iload_n 2, 1) := by decide +kernel
theorem dX6_moveNext_11 : decode cX6_moveNext 11 = .ok (.invokestatic 104, 3) := by decide +kernel
theorem dX6_moveNext_14 : decode cX6_moveNext 14 = .ok (.istore 4, 2) := by decide +kernel
theorem dX6_moveNext_16 : decode cX6_moveNext 16 = .ok (.aload_n 0, 1) := by decide +kernel
theorem dX6_moveNext_17 : decode cX6_moveNext 17 = .ok (.iload 4, 2) := by decide +kernel
theorem dX6_moveNext_19 : decode cX6_moveNext 19 = .ok (.iload_n 3, 1) := by decide +kernel
theorem dX6_moveNext_20 : decode cX6_moveNext 20 = .ok (.invokevirtual 271, 3) := by decide +kernel
theorem dX6_moveNext_23 : decode cX6_moveNext 23 = .ok (.istore 5, 2) := by decide +kernel
theorem dX6_moveNext_25 : decode cX6_moveNext 25 = .ok (.aload_n 0, 1) := by decide +kernel
theorem dX6_moveNext_26 : decode cX6_moveNext 26 = .ok (.getfield 12, 3) := by decide +kernel
theorem dX6_moveNext_29 : decode cX6_moveNext 29 = .ok (.getfield 72, 3) := by decide +kernel
theorem dX6_moveNext_32 : decode cX6_moveNext 32 = .ok (.iload 4, 2) := by decide +kernel
theorem dX6_moveNext_34 : decode cX6_moveNext 34 = .ok (.invokevirtual 108, 3) := by decide +kernel
theorem dX6_moveNext_37 : decode cX6_moveNext 37 = .ok (.istore 6, 2) := by decide +kernel
theorem dX6_moveNext_39 : decode cX6_moveNext 39 = .ok (.iload 6, 2) := by decide +kernel
theorem dX6_moveNext_41 : decode cX6_moveNext 41 = .ok (.invokestatic 265, 3) := by decide +kernel
theorem dX6_moveNext_44 : decode cX6_moveNext 44 = .ok (.istore 7, 2) := by decide +kernel
theorem dX6_moveNext_46 : decode cX6_moveNext 46 = .ok (.iload 5, 2) := by decide +kernel
theorem dX6_moveNext_48 : decode cX6_moveNext 48 = .ok (.iconst (-1), 1) := by decide +kernel
theorem dX6_moveNext_49 : decode cX6_moveNext 49 = .ok (.if_icmp .eq 10, 3) := by decide +kernel
theorem dX6_moveNext_52 : decode cX6_moveNext 52 = .ok (.iload 7, 2) := by decide +kernel
theorem dX6_moveNext_54 : decode cX6_moveNext 54 = .ok (.iload 4, 2) := by decide +kernel
theorem dX6_moveNext_56 : decode cX6_moveNext 56 = .ok (.if_icmp .ne 14, 3) := by decide +kernel
theorem dX6_moveNext_59 : decode cX6_moveNext 59 = .ok (.new 43, 3) := by decide +kernel
theorem dX6_moveNext_62 : decode cX6_moveNext 62 = .ok (.dup, 1) := by decide +kernel
theorem dX6_moveNext_63 : decode cX6_moveNext 63 = .ok (.ldc_w 274, 3) := by decide +kernel
theorem dX6_moveNext_66 : decode cX6_moveNext 66 = .ok (.invokespecial 47, 3) := by decide +kernel
theorem dX6_moveNext_69 : decode cX6_moveNext 69 = .ok (.athrow, 1) := by decide +kernel
theorem dX6_moveNext_70 : decode cX6_moveNext 70 = .ok (.iload_n 3, 1) := by decide +kernel
theorem dX6_moveNext_71 : decode cX6_moveNext 71 = .ok (.iload 5, 2) := by decide +kernel
theorem dX6_moveNext_73 : decode cX6_moveNext 73 = .ok (.invokestatic 104, 3) := by decide +kernel
theorem dX6_moveNext_76 : decode cX6_moveNext 76 = .ok (.istore 8, 2) := by decide +kernel
theorem dX6_moveNext_78 : decode cX6_moveNext 78 = .ok (.aload_n 0, 1) := by decide +kernel
theorem dX6_moveNext_79 : decode cX6_moveNext 79 = .ok (.getfield 12, 3) := by decide +kernel
theorem dX6_moveNext_82 : decode cX6_moveNext 82 = .ok (.getfield 72, 3) := by decide +kernel
theorem dX6_moveNext_85 : decode cX6_moveNext 85 = .ok (.iload 7, 2) := by decide +kernel
theorem dX6_moveNext_87 : decode cX6_moveNext 87 = .ok (.invokevirtual 108, 3) := by decide +kernel
theorem dX6_moveNext_90 : decode cX6_moveNext 90 = .ok (.istore 9, 2) := by decide +kernel
theorem dX6_moveNext_92 : decode cX6_moveNext 92 = .ok (.aload_n 0, 1) := by decide +kernel
theorem dX6_moveNext_93 : decode cX6_moveNext 93 = .ok (.getfield 12, 3) := by decide +kernel
theorem dX6_moveNext_96 : decode cX6_moveNext 96 = .ok (.getfield 72, 3) := by decide +kernel
theorem dX6_moveNext_99 : decode cX6_moveNext 99 = .ok (.iload 8, 2) := by decide +kernel
theorem dX6_moveNext_101 : decode cX6_moveNext 101 = .ok (.iload 9, 2) := by decide +kernel
theorem dX6_moveNext_103 : decode cX6_moveNext 103 = .ok (.invokevirtual 80, 3) := by decide +kernel
theorem dX6_moveNext_106 : decode cX6_moveNext 106 = .ok (.aload_n 0, 1) := by decide +kernel
theorem dX6_moveNext_107 : decode cX6_moveNext 107 = .ok (.getfield 12, 3) := by decide +kernel
theorem dX6_moveNext_110 : decode cX6_moveNext 110 = .ok (.getfield 72, 3) := by decide +kernel
theorem dX6_moveNext_113 : decode cX6_moveNext 113 = .ok (.iload 7, 2) := by decide +kernel
theorem dX6_moveNext_115 : decode cX6_moveNext 115 = .ok (.iconst 0, 1) := by decide +kernel
theorem dX6_moveNext_116 : decode cX6_moveNext 116 = .ok (.invokevirtual 80, 3) := by decide +kernel
theorem dX6_moveNext_119 : decode cX6_moveNext 119 = .ok (.aload_n 0, 1) := by decide +kernel
theorem dX6_moveNext_120 : decode cX6_moveNext 120 = .ok (.getfield 12, 3) := by decide +kernel
theorem dX6_moveNext_123 : decode cX6_moveNext 123 = .ok (.getfield 72, 3) := by decide +kernel
theorem dX6_moveNext_126 : decode cX6_moveNext 126 = .ok (.iload 4, 2) := by decide +kernel
theorem dX6_moveNext_128 : decode cX6_moveNext 128 = .ok (.iload 6, 2) := by decide +kernel
theorem dX6_moveNext_130 : decode cX6_moveNext 130 = .ok (.iload 8, 2) := by decide +kernel
theorem dX6_moveNext_132 : decode cX6_moveNext 132 = .ok (.invokestatic 276, 3) := by decide +kernel
theorem dX6_moveNext_135 : decode cX6_moveNext 135 = .ok (.invokevirtual 80, 3) := by decide +kernel
theorem dX6_moveNext_138 : decode cX6_moveNext 138 = .ok (.iload 5, 2) := by decide +kernel
theorem dX6_moveNext_140 : decode cX6_moveNext 140 = .ok (.ireturn, 1) := by decide +kernel
theorem dX6_format_0 : decode cX6_format 0 = .ok (.iload_n 1, 1) := by decide +kernel
theorem dX6_format_1 : decode cX6_format 1 = .ok (.iload_n 2, 1) := by decide +kernel
theorem dX6_format_2 : decode cX6_format 2 = .ok (.invokestatic 101, 3) := by decide +kernel
theorem dX6_format_5 : decode cX6_format 5 = .ok (.aload_n 0, 1) := by decide +kernel
theorem dX6_format_6 : decode cX6_format 6 = .ok (.getfield 12, 3) := by decide +kernel
theorem dX6_format_9 : decode cX6_format 9 = .ok (.getfield 72, 3) := by decide +kernel
theorem dX6_format_12 : decode cX6_format 12 = .ok (.iload_n 1, 1) := by decide +kernel
theorem dX6_format_13 : decode cX6_format 13 = .ok (.iload_n 2, 1) := by decide +kernel
theorem dX6_format_14 : decode cX6_format 14 = .ok (.invokestatic 104, 3) := by decide +kernel
theorem dX6_format_17 : decode cX6_format 17 = .ok (.invokevirtual 108, 3) := by decide +kernel
theorem dX6_format_20 : decode cX6_format 20 = .ok (.istore_n 3, 1) := by decide +kernel
theorem dX6_format_21 : decode cX6_format 21 = .ok (.iload_n 3, 1) := by decide +kernel
theorem dX6_format_22 : decode cX6_format 22 = .ok (.invokestatic 262, 3) := by decide +kernel
theorem dX6_format_25 : decode cX6_format 25 = .ok (.invokestatic 279, 3) := by decide +kernel
theorem dX6_format_28 : decode cX6_format 28 = .ok (.istore 4, 2) := by decide +kernel
theorem dX6_format_30 : decode cX6_format 30 = .ok (.aload_n 0, 1) := by decide +kernel
theorem dX6_format_31 : decode cX6_format 31 = .ok (.getfield 35, 3) := by decide +kernel
theorem dX6_format_34 : decode cX6_format 34 = .ok (.iconst 0, 1) := by decide +kernel
theorem dX6_format_35 : decode cX6_format 35 = .ok (.invokevirtual 282, 3) := by decide +kernel
theorem dX6_format_38 : decode cX6_format 38 = .ok (.aload_n 0, 1) := by decide +kernel
theorem dX6_format_39 : decode cX6_format 39 = .ok (.getfield 35, 3) := by decide +kernel
theorem dX6_format_42 : decode cX6_format 42 = .ok (.iload_n 3, 1) := by decide +kernel
theorem dX6_format_43 : decode cX6_format 43 = .ok (.invokestatic 262, 3) := by decide +kernel
theorem dX6_format_46 : decode cX6_format 46 = .ok (.invokestatic 285, 3) := by decide +kernel
theorem dX6_format_49 : decode cX6_format 49 = .ok (.invokevirtual 289, 3) := by decide +kernel
theorem dX6_format_52 : decode cX6_format 52 = .ok (.pop, 1) := by decide +kernel
theorem dX6_format_53 : decode cX6_format 53 = .ok (.iload 4, 2) := by decide +kernel
theorem dX6_format_55 : decode cX6_format 55 = .ok (.iconst 1, 1) := by decide +kernel
theorem dX6_format_56 : decode cX6_format 56 = .ok (.if_icmp .ne 24, 3) := by decide +kernel
theorem dX6_format_59 : decode cX6_format 59 = .ok (.aload_n 0, 1) := by decide +kernel
theorem dX6_format_60 : decode cX6_format 60 = .ok (.getfield 35, 3) := by decide +kernel
theorem dX6_format_63 : decode cX6_format 63 = .ok (.bipush 32, 2) := by decide +kernel
theorem dX6_format_65 : decode cX6_format 65 = .ok (.invokevirtual 293, 3) := by decide +kernel
theorem dX6_format_68 : decode cX6_format 68 = .ok (.pop, 1) := by decide +kernel
theorem dX6_format_69 : decode cX6_format 69 = .ok (.aload_n 0, 1) := by decide +kernel
theorem dX6_format_70 : decode cX6_format 70 = .ok (.iload_n 3, 1) := by decide +kernel
theorem dX6_format_71 : decode cX6_format 71 = .ok (.invokestatic 296, 3) := by decide +kernel
theorem dX6_format_74 : decode cX6_format 74 = .ok (.invokevirtual 299, 3) := by decide +kernel
theorem dX6_format_77 : decode cX6_format 77 = .ok (.goto 34, 3) := by decide +kernel
theorem dX6_format_80 : decode cX6_format 80 = .ok (.iload 4, 2) := by decide +kernel
theorem dX6_format_82 : decode cX6_format 82 = .ok (.iconst 2, 1) := by decide +kernel
theorem dX6_format_83 : decode cX6_format 83 = .ok (.if_icmp .ne 28, 3) := by decide +kernel
theorem dX6_format_86 : decode cX6_format 86 = .ok (.aload_n 0, 1) := by decide +kernel
theorem dX6_format_87 : decode cX6_format 87 = .ok (.getfield 35, 3) := by decide +kernel
theorem dX6_format_90 : decode cX6_format 90 = .ok (.bipush 32, 2) := by decide +kernel
theorem dX6_format_92 : decode cX6_format 92 = .ok (.invokevirtual 293, 3) := by decide +kernel
theorem dX6_format_95 : decode cX6_format 95 = .ok (.pop, 1) := by decide +kernel
theorem dX6_format_96 : decode cX6_format 96 = .ok (.aload_n 0, 1) := by decide +kernel
theorem dX6_format_97 : decode cX6_format 97 = .ok (.getfield 35, 3) := by decide +kernel
theorem dX6_format_100 : decode cX6_format 100 = .ok (.iload_n 3, 1) := by decide +kernel
theorem dX6_format_101 : decode cX6_format 101 = .ok (.invokestatic 296, 3) := by decide +kernel
theorem dX6_format_104 : decode cX6_format 104 = .ok (.invokestatic 254, 3) := by decide +kernel
theorem dX6_format_107 : decode cX6_format 107 = .ok (.invokevirtual 302, 3) := by decide +kernel
theorem dX6_format_110 : decode cX6_format 110 = .ok (.pop, 1) := by decide +kernel
theorem dX6_format_111 : decode cX6_format 111 = .ok (.aload_n 0, 1) := by decide +kernel
theorem dX6_format_112 : decode cX6_format 112 = .ok (.getfield 35, 3) := by decide +kernel
theorem dX6_format_115 : decode cX6_format 115 = .ok (.ldc_w 305, 3) := by decide +kernel
theorem dX6_format_118 : decode cX6_format 118 = .ok (.invokevirtual 289, 3) := by decide +kernel
theorem dX6_format_121 : decode cX6_format 121 = .ok (.pop, 1) := by decide +kernel
theorem dX6_format_122 : decode cX6_format 122 = .ok (.aload_n 0, 1) := by decide +kernel
theorem dX6_format_123 : decode cX6_format 123 = .ok (.iload_n 3, 1) := by decide +kernel
theorem dX6_format_124 : decode cX6_format 124 = .ok (.invokestatic 265, 3) := by decide +kernel
theorem dX6_format_127 : decode cX6_format 127 = .ok (.invokevirtual 299, 3) := by decide +kernel
theorem dX6_format_130 : decode cX6_format 130 = .ok (.aload_n 0, 1) := by decide +kernel
theorem dX6_format_131 : decode cX6_format 131 = .ok (.getfield 35, 3) := by decide +kernel
theorem dX6_format_134 : decode cX6_format 134 = .ok (.invokevirtual 307, 3) := by decide +kernel
theorem dX6_format_137 : decode cX6_format 137 = .ok (.ireturn, 1) := by decide +kernel
theorem dX6_formattedByte_0 : decode cX6_formattedByte 0 = .ok (.iload_n 1, 1) := by decide +kernel
theorem dX6_formattedByte_1 : decode cX6_formattedByte 1 = .ok (.ifCond .lt 14, 3) := by decide +kernel
theorem dX6_formattedByte_4 : decode cX6_formattedByte 4 = .ok (.iload_n 1, 1) := by decide +kernel
theorem dX6_formattedByte_5 : decode cX6_formattedByte 5 = .ok (.aload_n 0, 1) := by decide +kernel
theorem dX6_formattedByte_6 : decode cX6_formattedByte 6 = .ok (.getfield 35, 3) := by decide +kernel
theorem dX6_formattedByte_9 : decode cX6_formattedByte 9 = .ok (.invokevirtual 307, 3) := by decide +kernel
theorem dX6_formattedByte_12 : decode cX6_formattedByte 12 = .ok (.if_icmp .lt 14, 3) := by decide +kernel
theorem dX6_formattedByte_15 : decode cX6_formattedByte 15 = .ok (.new 54, 3) := by decide +kernel
theorem dX6_formattedByte_18 : decode cX6_formattedByte 18 = .ok (.dup, 1) := by decide +kernel
theorem dX6_formattedByte_19 : decode cX6_formattedByte 19 = .ok (.ldc_w 309, 3) := by decide +kernel
theorem dX6_formattedByte_22 : decode cX6_formattedByte 22 = .ok (.invokespecial 58, 3) := by decide +kernel
theorem dX6_formattedByte_25 : decode cX6_formattedByte 25 = .ok (.athrow, 1) := by decide +kernel
theorem dX6_formattedByte_26 : decode cX6_formattedByte 26 = .ok (.aload_n 0, 1) := by decide +kernel
theorem dX6_formattedByte_27 : decode cX6_formattedByte 27 = .ok (.getfield 35, 3) := by decide +kernel
theorem dX6_formattedByte_30 : decode cX6_formattedByte 30 = .ok (.iload_n 1, 1) := by decide +kernel
theorem dX6_formattedByte_31 : decode cX6_formattedByte 31 = .ok (.invokevirtual 311, 3) := by decide +kernel
theorem dX6_formattedByte_34 : decode cX6_formattedByte 34 = .ok (.ireturn, 1) := by decide +kernel
theorem dX6_save_0 : decode cX6_save 0 = .ok (.iload_n 1, 1) := by decide +kernel
theorem dX6_save_1 : decode cX6_save 1 = .ok (.invokestatic 315, 3) := by decide +kernel
theorem dX6_save_4 : decode cX6_save 4 = .ok (.iload_n 1, 1) := by decide +kernel
theorem dX6_save_5 : decode cX6_save 5 = .ok (.ifCond .ne 22, 3) := by decide +kernel
theorem dX6_save_8 : decode cX6_save 8 = .ok (.aload_n 0, 1) := by decide +kernel
theorem dX6_save_9 : decode cX6_save 9 = .ok (.getfield 19, 3) := by decide +kernel
theorem dX6_save_12 : decode cX6_save 12 = .ok (.aload_n 0, 1) := by decide +kernel
theorem dX6_save_13 : decode cX6_save 13 = .ok (.getfield 12, 3) := by decide +kernel
theorem dX6_save_16 : decode cX6_save 16 = .ok (.invokevirtual 248, 3) := by decide +kernel
theorem dX6_save_19 : decode cX6_save 19 = .ok (.aload_n 0, 1) := by decide +kernel
theorem dX6_save_20 : decode cX6_save 20 = .ok (.iconst 1, 1) := by decide +kernel
theorem dX6_save_21 : decode cX6_save 21 = .ok (.putfield 318, 3) := by decide +kernel
theorem dX6_save_24 : decode cX6_save 24 = .ok (.goto 19, 3) := by decide +kernel
theorem dX6_save_27 : decode cX6_save 27 = .ok (.aload_n 0, 1) := by decide +kernel
theorem dX6_save_28 : decode cX6_save 28 = .ok (.getfield 22, 3) := by decide +kernel
theorem dX6_save_31 : decode cX6_save 31 = .ok (.aload_n 0, 1) := by decide +kernel
theorem dX6_save_32 : decode cX6_save 32 = .ok (.getfield 12, 3) := by decide +kernel
theorem dX6_save_35 : decode cX6_save 35 = .ok (.invokevirtual 248, 3) := by decide +kernel
theorem dX6_save_38 : decode cX6_save 38 = .ok (.aload_n 0, 1) := by decide +kernel
theorem dX6_save_39 : decode cX6_save 39 = .ok (.iconst 1, 1) := by decide +kernel
theorem dX6_save_40 : decode cX6_save 40 = .ok (.putfield 321, 3) := by decide +kernel
theorem dX6_save_43 : decode cX6_save 43 = .ok (.return_, 1) := by decide +kernel
theorem dX6_restore_0 : decode cX6_restore 0 = .ok (.iload_n 1, 1) := by decide +kernel
theorem dX6_restore_1 : decode cX6_restore 1 = .ok (.invokestatic 315, 3) := by decide +kernel
theorem dX6_restore_4 : decode cX6_restore 4 = .ok (.iload_n 1, 1) := by decide +kernel
theorem dX6_restore_5 : decode cX6_restore 5 = .ok (.ifCond .ne 10, 3) := by decide +kernel
theorem dX6_restore_8 : decode cX6_restore 8 = .ok (.aload_n 0, 1) := by decide +kernel
theorem dX6_restore_9 : decode cX6_restore 9 = .ok (.getfield 318, 3) := by decide +kernel
theorem dX6_restore_12 : decode cX6_restore 12 = .ok (.goto 7, 3) := by decide +kernel
theorem dX6_restore_15 : decode cX6_restore 15 = .ok (.aload_n 0, 1) := by decide +kernel
theorem dX6_restore_16 : decode cX6_restore 16 = .ok (.getfield 321, 3) := by decide +kernel
theorem dX6_restore_19 : decode cX6_restore 19 = .ok (.istore_n 2, 1) := by decide +kernel
theorem dX6_restore_20 : decode cX6_restore 20 = .ok (.iload_n 2, 1) := by decide +kernel
theorem dX6_restore_21 : decode cX6_restore 21 = .ok (.ifCond .ne 14, 3) := by decide +kernel
theorem dX6_restore_24 : decode cX6_restore 24 = .ok (.new 43, 3) := by decide +kernel
theorem dX6_restore_27 : decode cX6_restore 27 = .ok (.dup, 1) := by decide +kernel
theorem dX6_restore_28 : decode cX6_restore 28 = .ok (.ldc_w 324, 3) := by decide +kernel
theorem dX6_restore_31 : decode cX6_restore 31 = .ok (.invokespecial 47, 3) := by decide +kernel
theorem dX6_restore_34 : decode cX6_restore 34 = .ok (.athrow, 1) := by decide +kernel
theorem dX6_restore_35 : decode cX6_restore 35 = .ok (.aload_n 0, 1) := by decide +kernel
theorem dX6_restore_36 : decode cX6_restore 36 = .ok (.getfield 12, 3) := by decide +kernel
theorem dX6_restore_39 : decode cX6_restore 39 = .ok (.iload_n 1, 1) := by decide +kernel
theorem dX6_restore_40 : decode cX6_restore 40 = .ok (.ifCond .ne 10, 3) := by decide +kernel
theorem dX6_restore_43 : decode cX6_restore 43 = .ok (.aload_n 0, 1) := by decide +kernel
theorem dX6_restore_44 : decode cX6_restore 44 = .ok (.getfield 19, 3) := by decide +kernel
theorem dX6_restore_47 : decode cX6_restore 47 = .ok (.goto 7, 3) := by decide +kernel
theorem dX6_restore_50 : decode cX6_restore 50 = .ok (.aload_n 0, 1) := by decide +kernel
theorem dX6_restore_51 : decode cX6_restore 51 = .ok (.getfield 22, 3) := by decide +kernel
theorem dX6_restore_54 : decode cX6_restore 54 = .ok (.invokevirtual 248, 3) := by decide +kernel
theorem dX6_restore_57 : decode cX6_restore 57 = .ok (.return_, 1) := by decide +kernel
theorem dX6_requireTank_0 : decode cX6_requireTank 0 = .ok (.iload_n 0, 1) := by decide +kernel
theorem dX6_requireTank_1 : decode cX6_requireTank 1 = .ok (.ifCond .lt 9, 3) := by decide +kernel
theorem dX6_requireTank_4 : decode cX6_requireTank 4 = .ok (.iload_n 0, 1) := by decide +kernel
theorem dX6_requireTank_5 : decode cX6_requireTank 5 = .ok (.bipush 8, 2) := by decide +kernel
theorem dX6_requireTank_7 : decode cX6_requireTank 7 = .ok (.if_icmp .lt 14, 3) := by decide +kernel
theorem dX6_requireTank_10 : decode cX6_requireTank 10 = .ok (.new 54, 3) := by decide +kernel
theorem dX6_requireTank_13 : decode cX6_requireTank 13 = .ok (.dup, 1) := by decide +kernel
theorem dX6_requireTank_14 : decode cX6_requireTank 14 = .ok (.ldc_w 326, 3) := by decide +kernel
theorem dX6_requireTank_17 : decode cX6_requireTank 17 = .ok (.invokespecial 58, 3) := by decide +kernel
theorem dX6_requireTank_20 : decode cX6_requireTank 20 = .ok (.athrow, 1) := by decide +kernel
theorem dX6_requireTank_21 : decode cX6_requireTank 21 = .ok (.return_, 1) := by decide +kernel
theorem dX6_requireLocation_0 : decode cX6_requireLocation 0 = .ok (.iload_n 0, 1) := by decide +kernel
theorem dX6_requireLocation_1 : decode cX6_requireLocation 1 = .ok (.ifCond .lt 19, 3) := by decide +kernel
theorem dX6_requireLocation_4 : decode cX6_requireLocation 4 = .ok (.iload_n 0, 1) := by decide +kernel
theorem dX6_requireLocation_5 : decode cX6_requireLocation 5 = .ok (.bipush 8, 2) := by decide +kernel
theorem dX6_requireLocation_7 : decode cX6_requireLocation 7 = .ok (.if_icmp .ge 13, 3) := by decide +kernel
theorem dX6_requireLocation_10 : decode cX6_requireLocation 10 = .ok (.iload_n 1, 1) := by decide +kernel
theorem dX6_requireLocation_11 : decode cX6_requireLocation 11 = .ok (.ifCond .lt 9, 3) := by decide +kernel
theorem dX6_requireLocation_14 : decode cX6_requireLocation 14 = .ok (.iload_n 1, 1) := by decide +kernel
theorem dX6_requireLocation_15 : decode cX6_requireLocation 15 = .ok (.bipush 32, 2) := by decide +kernel
theorem dX6_requireLocation_17 : decode cX6_requireLocation 17 = .ok (.if_icmp .lt 14, 3) := by decide +kernel
theorem dX6_requireLocation_20 : decode cX6_requireLocation 20 = .ok (.new 54, 3) := by decide +kernel
theorem dX6_requireLocation_23 : decode cX6_requireLocation 23 = .ok (.dup, 1) := by decide +kernel
theorem dX6_requireLocation_24 : decode cX6_requireLocation 24 = .ok (.ldc_w 328, 3) := by decide +kernel
theorem dX6_requireLocation_27 : decode cX6_requireLocation 27 = .ok (.invokespecial 58, 3) := by decide +kernel
theorem dX6_requireLocation_30 : decode cX6_requireLocation 30 = .ok (.athrow, 1) := by decide +kernel
theorem dX6_requireLocation_31 : decode cX6_requireLocation 31 = .ok (.return_, 1) := by decide +kernel
theorem dX6_requireWord_0 : decode cX6_requireWord 0 = .ok (.iload_n 0, 1) := by decide +kernel
theorem dX6_requireWord_1 : decode cX6_requireWord 1 = .ok (.ldc_w 330, 3) := by decide +kernel
theorem dX6_requireWord_4 : decode cX6_requireWord 4 = .ok (.if_icmp .lt 10, 3) := by decide +kernel
theorem dX6_requireWord_7 : decode cX6_requireWord 7 = .ok (.iload_n 0, 1) := by decide +kernel
theorem dX6_requireWord_8 : decode cX6_requireWord 8 = .ok (.ldc_w 331, 3) := by decide +kernel
theorem dX6_requireWord_11 : decode cX6_requireWord 11 = .ok (.if_icmp .le 14, 3) := by decide +kernel
theorem dX6_requireWord_14 : decode cX6_requireWord 14 = .ok (.new 63, 3) := by decide +kernel
theorem dX6_requireWord_17 : decode cX6_requireWord 17 = .ok (.dup, 1) := by decide +kernel
theorem dX6_requireWord_18 : decode cX6_requireWord 18 = .ok (.ldc_w 332, 3) := by decide +kernel
theorem dX6_requireWord_21 : decode cX6_requireWord 21 = .ok (.invokespecial 67, 3) := by decide +kernel
theorem dX6_requireWord_24 : decode cX6_requireWord 24 = .ok (.athrow, 1) := by decide +kernel
theorem dX6_requireWord_25 : decode cX6_requireWord 25 = .ok (.return_, 1) := by decide +kernel
theorem dX6_requireTemperature_0 : decode cX6_requireTemperature 0 = .ok (.iload_n 0, 1) := by decide +kernel
theorem dX6_requireTemperature_1 : decode cX6_requireTemperature 1 = .ok (.ifCond .lt 10, 3) := by decide +kernel
theorem dX6_requireTemperature_4 : decode cX6_requireTemperature 4 = .ok (.iload_n 0, 1) := by decide +kernel
theorem dX6_requireTemperature_5 : decode cX6_requireTemperature 5 = .ok (.sipush 1000, 3) := by decide +kernel
theorem dX6_requireTemperature_8 : decode cX6_requireTemperature 8 = .ok (.if_icmp .le 14, 3) := by decide +kernel
theorem dX6_requireTemperature_11 : decode cX6_requireTemperature 11 = .ok (.new 63, 3) := by decide +kernel
theorem dX6_requireTemperature_14 : decode cX6_requireTemperature 14 = .ok (.dup, 1) := by decide +kernel
theorem dX6_requireTemperature_15 : decode cX6_requireTemperature 15 = .ok (.ldc_w 334, 3) := by decide +kernel
theorem dX6_requireTemperature_18 : decode cX6_requireTemperature 18 = .ok (.invokespecial 67, 3) := by decide +kernel
theorem dX6_requireTemperature_21 : decode cX6_requireTemperature 21 = .ok (.athrow, 1) := by decide +kernel
theorem dX6_requireTemperature_22 : decode cX6_requireTemperature 22 = .ok (.return_, 1) := by decide +kernel
theorem dX6_requireCount_0 : decode cX6_requireCount 0 = .ok (.iload_n 0, 1) := by decide +kernel
theorem dX6_requireCount_1 : decode cX6_requireCount 1 = .ok (.iconst 1, 1) := by decide +kernel
theorem dX6_requireCount_2 : decode cX6_requireCount 2 = .ok (.if_icmp .lt 8, 3) := by decide +kernel
theorem dX6_requireCount_5 : decode cX6_requireCount 5 = .ok (.iload_n 0, 1) := by decide +kernel
theorem dX6_requireCount_6 : decode cX6_requireCount 6 = .ok (.iload_n 1, 1) := by decide +kernel
theorem dX6_requireCount_7 : decode cX6_requireCount 7 = .ok (.if_icmp .le 14, 3) := by decide +kernel
theorem dX6_requireCount_10 : decode cX6_requireCount 10 = .ok (.new 63, 3) := by decide +kernel
theorem dX6_requireCount_13 : decode cX6_requireCount 13 = .ok (.dup, 1) := by decide +kernel
theorem dX6_requireCount_14 : decode cX6_requireCount 14 = .ok (.ldc_w 336, 3) := by decide +kernel
theorem dX6_requireCount_17 : decode cX6_requireCount 17 = .ok (.invokespecial 67, 3) := by decide +kernel
theorem dX6_requireCount_20 : decode cX6_requireCount 20 = .ok (.athrow, 1) := by decide +kernel
theorem dX6_requireCount_21 : decode cX6_requireCount 21 = .ok (.return_, 1) := by decide +kernel
theorem dX6_requireSlot_0 : decode cX6_requireSlot 0 = .ok (.iload_n 0, 1) := by decide +kernel
theorem dX6_requireSlot_1 : decode cX6_requireSlot 1 = .ok (.ifCond .lt 8, 3) := by decide +kernel
theorem dX6_requireSlot_4 : decode cX6_requireSlot 4 = .ok (.iload_n 0, 1) := by decide +kernel
theorem dX6_requireSlot_5 : decode cX6_requireSlot 5 = .ok (.iconst 1, 1) := by decide +kernel
theorem dX6_requireSlot_6 : decode cX6_requireSlot 6 = .ok (.if_icmp .le 14, 3) := by decide +kernel
theorem dX6_requireSlot_9 : decode cX6_requireSlot 9 = .ok (.new 54, 3) := by decide +kernel
theorem dX6_requireSlot_12 : decode cX6_requireSlot 12 = .ok (.dup, 1) := by decide +kernel
theorem dX6_requireSlot_13 : decode cX6_requireSlot 13 = .ok (.ldc_w 338, 3) := by decide +kernel
theorem dX6_requireSlot_16 : decode cX6_requireSlot 16 = .ok (.invokespecial 58, 3) := by decide +kernel
theorem dX6_requireSlot_19 : decode cX6_requireSlot 19 = .ok (.athrow, 1) := by decide +kernel
theorem dX6_requireSlot_20 : decode cX6_requireSlot 20 = .ok (.return_, 1) := by decide +kernel
theorem dX6_requireReady_0 : decode cX6_requireReady 0 = .ok (.aload_n 0, 1) := by decide +kernel
theorem dX6_requireReady_1 : decode cX6_requireReady 1 = .ok (.getfield 12, 3) := by decide +kernel
theorem dX6_requireReady_4 : decode cX6_requireReady 4 = .ok (.getfield 201, 3) := by decide +kernel
theorem dX6_requireReady_7 : decode cX6_requireReady 7 = .ok (.ifCond .eq 14, 3) := by decide +kernel
theorem dX6_requireReady_10 : decode cX6_requireReady 10 = .ok (.new 43, 3) := by decide +kernel
theorem dX6_requireReady_13 : decode cX6_requireReady 13 = .ok (.dup, 1) := by decide +kernel
theorem dX6_requireReady_14 : decode cX6_requireReady 14 = .ok (.ldc_w 340, 3) := by decide +kernel
theorem dX6_requireReady_17 : decode cX6_requireReady 17 = .ok (.invokespecial 47, 3) := by decide +kernel
theorem dX6_requireReady_20 : decode cX6_requireReady 20 = .ok (.athrow, 1) := by decide +kernel
theorem dX6_requireReady_21 : decode cX6_requireReady 21 = .ok (.return_, 1) := by decide +kernel
theorem dX6_locationOf_0 : decode cX6_locationOf 0 = .ok (.bipush 32, 2) := by decide +kernel
theorem dX6_locationOf_2 : decode cX6_locationOf 2 = .ok (.iload_n 0, 1) := by decide +kernel
theorem dX6_locationOf_3 : decode cX6_locationOf 3 = .ok (.imul, 1) := by decide +kernel
theorem dX6_locationOf_4 : decode cX6_locationOf 4 = .ok (.iload_n 1, 1) := by decide +kernel
theorem dX6_locationOf_5 : decode cX6_locationOf 5 = .ok (.iadd, 1) := by decide +kernel
theorem dX6_locationOf_6 : decode cX6_locationOf 6 = .ok (.ireturn, 1) := by decide +kernel
theorem dX6_cycleOf_0 : decode cX6_cycleOf 0 = .ok (.iload_n 0, 1) := by decide +kernel
theorem dX6_cycleOf_1 : decode cX6_cycleOf 1 = .ok (.bipush 31, 2) := by decide +kernel
theorem dX6_cycleOf_3 : decode cX6_cycleOf 3 = .ok (.iand, 1) := by decide +kernel
theorem dX6_cycleOf_4 : decode cX6_cycleOf 4 = .ok (.ireturn, 1) := by decide +kernel
theorem dX6_waitingUntil_0 : decode cX6_waitingUntil 0 = .ok (.iload_n 0, 1) := by decide +kernel
theorem dX6_waitingUntil_1 : decode cX6_waitingUntil 1 = .ok (.iload_n 1, 1) := by decide +kernel
theorem dX6_waitingUntil_2 : decode cX6_waitingUntil 2 = .ok (.isub, 1) := by decide +kernel
theorem dX6_waitingUntil_3 : decode cX6_waitingUntil 3 = .ok (.bipush 31, 2) := by decide +kernel
theorem dX6_waitingUntil_5 : decode cX6_waitingUntil 5 = .ok (.iand, 1) := by decide +kernel
theorem dX6_waitingUntil_6 : decode cX6_waitingUntil 6 = .ok (.ireturn, 1) := by decide +kernel
theorem dX6_wrap_0 : decode cX6_wrap 0 = .ok (.bipush 44, 2) := by decide +kernel
theorem dX6_wrap_2 : decode cX6_wrap 2 = .ok (.istore_n 2, 1) := by decide +kernel
theorem dX6_wrap_3 : decode cX6_wrap 3 = .ok (.lload_n 0, 1) := by decide +kernel
theorem dX6_wrap_4 : decode cX6_wrap 4 = .ok (.iload_n 2, 1) := by decide +kernel
theorem dX6_wrap_5 : decode cX6_wrap 5 = .ok (.lshl, 1) := by decide +kernel
theorem dX6_wrap_6 : decode cX6_wrap 6 = .ok (.iload_n 2, 1) := by decide +kernel
theorem dX6_wrap_7 : decode cX6_wrap 7 = .ok (.lshr, 1) := by decide +kernel
theorem dX6_wrap_8 : decode cX6_wrap 8 = .ok (.l2i, 1) := by decide +kernel
theorem dX6_wrap_9 : decode cX6_wrap 9 = .ok (.ireturn, 1) := by decide +kernel
theorem dX6_delayOf_0 : decode cX6_delayOf 0 = .ok (.ldc_w 342, 3) := by decide +kernel
theorem dX6_delayOf_3 : decode cX6_delayOf 3 = .ok (.sipush 19200, 3) := by decide +kernel
theorem dX6_delayOf_6 : decode cX6_delayOf 6 = .ok (.iload_n 0, 1) := by decide +kernel
theorem dX6_delayOf_7 : decode cX6_delayOf 7 = .ok (.sipush 400, 3) := by decide +kernel
theorem dX6_delayOf_10 : decode cX6_delayOf 10 = .ok (.isub, 1) := by decide +kernel
theorem dX6_delayOf_11 : decode cX6_delayOf 11 = .ok (.imul, 1) := by decide +kernel
theorem dX6_delayOf_12 : decode cX6_delayOf 12 = .ok (.iadd, 1) := by decide +kernel
theorem dX6_delayOf_13 : decode cX6_delayOf 13 = .ok (.ireturn, 1) := by decide +kernel
theorem dX6_mismatchOf_0 : decode cX6_mismatchOf 0 = .ok (.iload_n 0, 1) := by decide +kernel
theorem dX6_mismatchOf_1 : decode cX6_mismatchOf 1 = .ok (.invokestatic 343, 3) := by decide +kernel
theorem dX6_mismatchOf_4 : decode cX6_mismatchOf 4 = .ok (.sipush 640, 3) := by decide +kernel
theorem dX6_mismatchOf_7 : decode cX6_mismatchOf 7 = .ok (.iload_n 1, 1) := by decide +kernel
theorem dX6_mismatchOf_8 : decode cX6_mismatchOf 8 = .ok (.imul, 1) := by decide +kernel
theorem dX6_mismatchOf_9 : decode cX6_mismatchOf 9 = .ok (.isub, 1) := by decide +kernel
theorem dX6_mismatchOf_10 : decode cX6_mismatchOf 10 = .ok (.ireturn, 1) := by decide +kernel
theorem dX6_isSafe_0 : decode cX6_isSafe 0 = .ok (.iload_n 0, 1) := by decide +kernel
theorem dX6_isSafe_1 : decode cX6_isSafe 1 = .ok (.iload_n 1, 1) := by decide +kernel
theorem dX6_isSafe_2 : decode cX6_isSafe 2 = .ok (.invokestatic 169, 3) := by decide +kernel
theorem dX6_isSafe_5 : decode cX6_isSafe 5 = .ok (.invokestatic 346, 3) := by decide +kernel
theorem dX6_isSafe_8 : decode cX6_isSafe 8 = .ok (.iload_n 1, 1) := by decide +kernel
theorem dX6_isSafe_9 : decode cX6_isSafe 9 = .ok (.iconst 4, 1) := by decide +kernel
theorem dX6_isSafe_10 : decode cX6_isSafe 10 = .ok (.idiv, 1) := by decide +kernel
theorem dX6_isSafe_11 : decode cX6_isSafe 11 = .ok (.if_icmp .gt 7, 3) := by decide +kernel
theorem dX6_isSafe_14 : decode cX6_isSafe 14 = .ok (.iconst 1, 1) := by decide +kernel
theorem dX6_isSafe_15 : decode cX6_isSafe 15 = .ok (.goto 4, 3) := by decide +kernel
theorem dX6_isSafe_18 : decode cX6_isSafe 18 = .ok (.iconst 0, 1) := by decide +kernel
theorem dX6_isSafe_19 : decode cX6_isSafe 19 = .ok (.ireturn, 1) := by decide +kernel
theorem dX6_copyRow_0 : decode cX6_copyRow 0 = .ok (.aload_n 0, 1) := by decide +kernel
theorem dX6_copyRow_1 : decode cX6_copyRow 1 = .ok (.iconst 0, 1) := by decide +kernel
theorem dX6_copyRow_2 : decode cX6_copyRow 2 = .ok (.aload_n 1, 1) := by decide +kernel
theorem dX6_copyRow_3 : decode cX6_copyRow 3 = .ok (.iconst 0, 1) := by decide +kernel
theorem dX6_copyRow_4 : decode cX6_copyRow 4 = .ok (.aload_n 0, 1) := by decide +kernel
theorem dX6_copyRow_5 : decode cX6_copyRow 5 = .ok (.arraylength, 1) := by decide +kernel
theorem dX6_copyRow_6 : decode cX6_copyRow 6 = .ok (.aload_n 1, 1) := by decide +kernel
theorem dX6_copyRow_7 : decode cX6_copyRow 7 = .ok (.arraylength, 1) := by decide +kernel
theorem dX6_copyRow_8 : decode cX6_copyRow 8 = .ok (.invokestatic 351, 3) := by decide +kernel
theorem dX6_copyRow_11 : decode cX6_copyRow 11 = .ok (.invokestatic 354, 3) := by decide +kernel
theorem dX6_copyRow_14 : decode cX6_copyRow 14 = .ok (.return_, 1) := by decide +kernel
theorem dX6_cycleAfter_0 : decode cX6_cycleAfter 0 = .ok (.iload_n 1, 1) := by decide +kernel
theorem dX6_cycleAfter_1 : decode cX6_cycleAfter 1 = .ok (.invokestatic 254, 3) := by decide +kernel
theorem dX6_cycleAfter_4 : decode cX6_cycleAfter 4 = .ok (.istore_n 2, 1) := by decide +kernel
theorem dX6_cycleAfter_5 : decode cX6_cycleAfter 5 = .ok (.iload_n 2, 1) := by decide +kernel
theorem dX6_cycleAfter_6 : decode cX6_cycleAfter 6 = .ok (.aload_n 0, 1) := by decide +kernel
theorem dX6_cycleAfter_7 : decode cX6_cycleAfter 7 = .ok (.getfield 12, 3) := by decide +kernel
theorem dX6_cycleAfter_10 : decode cX6_cycleAfter 10 = .ok (.getfield 72, 3) := by decide +kernel
theorem dX6_cycleAfter_13 : decode cX6_cycleAfter 13 = .ok (.iload_n 1, 1) := by decide +kernel
theorem dX6_cycleAfter_14 : decode cX6_cycleAfter 14 = .ok (.invokevirtual 108, 3) := by decide +kernel
theorem dX6_cycleAfter_17 : decode cX6_cycleAfter 17 = .ok (.iload_n 2, 1) := by decide +kernel
theorem dX6_cycleAfter_18 : decode cX6_cycleAfter 18 = .ok (.invokestatic 257, 3) := by decide +kernel
theorem dX6_cycleAfter_21 : decode cX6_cycleAfter 21 = .ok (.iadd, 1) := by decide +kernel
theorem dX6_cycleAfter_22 : decode cX6_cycleAfter 22 = .ok (.invokestatic 254, 3) := by decide +kernel
theorem dX6_cycleAfter_25 : decode cX6_cycleAfter 25 = .ok (.ireturn, 1) := by decide +kernel
theorem dX6_freeCycleAfter_0 : decode cX6_freeCycleAfter 0 = .ok (.aload_n 0, 1) := by decide +kernel
theorem dX6_freeCycleAfter_1 : decode cX6_freeCycleAfter 1 = .ok (.iload_n 1, 1) := by decide +kernel
theorem dX6_freeCycleAfter_2 : decode cX6_freeCycleAfter 2 = .ok (.invokevirtual 251, 3) := by decide +kernel
theorem dX6_freeCycleAfter_5 : decode cX6_freeCycleAfter 5 = .ok (.istore_n 3, 1) := by decide +kernel
theorem dX6_freeCycleAfter_6 : decode cX6_freeCycleAfter 6 = .ok (.iconst 0, 1) := by decide +kernel
theorem dX6_freeCycleAfter_7 : decode cX6_freeCycleAfter 7 = .ok (.istore 4, 2) := by decide +kernel
theorem dX6_freeCycleAfter_9 : decode cX6_freeCycleAfter 9 = .ok (.iload 4, 2) := by decide +kernel
theorem dX6_freeCycleAfter_11 : decode cX6_freeCycleAfter 11 = .ok (.bipush 32, 2) := by decide +kernel
theorem dX6_freeCycleAfter_13 : decode cX6_freeCycleAfter 13 = .ok (.if_icmp .ge 49, 3) := by decide +kernel
theorem dX6_freeCycleAfter_16 : decode cX6_freeCycleAfter 16 = .ok (.iload_n 2, 1) := by decide +kernel
theorem dX6_freeCycleAfter_17 : decode cX6_freeCycleAfter 17 = .ok (.iload_n 3, 1) := by decide +kernel
theorem dX6_freeCycleAfter_18 : decode cX6_freeCycleAfter 18 = .ok (.iload 4, 2) := by decide +kernel
theorem dX6_freeCycleAfter_20 : decode cX6_freeCycleAfter 20 = .ok (.iadd, 1) := by decide +kernel
theorem dX6_freeCycleAfter_21 : decode cX6_freeCycleAfter 21 = .ok (.invokestatic 254, 3) := by decide +kernel
theorem dX6_freeCycleAfter_24 : decode cX6_freeCycleAfter 24 = .ok (.invokestatic 104, 3) := by decide +kernel
theorem dX6_freeCycleAfter_27 : decode cX6_freeCycleAfter 27 = .ok (.istore 5, 2) := by decide +kernel
theorem dX6_freeCycleAfter_29 : decode cX6_freeCycleAfter 29 = .ok (.iload 5, 2) := by decide +kernel
theorem dX6_freeCycleAfter_31 : decode cX6_freeCycleAfter 31 = .ok (.iload_n 1, 1) := by decide +kernel
theorem dX6_freeCycleAfter_32 : decode cX6_freeCycleAfter 32 = .ok (.if_icmp .eq 24, 3) := by decide +kernel
theorem dX6_freeCycleAfter_35 : decode cX6_freeCycleAfter 35 = .ok (.aload_n 0, 1) := by decide +kernel
theorem dX6_freeCycleAfter_36 : decode cX6_freeCycleAfter 36 = .ok (.getfield 12, 3) := by decide +kernel
theorem dX6_freeCycleAfter_39 : decode cX6_freeCycleAfter 39 = .ok (.getfield 72, 3) := by decide +kernel
theorem dX6_freeCycleAfter_42 : decode cX6_freeCycleAfter 42 = .ok (.iload 5, 2) := by decide +kernel
theorem dX6_freeCycleAfter_44 : decode cX6_freeCycleAfter 44 = .ok (.invokevirtual 108, 3) := by decide +kernel
theorem dX6_freeCycleAfter_47 : decode cX6_freeCycleAfter 47 = .ok (.ifCond .ne 9, 3) := by decide +kernel
theorem dX6_freeCycleAfter_50 : decode cX6_freeCycleAfter 50 = .ok (.iload 5, 2) := by decide +kernel
theorem dX6_freeCycleAfter_52 : decode cX6_freeCycleAfter 52 = .ok (.invokestatic 254, 3) := by decide +kernel
theorem dX6_freeCycleAfter_55 : decode cX6_freeCycleAfter 55 = .ok (.ireturn, 1) := by decide +kernel
theorem dX6_freeCycleAfter_56 : decode cX6_freeCycleAfter 56 = .ok (.iinc 4 1, 3) := by decide +kernel
theorem dX6_freeCycleAfter_59 : decode cX6_freeCycleAfter 59 = .ok (.goto (-50), 3) := by decide +kernel
theorem dX6_freeCycleAfter_62 : decode cX6_freeCycleAfter 62 = .ok (.iconst (-1), 1) := by decide +kernel
theorem dX6_freeCycleAfter_63 : decode cX6_freeCycleAfter 63 = .ok (.ireturn, 1) := by decide +kernel
theorem dX6_formatLocation_0 : decode cX6_formatLocation 0 = .ok (.aload_n 0, 1) := by decide +kernel
theorem dX6_formatLocation_1 : decode cX6_formatLocation 1 = .ok (.getfield 35, 3) := by decide +kernel
theorem dX6_formatLocation_4 : decode cX6_formatLocation 4 = .ok (.iload_n 1, 1) := by decide +kernel
theorem dX6_formatLocation_5 : decode cX6_formatLocation 5 = .ok (.bipush 32, 2) := by decide +kernel
theorem dX6_formatLocation_7 : decode cX6_formatLocation 7 = .ok (.idiv, 1) := by decide +kernel
theorem dX6_formatLocation_8 : decode cX6_formatLocation 8 = .ok (.invokevirtual 302, 3) := by decide +kernel
theorem dX6_formatLocation_11 : decode cX6_formatLocation 11 = .ok (.pop, 1) := by decide +kernel
theorem dX6_formatLocation_12 : decode cX6_formatLocation 12 = .ok (.aload_n 0, 1) := by decide +kernel
theorem dX6_formatLocation_13 : decode cX6_formatLocation 13 = .ok (.getfield 35, 3) := by decide +kernel
theorem dX6_formatLocation_16 : decode cX6_formatLocation 16 = .ok (.bipush 46, 2) := by decide +kernel
theorem dX6_formatLocation_18 : decode cX6_formatLocation 18 = .ok (.invokevirtual 293, 3) := by decide +kernel
theorem dX6_formatLocation_21 : decode cX6_formatLocation 21 = .ok (.pop, 1) := by decide +kernel
theorem dX6_formatLocation_22 : decode cX6_formatLocation 22 = .ok (.aload_n 0, 1) := by decide +kernel
theorem dX6_formatLocation_23 : decode cX6_formatLocation 23 = .ok (.getfield 35, 3) := by decide +kernel
theorem dX6_formatLocation_26 : decode cX6_formatLocation 26 = .ok (.iload_n 1, 1) := by decide +kernel
theorem dX6_formatLocation_27 : decode cX6_formatLocation 27 = .ok (.invokestatic 254, 3) := by decide +kernel
theorem dX6_formatLocation_30 : decode cX6_formatLocation 30 = .ok (.invokevirtual 302, 3) := by decide +kernel
theorem dX6_formatLocation_33 : decode cX6_formatLocation 33 = .ok (.pop, 1) := by decide +kernel
theorem dX6_formatLocation_34 : decode cX6_formatLocation 34 = .ok (.return_, 1) := by decide +kernel
theorem dX7_init_0 : decode cX7_init 0 = .ok (.aload_n 0, 1) := by decide +kernel
theorem dX7_init_1 : decode cX7_init 1 = .ok (.invokespecial 1, 3) := by decide +kernel
theorem dX7_init_4 : decode cX7_init 4 = .ok (.aload_n 0, 1) := by decide +kernel
theorem dX7_init_5 : decode cX7_init 5 = .ok (.sipush 670, 3) := by decide +kernel
theorem dX7_init_8 : decode cX7_init 8 = .ok (.newarray .int, 2) := by decide +kernel
theorem dX7_init_10 : decode cX7_init 10 = .ok (.putfield 7, 3) := by decide +kernel
theorem dX7_init_13 : decode cX7_init 13 = .ok (.aload_n 0, 1) := by decide +kernel
theorem dX7_init_14 : decode cX7_init 14 = .ok (.sipush 670, 3) := by decide +kernel
theorem dX7_init_17 : decode cX7_init 17 = .ok (.newarray .int, 2) := by decide +kernel
theorem dX7_init_19 : decode cX7_init 19 = .ok (.putfield 13, 3) := by decide +kernel
theorem dX7_init_22 : decode cX7_init 22 = .ok (.aload_n 0, 1) := by decide +kernel
theorem dX7_init_23 : decode cX7_init 23 = .ok (.sipush 1340, 3) := by decide +kernel
theorem dX7_init_26 : decode cX7_init 26 = .ok (.newarray .int, 2) := by decide +kernel
theorem dX7_init_28 : decode cX7_init 28 = .ok (.putfield 16, 3) := by decide +kernel
theorem dX7_init_31 : decode cX7_init 31 = .ok (.aload_n 0, 1) := by decide +kernel
theorem dX7_init_32 : decode cX7_init 32 = .ok (.sipush 600, 3) := by decide +kernel
theorem dX7_init_35 : decode cX7_init 35 = .ok (.newarray .int, 2) := by decide +kernel
theorem dX7_init_37 : decode cX7_init 37 = .ok (.putfield 19, 3) := by decide +kernel
theorem dX7_init_40 : decode cX7_init 40 = .ok (.aload_n 0, 1) := by decide +kernel
theorem dX7_init_41 : decode cX7_init 41 = .ok (.iconst (-1), 1) := by decide +kernel
theorem dX7_init_42 : decode cX7_init 42 = .ok (.putfield 22, 3) := by decide +kernel
theorem dX7_init_45 : decode cX7_init 45 = .ok (.aload_n 0, 1) := by decide +kernel
theorem dX7_init_46 : decode cX7_init 46 = .ok (.sipush 256, 3) := by decide +kernel
theorem dX7_init_49 : decode cX7_init 49 = .ok (.newarray .int, 2) := by decide +kernel
theorem dX7_init_51 : decode cX7_init 51 = .ok (.putfield 26, 3) := by decide +kernel
theorem dX7_init_54 : decode cX7_init 54 = .ok (.aload_n 0, 1) := by decide +kernel
theorem dX7_init_55 : decode cX7_init 55 = .ok (.sipush 256, 3) := by decide +kernel
theorem dX7_init_58 : decode cX7_init 58 = .ok (.newarray .boolean, 2) := by decide +kernel
theorem dX7_init_60 : decode cX7_init 60 = .ok (.putfield 29, 3) := by decide +kernel
theorem dX7_init_63 : decode cX7_init 63 = .ok (.aload_n 0, 1) := by decide +kernel
theorem dX7_init_64 : decode cX7_init 64 = .ok (.bipush 16, 2) := by decide +kernel
theorem dX7_init_66 : decode cX7_init 66 = .ok (.newarray .long, 2) := by decide +kernel
theorem dX7_init_68 : decode cX7_init 68 = .ok (.dup, 1) := by decide +kernel
theorem dX7_init_69 : decode cX7_init 69 = .ok (.iconst 0, 1) := by decide +kernel
theorem dX7_init_70 : decode cX7_init 70 = .ok (.ldc2_w 33, 3) := by decide +kernel
theorem dX7_init_73 : decode cX7_init 73 = .ok (.lastore, 1) := by decide +kernel
theorem dX7_init_74 : decode cX7_init 74 = .ok (.dup, 1) := by decide +kernel
theorem dX7_init_75 : decode cX7_init 75 = .ok (.iconst 1, 1) := by decide +kernel
theorem dX7_init_76 : decode cX7_init 76 = .ok (.ldc2_w 35, 3) := by decide +kernel
theorem dX7_init_79 : decode cX7_init 79 = .ok (.lastore, 1) := by decide +kernel
theorem dX7_init_80 : decode cX7_init 80 = .ok (.dup, 1) := by decide +kernel
theorem dX7_init_81 : decode cX7_init 81 = .ok (.iconst 2, 1) := by decide +kernel
theorem dX7_init_82 : decode cX7_init 82 = .ok (.ldc2_w 37, 3) := by decide +kernel
theorem dX7_init_85 : decode cX7_init 85 = .ok (.lastore, 1) := by decide +kernel
theorem dX7_init_86 : decode cX7_init 86 = .ok (.dup, 1) := by decide +kernel
theorem dX7_init_87 : decode cX7_init 87 = .ok (.iconst 3, 1) := by decide +kernel
theorem dX7_init_88 : decode cX7_init 88 = .ok (.ldc2_w 39, 3) := by decide +kernel
theorem dX7_init_91 : decode cX7_init 91 = .ok (.lastore, 1) := by decide +kernel
theorem dX7_init_92 : decode cX7_init 92 = .ok (.dup, 1) := by decide +kernel
theorem dX7_init_93 : decode cX7_init 93 = .ok (.iconst 4, 1) := by decide +kernel
theorem dX7_init_94 : decode cX7_init 94 = .ok (.ldc2_w 41, 3) := by decide +kernel
theorem dX7_init_97 : decode cX7_init 97 = .ok (.lastore, 1) := by decide +kernel
theorem dX7_init_98 : decode cX7_init 98 = .ok (.dup, 1) := by decide +kernel
theorem dX7_init_99 : decode cX7_init 99 = .ok (.iconst 5, 1) := by decide +kernel
theorem dX7_init_100 : decode cX7_init 100 = .ok (.ldc2_w 43, 3) := by decide +kernel
theorem dX7_init_103 : decode cX7_init 103 = .ok (.lastore, 1) := by decide +kernel
theorem dX7_init_104 : decode cX7_init 104 = .ok (.dup, 1) := by decide +kernel
theorem dX7_init_105 : decode cX7_init 105 = .ok (.bipush 6, 2) := by decide +kernel
theorem dX7_init_107 : decode cX7_init 107 = .ok (.ldc2_w 45, 3) := by decide +kernel
theorem dX7_init_110 : decode cX7_init 110 = .ok (.lastore, 1) := by decide +kernel
theorem dX7_init_111 : decode cX7_init 111 = .ok (.dup, 1) := by decide +kernel
theorem dX7_init_112 : decode cX7_init 112 = .ok (.bipush 7, 2) := by decide +kernel
theorem dX7_init_114 : decode cX7_init 114 = .ok (.ldc2_w 47, 3) := by decide +kernel
theorem dX7_init_117 : decode cX7_init 117 = .ok (.lastore, 1) := by decide +kernel
theorem dX7_init_118 : decode cX7_init 118 = .ok (.dup, 1) := by decide +kernel
theorem dX7_init_119 : decode cX7_init 119 = .ok (.bipush 8, 2) := by decide +kernel
theorem dX7_init_121 : decode cX7_init 121 = .ok (.ldc2_w 49, 3) := by decide +kernel
theorem dX7_init_124 : decode cX7_init 124 = .ok (.lastore, 1) := by decide +kernel
theorem dX7_init_125 : decode cX7_init 125 = .ok (.dup, 1) := by decide +kernel
theorem dX7_init_126 : decode cX7_init 126 = .ok (.bipush 9, 2) := by decide +kernel
theorem dX7_init_128 : decode cX7_init 128 = .ok (.ldc2_w 51, 3) := by decide +kernel
theorem dX7_init_131 : decode cX7_init 131 = .ok (.lastore, 1) := by decide +kernel
theorem dX7_init_132 : decode cX7_init 132 = .ok (.dup, 1) := by decide +kernel
theorem dX7_init_133 : decode cX7_init 133 = .ok (.bipush 10, 2) := by decide +kernel
theorem dX7_init_135 : decode cX7_init 135 = .ok (.ldc2_w 53, 3) := by decide +kernel
theorem dX7_init_138 : decode cX7_init 138 = .ok (.lastore, 1) := by decide +kernel
theorem dX7_init_139 : decode cX7_init 139 = .ok (.dup, 1) := by decide +kernel
theorem dX7_init_140 : decode cX7_init 140 = .ok (.bipush 11, 2) := by decide +kernel
theorem dX7_init_142 : decode cX7_init 142 = .ok (.ldc2_w 55, 3) := by decide +kernel
theorem dX7_init_145 : decode cX7_init 145 = .ok (.lastore, 1) := by decide +kernel
theorem dX7_init_146 : decode cX7_init 146 = .ok (.dup, 1) := by decide +kernel
theorem dX7_init_147 : decode cX7_init 147 = .ok (.bipush 12, 2) := by decide +kernel
theorem dX7_init_149 : decode cX7_init 149 = .ok (.ldc2_w 57, 3) := by decide +kernel
theorem dX7_init_152 : decode cX7_init 152 = .ok (.lastore, 1) := by decide +kernel
theorem dX7_init_153 : decode cX7_init 153 = .ok (.dup, 1) := by decide +kernel
theorem dX7_init_154 : decode cX7_init 154 = .ok (.bipush 13, 2) := by decide +kernel
theorem dX7_init_156 : decode cX7_init 156 = .ok (.ldc2_w 59, 3) := by decide +kernel
theorem dX7_init_159 : decode cX7_init 159 = .ok (.lastore, 1) := by decide +kernel
theorem dX7_init_160 : decode cX7_init 160 = .ok (.dup, 1) := by decide +kernel
theorem dX7_init_161 : decode cX7_init 161 = .ok (.bipush 14, 2) := by decide +kernel
theorem dX7_init_163 : decode cX7_init 163 = .ok (.ldc2_w 61, 3) := by decide +kernel
theorem dX7_init_166 : decode cX7_init 166 = .ok (.lastore, 1) := by decide +kernel
theorem dX7_init_167 : decode cX7_init 167 = .ok (.dup, 1) := by decide +kernel
theorem dX7_init_168 : decode cX7_init 168 = .ok (.bipush 15, 2) := by decide +kernel
theorem dX7_init_170 : decode cX7_init 170 = .ok (.ldc2_w 63, 3) := by decide +kernel
theorem dX7_init_173 : decode cX7_init 173 = .ok (.lastore, 1) := by decide +kernel
theorem dX7_init_174 : decode cX7_init 174 = .ok (.putfield 65, 3) := by decide +kernel
theorem dX7_init_177 : decode cX7_init 177 = .ok (.aload_n 0, 1) := by decide +kernel
theorem dX7_init_178 : decode cX7_init 178 = .ok (.sipush 640, 3) := by decide +kernel
theorem dX7_init_181 : decode cX7_init 181 = .ok (.newarray .int, 2) := by decide +kernel
theorem dX7_init_183 : decode cX7_init 183 = .ok (.putfield 69, 3) := by decide +kernel
theorem dX7_init_186 : decode cX7_init 186 = .ok (.aload_n 0, 1) := by decide +kernel
theorem dX7_init_187 : decode cX7_init 187 = .ok (.bipush 40, 2) := by decide +kernel
theorem dX7_init_189 : decode cX7_init 189 = .ok (.newarray .int, 2) := by decide +kernel
theorem dX7_init_191 : decode cX7_init 191 = .ok (.putfield 72, 3) := by decide +kernel
theorem dX7_init_194 : decode cX7_init 194 = .ok (.aload_n 0, 1) := by decide +kernel
theorem dX7_init_195 : decode cX7_init 195 = .ok (.getfield 7, 3) := by decide +kernel
theorem dX7_init_198 : decode cX7_init 198 = .ok (.iconst 4, 1) := by decide +kernel
theorem dX7_init_199 : decode cX7_init 199 = .ok (.iconst 1, 1) := by decide +kernel
theorem dX7_init_200 : decode cX7_init 200 = .ok (.iastore, 1) := by decide +kernel
theorem dX7_init_201 : decode cX7_init 201 = .ok (.aload_n 0, 1) := by decide +kernel
theorem dX7_init_202 : decode cX7_init 202 = .ok (.getfield 7, 3) := by decide +kernel
theorem dX7_init_205 : decode cX7_init 205 = .ok (.bipush 8, 2) := by decide +kernel
theorem dX7_init_207 : decode cX7_init 207 = .ok (.sipush 400, 3) := by decide +kernel
theorem dX7_init_210 : decode cX7_init 210 = .ok (.iastore, 1) := by decide +kernel
theorem dX7_init_211 : decode cX7_init 211 = .ok (.aload_n 0, 1) := by decide +kernel
theorem dX7_init_212 : decode cX7_init 212 = .ok (.getfield 7, 3) := by decide +kernel
theorem dX7_init_215 : decode cX7_init 215 = .ok (.bipush 9, 2) := by decide +kernel
theorem dX7_init_217 : decode cX7_init 217 = .ok (.sipush 400, 3) := by decide +kernel
theorem dX7_init_220 : decode cX7_init 220 = .ok (.iastore, 1) := by decide +kernel
theorem dX7_init_221 : decode cX7_init 221 = .ok (.aload_n 0, 1) := by decide +kernel
theorem dX7_init_222 : decode cX7_init 222 = .ok (.getfield 7, 3) := by decide +kernel
theorem dX7_init_225 : decode cX7_init 225 = .ok (.bipush 11, 2) := by decide +kernel
theorem dX7_init_227 : decode cX7_init 227 = .ok (.ldc 75, 2) := by decide +kernel
theorem dX7_init_229 : decode cX7_init 229 = .ok (.iastore, 1) := by decide +kernel
theorem dX7_init_230 : decode cX7_init 230 = .ok (.iconst 0, 1) := by decide +kernel
theorem dX7_init_231 : decode cX7_init 231 = .ok (.istore_n 1, 1) := by decide +kernel
theorem dX7_init_232 : decode cX7_init 232 = .ok (.iload_n 1, 1) := by decide +kernel
theorem dX7_init_233 : decode cX7_init 233 = .ok (.bipush 8, 2) := by decide +kernel
theorem dX7_init_235 : decode cX7_init 235 = .ok (.if_icmp .ge 21, 3) := by decide +kernel
theorem dX7_init_238 : decode cX7_init 238 = .ok (.aload_n 0, 1) := by decide +kernel
theorem dX7_init_239 : decode cX7_init 239 = .ok (.getfield 7, 3) := by decide +kernel
theorem dX7_init_242 : decode cX7_init 242 = .ok (.bipush 14, 2) := by decide +kernel
theorem dX7_init_244 : decode cX7_init 244 = .ok (.iload_n 1, 1) := by decide +kernel
theorem dX7_init_245 : decode cX7_init 245 = .ok (.iadd, 1) := by decide +kernel
theorem dX7_init_246 : decode cX7_init 246 = .ok (.sipush 400, 3) := by decide +kernel
theorem dX7_init_249 : decode cX7_init 249 = .ok (.iastore, 1) := by decide +kernel
theorem dX7_init_250 : decode cX7_init 250 = .ok (.iinc 1 1, 3) := by decide +kernel
theorem dX7_init_253 : decode cX7_init 253 = .ok (.goto (-21), 3) := by decide +kernel
theorem dX7_init_256 : decode cX7_init 256 = .ok (.return_, 1) := by decide +kernel
theorem dX7_thrown_0 : decode cX7_thrown 0 = .ok (.aload_n 0, 1) := by decide +kernel
theorem dX7_thrown_1 : decode cX7_thrown 1 = .ok (.getfield 76, 3) := by decide +kernel
theorem dX7_thrown_4 : decode cX7_thrown 4 = .ok (.ireturn, 1) := by decide +kernel
theorem dX7_in_0 : decode cX7_in 0 = .ok (.lload_n 0, 1) := by decide +kernel
theorem dX7_in_1 : decode cX7_in 1 = .ok (.lload_n 2, 1) := by decide +kernel
theorem dX7_in_2 : decode cX7_in 2 = .ok (.lcmp, 1) := by decide +kernel
theorem dX7_in_3 : decode cX7_in 3 = .ok (.ifCond .lt 14, 3) := by decide +kernel
theorem dX7_in_6 : decode cX7_in 6 = .ok (.lload_n 0, 1) := by decide +kernel
theorem dX7_in_7 : decode cX7_in 7 = .ok (.lload 4, 2) := by decide +kernel
theorem dX7_in_9 : decode cX7_in 9 = .ok (.lcmp, 1) := by decide +kernel
theorem dX7_in_10 : decode cX7_in 10 = .ok (.ifCond .gt 7, 3) := by decide +kernel
theorem dX7_in_13 : decode cX7_in 13 = .ok (.iconst 1, 1) := by decide +kernel
theorem dX7_in_14 : decode cX7_in 14 = .ok (.goto 4, 3) := by decide +kernel
theorem dX7_in_17 : decode cX7_in 17 = .ok (.iconst 0, 1) := by decide +kernel
theorem dX7_in_18 : decode cX7_in 18 = .ok (.ireturn, 1) := by decide +kernel
theorem dX7_isTank_0 : decode cX7_isTank 0 = .ok (.iload_n 0, 1) := by decide +kernel
theorem dX7_isTank_1 : decode cX7_isTank 1 = .ok (.i2l, 1) := by decide +kernel
theorem dX7_isTank_2 : decode cX7_isTank 2 = .ok (.lconst 0, 1) := by decide +kernel
theorem dX7_isTank_3 : decode cX7_isTank 3 = .ok (.ldc2_w 79, 3) := by decide +kernel
theorem dX7_isTank_6 : decode cX7_isTank 6 = .ok (.invokestatic 81, 3) := by decide +kernel
theorem dX7_isTank_9 : decode cX7_isTank 9 = .ok (.ireturn, 1) := by decide +kernel
theorem dX7_isLocation_0 : decode cX7_isLocation 0 = .ok (.iload_n 0, 1) := by decide +kernel
theorem dX7_isLocation_1 : decode cX7_isLocation 1 = .ok (.invokestatic 85, 3) := by decide +kernel
theorem dX7_isLocation_4 : decode cX7_isLocation 4 = .ok (.ifCond .eq 19, 3) := by decide +kernel
theorem dX7_isLocation_7 : decode cX7_isLocation 7 = .ok (.iload_n 1, 1) := by decide +kernel
theorem dX7_isLocation_8 : decode cX7_isLocation 8 = .ok (.i2l, 1) := by decide +kernel
theorem dX7_isLocation_9 : decode cX7_isLocation 9 = .ok (.lconst 0, 1) := by decide +kernel
theorem dX7_isLocation_10 : decode cX7_isLocation 10 = .ok (.ldc2_w 89, 3) := by decide +kernel
theorem dX7_isLocation_13 : decode cX7_isLocation 13 = .ok (.invokestatic 81, 3) := by decide +kernel
theorem dX7_isLocation_16 : decode cX7_isLocation 16 = .ok (.ifCond .eq 7, 3) := by decide +kernel
theorem dX7_isLocation_19 : decode cX7_isLocation 19 = .ok (.iconst 1, 1) := by decide +kernel
theorem dX7_isLocation_20 : decode cX7_isLocation 20 = .ok (.goto 4, 3) := by decide +kernel
theorem dX7_isLocation_23 : decode cX7_isLocation 23 = .ok (.iconst 0, 1) := by decide +kernel
theorem dX7_isLocation_24 : decode cX7_isLocation 24 = .ok (.ireturn, 1) := by decide +kernel
theorem dX7_fails_0 : decode cX7_fails 0 = .ok (.aload_n 0, 1) := by decide +kernel
theorem dX7_fails_1 : decode cX7_fails 1 = .ok (.iload_n 1, 1) := by decide +kernel
theorem dX7_fails_2 : decode cX7_fails 2 = .ok (.putfield 76, 3) := by decide +kernel
theorem dX7_fails_5 : decode cX7_fails 5 = .ok (.iconst 0, 1) := by decide +kernel
theorem dX7_fails_6 : decode cX7_fails 6 = .ok (.ireturn, 1) := by decide +kernel
theorem dX7_floor_0 : decode cX7_floor 0 = .ok (.iload_n 0, 1) := by decide +kernel
theorem dX7_floor_1 : decode cX7_floor 1 = .ok (.iload_n 1, 1) := by decide +kernel
theorem dX7_floor_2 : decode cX7_floor 2 = .ok (.idiv, 1) := by decide +kernel
theorem dX7_floor_3 : decode cX7_floor 3 = .ok (.istore_n 2, 1) := by decide +kernel
theorem dX7_floor_4 : decode cX7_floor 4 = .ok (.iload_n 0, 1) := by decide +kernel
theorem dX7_floor_5 : decode cX7_floor 5 = .ok (.iload_n 1, 1) := by decide +kernel
theorem dX7_floor_6 : decode cX7_floor 6 = .ok (.irem, 1) := by decide +kernel
theorem dX7_floor_7 : decode cX7_floor 7 = .ok (.ifCond .eq 30, 3) := by decide +kernel
theorem dX7_floor_10 : decode cX7_floor 10 = .ok (.iload_n 0, 1) := by decide +kernel
theorem dX7_floor_11 : decode cX7_floor 11 = .ok (.ifCond .ge 7, 3) := by decide +kernel
theorem dX7_floor_14 : decode cX7_floor 14 = .ok (.iconst 1, 1) := by decide +kernel
theorem dX7_floor_15 : decode cX7_floor 15 = .ok (.goto 4, 3) := by decide +kernel
theorem dX7_floor_18 : decode cX7_floor 18 = .ok (.iconst 0, 1) := by decide +kernel
theorem dX7_floor_19 : decode cX7_floor 19 = .ok (.iload_n 1, 1) := by decide +kernel
theorem dX7_floor_20 : decode cX7_floor 20 = .ok (.ifCond .ge 7, 3) := by decide +kernel
theorem dX7_floor_23 : decode cX7_floor 23 = .ok (.iconst 1, 1) := by decide +kernel
theorem dX7_floor_24 : decode cX7_floor 24 = .ok (.goto 4, 3) := by decide +kernel
theorem dX7_floor_27 : decode cX7_floor 27 = .ok (.iconst 0, 1) := by decide +kernel
theorem dX7_floor_28 : decode cX7_floor 28 = .ok (.if_icmp .eq 9, 3) := by decide +kernel
theorem dX7_floor_31 : decode cX7_floor 31 = .ok (.iload_n 2, 1) := by decide +kernel
theorem dX7_floor_32 : decode cX7_floor 32 = .ok (.iconst 1, 1) := by decide +kernel
theorem dX7_floor_33 : decode cX7_floor 33 = .ok (.isub, 1) := by decide +kernel
theorem dX7_floor_34 : decode cX7_floor 34 = .ok (.goto 4, 3) := by decide +kernel
theorem dX7_floor_37 : decode cX7_floor 37 = .ok (.iload_n 2, 1) := by decide +kernel
theorem dX7_floor_38 : decode cX7_floor 38 = .ok (.ireturn, 1) := by decide +kernel
theorem dX7_distance_0 : decode cX7_distance 0 = .ok (.iload_n 0, 1) := by decide +kernel
theorem dX7_distance_1 : decode cX7_distance 1 = .ok (.ifCond .ge 8, 3) := by decide +kernel
theorem dX7_distance_4 : decode cX7_distance 4 = .ok (.iload_n 0, 1) := by decide +kernel
theorem dX7_distance_5 : decode cX7_distance 5 = .ok (.ineg, 1) := by decide +kernel
theorem dX7_distance_6 : decode cX7_distance 6 = .ok (.goto 4, 3) := by decide +kernel
theorem dX7_distance_9 : decode cX7_distance 9 = .ok (.iload_n 0, 1) := by decide +kernel
theorem dX7_distance_10 : decode cX7_distance 10 = .ok (.ireturn, 1) := by decide +kernel
theorem dX7_wrap_0 : decode cX7_wrap 0 = .ok (.lload_n 0, 1) := by decide +kernel
theorem dX7_wrap_1 : decode cX7_wrap 1 = .ok (.ldc2_w 91, 3) := by decide +kernel
theorem dX7_wrap_4 : decode cX7_wrap 4 = .ok (.land, 1) := by decide +kernel
theorem dX7_wrap_5 : decode cX7_wrap 5 = .ok (.l2i, 1) := by decide +kernel
theorem dX7_wrap_6 : decode cX7_wrap 6 = .ok (.istore_n 2, 1) := by decide +kernel
theorem dX7_wrap_7 : decode cX7_wrap 7 = .ok (.iload_n 2, 1) := by decide +kernel
theorem dX7_wrap_8 : decode cX7_wrap 8 = .ok (.ldc 93, 2) := by decide +kernel
theorem dX7_wrap_10 : decode cX7_wrap 10 = .ok (.if_icmp .le 12, 3) := by decide +kernel
theorem dX7_wrap_13 : decode cX7_wrap 13 = .ok (.iload_n 2, 1) := by decide +kernel
theorem dX7_wrap_14 : decode cX7_wrap 14 = .ok (.ldc 94, 2) := by decide +kernel
theorem dX7_wrap_16 : decode cX7_wrap 16 = .ok (.isub, 1) := by decide +kernel
theorem dX7_wrap_17 : decode cX7_wrap 17 = .ok (.iconst 1, 1) := by decide +kernel
theorem dX7_wrap_18 : decode cX7_wrap 18 = .ok (.isub, 1) := by decide +kernel
theorem dX7_wrap_19 : decode cX7_wrap 19 = .ok (.goto 4, 3) := by decide +kernel
theorem dX7_wrap_22 : decode cX7_wrap 22 = .ok (.iload_n 2, 1) := by decide +kernel
theorem dX7_wrap_23 : decode cX7_wrap 23 = .ok (.ireturn, 1) := by decide +kernel
theorem dX7_four_0 : decode cX7_four 0 = .ok (.bipush 24, 2) := by decide +kernel
theorem dX7_four_2 : decode cX7_four 2 = .ok (.istore_n 2, 1) := by decide +kernel
theorem dX7_four_3 : decode cX7_four 3 = .ok (.iload_n 2, 1) := by decide +kernel
theorem dX7_four_4 : decode cX7_four 4 = .ok (.ifCond .lt 35, 3) := by decide +kernel
theorem dX7_four_7 : decode cX7_four 7 = .ok (.aload_n 0, 1) := by decide +kernel
theorem dX7_four_8 : decode cX7_four 8 = .ok (.getfield 19, 3) := by decide +kernel
theorem dX7_four_11 : decode cX7_four 11 = .ok (.aload_n 0, 1) := by decide +kernel
theorem dX7_four_12 : decode cX7_four 12 = .ok (.getfield 95, 3) := by decide +kernel
theorem dX7_four_15 : decode cX7_four 15 = .ok (.iload_n 1, 1) := by decide +kernel
theorem dX7_four_16 : decode cX7_four 16 = .ok (.iload_n 2, 1) := by decide +kernel
theorem dX7_four_17 : decode cX7_four 17 = .ok (.ishr, 1) := by decide +kernel
theorem dX7_four_18 : decode cX7_four 18 = .ok (.sipush 255, 3) := by decide +kernel
theorem dX7_four_21 : decode cX7_four 21 = .ok (.iand, 1) := by decide +kernel
theorem dX7_four_22 : decode cX7_four 22 = .ok (.iastore, 1) := by decide +kernel
theorem dX7_four_23 : decode cX7_four 23 = .ok (.aload_n 0, 1) := by decide +kernel
theorem dX7_four_24 : decode cX7_four 24 = .ok (.dup, 1) := by decide +kernel
theorem dX7_four_25 : decode cX7_four 25 = .ok (.getfield 95, 3) := by decide +kernel
theorem dX7_four_28 : decode cX7_four 28 = .ok (.iconst 1, 1) := by decide +kernel
theorem dX7_four_29 : decode cX7_four 29 = .ok (.iadd, 1) := by decide +kernel
theorem dX7_four_30 : decode cX7_four 30 = .ok (.putfield 95, 3) := by decide +kernel
theorem dX7_four_33 : decode cX7_four 33 = .ok (.iinc 2 (-8), 3) := by decide +kernel
theorem dX7_four_36 : decode cX7_four 36 = .ok (.goto (-33), 3) := by decide +kernel
theorem dX7_four_39 : decode cX7_four 39 = .ok (.return_, 1) := by decide +kernel
theorem dX7_append_0 : decode cX7_append 0 = .ok (.aload_n 0, 1) := by decide +kernel
theorem dX7_append_1 : decode cX7_append 1 = .ok (.iconst 0, 1) := by decide +kernel
theorem dX7_append_2 : decode cX7_append 2 = .ok (.putfield 76, 3) := by decide +kernel
theorem dX7_append_5 : decode cX7_append 5 = .ok (.aload_n 0, 1) := by decide +kernel
theorem dX7_append_6 : decode cX7_append 6 = .ok (.getfield 95, 3) := by decide +kernel
theorem dX7_append_9 : decode cX7_append 9 = .ok (.bipush 20, 2) := by decide +kernel
theorem dX7_append_11 : decode cX7_append 11 = .ok (.iadd, 1) := by decide +kernel
theorem dX7_append_12 : decode cX7_append 12 = .ok (.sipush 600, 3) := by decide +kernel
theorem dX7_append_15 : decode cX7_append 15 = .ok (.if_icmp .le 9, 3) := by decide +kernel
theorem dX7_append_18 : decode cX7_append 18 = .ok (.aload_n 0, 1) := by decide +kernel
theorem dX7_append_19 : decode cX7_append 19 = .ok (.iconst 1, 1) := by decide +kernel
theorem dX7_append_20 : decode cX7_append 20 = .ok (.invokevirtual 98, 3) := by decide +kernel
theorem dX7_append_23 : decode cX7_append 23 = .ok (.ireturn, 1) := by decide +kernel
theorem dX7_append_24 : decode cX7_append 24 = .ok (.aload_n 0, 1) := by decide +kernel
theorem dX7_append_25 : decode cX7_append 25 = .ok (.iload_n 1, 1) := by decide +kernel
theorem dX7_append_26 : decode cX7_append 26 = .ok (.invokevirtual 102, 3) := by decide +kernel
theorem dX7_append_29 : decode cX7_append 29 = .ok (.aload_n 0, 1) := by decide +kernel
theorem dX7_append_30 : decode cX7_append 30 = .ok (.iload_n 2, 1) := by decide +kernel
theorem dX7_append_31 : decode cX7_append 31 = .ok (.invokevirtual 102, 3) := by decide +kernel
theorem dX7_append_34 : decode cX7_append 34 = .ok (.aload_n 0, 1) := by decide +kernel
theorem dX7_append_35 : decode cX7_append 35 = .ok (.iload_n 3, 1) := by decide +kernel
theorem dX7_append_36 : decode cX7_append 36 = .ok (.invokevirtual 102, 3) := by decide +kernel
theorem dX7_append_39 : decode cX7_append 39 = .ok (.aload_n 0, 1) := by decide +kernel
theorem dX7_append_40 : decode cX7_append 40 = .ok (.iload 4, 2) := by decide +kernel
theorem dX7_append_42 : decode cX7_append 42 = .ok (.invokevirtual 102, 3) := by decide +kernel
theorem dX7_append_45 : decode cX7_append 45 = .ok (.aload_n 0, 1) := by decide +kernel
theorem dX7_append_46 : decode cX7_append 46 = .ok (.iload 5, 2) := by decide +kernel
theorem dX7_append_48 : decode cX7_append 48 = .ok (.invokevirtual 102, 3) := by decide +kernel
theorem dX7_append_51 : decode cX7_append 51 = .ok (.aload_n 0, 1) := by decide +kernel
theorem dX7_append_52 : decode cX7_append 52 = .ok (.getfield 95, 3) := by decide +kernel
theorem dX7_append_55 : decode cX7_append 55 = .ok (.ireturn, 1) := by decide +kernel
theorem dX7_truncate_0 : decode cX7_truncate 0 = .ok (.aload_n 0, 1) := by decide +kernel
theorem dX7_truncate_1 : decode cX7_truncate 1 = .ok (.iconst 0, 1) := by decide +kernel
theorem dX7_truncate_2 : decode cX7_truncate 2 = .ok (.putfield 76, 3) := by decide +kernel
theorem dX7_truncate_5 : decode cX7_truncate 5 = .ok (.iload_n 1, 1) := by decide +kernel
theorem dX7_truncate_6 : decode cX7_truncate 6 = .ok (.i2l, 1) := by decide +kernel
theorem dX7_truncate_7 : decode cX7_truncate 7 = .ok (.lconst 0, 1) := by decide +kernel
theorem dX7_truncate_8 : decode cX7_truncate 8 = .ok (.aload_n 0, 1) := by decide +kernel
theorem dX7_truncate_9 : decode cX7_truncate 9 = .ok (.getfield 95, 3) := by decide +kernel
theorem dX7_truncate_12 : decode cX7_truncate 12 = .ok (.i2l, 1) := by decide +kernel
theorem dX7_truncate_13 : decode cX7_truncate 13 = .ok (.invokestatic 81, 3) := by decide +kernel
theorem dX7_truncate_16 : decode cX7_truncate 16 = .ok (.ifCond .ne 9, 3) := by decide +kernel
theorem dX7_truncate_19 : decode cX7_truncate 19 = .ok (.aload_n 0, 1) := by decide +kernel
theorem dX7_truncate_20 : decode cX7_truncate 20 = .ok (.iconst 1, 1) := by decide +kernel
theorem dX7_truncate_21 : decode cX7_truncate 21 = .ok (.invokevirtual 98, 3) := by decide +kernel
theorem dX7_truncate_24 : decode cX7_truncate 24 = .ok (.ireturn, 1) := by decide +kernel
theorem dX7_truncate_25 : decode cX7_truncate 25 = .ok (.aload_n 0, 1) := by decide +kernel
theorem dX7_truncate_26 : decode cX7_truncate 26 = .ok (.iload_n 1, 1) := by decide +kernel
theorem dX7_truncate_27 : decode cX7_truncate 27 = .ok (.putfield 95, 3) := by decide +kernel
theorem dX7_truncate_30 : decode cX7_truncate 30 = .ok (.aload_n 0, 1) := by decide +kernel
theorem dX7_truncate_31 : decode cX7_truncate 31 = .ok (.getfield 95, 3) := by decide +kernel
theorem dX7_truncate_34 : decode cX7_truncate 34 = .ok (.ireturn, 1) := by decide +kernel
theorem dX7_here_0 : decode cX7_here 0 = .ok (.aload_n 0, 1) := by decide +kernel
theorem dX7_here_1 : decode cX7_here 1 = .ok (.getfield 106, 3) := by decide +kernel
theorem dX7_here_4 : decode cX7_here 4 = .ok (.aload_n 0, 1) := by decide +kernel
theorem dX7_here_5 : decode cX7_here 5 = .ok (.getfield 95, 3) := by decide +kernel
theorem dX7_here_8 : decode cX7_here 8 = .ok (.if_icmp .ge 44, 3) := by decide +kernel
theorem dX7_here_11 : decode cX7_here 11 = .ok (.aload_n 0, 1) := by decide +kernel
theorem dX7_here_12 : decode cX7_here 12 = .ok (.getfield 19, 3) := by decide +kernel
theorem dX7_here_15 : decode cX7_here 15 = .ok (.aload_n 0, 1) := by decide +kernel
theorem dX7_here_16 : decode cX7_here 16 = .ok (.getfield 106, 3) := by decide +kernel
theorem dX7_here_19 : decode cX7_here 19 = .ok (.iaload, 1) := by decide +kernel
theorem dX7_here_20 : decode cX7_here 20 = .ok (.bipush 32, 2) := by decide +kernel
theorem dX7_here_22 : decode cX7_here 22 = .ok (.if_icmp .eq 17, 3) := by decide +kernel
theorem dX7_here_25 : decode cX7_here 25 = .ok (.aload_n 0, 1) := by decide +kernel
theorem dX7_here_26 : decode cX7_here 26 = .ok (.getfield 19, 3) := by decide +kernel
theorem dX7_here_29 : decode cX7_here 29 = .ok (.aload_n 0, 1) := by decide +kernel
theorem dX7_here_30 : decode cX7_here 30 = .ok (.getfield 106, 3) := by decide +kernel
theorem dX7_here_33 : decode cX7_here 33 = .ok (.iaload, 1) := by decide +kernel
theorem dX7_here_34 : decode cX7_here 34 = .ok (.bipush 10, 2) := by decide +kernel
theorem dX7_here_36 : decode cX7_here 36 = .ok (.if_icmp .ne 16, 3) := by decide +kernel
theorem dX7_here_39 : decode cX7_here 39 = .ok (.aload_n 0, 1) := by decide +kernel
theorem dX7_here_40 : decode cX7_here 40 = .ok (.dup, 1) := by decide +kernel
theorem dX7_here_41 : decode cX7_here 41 = .ok (.getfield 106, 3) := by decide +kernel
theorem dX7_here_44 : decode cX7_here 44 = .ok (.iconst 1, 1) := by decide +kernel
theorem dX7_here_45 : decode cX7_here 45 = .ok (.iadd, 1) := by decide +kernel
theorem dX7_here_46 : decode cX7_here 46 = .ok (.putfield 106, 3) := by decide +kernel
theorem dX7_here_49 : decode cX7_here 49 = .ok (.goto (-49), 3) := by decide +kernel
theorem dX7_here_52 : decode cX7_here 52 = .ok (.aload_n 0, 1) := by decide +kernel
theorem dX7_here_53 : decode cX7_here 53 = .ok (.getfield 106, 3) := by decide +kernel
theorem dX7_here_56 : decode cX7_here 56 = .ok (.aload_n 0, 1) := by decide +kernel
theorem dX7_here_57 : decode cX7_here 57 = .ok (.getfield 95, 3) := by decide +kernel
theorem dX7_here_60 : decode cX7_here 60 = .ok (.if_icmp .ge 15, 3) := by decide +kernel
theorem dX7_here_63 : decode cX7_here 63 = .ok (.aload_n 0, 1) := by decide +kernel
theorem dX7_here_64 : decode cX7_here 64 = .ok (.getfield 19, 3) := by decide +kernel
theorem dX7_here_67 : decode cX7_here 67 = .ok (.aload_n 0, 1) := by decide +kernel
theorem dX7_here_68 : decode cX7_here 68 = .ok (.getfield 106, 3) := by decide +kernel
theorem dX7_here_71 : decode cX7_here 71 = .ok (.iaload, 1) := by decide +kernel
theorem dX7_here_72 : decode cX7_here 72 = .ok (.goto 4, 3) := by decide +kernel
theorem dX7_here_75 : decode cX7_here 75 = .ok (.iconst (-1), 1) := by decide +kernel
theorem dX7_here_76 : decode cX7_here 76 = .ok (.ireturn, 1) := by decide +kernel
theorem dX7_wrong_0 : decode cX7_wrong 0 = .ok (.aload_n 0, 1) := by decide +kernel
theorem dX7_wrong_1 : decode cX7_wrong 1 = .ok (.getfield 109, 3) := by decide +kernel
theorem dX7_wrong_4 : decode cX7_wrong 4 = .ok (.ifCond .eq 4, 3) := by decide +kernel
theorem dX7_wrong_7 : decode cX7_wrong 7 = .ok (.return_, 1) := by decide +kernel
theorem dX7_wrong_8 : decode cX7_wrong 8 = .ok (.aload_n 0, 1) := by decide +kernel
theorem dX7_wrong_9 : decode cX7_wrong 9 = .ok (.iconst 1, 1) := by decide +kernel
theorem dX7_wrong_10 : decode cX7_wrong 10 = .ok (.putfield 109, 3) := by decide +kernel
theorem dX7_wrong_13 : decode cX7_wrong 13 = .ok (.aload_n 0, 1) := by decide +kernel
theorem dX7_wrong_14 : decode cX7_wrong 14 = .ok (.iload_n 1, 1) := by decide +kernel
theorem dX7_wrong_15 : decode cX7_wrong 15 = .ok (.putfield 113, 3) := by decide +kernel
theorem dX7_wrong_18 : decode cX7_wrong 18 = .ok (.aload_n 0, 1) := by decide +kernel
theorem dX7_wrong_19 : decode cX7_wrong 19 = .ok (.iload_n 2, 1) := by decide +kernel
theorem dX7_wrong_20 : decode cX7_wrong 20 = .ok (.putfield 22, 3) := by decide +kernel
theorem dX7_wrong_23 : decode cX7_wrong 23 = .ok (.return_, 1) := by decide +kernel
theorem dX7_word_0 : decode cX7_word 0 = .ok (.lconst 0, 1) := by decide +kernel
theorem dX7_word_1 : decode cX7_word 1 = .ok (.lstore_n 1, 1) := by decide +kernel
theorem dX7_word_2 : decode cX7_word 2 = .ok (.iconst 0, 1) := by decide +kernel
theorem dX7_word_3 : decode cX7_word 3 = .ok (.istore_n 3, 1) := by decide +kernel
theorem dX7_word_4 : decode cX7_word 4 = .ok (.aload_n 0, 1) := by decide +kernel
theorem dX7_word_5 : decode cX7_word 5 = .ok (.invokevirtual 116, 3) := by decide +kernel
theorem dX7_word_8 : decode cX7_word 8 = .ok (.i2l, 1) := by decide +kernel
theorem dX7_word_9 : decode cX7_word 9 = .ok (.ldc2_w 120, 3) := by decide +kernel
theorem dX7_word_12 : decode cX7_word 12 = .ok (.ldc2_w 122, 3) := by decide +kernel
theorem dX7_word_15 : decode cX7_word 15 = .ok (.invokestatic 81, 3) := by decide +kernel
theorem dX7_word_18 : decode cX7_word 18 = .ok (.istore 4, 2) := by decide +kernel
theorem dX7_word_20 : decode cX7_word 20 = .ok (.aload_n 0, 1) := by decide +kernel
theorem dX7_word_21 : decode cX7_word 21 = .ok (.aload_n 0, 1) := by decide +kernel
theorem dX7_word_22 : decode cX7_word 22 = .ok (.getfield 106, 3) := by decide +kernel
theorem dX7_word_25 : decode cX7_word 25 = .ok (.putfield 124, 3) := by decide +kernel
theorem dX7_word_28 : decode cX7_word 28 = .ok (.iload 4, 2) := by decide +kernel
theorem dX7_word_30 : decode cX7_word 30 = .ok (.ifCond .eq 85, 3) := by decide +kernel
theorem dX7_word_33 : decode cX7_word 33 = .ok (.aload_n 0, 1) := by decide +kernel
theorem dX7_word_34 : decode cX7_word 34 = .ok (.getfield 106, 3) := by decide +kernel
theorem dX7_word_37 : decode cX7_word 37 = .ok (.aload_n 0, 1) := by decide +kernel
theorem dX7_word_38 : decode cX7_word 38 = .ok (.getfield 95, 3) := by decide +kernel
theorem dX7_word_41 : decode cX7_word 41 = .ok (.if_icmp .ge 74, 3) := by decide +kernel
theorem dX7_word_44 : decode cX7_word 44 = .ok (.aload_n 0, 1) := by decide +kernel
theorem dX7_word_45 : decode cX7_word 45 = .ok (.getfield 19, 3) := by decide +kernel
theorem dX7_word_48 : decode cX7_word 48 = .ok (.aload_n 0, 1) := by decide +kernel
theorem dX7_word_49 : decode cX7_word 49 = .ok (.getfield 106, 3) := by decide +kernel
theorem dX7_word_52 : decode cX7_word 52 = .ok (.iaload, 1) := by decide +kernel
theorem dX7_word_53 : decode cX7_word 53 = .ok (.i2l, 1) := by decide +kernel
theorem dX7_word_54 : decode cX7_word 54 = .ok (.ldc2_w 120, 3) := by decide +kernel
theorem dX7_word_57 : decode cX7_word 57 = .ok (.ldc2_w 122, 3) := by decide +kernel
theorem dX7_word_60 : decode cX7_word 60 = .ok (.invokestatic 81, 3) := by decide +kernel
theorem dX7_word_63 : decode cX7_word 63 = .ok (.ifCond .eq 52, 3) := by decide +kernel
theorem dX7_word_66 : decode cX7_word 66 = .ok (.iload_n 3, 1) := by decide +kernel
theorem dX7_word_67 : decode cX7_word 67 = .ok (.bipush 6, 2) := by decide +kernel
theorem dX7_word_69 : decode cX7_word 69 = .ok (.if_icmp .ge 26, 3) := by decide +kernel
theorem dX7_word_72 : decode cX7_word 72 = .ok (.ldc2_w 127, 3) := by decide +kernel
theorem dX7_word_75 : decode cX7_word 75 = .ok (.lload_n 1, 1) := by decide +kernel
theorem dX7_word_76 : decode cX7_word 76 = .ok (.lmul, 1) := by decide +kernel
theorem dX7_word_77 : decode cX7_word 77 = .ok (.aload_n 0, 1) := by decide +kernel
theorem dX7_word_78 : decode cX7_word 78 = .ok (.getfield 19, 3) := by decide +kernel
theorem dX7_word_81 : decode cX7_word 81 = .ok (.aload_n 0, 1) := by decide +kernel
theorem dX7_word_82 : decode cX7_word 82 = .ok (.getfield 106, 3) := by decide +kernel
theorem dX7_word_85 : decode cX7_word 85 = .ok (.iaload, 1) := by decide +kernel
theorem dX7_word_86 : decode cX7_word 86 = .ok (.i2l, 1) := by decide +kernel
theorem dX7_word_87 : decode cX7_word 87 = .ok (.ladd, 1) := by decide +kernel
theorem dX7_word_88 : decode cX7_word 88 = .ok (.ldc2_w 129, 3) := by decide +kernel
theorem dX7_word_91 : decode cX7_word 91 = .ok (.lsub, 1) := by decide +kernel
theorem dX7_word_92 : decode cX7_word 92 = .ok (.goto 6, 3) := by decide +kernel
theorem dX7_word_95 : decode cX7_word 95 = .ok (.ldc2_w 131, 3) := by decide +kernel
theorem dX7_word_98 : decode cX7_word 98 = .ok (.lstore_n 1, 1) := by decide +kernel
theorem dX7_word_99 : decode cX7_word 99 = .ok (.iinc 3 1, 3) := by decide +kernel
theorem dX7_word_102 : decode cX7_word 102 = .ok (.aload_n 0, 1) := by decide +kernel
theorem dX7_word_103 : decode cX7_word 103 = .ok (.dup, 1) := by decide +kernel
theorem dX7_word_104 : decode cX7_word 104 = .ok (.getfield 106, 3) := by decide +kernel
theorem dX7_word_107 : decode cX7_word 107 = .ok (.iconst 1, 1) := by decide +kernel
theorem dX7_word_108 : decode cX7_word 108 = .ok (.iadd, 1) := by decide +kernel
theorem dX7_word_109 : decode cX7_word 109 = .ok (.putfield 106, 3) := by decide +kernel
theorem dX7_word_112 : decode cX7_word 112 = .ok (.goto (-84), 3) := by decide +kernel
theorem dX7_word_115 : decode cX7_word 115 = .ok (.lload_n 1, 1) := by decide +kernel
theorem dX7_word_116 : decode cX7_word 116 = .ok (.lreturn, 1) := by decide +kernel
theorem dX7_number_0 : decode cX7_number 0 = .ok (.aload_n 0, 1) := by decide +kernel
theorem dX7_number_1 : decode cX7_number 1 = .ok (.getfield 109, 3) := by decide +kernel
theorem dX7_number_4 : decode cX7_number 4 = .ok (.ifCond .eq 5, 3) := by decide +kernel
theorem dX7_number_7 : decode cX7_number 7 = .ok (.iconst 0, 1) := by decide +kernel
theorem dX7_number_8 : decode cX7_number 8 = .ok (.ireturn, 1) := by decide +kernel
theorem dX7_number_9 : decode cX7_number 9 = .ok (.aload_n 0, 1) := by decide +kernel
theorem dX7_number_10 : decode cX7_number 10 = .ok (.invokevirtual 116, 3) := by decide +kernel
theorem dX7_number_13 : decode cX7_number 13 = .ok (.i2l, 1) := by decide +kernel
theorem dX7_number_14 : decode cX7_number 14 = .ok (.ldc2_w 133, 3) := by decide +kernel
theorem dX7_number_17 : decode cX7_number 17 = .ok (.ldc2_w 135, 3) := by decide +kernel
theorem dX7_number_20 : decode cX7_number 20 = .ok (.invokestatic 81, 3) := by decide +kernel
theorem dX7_number_23 : decode cX7_number 23 = .ok (.istore 4, 2) := by decide +kernel
theorem dX7_number_25 : decode cX7_number 25 = .ok (.aload_n 0, 1) := by decide +kernel
theorem dX7_number_26 : decode cX7_number 26 = .ok (.getfield 106, 3) := by decide +kernel
theorem dX7_number_29 : decode cX7_number 29 = .ok (.istore 5, 2) := by decide +kernel
theorem dX7_number_31 : decode cX7_number 31 = .ok (.iconst 0, 1) := by decide +kernel
theorem dX7_number_32 : decode cX7_number 32 = .ok (.istore 6, 2) := by decide +kernel
theorem dX7_number_34 : decode cX7_number 34 = .ok (.iload 4, 2) := by decide +kernel
theorem dX7_number_36 : decode cX7_number 36 = .ok (.ifCond .eq 86, 3) := by decide +kernel
theorem dX7_number_39 : decode cX7_number 39 = .ok (.aload_n 0, 1) := by decide +kernel
theorem dX7_number_40 : decode cX7_number 40 = .ok (.getfield 106, 3) := by decide +kernel
theorem dX7_number_43 : decode cX7_number 43 = .ok (.aload_n 0, 1) := by decide +kernel
theorem dX7_number_44 : decode cX7_number 44 = .ok (.getfield 95, 3) := by decide +kernel
theorem dX7_number_47 : decode cX7_number 47 = .ok (.if_icmp .ge 75, 3) := by decide +kernel
theorem dX7_number_50 : decode cX7_number 50 = .ok (.aload_n 0, 1) := by decide +kernel
theorem dX7_number_51 : decode cX7_number 51 = .ok (.getfield 19, 3) := by decide +kernel
theorem dX7_number_54 : decode cX7_number 54 = .ok (.aload_n 0, 1) := by decide +kernel
theorem dX7_number_55 : decode cX7_number 55 = .ok (.getfield 106, 3) := by decide +kernel
theorem dX7_number_58 : decode cX7_number 58 = .ok (.iaload, 1) := by decide +kernel
theorem dX7_number_59 : decode cX7_number 59 = .ok (.i2l, 1) := by decide +kernel
theorem dX7_number_60 : decode cX7_number 60 = .ok (.ldc2_w 133, 3) := by decide +kernel
theorem dX7_number_63 : decode cX7_number 63 = .ok (.ldc2_w 135, 3) := by decide +kernel
theorem dX7_number_66 : decode cX7_number 66 = .ok (.invokestatic 81, 3) := by decide +kernel
theorem dX7_number_69 : decode cX7_number 69 = .ok (.ifCond .eq 53, 3) := by decide +kernel
theorem dX7_number_72 : decode cX7_number 72 = .ok (.aload_n 0, 1) := by decide +kernel
theorem dX7_number_73 : decode cX7_number 73 = .ok (.getfield 106, 3) := by decide +kernel
theorem dX7_number_76 : decode cX7_number 76 = .ok (.iload 5, 2) := by decide +kernel
theorem dX7_number_78 : decode cX7_number 78 = .ok (.isub, 1) := by decide +kernel
theorem dX7_number_79 : decode cX7_number 79 = .ok (.bipush 6, 2) := by decide +kernel
theorem dX7_number_81 : decode cX7_number 81 = .ok (.if_icmp .ge 24, 3) := by decide +kernel
theorem dX7_number_84 : decode cX7_number 84 = .ok (.bipush 10, 2) := by decide +kernel
theorem dX7_number_86 : decode cX7_number 86 = .ok (.iload 6, 2) := by decide +kernel
theorem dX7_number_88 : decode cX7_number 88 = .ok (.imul, 1) := by decide +kernel
theorem dX7_number_89 : decode cX7_number 89 = .ok (.aload_n 0, 1) := by decide +kernel
theorem dX7_number_90 : decode cX7_number 90 = .ok (.getfield 19, 3) := by decide +kernel
theorem dX7_number_93 : decode cX7_number 93 = .ok (.aload_n 0, 1) := by decide +kernel
theorem dX7_number_94 : decode cX7_number 94 = .ok (.getfield 106, 3) := by decide +kernel
theorem dX7_number_97 : decode cX7_number 97 = .ok (.iaload, 1) := by decide +kernel
theorem dX7_number_98 : decode cX7_number 98 = .ok (.iadd, 1) := by decide +kernel
theorem dX7_number_99 : decode cX7_number 99 = .ok (.bipush 48, 2) := by decide +kernel
theorem dX7_number_101 : decode cX7_number 101 = .ok (.isub, 1) := by decide +kernel
theorem dX7_number_102 : decode cX7_number 102 = .ok (.goto 5, 3) := by decide +kernel
theorem dX7_number_105 : decode cX7_number 105 = .ok (.iload 6, 2) := by decide +kernel
theorem dX7_number_107 : decode cX7_number 107 = .ok (.istore 6, 2) := by decide +kernel
theorem dX7_number_109 : decode cX7_number 109 = .ok (.aload_n 0, 1) := by decide +kernel
theorem dX7_number_110 : decode cX7_number 110 = .ok (.dup, 1) := by decide +kernel
theorem dX7_number_111 : decode cX7_number 111 = .ok (.getfield 106, 3) := by decide +kernel
theorem dX7_number_114 : decode cX7_number 114 = .ok (.iconst 1, 1) := by decide +kernel
theorem dX7_number_115 : decode cX7_number 115 = .ok (.iadd, 1) := by decide +kernel
theorem dX7_number_116 : decode cX7_number 116 = .ok (.putfield 106, 3) := by decide +kernel
theorem dX7_number_119 : decode cX7_number 119 = .ok (.goto (-85), 3) := by decide +kernel
theorem dX7_number_122 : decode cX7_number 122 = .ok (.iload_n 3, 1) := by decide +kernel
theorem dX7_number_123 : decode cX7_number 123 = .ok (.ifCond .eq 9, 3) := by decide +kernel
theorem dX7_number_126 : decode cX7_number 126 = .ok (.iload 6, 2) := by decide +kernel
theorem dX7_number_128 : decode cX7_number 128 = .ok (.ineg, 1) := by decide +kernel
theorem dX7_number_129 : decode cX7_number 129 = .ok (.goto 5, 3) := by decide +kernel
theorem dX7_number_132 : decode cX7_number 132 = .ok (.iload 6, 2) := by decide +kernel
theorem dX7_number_134 : decode cX7_number 134 = .ok (.istore 6, 2) := by decide +kernel
theorem dX7_number_136 : decode cX7_number 136 = .ok (.iload 4, 2) := by decide +kernel
theorem dX7_number_138 : decode cX7_number 138 = .ok (.ifCond .eq 15, 3) := by decide +kernel
theorem dX7_number_141 : decode cX7_number 141 = .ok (.aload_n 0, 1) := by decide +kernel
theorem dX7_number_142 : decode cX7_number 142 = .ok (.getfield 106, 3) := by decide +kernel
theorem dX7_number_145 : decode cX7_number 145 = .ok (.iload 5, 2) := by decide +kernel
theorem dX7_number_147 : decode cX7_number 147 = .ok (.isub, 1) := by decide +kernel
theorem dX7_number_148 : decode cX7_number 148 = .ok (.bipush 6, 2) := by decide +kernel
theorem dX7_number_150 : decode cX7_number 150 = .ok (.if_icmp .le 13, 3) := by decide +kernel
theorem dX7_number_153 : decode cX7_number 153 = .ok (.aload_n 0, 1) := by decide +kernel
theorem dX7_number_154 : decode cX7_number 154 = .ok (.iconst 1, 1) := by decide +kernel
theorem dX7_number_155 : decode cX7_number 155 = .ok (.iload 5, 2) := by decide +kernel
theorem dX7_number_157 : decode cX7_number 157 = .ok (.invokevirtual 137, 3) := by decide +kernel
theorem dX7_number_160 : decode cX7_number 160 = .ok (.goto 23, 3) := by decide +kernel
theorem dX7_number_163 : decode cX7_number 163 = .ok (.iload 6, 2) := by decide +kernel
theorem dX7_number_165 : decode cX7_number 165 = .ok (.i2l, 1) := by decide +kernel
theorem dX7_number_166 : decode cX7_number 166 = .ok (.iload_n 1, 1) := by decide +kernel
theorem dX7_number_167 : decode cX7_number 167 = .ok (.i2l, 1) := by decide +kernel
theorem dX7_number_168 : decode cX7_number 168 = .ok (.iload_n 2, 1) := by decide +kernel
theorem dX7_number_169 : decode cX7_number 169 = .ok (.i2l, 1) := by decide +kernel
theorem dX7_number_170 : decode cX7_number 170 = .ok (.invokestatic 81, 3) := by decide +kernel
theorem dX7_number_173 : decode cX7_number 173 = .ok (.ifCond .ne 10, 3) := by decide +kernel
theorem dX7_number_176 : decode cX7_number 176 = .ok (.aload_n 0, 1) := by decide +kernel
theorem dX7_number_177 : decode cX7_number 177 = .ok (.iconst 2, 1) := by decide +kernel
theorem dX7_number_178 : decode cX7_number 178 = .ok (.iload 5, 2) := by decide +kernel
theorem dX7_number_180 : decode cX7_number 180 = .ok (.invokevirtual 137, 3) := by decide +kernel
theorem dX7_number_183 : decode cX7_number 183 = .ok (.aload_n 0, 1) := by decide +kernel
theorem dX7_number_184 : decode cX7_number 184 = .ok (.getfield 109, 3) := by decide +kernel
theorem dX7_number_187 : decode cX7_number 187 = .ok (.ifCond .eq 7, 3) := by decide +kernel
theorem dX7_number_190 : decode cX7_number 190 = .ok (.iconst 0, 1) := by decide +kernel
theorem dX7_number_191 : decode cX7_number 191 = .ok (.goto 5, 3) := by decide +kernel
theorem dX7_number_194 : decode cX7_number 194 = .ok (.iload 6, 2) := by decide +kernel
theorem dX7_number_196 : decode cX7_number 196 = .ok (.ireturn, 1) := by decide +kernel
theorem dX7_sign_0 : decode cX7_sign 0 = .ok (.aload_n 0, 1) := by decide +kernel
theorem dX7_sign_1 : decode cX7_sign 1 = .ok (.getfield 109, 3) := by decide +kernel
theorem dX7_sign_4 : decode cX7_sign 4 = .ok (.ifCond .eq 4, 3) := by decide +kernel
theorem dX7_sign_7 : decode cX7_sign 7 = .ok (.return_, 1) := by decide +kernel
theorem dX7_sign_8 : decode cX7_sign 8 = .ok (.aload_n 0, 1) := by decide +kernel
theorem dX7_sign_9 : decode cX7_sign 9 = .ok (.invokevirtual 116, 3) := by decide +kernel
theorem dX7_sign_12 : decode cX7_sign 12 = .ok (.iload_n 1, 1) := by decide +kernel
theorem dX7_sign_13 : decode cX7_sign 13 = .ok (.if_icmp .eq 12, 3) := by decide +kernel
theorem dX7_sign_16 : decode cX7_sign 16 = .ok (.aload_n 0, 1) := by decide +kernel
theorem dX7_sign_17 : decode cX7_sign 17 = .ok (.iconst 1, 1) := by decide +kernel
theorem dX7_sign_18 : decode cX7_sign 18 = .ok (.aload_n 0, 1) := by decide +kernel
theorem dX7_sign_19 : decode cX7_sign 19 = .ok (.getfield 106, 3) := by decide +kernel
theorem dX7_sign_22 : decode cX7_sign 22 = .ok (.invokevirtual 137, 3) := by decide +kernel
theorem dX7_sign_25 : decode cX7_sign 25 = .ok (.aload_n 0, 1) := by decide +kernel
theorem dX7_sign_26 : decode cX7_sign 26 = .ok (.dup, 1) := by decide +kernel
theorem dX7_sign_27 : decode cX7_sign 27 = .ok (.getfield 106, 3) := by decide +kernel
theorem dX7_sign_30 : decode cX7_sign 30 = .ok (.iconst 1, 1) := by decide +kernel
theorem dX7_sign_31 : decode cX7_sign 31 = .ok (.iadd, 1) := by decide +kernel
theorem dX7_sign_32 : decode cX7_sign 32 = .ok (.putfield 106, 3) := by decide +kernel
theorem dX7_sign_35 : decode cX7_sign 35 = .ok (.return_, 1) := by decide +kernel
theorem dX7_readLocation_0 : decode cX7_readLocation 0 = .ok (.aload_n 0, 1) := by decide +kernel
theorem dX7_readLocation_1 : decode cX7_readLocation 1 = .ok (.iconst 0, 1) := by decide +kernel
theorem dX7_readLocation_2 : decode cX7_readLocation 2 = .ok (.bipush 7, 2) := by decide +kernel
theorem dX7_readLocation_4 : decode cX7_readLocation 4 = .ok (.iconst 0, 1) := by decide +kernel
theorem dX7_readLocation_5 : decode cX7_readLocation 5 = .ok (.invokevirtual 141, 3) := by decide +kernel
theorem dX7_readLocation_8 : decode cX7_readLocation 8 = .ok (.istore_n 1, 1) := by decide +kernel
theorem dX7_readLocation_9 : decode cX7_readLocation 9 = .ok (.aload_n 0, 1) := by decide +kernel
theorem dX7_readLocation_10 : decode cX7_readLocation 10 = .ok (.bipush 46, 2) := by decide +kernel
theorem dX7_readLocation_12 : decode cX7_readLocation 12 = .ok (.invokevirtual 145, 3) := by decide +kernel
theorem dX7_readLocation_15 : decode cX7_readLocation 15 = .ok (.bipush 32, 2) := by decide +kernel
theorem dX7_readLocation_17 : decode cX7_readLocation 17 = .ok (.iload_n 1, 1) := by decide +kernel
theorem dX7_readLocation_18 : decode cX7_readLocation 18 = .ok (.imul, 1) := by decide +kernel
theorem dX7_readLocation_19 : decode cX7_readLocation 19 = .ok (.aload_n 0, 1) := by decide +kernel
theorem dX7_readLocation_20 : decode cX7_readLocation 20 = .ok (.iconst 0, 1) := by decide +kernel
theorem dX7_readLocation_21 : decode cX7_readLocation 21 = .ok (.bipush 31, 2) := by decide +kernel
theorem dX7_readLocation_23 : decode cX7_readLocation 23 = .ok (.iconst 0, 1) := by decide +kernel
theorem dX7_readLocation_24 : decode cX7_readLocation 24 = .ok (.invokevirtual 141, 3) := by decide +kernel
theorem dX7_readLocation_27 : decode cX7_readLocation 27 = .ok (.iadd, 1) := by decide +kernel
theorem dX7_readLocation_28 : decode cX7_readLocation 28 = .ok (.ireturn, 1) := by decide +kernel
theorem dX7_opcodeOf_0 : decode cX7_opcodeOf 0 = .ok (.iconst 0, 1) := by decide +kernel
theorem dX7_opcodeOf_1 : decode cX7_opcodeOf 1 = .ok (.istore_n 3, 1) := by decide +kernel
theorem dX7_opcodeOf_2 : decode cX7_opcodeOf 2 = .ok (.iload_n 3, 1) := by decide +kernel
theorem dX7_opcodeOf_3 : decode cX7_opcodeOf 3 = .ok (.bipush 16, 2) := by decide +kernel
theorem dX7_opcodeOf_5 : decode cX7_opcodeOf 5 = .ok (.if_icmp .ge 22, 3) := by decide +kernel
theorem dX7_opcodeOf_8 : decode cX7_opcodeOf 8 = .ok (.aload_n 0, 1) := by decide +kernel
theorem dX7_opcodeOf_9 : decode cX7_opcodeOf 9 = .ok (.getfield 65, 3) := by decide +kernel
theorem dX7_opcodeOf_12 : decode cX7_opcodeOf 12 = .ok (.iload_n 3, 1) := by decide +kernel
theorem dX7_opcodeOf_13 : decode cX7_opcodeOf 13 = .ok (.laload, 1) := by decide +kernel
theorem dX7_opcodeOf_14 : decode cX7_opcodeOf 14 = .ok (.lload_n 1, 1) := by decide +kernel
theorem dX7_opcodeOf_15 : decode cX7_opcodeOf 15 = .ok (.lcmp, 1) := by decide +kernel
theorem dX7_opcodeOf_16 : decode cX7_opcodeOf 16 = .ok (.ifCond .ne 5, 3) := by decide +kernel
theorem dX7_opcodeOf_19 : decode cX7_opcodeOf 19 = .ok (.iload_n 3, 1) := by decide +kernel
theorem dX7_opcodeOf_20 : decode cX7_opcodeOf 20 = .ok (.ireturn, 1) := by decide +kernel
theorem dX7_opcodeOf_21 : decode cX7_opcodeOf 21 = .ok (.iinc 3 1, 3) := by decide +kernel
theorem dX7_opcodeOf_24 : decode cX7_opcodeOf 24 = .ok (.goto (-22), 3) := by decide +kernel
theorem dX7_opcodeOf_27 : decode cX7_opcodeOf 27 = .ok (.iconst (-1), 1) := by decide +kernel
theorem dX7_opcodeOf_28 : decode cX7_opcodeOf 28 = .ok (.ireturn, 1) := by decide +kernel
theorem dX7_hasOperand_0 : decode cX7_hasOperand 0 = .ok (.iload_n 0, 1) := by decide +kernel
theorem dX7_hasOperand_1 : decode cX7_hasOperand 1 = .ok (.ifCond .eq 31, 3) := by decide +kernel
theorem dX7_hasOperand_4 : decode cX7_hasOperand 4 = .ok (.iload_n 0, 1) := by decide +kernel
theorem dX7_hasOperand_5 : decode cX7_hasOperand 5 = .ok (.bipush 8, 2) := by decide +kernel
theorem dX7_hasOperand_7 : decode cX7_hasOperand 7 = .ok (.if_icmp .eq 25, 3) := by decide +kernel
theorem dX7_hasOperand_10 : decode cX7_hasOperand 10 = .ok (.iload_n 0, 1) := by decide +kernel
theorem dX7_hasOperand_11 : decode cX7_hasOperand 11 = .ok (.bipush 9, 2) := by decide +kernel
theorem dX7_hasOperand_13 : decode cX7_hasOperand 13 = .ok (.if_icmp .eq 19, 3) := by decide +kernel
theorem dX7_hasOperand_16 : decode cX7_hasOperand 16 = .ok (.iload_n 0, 1) := by decide +kernel
theorem dX7_hasOperand_17 : decode cX7_hasOperand 17 = .ok (.bipush 13, 2) := by decide +kernel
theorem dX7_hasOperand_19 : decode cX7_hasOperand 19 = .ok (.if_icmp .eq 13, 3) := by decide +kernel
theorem dX7_hasOperand_22 : decode cX7_hasOperand 22 = .ok (.iload_n 0, 1) := by decide +kernel
theorem dX7_hasOperand_23 : decode cX7_hasOperand 23 = .ok (.bipush 14, 2) := by decide +kernel
theorem dX7_hasOperand_25 : decode cX7_hasOperand 25 = .ok (.if_icmp .eq 7, 3) := by decide +kernel
theorem dX7_hasOperand_28 : decode cX7_hasOperand 28 = .ok (.iconst 1, 1) := by decide +kernel
theorem dX7_hasOperand_29 : decode cX7_hasOperand 29 = .ok (.goto 4, 3) := by decide +kernel
theorem dX7_hasOperand_32 : decode cX7_hasOperand 32 = .ok (.iconst 0, 1) := by decide +kernel
theorem dX7_hasOperand_33 : decode cX7_hasOperand 33 = .ok (.ireturn, 1) := by decide +kernel
theorem dX7_coded_0 : decode cX7_coded 0 = .ok (.iload_n 0, 1) := by decide +kernel
theorem dX7_coded_1 : decode cX7_coded 1 = .ok (.iload_n 1, 1) := by decide +kernel
theorem dX7_coded_2 : decode cX7_coded 2 = .ok (.bipush 32, 2) := by decide +kernel
theorem dX7_coded_4 : decode cX7_coded 4 = .ok (.idiv, 1) := by decide +kernel
theorem dX7_coded_5 : decode cX7_coded 5 = .ok (.iconst 4, 1) := by decide +kernel
theorem dX7_coded_6 : decode cX7_coded 6 = .ok (.ishl, 1) := by decide +kernel
theorem dX7_coded_7 : decode cX7_coded 7 = .ok (.ior, 1) := by decide +kernel
theorem dX7_coded_8 : decode cX7_coded 8 = .ok (.iload_n 1, 1) := by decide +kernel
theorem dX7_coded_9 : decode cX7_coded 9 = .ok (.bipush 32, 2) := by decide +kernel
theorem dX7_coded_11 : decode cX7_coded 11 = .ok (.irem, 1) := by decide +kernel
theorem dX7_coded_12 : decode cX7_coded 12 = .ok (.bipush 7, 2) := by decide +kernel
theorem dX7_coded_14 : decode cX7_coded 14 = .ok (.ishl, 1) := by decide +kernel
theorem dX7_coded_15 : decode cX7_coded 15 = .ok (.ior, 1) := by decide +kernel
theorem dX7_coded_16 : decode cX7_coded 16 = .ok (.iload_n 2, 1) := by decide +kernel
theorem dX7_coded_17 : decode cX7_coded 17 = .ok (.bipush 32, 2) := by decide +kernel
theorem dX7_coded_19 : decode cX7_coded 19 = .ok (.idiv, 1) := by decide +kernel
theorem dX7_coded_20 : decode cX7_coded 20 = .ok (.bipush 12, 2) := by decide +kernel
theorem dX7_coded_22 : decode cX7_coded 22 = .ok (.ishl, 1) := by decide +kernel
theorem dX7_coded_23 : decode cX7_coded 23 = .ok (.ior, 1) := by decide +kernel
theorem dX7_coded_24 : decode cX7_coded 24 = .ok (.iload_n 2, 1) := by decide +kernel
theorem dX7_coded_25 : decode cX7_coded 25 = .ok (.bipush 32, 2) := by decide +kernel
theorem dX7_coded_27 : decode cX7_coded 27 = .ok (.irem, 1) := by decide +kernel
theorem dX7_coded_28 : decode cX7_coded 28 = .ok (.bipush 15, 2) := by decide +kernel
theorem dX7_coded_30 : decode cX7_coded 30 = .ok (.ishl, 1) := by decide +kernel
theorem dX7_coded_31 : decode cX7_coded 31 = .ok (.ior, 1) := by decide +kernel
theorem dX7_coded_32 : decode cX7_coded 32 = .ok (.ireturn, 1) := by decide +kernel
theorem dX7_after_0 : decode cX7_after 0 = .ok (.iload_n 0, 1) := by decide +kernel
theorem dX7_after_1 : decode cX7_after 1 = .ok (.bipush 32, 2) := by decide +kernel
theorem dX7_after_3 : decode cX7_after 3 = .ok (.idiv, 1) := by decide +kernel
theorem dX7_after_4 : decode cX7_after 4 = .ok (.bipush 32, 2) := by decide +kernel
theorem dX7_after_6 : decode cX7_after 6 = .ok (.imul, 1) := by decide +kernel
theorem dX7_after_7 : decode cX7_after 7 = .ok (.iload_n 0, 1) := by decide +kernel
theorem dX7_after_8 : decode cX7_after 8 = .ok (.iconst 1, 1) := by decide +kernel
theorem dX7_after_9 : decode cX7_after 9 = .ok (.iadd, 1) := by decide +kernel
theorem dX7_after_10 : decode cX7_after 10 = .ok (.bipush 32, 2) := by decide +kernel
theorem dX7_after_12 : decode cX7_after 12 = .ok (.irem, 1) := by decide +kernel
theorem dX7_after_13 : decode cX7_after 13 = .ok (.iadd, 1) := by decide +kernel
theorem dX7_after_14 : decode cX7_after 14 = .ok (.ireturn, 1) := by decide +kernel
theorem dX7_writes_0 : decode cX7_writes 0 = .ok (.aload_n 0, 1) := by decide +kernel
theorem dX7_writes_1 : decode cX7_writes 1 = .ok (.getfield 26, 3) := by decide +kernel
theorem dX7_writes_4 : decode cX7_writes 4 = .ok (.aload_n 0, 1) := by decide +kernel
theorem dX7_writes_5 : decode cX7_writes 5 = .ok (.getfield 148, 3) := by decide +kernel
theorem dX7_writes_8 : decode cX7_writes 8 = .ok (.iload_n 1, 1) := by decide +kernel
theorem dX7_writes_9 : decode cX7_writes 9 = .ok (.ldc 94, 2) := by decide +kernel
theorem dX7_writes_11 : decode cX7_writes 11 = .ok (.iand, 1) := by decide +kernel
theorem dX7_writes_12 : decode cX7_writes 12 = .ok (.iastore, 1) := by decide +kernel
theorem dX7_writes_13 : decode cX7_writes 13 = .ok (.aload_n 0, 1) := by decide +kernel
theorem dX7_writes_14 : decode cX7_writes 14 = .ok (.getfield 29, 3) := by decide +kernel
theorem dX7_writes_17 : decode cX7_writes 17 = .ok (.aload_n 0, 1) := by decide +kernel
theorem dX7_writes_18 : decode cX7_writes 18 = .ok (.getfield 148, 3) := by decide +kernel
theorem dX7_writes_21 : decode cX7_writes 21 = .ok (.iconst 1, 1) := by decide +kernel
theorem dX7_writes_22 : decode cX7_writes 22 = .ok (.bastore, 1) := by decide +kernel
theorem dX7_writes_23 : decode cX7_writes 23 = .ok (.aload_n 0, 1) := by decide +kernel
theorem dX7_writes_24 : decode cX7_writes 24 = .ok (.aload_n 0, 1) := by decide +kernel
theorem dX7_writes_25 : decode cX7_writes 25 = .ok (.getfield 148, 3) := by decide +kernel
theorem dX7_writes_28 : decode cX7_writes 28 = .ok (.invokestatic 151, 3) := by decide +kernel
theorem dX7_writes_31 : decode cX7_writes 31 = .ok (.putfield 148, 3) := by decide +kernel
theorem dX7_writes_34 : decode cX7_writes 34 = .ok (.return_, 1) := by decide +kernel
theorem dX7_instruction_0 : decode cX7_instruction 0 = .ok (.iload_n 1, 1) := by decide +kernel
theorem dX7_instruction_1 : decode cX7_instruction 1 = .ok (.invokestatic 154, 3) := by decide +kernel
theorem dX7_instruction_4 : decode cX7_instruction 4 = .ok (.ifCond .eq 10, 3) := by decide +kernel
theorem dX7_instruction_7 : decode cX7_instruction 7 = .ok (.aload_n 0, 1) := by decide +kernel
theorem dX7_instruction_8 : decode cX7_instruction 8 = .ok (.invokevirtual 157, 3) := by decide +kernel
theorem dX7_instruction_11 : decode cX7_instruction 11 = .ok (.goto 27, 3) := by decide +kernel
theorem dX7_instruction_14 : decode cX7_instruction 14 = .ok (.iload_n 1, 1) := by decide +kernel
theorem dX7_instruction_15 : decode cX7_instruction 15 = .ok (.bipush 8, 2) := by decide +kernel
theorem dX7_instruction_17 : decode cX7_instruction 17 = .ok (.if_icmp .eq 9, 3) := by decide +kernel
theorem dX7_instruction_20 : decode cX7_instruction 20 = .ok (.iload_n 1, 1) := by decide +kernel
theorem dX7_instruction_21 : decode cX7_instruction 21 = .ok (.bipush 9, 2) := by decide +kernel
theorem dX7_instruction_23 : decode cX7_instruction 23 = .ok (.if_icmp .ne 14, 3) := by decide +kernel
theorem dX7_instruction_26 : decode cX7_instruction 26 = .ok (.aload_n 0, 1) := by decide +kernel
theorem dX7_instruction_27 : decode cX7_instruction 27 = .ok (.iconst 0, 1) := by decide +kernel
theorem dX7_instruction_28 : decode cX7_instruction 28 = .ok (.bipush 31, 2) := by decide +kernel
theorem dX7_instruction_30 : decode cX7_instruction 30 = .ok (.iconst 0, 1) := by decide +kernel
theorem dX7_instruction_31 : decode cX7_instruction 31 = .ok (.invokevirtual 141, 3) := by decide +kernel
theorem dX7_instruction_34 : decode cX7_instruction 34 = .ok (.goto 4, 3) := by decide +kernel
theorem dX7_instruction_37 : decode cX7_instruction 37 = .ok (.iconst 0, 1) := by decide +kernel
theorem dX7_instruction_38 : decode cX7_instruction 38 = .ok (.istore_n 2, 1) := by decide +kernel
theorem dX7_instruction_39 : decode cX7_instruction 39 = .ok (.aload_n 0, 1) := by decide +kernel
theorem dX7_instruction_40 : decode cX7_instruction 40 = .ok (.getfield 148, 3) := by decide +kernel
theorem dX7_instruction_43 : decode cX7_instruction 43 = .ok (.invokestatic 151, 3) := by decide +kernel
theorem dX7_instruction_46 : decode cX7_instruction 46 = .ok (.istore_n 3, 1) := by decide +kernel
theorem dX7_instruction_47 : decode cX7_instruction 47 = .ok (.aload_n 0, 1) := by decide +kernel
theorem dX7_instruction_48 : decode cX7_instruction 48 = .ok (.getfield 109, 3) := by decide +kernel
theorem dX7_instruction_51 : decode cX7_instruction 51 = .ok (.ifCond .ne 45, 3) := by decide +kernel
theorem dX7_instruction_54 : decode cX7_instruction 54 = .ok (.aload_n 0, 1) := by decide +kernel
theorem dX7_instruction_55 : decode cX7_instruction 55 = .ok (.invokevirtual 116, 3) := by decide +kernel
theorem dX7_instruction_58 : decode cX7_instruction 58 = .ok (.i2l, 1) := by decide +kernel
theorem dX7_instruction_59 : decode cX7_instruction 59 = .ok (.ldc2_w 120, 3) := by decide +kernel
theorem dX7_instruction_62 : decode cX7_instruction 62 = .ok (.ldc2_w 122, 3) := by decide +kernel
theorem dX7_instruction_65 : decode cX7_instruction 65 = .ok (.invokestatic 81, 3) := by decide +kernel
theorem dX7_instruction_68 : decode cX7_instruction 68 = .ok (.ifCond .eq 28, 3) := by decide +kernel
theorem dX7_instruction_71 : decode cX7_instruction 71 = .ok (.aload_n 0, 1) := by decide +kernel
theorem dX7_instruction_72 : decode cX7_instruction 72 = .ok (.invokevirtual 160, 3) := by decide +kernel
theorem dX7_instruction_75 : decode cX7_instruction 75 = .ok (.ldc2_w 164, 3) := by decide +kernel
theorem dX7_instruction_78 : decode cX7_instruction 78 = .ok (.lcmp, 1) := by decide +kernel
theorem dX7_instruction_79 : decode cX7_instruction 79 = .ok (.ifCond .eq 12, 3) := by decide +kernel
theorem dX7_instruction_82 : decode cX7_instruction 82 = .ok (.aload_n 0, 1) := by decide +kernel
theorem dX7_instruction_83 : decode cX7_instruction 83 = .ok (.iconst 1, 1) := by decide +kernel
theorem dX7_instruction_84 : decode cX7_instruction 84 = .ok (.aload_n 0, 1) := by decide +kernel
theorem dX7_instruction_85 : decode cX7_instruction 85 = .ok (.getfield 124, 3) := by decide +kernel
theorem dX7_instruction_88 : decode cX7_instruction 88 = .ok (.invokevirtual 137, 3) := by decide +kernel
theorem dX7_instruction_91 : decode cX7_instruction 91 = .ok (.aload_n 0, 1) := by decide +kernel
theorem dX7_instruction_92 : decode cX7_instruction 92 = .ok (.invokevirtual 157, 3) := by decide +kernel
theorem dX7_instruction_95 : decode cX7_instruction 95 = .ok (.istore_n 3, 1) := by decide +kernel
theorem dX7_instruction_96 : decode cX7_instruction 96 = .ok (.aload_n 0, 1) := by decide +kernel
theorem dX7_instruction_97 : decode cX7_instruction 97 = .ok (.getfield 109, 3) := by decide +kernel
theorem dX7_instruction_100 : decode cX7_instruction 100 = .ok (.ifCond .ne 13, 3) := by decide +kernel
theorem dX7_instruction_103 : decode cX7_instruction 103 = .ok (.aload_n 0, 1) := by decide +kernel
theorem dX7_instruction_104 : decode cX7_instruction 104 = .ok (.iload_n 1, 1) := by decide +kernel
theorem dX7_instruction_105 : decode cX7_instruction 105 = .ok (.iload_n 2, 1) := by decide +kernel
theorem dX7_instruction_106 : decode cX7_instruction 106 = .ok (.iload_n 3, 1) := by decide +kernel
theorem dX7_instruction_107 : decode cX7_instruction 107 = .ok (.invokestatic 166, 3) := by decide +kernel
theorem dX7_instruction_110 : decode cX7_instruction 110 = .ok (.invokevirtual 170, 3) := by decide +kernel
theorem dX7_instruction_113 : decode cX7_instruction 113 = .ok (.return_, 1) := by decide +kernel
theorem dX7_statement_0 : decode cX7_statement 0 = .ok (.aload_n 0, 1) := by decide +kernel
theorem dX7_statement_1 : decode cX7_statement 1 = .ok (.invokevirtual 160, 3) := by decide +kernel
theorem dX7_statement_4 : decode cX7_statement 4 = .ok (.lstore_n 1, 1) := by decide +kernel
theorem dX7_statement_5 : decode cX7_statement 5 = .ok (.aload_n 0, 1) := by decide +kernel
theorem dX7_statement_6 : decode cX7_statement 6 = .ok (.getfield 124, 3) := by decide +kernel
theorem dX7_statement_9 : decode cX7_statement 9 = .ok (.istore_n 3, 1) := by decide +kernel
theorem dX7_statement_10 : decode cX7_statement 10 = .ok (.aload_n 0, 1) := by decide +kernel
theorem dX7_statement_11 : decode cX7_statement 11 = .ok (.lload_n 1, 1) := by decide +kernel
theorem dX7_statement_12 : decode cX7_statement 12 = .ok (.invokevirtual 173, 3) := by decide +kernel
theorem dX7_statement_15 : decode cX7_statement 15 = .ok (.istore 4, 2) := by decide +kernel
theorem dX7_statement_17 : decode cX7_statement 17 = .ok (.lload_n 1, 1) := by decide +kernel
theorem dX7_statement_18 : decode cX7_statement 18 = .ok (.ldc2_w 177, 3) := by decide +kernel
theorem dX7_statement_21 : decode cX7_statement 21 = .ok (.lcmp, 1) := by decide +kernel
theorem dX7_statement_22 : decode cX7_statement 22 = .ok (.ifCond .ne 14, 3) := by decide +kernel
theorem dX7_statement_25 : decode cX7_statement 25 = .ok (.aload_n 0, 1) := by decide +kernel
theorem dX7_statement_26 : decode cX7_statement 26 = .ok (.aload_n 0, 1) := by decide +kernel
theorem dX7_statement_27 : decode cX7_statement 27 = .ok (.invokevirtual 157, 3) := by decide +kernel
theorem dX7_statement_30 : decode cX7_statement 30 = .ok (.putfield 148, 3) := by decide +kernel
theorem dX7_statement_33 : decode cX7_statement 33 = .ok (.goto 141, 3) := by decide +kernel
theorem dX7_statement_36 : decode cX7_statement 36 = .ok (.lload_n 1, 1) := by decide +kernel
theorem dX7_statement_37 : decode cX7_statement 37 = .ok (.ldc2_w 179, 3) := by decide +kernel
theorem dX7_statement_40 : decode cX7_statement 40 = .ok (.lcmp, 1) := by decide +kernel
theorem dX7_statement_41 : decode cX7_statement 41 = .ok (.ifCond .ne 14, 3) := by decide +kernel
theorem dX7_statement_44 : decode cX7_statement 44 = .ok (.aload_n 0, 1) := by decide +kernel
theorem dX7_statement_45 : decode cX7_statement 45 = .ok (.aload_n 0, 1) := by decide +kernel
theorem dX7_statement_46 : decode cX7_statement 46 = .ok (.invokevirtual 157, 3) := by decide +kernel
theorem dX7_statement_49 : decode cX7_statement 49 = .ok (.putfield 181, 3) := by decide +kernel
theorem dX7_statement_52 : decode cX7_statement 52 = .ok (.goto 122, 3) := by decide +kernel
theorem dX7_statement_55 : decode cX7_statement 55 = .ok (.iload 4, 2) := by decide +kernel
theorem dX7_statement_57 : decode cX7_statement 57 = .ok (.iconst (-1), 1) := by decide +kernel
theorem dX7_statement_58 : decode cX7_statement 58 = .ok (.if_icmp .ne 20, 3) := by decide +kernel
theorem dX7_statement_61 : decode cX7_statement 61 = .ok (.lload_n 1, 1) := by decide +kernel
theorem dX7_statement_62 : decode cX7_statement 62 = .ok (.ldc2_w 184, 3) := by decide +kernel
theorem dX7_statement_65 : decode cX7_statement 65 = .ok (.lcmp, 1) := by decide +kernel
theorem dX7_statement_66 : decode cX7_statement 66 = .ok (.ifCond .eq 12, 3) := by decide +kernel
theorem dX7_statement_69 : decode cX7_statement 69 = .ok (.aload_n 0, 1) := by decide +kernel
theorem dX7_statement_70 : decode cX7_statement 70 = .ok (.iconst 1, 1) := by decide +kernel
theorem dX7_statement_71 : decode cX7_statement 71 = .ok (.iload_n 3, 1) := by decide +kernel
theorem dX7_statement_72 : decode cX7_statement 72 = .ok (.invokevirtual 137, 3) := by decide +kernel
theorem dX7_statement_75 : decode cX7_statement 75 = .ok (.goto 99, 3) := by decide +kernel
theorem dX7_statement_78 : decode cX7_statement 78 = .ok (.aload_n 0, 1) := by decide +kernel
theorem dX7_statement_79 : decode cX7_statement 79 = .ok (.getfield 29, 3) := by decide +kernel
theorem dX7_statement_82 : decode cX7_statement 82 = .ok (.aload_n 0, 1) := by decide +kernel
theorem dX7_statement_83 : decode cX7_statement 83 = .ok (.getfield 148, 3) := by decide +kernel
theorem dX7_statement_86 : decode cX7_statement 86 = .ok (.baload, 1) := by decide +kernel
theorem dX7_statement_87 : decode cX7_statement 87 = .ok (.ifCond .eq 12, 3) := by decide +kernel
theorem dX7_statement_90 : decode cX7_statement 90 = .ok (.aload_n 0, 1) := by decide +kernel
theorem dX7_statement_91 : decode cX7_statement 91 = .ok (.iconst 3, 1) := by decide +kernel
theorem dX7_statement_92 : decode cX7_statement 92 = .ok (.iload_n 3, 1) := by decide +kernel
theorem dX7_statement_93 : decode cX7_statement 93 = .ok (.invokevirtual 137, 3) := by decide +kernel
theorem dX7_statement_96 : decode cX7_statement 96 = .ok (.goto 78, 3) := by decide +kernel
theorem dX7_statement_99 : decode cX7_statement 99 = .ok (.iload 4, 2) := by decide +kernel
theorem dX7_statement_101 : decode cX7_statement 101 = .ok (.iconst (-1), 1) := by decide +kernel
theorem dX7_statement_102 : decode cX7_statement 102 = .ok (.if_icmp .ne 66, 3) := by decide +kernel
theorem dX7_statement_105 : decode cX7_statement 105 = .ok (.aload_n 0, 1) := by decide +kernel
theorem dX7_statement_106 : decode cX7_statement 106 = .ok (.invokevirtual 116, 3) := by decide +kernel
theorem dX7_statement_109 : decode cX7_statement 109 = .ok (.bipush 45, 2) := by decide +kernel
theorem dX7_statement_111 : decode cX7_statement 111 = .ok (.if_icmp .ne 7, 3) := by decide +kernel
theorem dX7_statement_114 : decode cX7_statement 114 = .ok (.iconst 1, 1) := by decide +kernel
theorem dX7_statement_115 : decode cX7_statement 115 = .ok (.goto 4, 3) := by decide +kernel
theorem dX7_statement_118 : decode cX7_statement 118 = .ok (.iconst 0, 1) := by decide +kernel
theorem dX7_statement_119 : decode cX7_statement 119 = .ok (.istore 5, 2) := by decide +kernel
theorem dX7_statement_121 : decode cX7_statement 121 = .ok (.aload_n 0, 1) := by decide +kernel
theorem dX7_statement_122 : decode cX7_statement 122 = .ok (.dup, 1) := by decide +kernel
theorem dX7_statement_123 : decode cX7_statement 123 = .ok (.getfield 106, 3) := by decide +kernel
theorem dX7_statement_126 : decode cX7_statement 126 = .ok (.iload 5, 2) := by decide +kernel
theorem dX7_statement_128 : decode cX7_statement 128 = .ok (.ifCond .eq 7, 3) := by decide +kernel
theorem dX7_statement_131 : decode cX7_statement 131 = .ok (.iconst 1, 1) := by decide +kernel
theorem dX7_statement_132 : decode cX7_statement 132 = .ok (.goto 4, 3) := by decide +kernel
theorem dX7_statement_135 : decode cX7_statement 135 = .ok (.iconst 0, 1) := by decide +kernel
theorem dX7_statement_136 : decode cX7_statement 136 = .ok (.iadd, 1) := by decide +kernel
theorem dX7_statement_137 : decode cX7_statement 137 = .ok (.putfield 106, 3) := by decide +kernel
theorem dX7_statement_140 : decode cX7_statement 140 = .ok (.aload_n 0, 1) := by decide +kernel
theorem dX7_statement_141 : decode cX7_statement 141 = .ok (.ldc 186, 2) := by decide +kernel
theorem dX7_statement_143 : decode cX7_statement 143 = .ok (.ldc 93, 2) := by decide +kernel
theorem dX7_statement_145 : decode cX7_statement 145 = .ok (.iload 5, 2) := by decide +kernel
theorem dX7_statement_147 : decode cX7_statement 147 = .ok (.invokevirtual 141, 3) := by decide +kernel
theorem dX7_statement_150 : decode cX7_statement 150 = .ok (.istore 6, 2) := by decide +kernel
theorem dX7_statement_152 : decode cX7_statement 152 = .ok (.aload_n 0, 1) := by decide +kernel
theorem dX7_statement_153 : decode cX7_statement 153 = .ok (.getfield 109, 3) := by decide +kernel
theorem dX7_statement_156 : decode cX7_statement 156 = .ok (.ifCond .ne 9, 3) := by decide +kernel
theorem dX7_statement_159 : decode cX7_statement 159 = .ok (.aload_n 0, 1) := by decide +kernel
theorem dX7_statement_160 : decode cX7_statement 160 = .ok (.iload 6, 2) := by decide +kernel
theorem dX7_statement_162 : decode cX7_statement 162 = .ok (.invokevirtual 170, 3) := by decide +kernel
theorem dX7_statement_165 : decode cX7_statement 165 = .ok (.goto 9, 3) := by decide +kernel
theorem dX7_statement_168 : decode cX7_statement 168 = .ok (.aload_n 0, 1) := by decide +kernel
theorem dX7_statement_169 : decode cX7_statement 169 = .ok (.iload 4, 2) := by decide +kernel
theorem dX7_statement_171 : decode cX7_statement 171 = .ok (.invokevirtual 187, 3) := by decide +kernel
theorem dX7_statement_174 : decode cX7_statement 174 = .ok (.aload_n 0, 1) := by decide +kernel
theorem dX7_statement_175 : decode cX7_statement 175 = .ok (.bipush 59, 2) := by decide +kernel
theorem dX7_statement_177 : decode cX7_statement 177 = .ok (.invokevirtual 145, 3) := by decide +kernel
theorem dX7_statement_180 : decode cX7_statement 180 = .ok (.return_, 1) := by decide +kernel
theorem dX7_assemble_0 : decode cX7_assemble 0 = .ok (.aload_n 0, 1) := by decide +kernel
theorem dX7_assemble_1 : decode cX7_assemble 1 = .ok (.iconst 0, 1) := by decide +kernel
theorem dX7_assemble_2 : decode cX7_assemble 2 = .ok (.putfield 76, 3) := by decide +kernel
theorem dX7_assemble_5 : decode cX7_assemble 5 = .ok (.aload_n 0, 1) := by decide +kernel
theorem dX7_assemble_6 : decode cX7_assemble 6 = .ok (.iconst 0, 1) := by decide +kernel
theorem dX7_assemble_7 : decode cX7_assemble 7 = .ok (.putfield 113, 3) := by decide +kernel
theorem dX7_assemble_10 : decode cX7_assemble 10 = .ok (.aload_n 0, 1) := by decide +kernel
theorem dX7_assemble_11 : decode cX7_assemble 11 = .ok (.iconst (-1), 1) := by decide +kernel
theorem dX7_assemble_12 : decode cX7_assemble 12 = .ok (.putfield 22, 3) := by decide +kernel
theorem dX7_assemble_15 : decode cX7_assemble 15 = .ok (.aload_n 0, 1) := by decide +kernel
theorem dX7_assemble_16 : decode cX7_assemble 16 = .ok (.iconst 0, 1) := by decide +kernel
theorem dX7_assemble_17 : decode cX7_assemble 17 = .ok (.putfield 109, 3) := by decide +kernel
theorem dX7_assemble_20 : decode cX7_assemble 20 = .ok (.aload_n 0, 1) := by decide +kernel
theorem dX7_assemble_21 : decode cX7_assemble 21 = .ok (.iconst 0, 1) := by decide +kernel
theorem dX7_assemble_22 : decode cX7_assemble 22 = .ok (.putfield 106, 3) := by decide +kernel
theorem dX7_assemble_25 : decode cX7_assemble 25 = .ok (.aload_n 0, 1) := by decide +kernel
theorem dX7_assemble_26 : decode cX7_assemble 26 = .ok (.iconst 0, 1) := by decide +kernel
theorem dX7_assemble_27 : decode cX7_assemble 27 = .ok (.putfield 148, 3) := by decide +kernel
theorem dX7_assemble_30 : decode cX7_assemble 30 = .ok (.aload_n 0, 1) := by decide +kernel
theorem dX7_assemble_31 : decode cX7_assemble 31 = .ok (.iconst (-1), 1) := by decide +kernel
theorem dX7_assemble_32 : decode cX7_assemble 32 = .ok (.putfield 181, 3) := by decide +kernel
theorem dX7_assemble_35 : decode cX7_assemble 35 = .ok (.iconst 0, 1) := by decide +kernel
theorem dX7_assemble_36 : decode cX7_assemble 36 = .ok (.istore_n 1, 1) := by decide +kernel
theorem dX7_assemble_37 : decode cX7_assemble 37 = .ok (.iload_n 1, 1) := by decide +kernel
theorem dX7_assemble_38 : decode cX7_assemble 38 = .ok (.sipush 256, 3) := by decide +kernel
theorem dX7_assemble_41 : decode cX7_assemble 41 = .ok (.if_icmp .ge 16, 3) := by decide +kernel
theorem dX7_assemble_44 : decode cX7_assemble 44 = .ok (.aload_n 0, 1) := by decide +kernel
theorem dX7_assemble_45 : decode cX7_assemble 45 = .ok (.getfield 29, 3) := by decide +kernel
theorem dX7_assemble_48 : decode cX7_assemble 48 = .ok (.iload_n 1, 1) := by decide +kernel
theorem dX7_assemble_49 : decode cX7_assemble 49 = .ok (.iconst 0, 1) := by decide +kernel
theorem dX7_assemble_50 : decode cX7_assemble 50 = .ok (.bastore, 1) := by decide +kernel
theorem dX7_assemble_51 : decode cX7_assemble 51 = .ok (.iinc 1 1, 3) := by decide +kernel
theorem dX7_assemble_54 : decode cX7_assemble 54 = .ok (.goto (-17), 3) := by decide +kernel
theorem dX7_assemble_57 : decode cX7_assemble 57 = .ok (.aload_n 0, 1) := by decide +kernel
theorem dX7_assemble_58 : decode cX7_assemble 58 = .ok (.getfield 109, 3) := by decide +kernel
theorem dX7_assemble_61 : decode cX7_assemble 61 = .ok (.ifCond .ne 18, 3) := by decide +kernel
theorem dX7_assemble_64 : decode cX7_assemble 64 = .ok (.aload_n 0, 1) := by decide +kernel
theorem dX7_assemble_65 : decode cX7_assemble 65 = .ok (.invokevirtual 116, 3) := by decide +kernel
theorem dX7_assemble_68 : decode cX7_assemble 68 = .ok (.iconst (-1), 1) := by decide +kernel
theorem dX7_assemble_69 : decode cX7_assemble 69 = .ok (.if_icmp .eq 10, 3) := by decide +kernel
theorem dX7_assemble_72 : decode cX7_assemble 72 = .ok (.aload_n 0, 1) := by decide +kernel
theorem dX7_assemble_73 : decode cX7_assemble 73 = .ok (.invokevirtual 190, 3) := by decide +kernel
theorem dX7_assemble_76 : decode cX7_assemble 76 = .ok (.goto (-19), 3) := by decide +kernel
theorem dX7_assemble_79 : decode cX7_assemble 79 = .ok (.aload_n 0, 1) := by decide +kernel
theorem dX7_assemble_80 : decode cX7_assemble 80 = .ok (.iconst 0, 1) := by decide +kernel
theorem dX7_assemble_81 : decode cX7_assemble 81 = .ok (.putfield 95, 3) := by decide +kernel
theorem dX7_assemble_84 : decode cX7_assemble 84 = .ok (.aload_n 0, 1) := by decide +kernel
theorem dX7_assemble_85 : decode cX7_assemble 85 = .ok (.getfield 109, 3) := by decide +kernel
theorem dX7_assemble_88 : decode cX7_assemble 88 = .ok (.ifCond .eq 9, 3) := by decide +kernel
theorem dX7_assemble_91 : decode cX7_assemble 91 = .ok (.aload_n 0, 1) := by decide +kernel
theorem dX7_assemble_92 : decode cX7_assemble 92 = .ok (.iconst 1, 1) := by decide +kernel
theorem dX7_assemble_93 : decode cX7_assemble 93 = .ok (.invokevirtual 98, 3) := by decide +kernel
theorem dX7_assemble_96 : decode cX7_assemble 96 = .ok (.ireturn, 1) := by decide +kernel
theorem dX7_assemble_97 : decode cX7_assemble 97 = .ok (.iconst 0, 1) := by decide +kernel
theorem dX7_assemble_98 : decode cX7_assemble 98 = .ok (.istore_n 1, 1) := by decide +kernel
theorem dX7_assemble_99 : decode cX7_assemble 99 = .ok (.iconst 0, 1) := by decide +kernel
theorem dX7_assemble_100 : decode cX7_assemble 100 = .ok (.istore_n 2, 1) := by decide +kernel
theorem dX7_assemble_101 : decode cX7_assemble 101 = .ok (.iload_n 2, 1) := by decide +kernel
theorem dX7_assemble_102 : decode cX7_assemble 102 = .ok (.sipush 256, 3) := by decide +kernel
theorem dX7_assemble_105 : decode cX7_assemble 105 = .ok (.if_icmp .ge 37, 3) := by decide +kernel
theorem dX7_assemble_108 : decode cX7_assemble 108 = .ok (.aload_n 0, 1) := by decide +kernel
theorem dX7_assemble_109 : decode cX7_assemble 109 = .ok (.getfield 29, 3) := by decide +kernel
theorem dX7_assemble_112 : decode cX7_assemble 112 = .ok (.iload_n 2, 1) := by decide +kernel
theorem dX7_assemble_113 : decode cX7_assemble 113 = .ok (.baload, 1) := by decide +kernel
theorem dX7_assemble_114 : decode cX7_assemble 114 = .ok (.ifCond .eq 22, 3) := by decide +kernel
theorem dX7_assemble_117 : decode cX7_assemble 117 = .ok (.aload_n 0, 1) := by decide +kernel
theorem dX7_assemble_118 : decode cX7_assemble 118 = .ok (.getfield 7, 3) := by decide +kernel
theorem dX7_assemble_121 : decode cX7_assemble 121 = .ok (.sipush 414, 3) := by decide +kernel
theorem dX7_assemble_124 : decode cX7_assemble 124 = .ok (.iload_n 2, 1) := by decide +kernel
theorem dX7_assemble_125 : decode cX7_assemble 125 = .ok (.iadd, 1) := by decide +kernel
theorem dX7_assemble_126 : decode cX7_assemble 126 = .ok (.aload_n 0, 1) := by decide +kernel
theorem dX7_assemble_127 : decode cX7_assemble 127 = .ok (.getfield 26, 3) := by decide +kernel
theorem dX7_assemble_130 : decode cX7_assemble 130 = .ok (.iload_n 2, 1) := by decide +kernel
theorem dX7_assemble_131 : decode cX7_assemble 131 = .ok (.iaload, 1) := by decide +kernel
theorem dX7_assemble_132 : decode cX7_assemble 132 = .ok (.iastore, 1) := by decide +kernel
theorem dX7_assemble_133 : decode cX7_assemble 133 = .ok (.iinc 1 1, 3) := by decide +kernel
theorem dX7_assemble_136 : decode cX7_assemble 136 = .ok (.iinc 2 1, 3) := by decide +kernel
theorem dX7_assemble_139 : decode cX7_assemble 139 = .ok (.goto (-38), 3) := by decide +kernel
theorem dX7_assemble_142 : decode cX7_assemble 142 = .ok (.aload_n 0, 1) := by decide +kernel
theorem dX7_assemble_143 : decode cX7_assemble 143 = .ok (.getfield 181, 3) := by decide +kernel
theorem dX7_assemble_146 : decode cX7_assemble 146 = .ok (.iconst (-1), 1) := by decide +kernel
theorem dX7_assemble_147 : decode cX7_assemble 147 = .ok (.if_icmp .eq 20, 3) := by decide +kernel
theorem dX7_assemble_150 : decode cX7_assemble 150 = .ok (.aload_n 0, 1) := by decide +kernel
theorem dX7_assemble_151 : decode cX7_assemble 151 = .ok (.getfield 7, 3) := by decide +kernel
theorem dX7_assemble_154 : decode cX7_assemble 154 = .ok (.iconst 4, 1) := by decide +kernel
theorem dX7_assemble_155 : decode cX7_assemble 155 = .ok (.iconst 0, 1) := by decide +kernel
theorem dX7_assemble_156 : decode cX7_assemble 156 = .ok (.iastore, 1) := by decide +kernel
theorem dX7_assemble_157 : decode cX7_assemble 157 = .ok (.aload_n 0, 1) := by decide +kernel
theorem dX7_assemble_158 : decode cX7_assemble 158 = .ok (.getfield 7, 3) := by decide +kernel
theorem dX7_assemble_161 : decode cX7_assemble 161 = .ok (.iconst 3, 1) := by decide +kernel
theorem dX7_assemble_162 : decode cX7_assemble 162 = .ok (.aload_n 0, 1) := by decide +kernel
theorem dX7_assemble_163 : decode cX7_assemble 163 = .ok (.getfield 181, 3) := by decide +kernel
theorem dX7_assemble_166 : decode cX7_assemble 166 = .ok (.iastore, 1) := by decide +kernel
theorem dX7_assemble_167 : decode cX7_assemble 167 = .ok (.iload_n 1, 1) := by decide +kernel
theorem dX7_assemble_168 : decode cX7_assemble 168 = .ok (.ireturn, 1) := by decide +kernel
theorem dX7_errorCode_0 : decode cX7_errorCode 0 = .ok (.aload_n 0, 1) := by decide +kernel
theorem dX7_errorCode_1 : decode cX7_errorCode 1 = .ok (.iconst 0, 1) := by decide +kernel
theorem dX7_errorCode_2 : decode cX7_errorCode 2 = .ok (.putfield 76, 3) := by decide +kernel
theorem dX7_errorCode_5 : decode cX7_errorCode 5 = .ok (.aload_n 0, 1) := by decide +kernel
theorem dX7_errorCode_6 : decode cX7_errorCode 6 = .ok (.getfield 113, 3) := by decide +kernel
theorem dX7_errorCode_9 : decode cX7_errorCode 9 = .ok (.ireturn, 1) := by decide +kernel
theorem dX7_errorPosition_0 : decode cX7_errorPosition 0 = .ok (.aload_n 0, 1) := by decide +kernel
theorem dX7_errorPosition_1 : decode cX7_errorPosition 1 = .ok (.iconst 0, 1) := by decide +kernel
theorem dX7_errorPosition_2 : decode cX7_errorPosition 2 = .ok (.putfield 76, 3) := by decide +kernel
theorem dX7_errorPosition_5 : decode cX7_errorPosition 5 = .ok (.aload_n 0, 1) := by decide +kernel
theorem dX7_errorPosition_6 : decode cX7_errorPosition 6 = .ok (.getfield 22, 3) := by decide +kernel
theorem dX7_errorPosition_9 : decode cX7_errorPosition 9 = .ok (.ireturn, 1) := by decide +kernel
theorem dX7_readWord_0 : decode cX7_readWord 0 = .ok (.aload_n 0, 1) := by decide +kernel
theorem dX7_readWord_1 : decode cX7_readWord 1 = .ok (.iconst 0, 1) := by decide +kernel
theorem dX7_readWord_2 : decode cX7_readWord 2 = .ok (.putfield 76, 3) := by decide +kernel
theorem dX7_readWord_5 : decode cX7_readWord 5 = .ok (.iload_n 1, 1) := by decide +kernel
theorem dX7_readWord_6 : decode cX7_readWord 6 = .ok (.iload_n 2, 1) := by decide +kernel
theorem dX7_readWord_7 : decode cX7_readWord 7 = .ok (.invokestatic 193, 3) := by decide +kernel
theorem dX7_readWord_10 : decode cX7_readWord 10 = .ok (.ifCond .eq 25, 3) := by decide +kernel
theorem dX7_readWord_13 : decode cX7_readWord 13 = .ok (.aload_n 0, 1) := by decide +kernel
theorem dX7_readWord_14 : decode cX7_readWord 14 = .ok (.getfield 7, 3) := by decide +kernel
theorem dX7_readWord_17 : decode cX7_readWord 17 = .ok (.sipush 414, 3) := by decide +kernel
theorem dX7_readWord_20 : decode cX7_readWord 20 = .ok (.bipush 32, 2) := by decide +kernel
theorem dX7_readWord_22 : decode cX7_readWord 22 = .ok (.iload_n 1, 1) := by decide +kernel
theorem dX7_readWord_23 : decode cX7_readWord 23 = .ok (.imul, 1) := by decide +kernel
theorem dX7_readWord_24 : decode cX7_readWord 24 = .ok (.iadd, 1) := by decide +kernel
theorem dX7_readWord_25 : decode cX7_readWord 25 = .ok (.iload_n 2, 1) := by decide +kernel
theorem dX7_readWord_26 : decode cX7_readWord 26 = .ok (.iadd, 1) := by decide +kernel
theorem dX7_readWord_27 : decode cX7_readWord 27 = .ok (.iaload, 1) := by decide +kernel
theorem dX7_readWord_28 : decode cX7_readWord 28 = .ok (.i2l, 1) := by decide +kernel
theorem dX7_readWord_29 : decode cX7_readWord 29 = .ok (.invokestatic 197, 3) := by decide +kernel
theorem dX7_readWord_32 : decode cX7_readWord 32 = .ok (.goto 8, 3) := by decide +kernel
theorem dX7_readWord_35 : decode cX7_readWord 35 = .ok (.aload_n 0, 1) := by decide +kernel
theorem dX7_readWord_36 : decode cX7_readWord 36 = .ok (.iconst 1, 1) := by decide +kernel
theorem dX7_readWord_37 : decode cX7_readWord 37 = .ok (.invokevirtual 98, 3) := by decide +kernel
theorem dX7_readWord_40 : decode cX7_readWord 40 = .ok (.ireturn, 1) := by decide +kernel
theorem dX7_writeWord_0 : decode cX7_writeWord 0 = .ok (.aload_n 0, 1) := by decide +kernel
theorem dX7_writeWord_1 : decode cX7_writeWord 1 = .ok (.iconst 0, 1) := by decide +kernel
theorem dX7_writeWord_2 : decode cX7_writeWord 2 = .ok (.putfield 76, 3) := by decide +kernel
theorem dX7_writeWord_5 : decode cX7_writeWord 5 = .ok (.iload_n 1, 1) := by decide +kernel
theorem dX7_writeWord_6 : decode cX7_writeWord 6 = .ok (.iload_n 2, 1) := by decide +kernel
theorem dX7_writeWord_7 : decode cX7_writeWord 7 = .ok (.invokestatic 193, 3) := by decide +kernel
theorem dX7_writeWord_10 : decode cX7_writeWord 10 = .ok (.ifCond .ne 9, 3) := by decide +kernel
theorem dX7_writeWord_13 : decode cX7_writeWord 13 = .ok (.aload_n 0, 1) := by decide +kernel
theorem dX7_writeWord_14 : decode cX7_writeWord 14 = .ok (.iconst 1, 1) := by decide +kernel
theorem dX7_writeWord_15 : decode cX7_writeWord 15 = .ok (.invokevirtual 98, 3) := by decide +kernel
theorem dX7_writeWord_18 : decode cX7_writeWord 18 = .ok (.ireturn, 1) := by decide +kernel
theorem dX7_writeWord_19 : decode cX7_writeWord 19 = .ok (.iload_n 3, 1) := by decide +kernel
theorem dX7_writeWord_20 : decode cX7_writeWord 20 = .ok (.i2l, 1) := by decide +kernel
theorem dX7_writeWord_21 : decode cX7_writeWord 21 = .ok (.ldc2_w 200, 3) := by decide +kernel
theorem dX7_writeWord_24 : decode cX7_writeWord 24 = .ok (.ldc2_w 202, 3) := by decide +kernel
theorem dX7_writeWord_27 : decode cX7_writeWord 27 = .ok (.invokestatic 81, 3) := by decide +kernel
theorem dX7_writeWord_30 : decode cX7_writeWord 30 = .ok (.ifCond .ne 9, 3) := by decide +kernel
theorem dX7_writeWord_33 : decode cX7_writeWord 33 = .ok (.aload_n 0, 1) := by decide +kernel
theorem dX7_writeWord_34 : decode cX7_writeWord 34 = .ok (.iconst 2, 1) := by decide +kernel
theorem dX7_writeWord_35 : decode cX7_writeWord 35 = .ok (.invokevirtual 98, 3) := by decide +kernel
theorem dX7_writeWord_38 : decode cX7_writeWord 38 = .ok (.ireturn, 1) := by decide +kernel
theorem dX7_writeWord_39 : decode cX7_writeWord 39 = .ok (.aload_n 0, 1) := by decide +kernel
theorem dX7_writeWord_40 : decode cX7_writeWord 40 = .ok (.getfield 7, 3) := by decide +kernel
theorem dX7_writeWord_43 : decode cX7_writeWord 43 = .ok (.sipush 414, 3) := by decide +kernel
theorem dX7_writeWord_46 : decode cX7_writeWord 46 = .ok (.bipush 32, 2) := by decide +kernel
theorem dX7_writeWord_48 : decode cX7_writeWord 48 = .ok (.iload_n 1, 1) := by decide +kernel
theorem dX7_writeWord_49 : decode cX7_writeWord 49 = .ok (.imul, 1) := by decide +kernel
theorem dX7_writeWord_50 : decode cX7_writeWord 50 = .ok (.iadd, 1) := by decide +kernel
theorem dX7_writeWord_51 : decode cX7_writeWord 51 = .ok (.iload_n 2, 1) := by decide +kernel
theorem dX7_writeWord_52 : decode cX7_writeWord 52 = .ok (.iadd, 1) := by decide +kernel
theorem dX7_writeWord_53 : decode cX7_writeWord 53 = .ok (.iaload, 1) := by decide +kernel
theorem dX7_writeWord_54 : decode cX7_writeWord 54 = .ok (.i2l, 1) := by decide +kernel
theorem dX7_writeWord_55 : decode cX7_writeWord 55 = .ok (.invokestatic 197, 3) := by decide +kernel
theorem dX7_writeWord_58 : decode cX7_writeWord 58 = .ok (.istore 4, 2) := by decide +kernel
theorem dX7_writeWord_60 : decode cX7_writeWord 60 = .ok (.aload_n 0, 1) := by decide +kernel
theorem dX7_writeWord_61 : decode cX7_writeWord 61 = .ok (.getfield 7, 3) := by decide +kernel
theorem dX7_writeWord_64 : decode cX7_writeWord 64 = .ok (.sipush 414, 3) := by decide +kernel
theorem dX7_writeWord_67 : decode cX7_writeWord 67 = .ok (.bipush 32, 2) := by decide +kernel
theorem dX7_writeWord_69 : decode cX7_writeWord 69 = .ok (.iload_n 1, 1) := by decide +kernel
theorem dX7_writeWord_70 : decode cX7_writeWord 70 = .ok (.imul, 1) := by decide +kernel
theorem dX7_writeWord_71 : decode cX7_writeWord 71 = .ok (.iadd, 1) := by decide +kernel
theorem dX7_writeWord_72 : decode cX7_writeWord 72 = .ok (.iload_n 2, 1) := by decide +kernel
theorem dX7_writeWord_73 : decode cX7_writeWord 73 = .ok (.iadd, 1) := by decide +kernel
theorem dX7_writeWord_74 : decode cX7_writeWord 74 = .ok (.iload_n 3, 1) := by decide +kernel
theorem dX7_writeWord_75 : decode cX7_writeWord 75 = .ok (.ldc 94, 2) := by decide +kernel
theorem dX7_writeWord_77 : decode cX7_writeWord 77 = .ok (.iand, 1) := by decide +kernel
theorem dX7_writeWord_78 : decode cX7_writeWord 78 = .ok (.iastore, 1) := by decide +kernel
theorem dX7_writeWord_79 : decode cX7_writeWord 79 = .ok (.iload 4, 2) := by decide +kernel
theorem dX7_writeWord_81 : decode cX7_writeWord 81 = .ok (.ireturn, 1) := by decide +kernel
theorem dX7_bitsOf_0 : decode cX7_bitsOf 0 = .ok (.iconst 0, 1) := by decide +kernel
theorem dX7_bitsOf_1 : decode cX7_bitsOf 1 = .ok (.istore_n 2, 1) := by decide +kernel
theorem dX7_bitsOf_2 : decode cX7_bitsOf 2 = .ok (.iconst 0, 1) := by decide +kernel
theorem dX7_bitsOf_3 : decode cX7_bitsOf 3 = .ok (.istore_n 3, 1) := by decide +kernel
theorem dX7_bitsOf_4 : decode cX7_bitsOf 4 = .ok (.iload_n 3, 1) := by decide +kernel
theorem dX7_bitsOf_5 : decode cX7_bitsOf 5 = .ok (.sipush 640, 3) := by decide +kernel
theorem dX7_bitsOf_8 : decode cX7_bitsOf 8 = .ok (.if_icmp .ge 37, 3) := by decide +kernel
theorem dX7_bitsOf_11 : decode cX7_bitsOf 11 = .ok (.iload_n 2, 1) := by decide +kernel
theorem dX7_bitsOf_12 : decode cX7_bitsOf 12 = .ok (.aload_n 0, 1) := by decide +kernel
theorem dX7_bitsOf_13 : decode cX7_bitsOf 13 = .ok (.getfield 7, 3) := by decide +kernel
theorem dX7_bitsOf_16 : decode cX7_bitsOf 16 = .ok (.sipush 414, 3) := by decide +kernel
theorem dX7_bitsOf_19 : decode cX7_bitsOf 19 = .ok (.bipush 32, 2) := by decide +kernel
theorem dX7_bitsOf_21 : decode cX7_bitsOf 21 = .ok (.iload_n 1, 1) := by decide +kernel
theorem dX7_bitsOf_22 : decode cX7_bitsOf 22 = .ok (.imul, 1) := by decide +kernel
theorem dX7_bitsOf_23 : decode cX7_bitsOf 23 = .ok (.iadd, 1) := by decide +kernel
theorem dX7_bitsOf_24 : decode cX7_bitsOf 24 = .ok (.iload_n 3, 1) := by decide +kernel
theorem dX7_bitsOf_25 : decode cX7_bitsOf 25 = .ok (.bipush 20, 2) := by decide +kernel
theorem dX7_bitsOf_27 : decode cX7_bitsOf 27 = .ok (.idiv, 1) := by decide +kernel
theorem dX7_bitsOf_28 : decode cX7_bitsOf 28 = .ok (.iadd, 1) := by decide +kernel
theorem dX7_bitsOf_29 : decode cX7_bitsOf 29 = .ok (.iaload, 1) := by decide +kernel
theorem dX7_bitsOf_30 : decode cX7_bitsOf 30 = .ok (.iload_n 3, 1) := by decide +kernel
theorem dX7_bitsOf_31 : decode cX7_bitsOf 31 = .ok (.bipush 20, 2) := by decide +kernel
theorem dX7_bitsOf_33 : decode cX7_bitsOf 33 = .ok (.irem, 1) := by decide +kernel
theorem dX7_bitsOf_34 : decode cX7_bitsOf 34 = .ok (.ishr, 1) := by decide +kernel
theorem dX7_bitsOf_35 : decode cX7_bitsOf 35 = .ok (.iconst 1, 1) := by decide +kernel
theorem dX7_bitsOf_36 : decode cX7_bitsOf 36 = .ok (.iand, 1) := by decide +kernel
theorem dX7_bitsOf_37 : decode cX7_bitsOf 37 = .ok (.iadd, 1) := by decide +kernel
theorem dX7_bitsOf_38 : decode cX7_bitsOf 38 = .ok (.istore_n 2, 1) := by decide +kernel
theorem dX7_bitsOf_39 : decode cX7_bitsOf 39 = .ok (.iinc 3 1, 3) := by decide +kernel
theorem dX7_bitsOf_42 : decode cX7_bitsOf 42 = .ok (.goto (-38), 3) := by decide +kernel
theorem dX7_bitsOf_45 : decode cX7_bitsOf 45 = .ok (.iload_n 2, 1) := by decide +kernel
theorem dX7_bitsOf_46 : decode cX7_bitsOf 46 = .ok (.ireturn, 1) := by decide +kernel
theorem dX7_clearTank_0 : decode cX7_clearTank 0 = .ok (.aload_n 0, 1) := by decide +kernel
theorem dX7_clearTank_1 : decode cX7_clearTank 1 = .ok (.iconst 0, 1) := by decide +kernel
theorem dX7_clearTank_2 : decode cX7_clearTank 2 = .ok (.putfield 76, 3) := by decide +kernel
theorem dX7_clearTank_5 : decode cX7_clearTank 5 = .ok (.iload_n 1, 1) := by decide +kernel
theorem dX7_clearTank_6 : decode cX7_clearTank 6 = .ok (.invokestatic 85, 3) := by decide +kernel
theorem dX7_clearTank_9 : decode cX7_clearTank 9 = .ok (.ifCond .ne 9, 3) := by decide +kernel
theorem dX7_clearTank_12 : decode cX7_clearTank 12 = .ok (.aload_n 0, 1) := by decide +kernel
theorem dX7_clearTank_13 : decode cX7_clearTank 13 = .ok (.iconst 1, 1) := by decide +kernel
theorem dX7_clearTank_14 : decode cX7_clearTank 14 = .ok (.invokevirtual 98, 3) := by decide +kernel
theorem dX7_clearTank_17 : decode cX7_clearTank 17 = .ok (.ireturn, 1) := by decide +kernel
theorem dX7_clearTank_18 : decode cX7_clearTank 18 = .ok (.aload_n 0, 1) := by decide +kernel
theorem dX7_clearTank_19 : decode cX7_clearTank 19 = .ok (.iload_n 1, 1) := by decide +kernel
theorem dX7_clearTank_20 : decode cX7_clearTank 20 = .ok (.invokevirtual 204, 3) := by decide +kernel
theorem dX7_clearTank_23 : decode cX7_clearTank 23 = .ok (.istore_n 2, 1) := by decide +kernel
theorem dX7_clearTank_24 : decode cX7_clearTank 24 = .ok (.iconst 0, 1) := by decide +kernel
theorem dX7_clearTank_25 : decode cX7_clearTank 25 = .ok (.istore_n 3, 1) := by decide +kernel
theorem dX7_clearTank_26 : decode cX7_clearTank 26 = .ok (.iload_n 3, 1) := by decide +kernel
theorem dX7_clearTank_27 : decode cX7_clearTank 27 = .ok (.bipush 32, 2) := by decide +kernel
theorem dX7_clearTank_29 : decode cX7_clearTank 29 = .ok (.if_icmp .ge 25, 3) := by decide +kernel
theorem dX7_clearTank_32 : decode cX7_clearTank 32 = .ok (.aload_n 0, 1) := by decide +kernel
theorem dX7_clearTank_33 : decode cX7_clearTank 33 = .ok (.getfield 7, 3) := by decide +kernel
theorem dX7_clearTank_36 : decode cX7_clearTank 36 = .ok (.sipush 414, 3) := by decide +kernel
theorem dX7_clearTank_39 : decode cX7_clearTank 39 = .ok (.bipush 32, 2) := by decide +kernel
theorem dX7_clearTank_41 : decode cX7_clearTank 41 = .ok (.iload_n 1, 1) := by decide +kernel
theorem dX7_clearTank_42 : decode cX7_clearTank 42 = .ok (.imul, 1) := by decide +kernel
theorem dX7_clearTank_43 : decode cX7_clearTank 43 = .ok (.iadd, 1) := by decide +kernel
theorem dX7_clearTank_44 : decode cX7_clearTank 44 = .ok (.iload_n 3, 1) := by decide +kernel
theorem dX7_clearTank_45 : decode cX7_clearTank 45 = .ok (.iadd, 1) := by decide +kernel
theorem dX7_clearTank_46 : decode cX7_clearTank 46 = .ok (.iconst 0, 1) := by decide +kernel
theorem dX7_clearTank_47 : decode cX7_clearTank 47 = .ok (.iastore, 1) := by decide +kernel
theorem dX7_clearTank_48 : decode cX7_clearTank 48 = .ok (.iinc 3 1, 3) := by decide +kernel
theorem dX7_clearTank_51 : decode cX7_clearTank 51 = .ok (.goto (-25), 3) := by decide +kernel
theorem dX7_clearTank_54 : decode cX7_clearTank 54 = .ok (.iload_n 2, 1) := by decide +kernel
theorem dX7_clearTank_55 : decode cX7_clearTank 55 = .ok (.ireturn, 1) := by decide +kernel
theorem dX7_exchange_0 : decode cX7_exchange 0 = .ok (.aload_n 0, 1) := by decide +kernel
theorem dX7_exchange_1 : decode cX7_exchange 1 = .ok (.getfield 7, 3) := by decide +kernel
theorem dX7_exchange_4 : decode cX7_exchange 4 = .ok (.iload_n 1, 1) := by decide +kernel
theorem dX7_exchange_5 : decode cX7_exchange 5 = .ok (.iaload, 1) := by decide +kernel
theorem dX7_exchange_6 : decode cX7_exchange 6 = .ok (.istore_n 3, 1) := by decide +kernel
theorem dX7_exchange_7 : decode cX7_exchange 7 = .ok (.aload_n 0, 1) := by decide +kernel
theorem dX7_exchange_8 : decode cX7_exchange 8 = .ok (.getfield 7, 3) := by decide +kernel
theorem dX7_exchange_11 : decode cX7_exchange 11 = .ok (.iload_n 1, 1) := by decide +kernel
theorem dX7_exchange_12 : decode cX7_exchange 12 = .ok (.aload_n 0, 1) := by decide +kernel
theorem dX7_exchange_13 : decode cX7_exchange 13 = .ok (.getfield 7, 3) := by decide +kernel
theorem dX7_exchange_16 : decode cX7_exchange 16 = .ok (.iload_n 2, 1) := by decide +kernel
theorem dX7_exchange_17 : decode cX7_exchange 17 = .ok (.iaload, 1) := by decide +kernel
theorem dX7_exchange_18 : decode cX7_exchange 18 = .ok (.iastore, 1) := by decide +kernel
theorem dX7_exchange_19 : decode cX7_exchange 19 = .ok (.aload_n 0, 1) := by decide +kernel
theorem dX7_exchange_20 : decode cX7_exchange 20 = .ok (.getfield 7, 3) := by decide +kernel
theorem dX7_exchange_23 : decode cX7_exchange 23 = .ok (.iload_n 2, 1) := by decide +kernel
theorem dX7_exchange_24 : decode cX7_exchange 24 = .ok (.iload_n 3, 1) := by decide +kernel
theorem dX7_exchange_25 : decode cX7_exchange 25 = .ok (.iastore, 1) := by decide +kernel
theorem dX7_exchange_26 : decode cX7_exchange 26 = .ok (.return_, 1) := by decide +kernel
theorem dX7_swapTanks_0 : decode cX7_swapTanks 0 = .ok (.aload_n 0, 1) := by decide +kernel
theorem dX7_swapTanks_1 : decode cX7_swapTanks 1 = .ok (.iconst 0, 1) := by decide +kernel
theorem dX7_swapTanks_2 : decode cX7_swapTanks 2 = .ok (.putfield 76, 3) := by decide +kernel
theorem dX7_swapTanks_5 : decode cX7_swapTanks 5 = .ok (.iload_n 1, 1) := by decide +kernel
theorem dX7_swapTanks_6 : decode cX7_swapTanks 6 = .ok (.invokestatic 85, 3) := by decide +kernel
theorem dX7_swapTanks_9 : decode cX7_swapTanks 9 = .ok (.ifCond .eq 10, 3) := by decide +kernel
theorem dX7_swapTanks_12 : decode cX7_swapTanks 12 = .ok (.iload_n 2, 1) := by decide +kernel
theorem dX7_swapTanks_13 : decode cX7_swapTanks 13 = .ok (.invokestatic 85, 3) := by decide +kernel
theorem dX7_swapTanks_16 : decode cX7_swapTanks 16 = .ok (.ifCond .ne 9, 3) := by decide +kernel
theorem dX7_swapTanks_19 : decode cX7_swapTanks 19 = .ok (.aload_n 0, 1) := by decide +kernel
theorem dX7_swapTanks_20 : decode cX7_swapTanks 20 = .ok (.iconst 1, 1) := by decide +kernel
theorem dX7_swapTanks_21 : decode cX7_swapTanks 21 = .ok (.putfield 76, 3) := by decide +kernel
theorem dX7_swapTanks_24 : decode cX7_swapTanks 24 = .ok (.return_, 1) := by decide +kernel
theorem dX7_swapTanks_25 : decode cX7_swapTanks 25 = .ok (.iconst 0, 1) := by decide +kernel
theorem dX7_swapTanks_26 : decode cX7_swapTanks 26 = .ok (.istore_n 3, 1) := by decide +kernel
theorem dX7_swapTanks_27 : decode cX7_swapTanks 27 = .ok (.iload_n 3, 1) := by decide +kernel
theorem dX7_swapTanks_28 : decode cX7_swapTanks 28 = .ok (.bipush 32, 2) := by decide +kernel
theorem dX7_swapTanks_30 : decode cX7_swapTanks 30 = .ok (.if_icmp .ge 33, 3) := by decide +kernel
theorem dX7_swapTanks_33 : decode cX7_swapTanks 33 = .ok (.aload_n 0, 1) := by decide +kernel
theorem dX7_swapTanks_34 : decode cX7_swapTanks 34 = .ok (.sipush 414, 3) := by decide +kernel
theorem dX7_swapTanks_37 : decode cX7_swapTanks 37 = .ok (.bipush 32, 2) := by decide +kernel
theorem dX7_swapTanks_39 : decode cX7_swapTanks 39 = .ok (.iload_n 1, 1) := by decide +kernel
theorem dX7_swapTanks_40 : decode cX7_swapTanks 40 = .ok (.imul, 1) := by decide +kernel
theorem dX7_swapTanks_41 : decode cX7_swapTanks 41 = .ok (.iadd, 1) := by decide +kernel
theorem dX7_swapTanks_42 : decode cX7_swapTanks 42 = .ok (.iload_n 3, 1) := by decide +kernel
theorem dX7_swapTanks_43 : decode cX7_swapTanks 43 = .ok (.iadd, 1) := by decide +kernel
theorem dX7_swapTanks_44 : decode cX7_swapTanks 44 = .ok (.sipush 414, 3) := by decide +kernel
theorem dX7_swapTanks_47 : decode cX7_swapTanks 47 = .ok (.bipush 32, 2) := by decide +kernel
theorem dX7_swapTanks_49 : decode cX7_swapTanks 49 = .ok (.iload_n 2, 1) := by decide +kernel
theorem dX7_swapTanks_50 : decode cX7_swapTanks 50 = .ok (.imul, 1) := by decide +kernel
theorem dX7_swapTanks_51 : decode cX7_swapTanks 51 = .ok (.iadd, 1) := by decide +kernel
theorem dX7_swapTanks_52 : decode cX7_swapTanks 52 = .ok (.iload_n 3, 1) := by decide +kernel
theorem dX7_swapTanks_53 : decode cX7_swapTanks 53 = .ok (.iadd, 1) := by decide +kernel
theorem dX7_swapTanks_54 : decode cX7_swapTanks 54 = .ok (.invokevirtual 207, 3) := by decide +kernel
theorem dX7_swapTanks_57 : decode cX7_swapTanks 57 = .ok (.iinc 3 1, 3) := by decide +kernel
theorem dX7_swapTanks_60 : decode cX7_swapTanks 60 = .ok (.goto (-33), 3) := by decide +kernel
theorem dX7_swapTanks_63 : decode cX7_swapTanks 63 = .ok (.aload_n 0, 1) := by decide +kernel
theorem dX7_swapTanks_64 : decode cX7_swapTanks 64 = .ok (.bipush 14, 2) := by decide +kernel
theorem dX7_swapTanks_66 : decode cX7_swapTanks 66 = .ok (.iload_n 1, 1) := by decide +kernel
theorem dX7_swapTanks_67 : decode cX7_swapTanks 67 = .ok (.iadd, 1) := by decide +kernel
theorem dX7_swapTanks_68 : decode cX7_swapTanks 68 = .ok (.bipush 14, 2) := by decide +kernel
theorem dX7_swapTanks_70 : decode cX7_swapTanks 70 = .ok (.iload_n 2, 1) := by decide +kernel
theorem dX7_swapTanks_71 : decode cX7_swapTanks 71 = .ok (.iadd, 1) := by decide +kernel
theorem dX7_swapTanks_72 : decode cX7_swapTanks 72 = .ok (.invokevirtual 207, 3) := by decide +kernel
theorem dX7_swapTanks_75 : decode cX7_swapTanks 75 = .ok (.aload_n 0, 1) := by decide +kernel
theorem dX7_swapTanks_76 : decode cX7_swapTanks 76 = .ok (.bipush 22, 2) := by decide +kernel
theorem dX7_swapTanks_78 : decode cX7_swapTanks 78 = .ok (.iload_n 1, 1) := by decide +kernel
theorem dX7_swapTanks_79 : decode cX7_swapTanks 79 = .ok (.iadd, 1) := by decide +kernel
theorem dX7_swapTanks_80 : decode cX7_swapTanks 80 = .ok (.bipush 22, 2) := by decide +kernel
theorem dX7_swapTanks_82 : decode cX7_swapTanks 82 = .ok (.iload_n 2, 1) := by decide +kernel
theorem dX7_swapTanks_83 : decode cX7_swapTanks 83 = .ok (.iadd, 1) := by decide +kernel
theorem dX7_swapTanks_84 : decode cX7_swapTanks 84 = .ok (.invokevirtual 207, 3) := by decide +kernel
theorem dX7_swapTanks_87 : decode cX7_swapTanks 87 = .ok (.return_, 1) := by decide +kernel
theorem dX7_bitCount_0 : decode cX7_bitCount 0 = .ok (.aload_n 0, 1) := by decide +kernel
theorem dX7_bitCount_1 : decode cX7_bitCount 1 = .ok (.iconst 0, 1) := by decide +kernel
theorem dX7_bitCount_2 : decode cX7_bitCount 2 = .ok (.putfield 76, 3) := by decide +kernel
theorem dX7_bitCount_5 : decode cX7_bitCount 5 = .ok (.iload_n 1, 1) := by decide +kernel
theorem dX7_bitCount_6 : decode cX7_bitCount 6 = .ok (.invokestatic 85, 3) := by decide +kernel
theorem dX7_bitCount_9 : decode cX7_bitCount 9 = .ok (.ifCond .eq 11, 3) := by decide +kernel
theorem dX7_bitCount_12 : decode cX7_bitCount 12 = .ok (.aload_n 0, 1) := by decide +kernel
theorem dX7_bitCount_13 : decode cX7_bitCount 13 = .ok (.iload_n 1, 1) := by decide +kernel
theorem dX7_bitCount_14 : decode cX7_bitCount 14 = .ok (.invokevirtual 204, 3) := by decide +kernel
theorem dX7_bitCount_17 : decode cX7_bitCount 17 = .ok (.goto 8, 3) := by decide +kernel
theorem dX7_bitCount_20 : decode cX7_bitCount 20 = .ok (.aload_n 0, 1) := by decide +kernel
theorem dX7_bitCount_21 : decode cX7_bitCount 21 = .ok (.iconst 1, 1) := by decide +kernel
theorem dX7_bitCount_22 : decode cX7_bitCount 22 = .ok (.invokevirtual 98, 3) := by decide +kernel
theorem dX7_bitCount_25 : decode cX7_bitCount 25 = .ok (.ireturn, 1) := by decide +kernel
theorem dX7_slips_0 : decode cX7_slips 0 = .ok (.aload_n 0, 1) := by decide +kernel
theorem dX7_slips_1 : decode cX7_slips 1 = .ok (.iconst 0, 1) := by decide +kernel
theorem dX7_slips_2 : decode cX7_slips 2 = .ok (.putfield 76, 3) := by decide +kernel
theorem dX7_slips_5 : decode cX7_slips 5 = .ok (.iload_n 1, 1) := by decide +kernel
theorem dX7_slips_6 : decode cX7_slips 6 = .ok (.invokestatic 85, 3) := by decide +kernel
theorem dX7_slips_9 : decode cX7_slips 9 = .ok (.ifCond .eq 15, 3) := by decide +kernel
theorem dX7_slips_12 : decode cX7_slips 12 = .ok (.aload_n 0, 1) := by decide +kernel
theorem dX7_slips_13 : decode cX7_slips 13 = .ok (.getfield 7, 3) := by decide +kernel
theorem dX7_slips_16 : decode cX7_slips 16 = .ok (.bipush 22, 2) := by decide +kernel
theorem dX7_slips_18 : decode cX7_slips 18 = .ok (.iload_n 1, 1) := by decide +kernel
theorem dX7_slips_19 : decode cX7_slips 19 = .ok (.iadd, 1) := by decide +kernel
theorem dX7_slips_20 : decode cX7_slips 20 = .ok (.iaload, 1) := by decide +kernel
theorem dX7_slips_21 : decode cX7_slips 21 = .ok (.goto 8, 3) := by decide +kernel
theorem dX7_slips_24 : decode cX7_slips 24 = .ok (.aload_n 0, 1) := by decide +kernel
theorem dX7_slips_25 : decode cX7_slips 25 = .ok (.iconst 1, 1) := by decide +kernel
theorem dX7_slips_26 : decode cX7_slips 26 = .ok (.invokevirtual 98, 3) := by decide +kernel
theorem dX7_slips_29 : decode cX7_slips 29 = .ok (.ireturn, 1) := by decide +kernel
theorem dX7_dropouts_0 : decode cX7_dropouts 0 = .ok (.aload_n 0, 1) := by decide +kernel
theorem dX7_dropouts_1 : decode cX7_dropouts 1 = .ok (.iconst 0, 1) := by decide +kernel
theorem dX7_dropouts_2 : decode cX7_dropouts 2 = .ok (.putfield 76, 3) := by decide +kernel
theorem dX7_dropouts_5 : decode cX7_dropouts 5 = .ok (.aload_n 0, 1) := by decide +kernel
theorem dX7_dropouts_6 : decode cX7_dropouts 6 = .ok (.getfield 7, 3) := by decide +kernel
theorem dX7_dropouts_9 : decode cX7_dropouts 9 = .ok (.bipush 7, 2) := by decide +kernel
theorem dX7_dropouts_11 : decode cX7_dropouts 11 = .ok (.iaload, 1) := by decide +kernel
theorem dX7_dropouts_12 : decode cX7_dropouts 12 = .ok (.ireturn, 1) := by decide +kernel
theorem dX7_isWarmth_0 : decode cX7_isWarmth 0 = .ok (.iload_n 0, 1) := by decide +kernel
theorem dX7_isWarmth_1 : decode cX7_isWarmth 1 = .ok (.i2l, 1) := by decide +kernel
theorem dX7_isWarmth_2 : decode cX7_isWarmth 2 = .ok (.lconst 0, 1) := by decide +kernel
theorem dX7_isWarmth_3 : decode cX7_isWarmth 3 = .ok (.ldc2_w 210, 3) := by decide +kernel
theorem dX7_isWarmth_6 : decode cX7_isWarmth 6 = .ok (.invokestatic 81, 3) := by decide +kernel
theorem dX7_isWarmth_9 : decode cX7_isWarmth 9 = .ok (.ireturn, 1) := by decide +kernel
theorem dX7_puts_0 : decode cX7_puts 0 = .ok (.aload_n 0, 1) := by decide +kernel
theorem dX7_puts_1 : decode cX7_puts 1 = .ok (.getfield 7, 3) := by decide +kernel
theorem dX7_puts_4 : decode cX7_puts 4 = .ok (.iload_n 1, 1) := by decide +kernel
theorem dX7_puts_5 : decode cX7_puts 5 = .ok (.iaload, 1) := by decide +kernel
theorem dX7_puts_6 : decode cX7_puts 6 = .ok (.istore_n 3, 1) := by decide +kernel
theorem dX7_puts_7 : decode cX7_puts 7 = .ok (.aload_n 0, 1) := by decide +kernel
theorem dX7_puts_8 : decode cX7_puts 8 = .ok (.getfield 7, 3) := by decide +kernel
theorem dX7_puts_11 : decode cX7_puts 11 = .ok (.iload_n 1, 1) := by decide +kernel
theorem dX7_puts_12 : decode cX7_puts 12 = .ok (.iload_n 2, 1) := by decide +kernel
theorem dX7_puts_13 : decode cX7_puts 13 = .ok (.iastore, 1) := by decide +kernel
theorem dX7_puts_14 : decode cX7_puts 14 = .ok (.iload_n 3, 1) := by decide +kernel
theorem dX7_puts_15 : decode cX7_puts 15 = .ok (.ireturn, 1) := by decide +kernel
theorem dX7_setTemperature_0 : decode cX7_setTemperature 0 = .ok (.aload_n 0, 1) := by decide +kernel
theorem dX7_setTemperature_1 : decode cX7_setTemperature 1 = .ok (.iconst 0, 1) := by decide +kernel
theorem dX7_setTemperature_2 : decode cX7_setTemperature 2 = .ok (.putfield 76, 3) := by decide +kernel
theorem dX7_setTemperature_5 : decode cX7_setTemperature 5 = .ok (.iload_n 1, 1) := by decide +kernel
theorem dX7_setTemperature_6 : decode cX7_setTemperature 6 = .ok (.invokestatic 85, 3) := by decide +kernel
theorem dX7_setTemperature_9 : decode cX7_setTemperature 9 = .ok (.ifCond .ne 9, 3) := by decide +kernel
theorem dX7_setTemperature_12 : decode cX7_setTemperature 12 = .ok (.aload_n 0, 1) := by decide +kernel
theorem dX7_setTemperature_13 : decode cX7_setTemperature 13 = .ok (.iconst 1, 1) := by decide +kernel
theorem dX7_setTemperature_14 : decode cX7_setTemperature 14 = .ok (.invokevirtual 98, 3) := by decide +kernel
theorem dX7_setTemperature_17 : decode cX7_setTemperature 17 = .ok (.ireturn, 1) := by decide +kernel
theorem dX7_setTemperature_18 : decode cX7_setTemperature 18 = .ok (.iload_n 2, 1) := by decide +kernel
theorem dX7_setTemperature_19 : decode cX7_setTemperature 19 = .ok (.invokestatic 212, 3) := by decide +kernel
theorem dX7_setTemperature_22 : decode cX7_setTemperature 22 = .ok (.ifCond .eq 15, 3) := by decide +kernel
theorem dX7_setTemperature_25 : decode cX7_setTemperature 25 = .ok (.aload_n 0, 1) := by decide +kernel
theorem dX7_setTemperature_26 : decode cX7_setTemperature 26 = .ok (.bipush 14, 2) := by decide +kernel
theorem dX7_setTemperature_28 : decode cX7_setTemperature 28 = .ok (.iload_n 1, 1) := by decide +kernel
theorem dX7_setTemperature_29 : decode cX7_setTemperature 29 = .ok (.iadd, 1) := by decide +kernel
theorem dX7_setTemperature_30 : decode cX7_setTemperature 30 = .ok (.iload_n 2, 1) := by decide +kernel
theorem dX7_setTemperature_31 : decode cX7_setTemperature 31 = .ok (.invokevirtual 215, 3) := by decide +kernel
theorem dX7_setTemperature_34 : decode cX7_setTemperature 34 = .ok (.goto 8, 3) := by decide +kernel
theorem dX7_setTemperature_37 : decode cX7_setTemperature 37 = .ok (.aload_n 0, 1) := by decide +kernel
theorem dX7_setTemperature_38 : decode cX7_setTemperature 38 = .ok (.iconst 2, 1) := by decide +kernel
theorem dX7_setTemperature_39 : decode cX7_setTemperature 39 = .ok (.invokevirtual 98, 3) := by decide +kernel
theorem dX7_setTemperature_42 : decode cX7_setTemperature 42 = .ok (.ireturn, 1) := by decide +kernel
theorem dX7_temperature_0 : decode cX7_temperature 0 = .ok (.aload_n 0, 1) := by decide +kernel
theorem dX7_temperature_1 : decode cX7_temperature 1 = .ok (.iconst 0, 1) := by decide +kernel
theorem dX7_temperature_2 : decode cX7_temperature 2 = .ok (.putfield 76, 3) := by decide +kernel
theorem dX7_temperature_5 : decode cX7_temperature 5 = .ok (.iload_n 1, 1) := by decide +kernel
theorem dX7_temperature_6 : decode cX7_temperature 6 = .ok (.invokestatic 85, 3) := by decide +kernel
theorem dX7_temperature_9 : decode cX7_temperature 9 = .ok (.ifCond .eq 15, 3) := by decide +kernel
theorem dX7_temperature_12 : decode cX7_temperature 12 = .ok (.aload_n 0, 1) := by decide +kernel
theorem dX7_temperature_13 : decode cX7_temperature 13 = .ok (.getfield 7, 3) := by decide +kernel
theorem dX7_temperature_16 : decode cX7_temperature 16 = .ok (.bipush 14, 2) := by decide +kernel
theorem dX7_temperature_18 : decode cX7_temperature 18 = .ok (.iload_n 1, 1) := by decide +kernel
theorem dX7_temperature_19 : decode cX7_temperature 19 = .ok (.iadd, 1) := by decide +kernel
theorem dX7_temperature_20 : decode cX7_temperature 20 = .ok (.iaload, 1) := by decide +kernel
theorem dX7_temperature_21 : decode cX7_temperature 21 = .ok (.goto 8, 3) := by decide +kernel
theorem dX7_temperature_24 : decode cX7_temperature 24 = .ok (.aload_n 0, 1) := by decide +kernel
theorem dX7_temperature_25 : decode cX7_temperature 25 = .ok (.iconst 1, 1) := by decide +kernel
theorem dX7_temperature_26 : decode cX7_temperature 26 = .ok (.invokevirtual 98, 3) := by decide +kernel
theorem dX7_temperature_29 : decode cX7_temperature 29 = .ok (.ireturn, 1) := by decide +kernel
theorem dX7_setOven_0 : decode cX7_setOven 0 = .ok (.aload_n 0, 1) := by decide +kernel
theorem dX7_setOven_1 : decode cX7_setOven 1 = .ok (.iconst 0, 1) := by decide +kernel
theorem dX7_setOven_2 : decode cX7_setOven 2 = .ok (.putfield 76, 3) := by decide +kernel
theorem dX7_setOven_5 : decode cX7_setOven 5 = .ok (.iload_n 1, 1) := by decide +kernel
theorem dX7_setOven_6 : decode cX7_setOven 6 = .ok (.invokestatic 212, 3) := by decide +kernel
theorem dX7_setOven_9 : decode cX7_setOven 9 = .ok (.ifCond .eq 13, 3) := by decide +kernel
theorem dX7_setOven_12 : decode cX7_setOven 12 = .ok (.aload_n 0, 1) := by decide +kernel
theorem dX7_setOven_13 : decode cX7_setOven 13 = .ok (.bipush 8, 2) := by decide +kernel
theorem dX7_setOven_15 : decode cX7_setOven 15 = .ok (.iload_n 1, 1) := by decide +kernel
theorem dX7_setOven_16 : decode cX7_setOven 16 = .ok (.invokevirtual 215, 3) := by decide +kernel
theorem dX7_setOven_19 : decode cX7_setOven 19 = .ok (.goto 8, 3) := by decide +kernel
theorem dX7_setOven_22 : decode cX7_setOven 22 = .ok (.aload_n 0, 1) := by decide +kernel
theorem dX7_setOven_23 : decode cX7_setOven 23 = .ok (.iconst 1, 1) := by decide +kernel
theorem dX7_setOven_24 : decode cX7_setOven 24 = .ok (.invokevirtual 98, 3) := by decide +kernel
theorem dX7_setOven_27 : decode cX7_setOven 27 = .ok (.ireturn, 1) := by decide +kernel
theorem dX7_setPilotTemperature_0 : decode cX7_setPilotTemperature 0 = .ok (.aload_n 0, 1) := by decide +kernel
theorem dX7_setPilotTemperature_1 : decode cX7_setPilotTemperature 1 = .ok (.iconst 0, 1) := by decide +kernel
theorem dX7_setPilotTemperature_2 : decode cX7_setPilotTemperature 2 = .ok (.putfield 76, 3) := by decide +kernel
theorem dX7_setPilotTemperature_5 : decode cX7_setPilotTemperature 5 = .ok (.iload_n 1, 1) := by decide +kernel
theorem dX7_setPilotTemperature_6 : decode cX7_setPilotTemperature 6 = .ok (.invokestatic 212, 3) := by decide +kernel
theorem dX7_setPilotTemperature_9 : decode cX7_setPilotTemperature 9 = .ok (.ifCond .eq 13, 3) := by decide +kernel
theorem dX7_setPilotTemperature_12 : decode cX7_setPilotTemperature 12 = .ok (.aload_n 0, 1) := by decide +kernel
theorem dX7_setPilotTemperature_13 : decode cX7_setPilotTemperature 13 = .ok (.bipush 9, 2) := by decide +kernel
theorem dX7_setPilotTemperature_15 : decode cX7_setPilotTemperature 15 = .ok (.iload_n 1, 1) := by decide +kernel
theorem dX7_setPilotTemperature_16 : decode cX7_setPilotTemperature 16 = .ok (.invokevirtual 215, 3) := by decide +kernel
theorem dX7_setPilotTemperature_19 : decode cX7_setPilotTemperature 19 = .ok (.goto 8, 3) := by decide +kernel
theorem dX7_setPilotTemperature_22 : decode cX7_setPilotTemperature 22 = .ok (.aload_n 0, 1) := by decide +kernel
theorem dX7_setPilotTemperature_23 : decode cX7_setPilotTemperature 23 = .ok (.iconst 1, 1) := by decide +kernel
theorem dX7_setPilotTemperature_24 : decode cX7_setPilotTemperature 24 = .ok (.invokevirtual 98, 3) := by decide +kernel
theorem dX7_setPilotTemperature_27 : decode cX7_setPilotTemperature 27 = .ok (.ireturn, 1) := by decide +kernel
theorem dX7_setPilot_0 : decode cX7_setPilot 0 = .ok (.aload_n 0, 1) := by decide +kernel
theorem dX7_setPilot_1 : decode cX7_setPilot 1 = .ok (.iconst 0, 1) := by decide +kernel
theorem dX7_setPilot_2 : decode cX7_setPilot 2 = .ok (.putfield 76, 3) := by decide +kernel
theorem dX7_setPilot_5 : decode cX7_setPilot 5 = .ok (.aload_n 0, 1) := by decide +kernel
theorem dX7_setPilot_6 : decode cX7_setPilot 6 = .ok (.bipush 10, 2) := by decide +kernel
theorem dX7_setPilot_8 : decode cX7_setPilot 8 = .ok (.iload_n 1, 1) := by decide +kernel
theorem dX7_setPilot_9 : decode cX7_setPilot 9 = .ok (.ifCond .eq 7, 3) := by decide +kernel
theorem dX7_setPilot_12 : decode cX7_setPilot 12 = .ok (.iconst 1, 1) := by decide +kernel
theorem dX7_setPilot_13 : decode cX7_setPilot 13 = .ok (.goto 4, 3) := by decide +kernel
theorem dX7_setPilot_16 : decode cX7_setPilot 16 = .ok (.iconst 0, 1) := by decide +kernel
theorem dX7_setPilot_17 : decode cX7_setPilot 17 = .ok (.invokevirtual 215, 3) := by decide +kernel
theorem dX7_setPilot_20 : decode cX7_setPilot 20 = .ok (.iconst 1, 1) := by decide +kernel
theorem dX7_setPilot_21 : decode cX7_setPilot 21 = .ok (.if_icmp .ne 7, 3) := by decide +kernel
theorem dX7_setPilot_24 : decode cX7_setPilot 24 = .ok (.iconst 1, 1) := by decide +kernel
theorem dX7_setPilot_25 : decode cX7_setPilot 25 = .ok (.goto 4, 3) := by decide +kernel
theorem dX7_setPilot_28 : decode cX7_setPilot 28 = .ok (.iconst 0, 1) := by decide +kernel
theorem dX7_setPilot_29 : decode cX7_setPilot 29 = .ok (.ireturn, 1) := by decide +kernel
theorem dX7_setFixedPeriod_0 : decode cX7_setFixedPeriod 0 = .ok (.aload_n 0, 1) := by decide +kernel
theorem dX7_setFixedPeriod_1 : decode cX7_setFixedPeriod 1 = .ok (.iconst 0, 1) := by decide +kernel
theorem dX7_setFixedPeriod_2 : decode cX7_setFixedPeriod 2 = .ok (.putfield 76, 3) := by decide +kernel
theorem dX7_setFixedPeriod_5 : decode cX7_setFixedPeriod 5 = .ok (.iload_n 1, 1) := by decide +kernel
theorem dX7_setFixedPeriod_6 : decode cX7_setFixedPeriod 6 = .ok (.i2l, 1) := by decide +kernel
theorem dX7_setFixedPeriod_7 : decode cX7_setFixedPeriod 7 = .ok (.ldc2_w 219, 3) := by decide +kernel
theorem dX7_setFixedPeriod_10 : decode cX7_setFixedPeriod 10 = .ok (.ldc2_w 221, 3) := by decide +kernel
theorem dX7_setFixedPeriod_13 : decode cX7_setFixedPeriod 13 = .ok (.invokestatic 81, 3) := by decide +kernel
theorem dX7_setFixedPeriod_16 : decode cX7_setFixedPeriod 16 = .ok (.ifCond .eq 13, 3) := by decide +kernel
theorem dX7_setFixedPeriod_19 : decode cX7_setFixedPeriod 19 = .ok (.aload_n 0, 1) := by decide +kernel
theorem dX7_setFixedPeriod_20 : decode cX7_setFixedPeriod 20 = .ok (.bipush 11, 2) := by decide +kernel
theorem dX7_setFixedPeriod_22 : decode cX7_setFixedPeriod 22 = .ok (.iload_n 1, 1) := by decide +kernel
theorem dX7_setFixedPeriod_23 : decode cX7_setFixedPeriod 23 = .ok (.invokevirtual 215, 3) := by decide +kernel
theorem dX7_setFixedPeriod_26 : decode cX7_setFixedPeriod 26 = .ok (.goto 8, 3) := by decide +kernel
theorem dX7_setFixedPeriod_29 : decode cX7_setFixedPeriod 29 = .ok (.aload_n 0, 1) := by decide +kernel
theorem dX7_setFixedPeriod_30 : decode cX7_setFixedPeriod 30 = .ok (.iconst 1, 1) := by decide +kernel
theorem dX7_setFixedPeriod_31 : decode cX7_setFixedPeriod 31 = .ok (.invokevirtual 98, 3) := by decide +kernel
theorem dX7_setFixedPeriod_34 : decode cX7_setFixedPeriod 34 = .ok (.ireturn, 1) := by decide +kernel
theorem dX7_delayAt_0 : decode cX7_delayAt 0 = .ok (.ldc 223, 2) := by decide +kernel
theorem dX7_delayAt_2 : decode cX7_delayAt 2 = .ok (.sipush 19200, 3) := by decide +kernel
theorem dX7_delayAt_5 : decode cX7_delayAt 5 = .ok (.iload_n 0, 1) := by decide +kernel
theorem dX7_delayAt_6 : decode cX7_delayAt 6 = .ok (.sipush 400, 3) := by decide +kernel
theorem dX7_delayAt_9 : decode cX7_delayAt 9 = .ok (.isub, 1) := by decide +kernel
theorem dX7_delayAt_10 : decode cX7_delayAt 10 = .ok (.imul, 1) := by decide +kernel
theorem dX7_delayAt_11 : decode cX7_delayAt 11 = .ok (.iadd, 1) := by decide +kernel
theorem dX7_delayAt_12 : decode cX7_delayAt 12 = .ok (.ireturn, 1) := by decide +kernel
theorem dX7_periodNow_0 : decode cX7_periodNow 0 = .ok (.aload_n 0, 1) := by decide +kernel
theorem dX7_periodNow_1 : decode cX7_periodNow 1 = .ok (.getfield 7, 3) := by decide +kernel
theorem dX7_periodNow_4 : decode cX7_periodNow 4 = .ok (.bipush 10, 2) := by decide +kernel
theorem dX7_periodNow_6 : decode cX7_periodNow 6 = .ok (.iaload, 1) := by decide +kernel
theorem dX7_periodNow_7 : decode cX7_periodNow 7 = .ok (.iconst 1, 1) := by decide +kernel
theorem dX7_periodNow_8 : decode cX7_periodNow 8 = .ok (.if_icmp .ne 20, 3) := by decide +kernel
theorem dX7_periodNow_11 : decode cX7_periodNow 11 = .ok (.aload_n 0, 1) := by decide +kernel
theorem dX7_periodNow_12 : decode cX7_periodNow 12 = .ok (.getfield 7, 3) := by decide +kernel
theorem dX7_periodNow_15 : decode cX7_periodNow 15 = .ok (.bipush 9, 2) := by decide +kernel
theorem dX7_periodNow_17 : decode cX7_periodNow 17 = .ok (.iaload, 1) := by decide +kernel
theorem dX7_periodNow_18 : decode cX7_periodNow 18 = .ok (.invokestatic 224, 3) := by decide +kernel
theorem dX7_periodNow_21 : decode cX7_periodNow 21 = .ok (.sipush 640, 3) := by decide +kernel
theorem dX7_periodNow_24 : decode cX7_periodNow 24 = .ok (.idiv, 1) := by decide +kernel
theorem dX7_periodNow_25 : decode cX7_periodNow 25 = .ok (.goto 10, 3) := by decide +kernel
theorem dX7_periodNow_28 : decode cX7_periodNow 28 = .ok (.aload_n 0, 1) := by decide +kernel
theorem dX7_periodNow_29 : decode cX7_periodNow 29 = .ok (.getfield 7, 3) := by decide +kernel
theorem dX7_periodNow_32 : decode cX7_periodNow 32 = .ok (.bipush 11, 2) := by decide +kernel
theorem dX7_periodNow_34 : decode cX7_periodNow 34 = .ok (.iaload, 1) := by decide +kernel
theorem dX7_periodNow_35 : decode cX7_periodNow 35 = .ok (.ireturn, 1) := by decide +kernel
theorem dX7_period_0 : decode cX7_period 0 = .ok (.aload_n 0, 1) := by decide +kernel
theorem dX7_period_1 : decode cX7_period 1 = .ok (.iconst 0, 1) := by decide +kernel
theorem dX7_period_2 : decode cX7_period 2 = .ok (.putfield 76, 3) := by decide +kernel
theorem dX7_period_5 : decode cX7_period 5 = .ok (.aload_n 0, 1) := by decide +kernel
theorem dX7_period_6 : decode cX7_period 6 = .ok (.invokevirtual 227, 3) := by decide +kernel
theorem dX7_period_9 : decode cX7_period 9 = .ok (.ireturn, 1) := by decide +kernel
theorem dX7_mismatchAt_0 : decode cX7_mismatchAt 0 = .ok (.iload_n 1, 1) := by decide +kernel
theorem dX7_mismatchAt_1 : decode cX7_mismatchAt 1 = .ok (.invokestatic 224, 3) := by decide +kernel
theorem dX7_mismatchAt_4 : decode cX7_mismatchAt 4 = .ok (.sipush 640, 3) := by decide +kernel
theorem dX7_mismatchAt_7 : decode cX7_mismatchAt 7 = .ok (.aload_n 0, 1) := by decide +kernel
theorem dX7_mismatchAt_8 : decode cX7_mismatchAt 8 = .ok (.invokevirtual 227, 3) := by decide +kernel
theorem dX7_mismatchAt_11 : decode cX7_mismatchAt 11 = .ok (.imul, 1) := by decide +kernel
theorem dX7_mismatchAt_12 : decode cX7_mismatchAt 12 = .ok (.isub, 1) := by decide +kernel
theorem dX7_mismatchAt_13 : decode cX7_mismatchAt 13 = .ok (.ireturn, 1) := by decide +kernel
theorem dX7_mismatch_0 : decode cX7_mismatch 0 = .ok (.aload_n 0, 1) := by decide +kernel
theorem dX7_mismatch_1 : decode cX7_mismatch 1 = .ok (.iconst 0, 1) := by decide +kernel
theorem dX7_mismatch_2 : decode cX7_mismatch 2 = .ok (.putfield 76, 3) := by decide +kernel
theorem dX7_mismatch_5 : decode cX7_mismatch 5 = .ok (.iload_n 1, 1) := by decide +kernel
theorem dX7_mismatch_6 : decode cX7_mismatch 6 = .ok (.invokestatic 85, 3) := by decide +kernel
theorem dX7_mismatch_9 : decode cX7_mismatch 9 = .ok (.ifCond .eq 19, 3) := by decide +kernel
theorem dX7_mismatch_12 : decode cX7_mismatch 12 = .ok (.aload_n 0, 1) := by decide +kernel
theorem dX7_mismatch_13 : decode cX7_mismatch 13 = .ok (.aload_n 0, 1) := by decide +kernel
theorem dX7_mismatch_14 : decode cX7_mismatch 14 = .ok (.getfield 7, 3) := by decide +kernel
theorem dX7_mismatch_17 : decode cX7_mismatch 17 = .ok (.bipush 14, 2) := by decide +kernel
theorem dX7_mismatch_19 : decode cX7_mismatch 19 = .ok (.iload_n 1, 1) := by decide +kernel
theorem dX7_mismatch_20 : decode cX7_mismatch 20 = .ok (.iadd, 1) := by decide +kernel
theorem dX7_mismatch_21 : decode cX7_mismatch 21 = .ok (.iaload, 1) := by decide +kernel
theorem dX7_mismatch_22 : decode cX7_mismatch 22 = .ok (.invokevirtual 230, 3) := by decide +kernel
theorem dX7_mismatch_25 : decode cX7_mismatch 25 = .ok (.goto 8, 3) := by decide +kernel
theorem dX7_mismatch_28 : decode cX7_mismatch 28 = .ok (.aload_n 0, 1) := by decide +kernel
theorem dX7_mismatch_29 : decode cX7_mismatch 29 = .ok (.iconst 1, 1) := by decide +kernel
theorem dX7_mismatch_30 : decode cX7_mismatch 30 = .ok (.invokevirtual 98, 3) := by decide +kernel
theorem dX7_mismatch_33 : decode cX7_mismatch 33 = .ok (.ireturn, 1) := by decide +kernel
theorem dX7_isSafe_0 : decode cX7_isSafe 0 = .ok (.aload_n 0, 1) := by decide +kernel
theorem dX7_isSafe_1 : decode cX7_isSafe 1 = .ok (.iload_n 1, 1) := by decide +kernel
theorem dX7_isSafe_2 : decode cX7_isSafe 2 = .ok (.invokevirtual 230, 3) := by decide +kernel
theorem dX7_isSafe_5 : decode cX7_isSafe 5 = .ok (.invokestatic 233, 3) := by decide +kernel
theorem dX7_isSafe_8 : decode cX7_isSafe 8 = .ok (.aload_n 0, 1) := by decide +kernel
theorem dX7_isSafe_9 : decode cX7_isSafe 9 = .ok (.invokevirtual 227, 3) := by decide +kernel
theorem dX7_isSafe_12 : decode cX7_isSafe 12 = .ok (.iconst 4, 1) := by decide +kernel
theorem dX7_isSafe_13 : decode cX7_isSafe 13 = .ok (.idiv, 1) := by decide +kernel
theorem dX7_isSafe_14 : decode cX7_isSafe 14 = .ok (.if_icmp .gt 7, 3) := by decide +kernel
theorem dX7_isSafe_17 : decode cX7_isSafe 17 = .ok (.iconst 1, 1) := by decide +kernel
theorem dX7_isSafe_18 : decode cX7_isSafe 18 = .ok (.goto 4, 3) := by decide +kernel
theorem dX7_isSafe_21 : decode cX7_isSafe 21 = .ok (.iconst 0, 1) := by decide +kernel
theorem dX7_isSafe_22 : decode cX7_isSafe 22 = .ok (.ireturn, 1) := by decide +kernel
theorem dX7_leastSafeTemperature_0 : decode cX7_leastSafeTemperature 0 = .ok (.aload_n 0, 1) := by decide +kernel
theorem dX7_leastSafeTemperature_1 : decode cX7_leastSafeTemperature 1 = .ok (.iconst 0, 1) := by decide +kernel
theorem dX7_leastSafeTemperature_2 : decode cX7_leastSafeTemperature 2 = .ok (.putfield 76, 3) := by decide +kernel
theorem dX7_leastSafeTemperature_5 : decode cX7_leastSafeTemperature 5 = .ok (.iconst 0, 1) := by decide +kernel
theorem dX7_leastSafeTemperature_6 : decode cX7_leastSafeTemperature 6 = .ok (.istore_n 1, 1) := by decide +kernel
theorem dX7_leastSafeTemperature_7 : decode cX7_leastSafeTemperature 7 = .ok (.iload_n 1, 1) := by decide +kernel
theorem dX7_leastSafeTemperature_8 : decode cX7_leastSafeTemperature 8 = .ok (.sipush 1000, 3) := by decide +kernel
theorem dX7_leastSafeTemperature_11 : decode cX7_leastSafeTemperature 11 = .ok (.if_icmp .gt 19, 3) := by decide +kernel
theorem dX7_leastSafeTemperature_14 : decode cX7_leastSafeTemperature 14 = .ok (.aload_n 0, 1) := by decide +kernel
theorem dX7_leastSafeTemperature_15 : decode cX7_leastSafeTemperature 15 = .ok (.iload_n 1, 1) := by decide +kernel
theorem dX7_leastSafeTemperature_16 : decode cX7_leastSafeTemperature 16 = .ok (.invokevirtual 236, 3) := by decide +kernel
theorem dX7_leastSafeTemperature_19 : decode cX7_leastSafeTemperature 19 = .ok (.ifCond .eq 5, 3) := by decide +kernel
theorem dX7_leastSafeTemperature_22 : decode cX7_leastSafeTemperature 22 = .ok (.iload_n 1, 1) := by decide +kernel
theorem dX7_leastSafeTemperature_23 : decode cX7_leastSafeTemperature 23 = .ok (.ireturn, 1) := by decide +kernel
theorem dX7_leastSafeTemperature_24 : decode cX7_leastSafeTemperature 24 = .ok (.iinc 1 1, 3) := by decide +kernel
theorem dX7_leastSafeTemperature_27 : decode cX7_leastSafeTemperature 27 = .ok (.goto (-20), 3) := by decide +kernel
theorem dX7_leastSafeTemperature_30 : decode cX7_leastSafeTemperature 30 = .ok (.iconst (-1), 1) := by decide +kernel
theorem dX7_leastSafeTemperature_31 : decode cX7_leastSafeTemperature 31 = .ok (.ireturn, 1) := by decide +kernel
theorem dX7_greatestSafeTemperature_0 : decode cX7_greatestSafeTemperature 0 = .ok (.aload_n 0, 1) := by decide +kernel
theorem dX7_greatestSafeTemperature_1 : decode cX7_greatestSafeTemperature 1 = .ok (.iconst 0, 1) := by decide +kernel
theorem dX7_greatestSafeTemperature_2 : decode cX7_greatestSafeTemperature 2 = .ok (.putfield 76, 3) := by decide +kernel
theorem dX7_greatestSafeTemperature_5 : decode cX7_greatestSafeTemperature 5 = .ok (.sipush 1000, 3) := by decide +kernel
theorem dX7_greatestSafeTemperature_8 : decode cX7_greatestSafeTemperature 8 = .ok (.istore_n 1, 1) := by decide +kernel
theorem dX7_greatestSafeTemperature_9 : decode cX7_greatestSafeTemperature 9 = .ok (.iload_n 1, 1) := by decide +kernel
theorem dX7_greatestSafeTemperature_10 : decode cX7_greatestSafeTemperature 10 = .ok (.ifCond .lt 19, 3) := by decide +kernel
theorem dX7_greatestSafeTemperature_13 : decode cX7_greatestSafeTemperature 13 = .ok (.aload_n 0, 1) := by decide +kernel
theorem dX7_greatestSafeTemperature_14 : decode cX7_greatestSafeTemperature 14 = .ok (.iload_n 1, 1) := by decide +kernel
theorem dX7_greatestSafeTemperature_15 : decode cX7_greatestSafeTemperature 15 = .ok (.invokevirtual 236, 3) := by decide +kernel
theorem dX7_greatestSafeTemperature_18 : decode cX7_greatestSafeTemperature 18 = .ok (.ifCond .eq 5, 3) := by decide +kernel
theorem dX7_greatestSafeTemperature_21 : decode cX7_greatestSafeTemperature 21 = .ok (.iload_n 1, 1) := by decide +kernel
theorem dX7_greatestSafeTemperature_22 : decode cX7_greatestSafeTemperature 22 = .ok (.ireturn, 1) := by decide +kernel
theorem dX7_greatestSafeTemperature_23 : decode cX7_greatestSafeTemperature 23 = .ok (.iinc 1 (-1), 3) := by decide +kernel
theorem dX7_greatestSafeTemperature_26 : decode cX7_greatestSafeTemperature 26 = .ok (.goto (-17), 3) := by decide +kernel
theorem dX7_greatestSafeTemperature_29 : decode cX7_greatestSafeTemperature 29 = .ok (.iconst (-1), 1) := by decide +kernel
theorem dX7_greatestSafeTemperature_30 : decode cX7_greatestSafeTemperature 30 = .ok (.ireturn, 1) := by decide +kernel
theorem dX7_areSafe_0 : decode cX7_areSafe 0 = .ok (.iconst 1, 1) := by decide +kernel
theorem dX7_areSafe_1 : decode cX7_areSafe 1 = .ok (.istore_n 1, 1) := by decide +kernel
theorem dX7_areSafe_2 : decode cX7_areSafe 2 = .ok (.iconst 0, 1) := by decide +kernel
theorem dX7_areSafe_3 : decode cX7_areSafe 3 = .ok (.istore_n 2, 1) := by decide +kernel
theorem dX7_areSafe_4 : decode cX7_areSafe 4 = .ok (.iload_n 2, 1) := by decide +kernel
theorem dX7_areSafe_5 : decode cX7_areSafe 5 = .ok (.bipush 8, 2) := by decide +kernel
theorem dX7_areSafe_7 : decode cX7_areSafe 7 = .ok (.if_icmp .ge 35, 3) := by decide +kernel
theorem dX7_areSafe_10 : decode cX7_areSafe 10 = .ok (.iload_n 1, 1) := by decide +kernel
theorem dX7_areSafe_11 : decode cX7_areSafe 11 = .ok (.ifCond .eq 23, 3) := by decide +kernel
theorem dX7_areSafe_14 : decode cX7_areSafe 14 = .ok (.aload_n 0, 1) := by decide +kernel
theorem dX7_areSafe_15 : decode cX7_areSafe 15 = .ok (.aload_n 0, 1) := by decide +kernel
theorem dX7_areSafe_16 : decode cX7_areSafe 16 = .ok (.getfield 7, 3) := by decide +kernel
theorem dX7_areSafe_19 : decode cX7_areSafe 19 = .ok (.bipush 14, 2) := by decide +kernel
theorem dX7_areSafe_21 : decode cX7_areSafe 21 = .ok (.iload_n 2, 1) := by decide +kernel
theorem dX7_areSafe_22 : decode cX7_areSafe 22 = .ok (.iadd, 1) := by decide +kernel
theorem dX7_areSafe_23 : decode cX7_areSafe 23 = .ok (.iaload, 1) := by decide +kernel
theorem dX7_areSafe_24 : decode cX7_areSafe 24 = .ok (.invokevirtual 236, 3) := by decide +kernel
theorem dX7_areSafe_27 : decode cX7_areSafe 27 = .ok (.ifCond .eq 7, 3) := by decide +kernel
theorem dX7_areSafe_30 : decode cX7_areSafe 30 = .ok (.iconst 1, 1) := by decide +kernel
theorem dX7_areSafe_31 : decode cX7_areSafe 31 = .ok (.goto 4, 3) := by decide +kernel
theorem dX7_areSafe_34 : decode cX7_areSafe 34 = .ok (.iconst 0, 1) := by decide +kernel
theorem dX7_areSafe_35 : decode cX7_areSafe 35 = .ok (.istore_n 1, 1) := by decide +kernel
theorem dX7_areSafe_36 : decode cX7_areSafe 36 = .ok (.iinc 2 1, 3) := by decide +kernel
theorem dX7_areSafe_39 : decode cX7_areSafe 39 = .ok (.goto (-35), 3) := by decide +kernel
theorem dX7_areSafe_42 : decode cX7_areSafe 42 = .ok (.iload_n 1, 1) := by decide +kernel
theorem dX7_areSafe_43 : decode cX7_areSafe 43 = .ok (.ireturn, 1) := by decide +kernel
theorem dX7_warms_0 : decode cX7_warms 0 = .ok (.iconst 0, 1) := by decide +kernel
theorem dX7_warms_1 : decode cX7_warms 1 = .ok (.istore_n 1, 1) := by decide +kernel
theorem dX7_warms_2 : decode cX7_warms 2 = .ok (.iload_n 1, 1) := by decide +kernel
theorem dX7_warms_3 : decode cX7_warms 3 = .ok (.bipush 8, 2) := by decide +kernel
theorem dX7_warms_5 : decode cX7_warms 5 = .ok (.if_icmp .ge 41, 3) := by decide +kernel
theorem dX7_warms_8 : decode cX7_warms 8 = .ok (.aload_n 0, 1) := by decide +kernel
theorem dX7_warms_9 : decode cX7_warms 9 = .ok (.getfield 7, 3) := by decide +kernel
theorem dX7_warms_12 : decode cX7_warms 12 = .ok (.bipush 14, 2) := by decide +kernel
theorem dX7_warms_14 : decode cX7_warms 14 = .ok (.iload_n 1, 1) := by decide +kernel
theorem dX7_warms_15 : decode cX7_warms 15 = .ok (.iadd, 1) := by decide +kernel
theorem dX7_warms_16 : decode cX7_warms 16 = .ok (.dup2, 1) := by decide +kernel
theorem dX7_warms_17 : decode cX7_warms 17 = .ok (.iaload, 1) := by decide +kernel
theorem dX7_warms_18 : decode cX7_warms 18 = .ok (.aload_n 0, 1) := by decide +kernel
theorem dX7_warms_19 : decode cX7_warms 19 = .ok (.getfield 7, 3) := by decide +kernel
theorem dX7_warms_22 : decode cX7_warms 22 = .ok (.bipush 8, 2) := by decide +kernel
theorem dX7_warms_24 : decode cX7_warms 24 = .ok (.iaload, 1) := by decide +kernel
theorem dX7_warms_25 : decode cX7_warms 25 = .ok (.aload_n 0, 1) := by decide +kernel
theorem dX7_warms_26 : decode cX7_warms 26 = .ok (.getfield 7, 3) := by decide +kernel
theorem dX7_warms_29 : decode cX7_warms 29 = .ok (.bipush 14, 2) := by decide +kernel
theorem dX7_warms_31 : decode cX7_warms 31 = .ok (.iload_n 1, 1) := by decide +kernel
theorem dX7_warms_32 : decode cX7_warms 32 = .ok (.iadd, 1) := by decide +kernel
theorem dX7_warms_33 : decode cX7_warms 33 = .ok (.iaload, 1) := by decide +kernel
theorem dX7_warms_34 : decode cX7_warms 34 = .ok (.isub, 1) := by decide +kernel
theorem dX7_warms_35 : decode cX7_warms 35 = .ok (.bipush 8, 2) := by decide +kernel
theorem dX7_warms_37 : decode cX7_warms 37 = .ok (.idiv, 1) := by decide +kernel
theorem dX7_warms_38 : decode cX7_warms 38 = .ok (.iadd, 1) := by decide +kernel
theorem dX7_warms_39 : decode cX7_warms 39 = .ok (.iastore, 1) := by decide +kernel
theorem dX7_warms_40 : decode cX7_warms 40 = .ok (.iinc 1 1, 3) := by decide +kernel
theorem dX7_warms_43 : decode cX7_warms 43 = .ok (.goto (-41), 3) := by decide +kernel
theorem dX7_warms_46 : decode cX7_warms 46 = .ok (.aload_n 0, 1) := by decide +kernel
theorem dX7_warms_47 : decode cX7_warms 47 = .ok (.getfield 7, 3) := by decide +kernel
theorem dX7_warms_50 : decode cX7_warms 50 = .ok (.bipush 9, 2) := by decide +kernel
theorem dX7_warms_52 : decode cX7_warms 52 = .ok (.dup2, 1) := by decide +kernel
theorem dX7_warms_53 : decode cX7_warms 53 = .ok (.iaload, 1) := by decide +kernel
theorem dX7_warms_54 : decode cX7_warms 54 = .ok (.aload_n 0, 1) := by decide +kernel
theorem dX7_warms_55 : decode cX7_warms 55 = .ok (.getfield 7, 3) := by decide +kernel
theorem dX7_warms_58 : decode cX7_warms 58 = .ok (.bipush 8, 2) := by decide +kernel
theorem dX7_warms_60 : decode cX7_warms 60 = .ok (.iaload, 1) := by decide +kernel
theorem dX7_warms_61 : decode cX7_warms 61 = .ok (.aload_n 0, 1) := by decide +kernel
theorem dX7_warms_62 : decode cX7_warms 62 = .ok (.getfield 7, 3) := by decide +kernel
theorem dX7_warms_65 : decode cX7_warms 65 = .ok (.bipush 9, 2) := by decide +kernel
theorem dX7_warms_67 : decode cX7_warms 67 = .ok (.iaload, 1) := by decide +kernel
theorem dX7_warms_68 : decode cX7_warms 68 = .ok (.isub, 1) := by decide +kernel
theorem dX7_warms_69 : decode cX7_warms 69 = .ok (.bipush 8, 2) := by decide +kernel
theorem dX7_warms_71 : decode cX7_warms 71 = .ok (.idiv, 1) := by decide +kernel
theorem dX7_warms_72 : decode cX7_warms 72 = .ok (.iadd, 1) := by decide +kernel
theorem dX7_warms_73 : decode cX7_warms 73 = .ok (.iastore, 1) := by decide +kernel
theorem dX7_warms_74 : decode cX7_warms 74 = .ok (.return_, 1) := by decide +kernel
theorem dX7_putsAside_0 : decode cX7_putsAside 0 = .ok (.iconst 0, 1) := by decide +kernel
theorem dX7_putsAside_1 : decode cX7_putsAside 1 = .ok (.istore_n 1, 1) := by decide +kernel
theorem dX7_putsAside_2 : decode cX7_putsAside 2 = .ok (.iload_n 1, 1) := by decide +kernel
theorem dX7_putsAside_3 : decode cX7_putsAside 3 = .ok (.sipush 670, 3) := by decide +kernel
theorem dX7_putsAside_6 : decode cX7_putsAside 6 = .ok (.if_icmp .ge 21, 3) := by decide +kernel
theorem dX7_putsAside_9 : decode cX7_putsAside 9 = .ok (.aload_n 0, 1) := by decide +kernel
theorem dX7_putsAside_10 : decode cX7_putsAside 10 = .ok (.getfield 13, 3) := by decide +kernel
theorem dX7_putsAside_13 : decode cX7_putsAside 13 = .ok (.iload_n 1, 1) := by decide +kernel
theorem dX7_putsAside_14 : decode cX7_putsAside 14 = .ok (.aload_n 0, 1) := by decide +kernel
theorem dX7_putsAside_15 : decode cX7_putsAside 15 = .ok (.getfield 7, 3) := by decide +kernel
theorem dX7_putsAside_18 : decode cX7_putsAside 18 = .ok (.iload_n 1, 1) := by decide +kernel
theorem dX7_putsAside_19 : decode cX7_putsAside 19 = .ok (.iaload, 1) := by decide +kernel
theorem dX7_putsAside_20 : decode cX7_putsAside 20 = .ok (.iastore, 1) := by decide +kernel
theorem dX7_putsAside_21 : decode cX7_putsAside 21 = .ok (.iinc 1 1, 3) := by decide +kernel
theorem dX7_putsAside_24 : decode cX7_putsAside 24 = .ok (.goto (-22), 3) := by decide +kernel
theorem dX7_putsAside_27 : decode cX7_putsAside 27 = .ok (.return_, 1) := by decide +kernel
theorem dX7_takesBack_0 : decode cX7_takesBack 0 = .ok (.iconst 0, 1) := by decide +kernel
theorem dX7_takesBack_1 : decode cX7_takesBack 1 = .ok (.istore_n 1, 1) := by decide +kernel
theorem dX7_takesBack_2 : decode cX7_takesBack 2 = .ok (.iload_n 1, 1) := by decide +kernel
theorem dX7_takesBack_3 : decode cX7_takesBack 3 = .ok (.sipush 670, 3) := by decide +kernel
theorem dX7_takesBack_6 : decode cX7_takesBack 6 = .ok (.if_icmp .ge 21, 3) := by decide +kernel
theorem dX7_takesBack_9 : decode cX7_takesBack 9 = .ok (.aload_n 0, 1) := by decide +kernel
theorem dX7_takesBack_10 : decode cX7_takesBack 10 = .ok (.getfield 7, 3) := by decide +kernel
theorem dX7_takesBack_13 : decode cX7_takesBack 13 = .ok (.iload_n 1, 1) := by decide +kernel
theorem dX7_takesBack_14 : decode cX7_takesBack 14 = .ok (.aload_n 0, 1) := by decide +kernel
theorem dX7_takesBack_15 : decode cX7_takesBack 15 = .ok (.getfield 13, 3) := by decide +kernel
theorem dX7_takesBack_18 : decode cX7_takesBack 18 = .ok (.iload_n 1, 1) := by decide +kernel
theorem dX7_takesBack_19 : decode cX7_takesBack 19 = .ok (.iaload, 1) := by decide +kernel
theorem dX7_takesBack_20 : decode cX7_takesBack 20 = .ok (.iastore, 1) := by decide +kernel
theorem dX7_takesBack_21 : decode cX7_takesBack 21 = .ok (.iinc 1 1, 3) := by decide +kernel
theorem dX7_takesBack_24 : decode cX7_takesBack 24 = .ok (.goto (-22), 3) := by decide +kernel
theorem dX7_takesBack_27 : decode cX7_takesBack 27 = .ok (.return_, 1) := by decide +kernel
theorem dX7_unsafeAfter_0 : decode cX7_unsafeAfter 0 = .ok (.aload_n 0, 1) := by decide +kernel
theorem dX7_unsafeAfter_1 : decode cX7_unsafeAfter 1 = .ok (.iconst 0, 1) := by decide +kernel
theorem dX7_unsafeAfter_2 : decode cX7_unsafeAfter 2 = .ok (.putfield 76, 3) := by decide +kernel
theorem dX7_unsafeAfter_5 : decode cX7_unsafeAfter 5 = .ok (.aload_n 0, 1) := by decide +kernel
theorem dX7_unsafeAfter_6 : decode cX7_unsafeAfter 6 = .ok (.invokevirtual 239, 3) := by decide +kernel
theorem dX7_unsafeAfter_9 : decode cX7_unsafeAfter 9 = .ok (.iconst 0, 1) := by decide +kernel
theorem dX7_unsafeAfter_10 : decode cX7_unsafeAfter 10 = .ok (.istore_n 1, 1) := by decide +kernel
theorem dX7_unsafeAfter_11 : decode cX7_unsafeAfter 11 = .ok (.iload_n 1, 1) := by decide +kernel
theorem dX7_unsafeAfter_12 : decode cX7_unsafeAfter 12 = .ok (.sipush 200, 3) := by decide +kernel
theorem dX7_unsafeAfter_15 : decode cX7_unsafeAfter 15 = .ok (.if_icmp .gt 20, 3) := by decide +kernel
theorem dX7_unsafeAfter_18 : decode cX7_unsafeAfter 18 = .ok (.aload_n 0, 1) := by decide +kernel
theorem dX7_unsafeAfter_19 : decode cX7_unsafeAfter 19 = .ok (.invokevirtual 242, 3) := by decide +kernel
theorem dX7_unsafeAfter_22 : decode cX7_unsafeAfter 22 = .ok (.ifCond .eq 13, 3) := by decide +kernel
theorem dX7_unsafeAfter_25 : decode cX7_unsafeAfter 25 = .ok (.aload_n 0, 1) := by decide +kernel
theorem dX7_unsafeAfter_26 : decode cX7_unsafeAfter 26 = .ok (.invokevirtual 246, 3) := by decide +kernel
theorem dX7_unsafeAfter_29 : decode cX7_unsafeAfter 29 = .ok (.iinc 1 1, 3) := by decide +kernel
theorem dX7_unsafeAfter_32 : decode cX7_unsafeAfter 32 = .ok (.goto (-21), 3) := by decide +kernel
theorem dX7_unsafeAfter_35 : decode cX7_unsafeAfter 35 = .ok (.aload_n 0, 1) := by decide +kernel
theorem dX7_unsafeAfter_36 : decode cX7_unsafeAfter 36 = .ok (.invokevirtual 249, 3) := by decide +kernel
theorem dX7_unsafeAfter_39 : decode cX7_unsafeAfter 39 = .ok (.iload_n 1, 1) := by decide +kernel
theorem dX7_unsafeAfter_40 : decode cX7_unsafeAfter 40 = .ok (.sipush 200, 3) := by decide +kernel
theorem dX7_unsafeAfter_43 : decode cX7_unsafeAfter 43 = .ok (.if_icmp .le 7, 3) := by decide +kernel
theorem dX7_unsafeAfter_46 : decode cX7_unsafeAfter 46 = .ok (.iconst (-1), 1) := by decide +kernel
theorem dX7_unsafeAfter_47 : decode cX7_unsafeAfter 47 = .ok (.goto 4, 3) := by decide +kernel
theorem dX7_unsafeAfter_50 : decode cX7_unsafeAfter 50 = .ok (.iload_n 1, 1) := by decide +kernel
theorem dX7_unsafeAfter_51 : decode cX7_unsafeAfter 51 = .ok (.ireturn, 1) := by decide +kernel
theorem dX7_moves_0 : decode cX7_moves 0 = .ok (.iconst 0, 1) := by decide +kernel
theorem dX7_moves_1 : decode cX7_moves 1 = .ok (.istore_n 3, 1) := by decide +kernel
theorem dX7_moves_2 : decode cX7_moves 2 = .ok (.iload_n 3, 1) := by decide +kernel
theorem dX7_moves_3 : decode cX7_moves 3 = .ok (.sipush 640, 3) := by decide +kernel
theorem dX7_moves_6 : decode cX7_moves 6 = .ok (.if_icmp .ge 64, 3) := by decide +kernel
theorem dX7_moves_9 : decode cX7_moves 9 = .ok (.iload_n 3, 1) := by decide +kernel
theorem dX7_moves_10 : decode cX7_moves 10 = .ok (.iload_n 2, 1) := by decide +kernel
theorem dX7_moves_11 : decode cX7_moves 11 = .ok (.iadd, 1) := by decide +kernel
theorem dX7_moves_12 : decode cX7_moves 12 = .ok (.sipush 640, 3) := by decide +kernel
theorem dX7_moves_15 : decode cX7_moves 15 = .ok (.irem, 1) := by decide +kernel
theorem dX7_moves_16 : decode cX7_moves 16 = .ok (.istore 4, 2) := by decide +kernel
theorem dX7_moves_18 : decode cX7_moves 18 = .ok (.aload_n 0, 1) := by decide +kernel
theorem dX7_moves_19 : decode cX7_moves 19 = .ok (.getfield 69, 3) := by decide +kernel
theorem dX7_moves_22 : decode cX7_moves 22 = .ok (.iload 4, 2) := by decide +kernel
theorem dX7_moves_24 : decode cX7_moves 24 = .ok (.ifCond .ge 12, 3) := by decide +kernel
theorem dX7_moves_27 : decode cX7_moves 27 = .ok (.iload 4, 2) := by decide +kernel
theorem dX7_moves_29 : decode cX7_moves 29 = .ok (.sipush 640, 3) := by decide +kernel
theorem dX7_moves_32 : decode cX7_moves 32 = .ok (.iadd, 1) := by decide +kernel
theorem dX7_moves_33 : decode cX7_moves 33 = .ok (.goto 5, 3) := by decide +kernel
theorem dX7_moves_36 : decode cX7_moves 36 = .ok (.iload 4, 2) := by decide +kernel
theorem dX7_moves_38 : decode cX7_moves 38 = .ok (.aload_n 0, 1) := by decide +kernel
theorem dX7_moves_39 : decode cX7_moves 39 = .ok (.getfield 7, 3) := by decide +kernel
theorem dX7_moves_42 : decode cX7_moves 42 = .ok (.sipush 414, 3) := by decide +kernel
theorem dX7_moves_45 : decode cX7_moves 45 = .ok (.bipush 32, 2) := by decide +kernel
theorem dX7_moves_47 : decode cX7_moves 47 = .ok (.iload_n 1, 1) := by decide +kernel
theorem dX7_moves_48 : decode cX7_moves 48 = .ok (.imul, 1) := by decide +kernel
theorem dX7_moves_49 : decode cX7_moves 49 = .ok (.iadd, 1) := by decide +kernel
theorem dX7_moves_50 : decode cX7_moves 50 = .ok (.iload_n 3, 1) := by decide +kernel
theorem dX7_moves_51 : decode cX7_moves 51 = .ok (.bipush 20, 2) := by decide +kernel
theorem dX7_moves_53 : decode cX7_moves 53 = .ok (.idiv, 1) := by decide +kernel
theorem dX7_moves_54 : decode cX7_moves 54 = .ok (.iadd, 1) := by decide +kernel
theorem dX7_moves_55 : decode cX7_moves 55 = .ok (.iaload, 1) := by decide +kernel
theorem dX7_moves_56 : decode cX7_moves 56 = .ok (.iload_n 3, 1) := by decide +kernel
theorem dX7_moves_57 : decode cX7_moves 57 = .ok (.bipush 20, 2) := by decide +kernel
theorem dX7_moves_59 : decode cX7_moves 59 = .ok (.irem, 1) := by decide +kernel
theorem dX7_moves_60 : decode cX7_moves 60 = .ok (.ishr, 1) := by decide +kernel
theorem dX7_moves_61 : decode cX7_moves 61 = .ok (.iconst 1, 1) := by decide +kernel
theorem dX7_moves_62 : decode cX7_moves 62 = .ok (.iand, 1) := by decide +kernel
theorem dX7_moves_63 : decode cX7_moves 63 = .ok (.iastore, 1) := by decide +kernel
theorem dX7_moves_64 : decode cX7_moves 64 = .ok (.iinc 3 1, 3) := by decide +kernel
theorem dX7_moves_67 : decode cX7_moves 67 = .ok (.goto (-65), 3) := by decide +kernel
theorem dX7_moves_70 : decode cX7_moves 70 = .ok (.iconst 0, 1) := by decide +kernel
theorem dX7_moves_71 : decode cX7_moves 71 = .ok (.istore_n 3, 1) := by decide +kernel
theorem dX7_moves_72 : decode cX7_moves 72 = .ok (.iload_n 3, 1) := by decide +kernel
theorem dX7_moves_73 : decode cX7_moves 73 = .ok (.bipush 32, 2) := by decide +kernel
theorem dX7_moves_75 : decode cX7_moves 75 = .ok (.if_icmp .ge 63, 3) := by decide +kernel
theorem dX7_moves_78 : decode cX7_moves 78 = .ok (.iconst 0, 1) := by decide +kernel
theorem dX7_moves_79 : decode cX7_moves 79 = .ok (.istore 4, 2) := by decide +kernel
theorem dX7_moves_81 : decode cX7_moves 81 = .ok (.bipush 19, 2) := by decide +kernel
theorem dX7_moves_83 : decode cX7_moves 83 = .ok (.istore 5, 2) := by decide +kernel
theorem dX7_moves_85 : decode cX7_moves 85 = .ok (.iload 5, 2) := by decide +kernel
theorem dX7_moves_87 : decode cX7_moves 87 = .ok (.ifCond .lt 28, 3) := by decide +kernel
theorem dX7_moves_90 : decode cX7_moves 90 = .ok (.iconst 2, 1) := by decide +kernel
theorem dX7_moves_91 : decode cX7_moves 91 = .ok (.iload 4, 2) := by decide +kernel
theorem dX7_moves_93 : decode cX7_moves 93 = .ok (.imul, 1) := by decide +kernel
theorem dX7_moves_94 : decode cX7_moves 94 = .ok (.aload_n 0, 1) := by decide +kernel
theorem dX7_moves_95 : decode cX7_moves 95 = .ok (.getfield 69, 3) := by decide +kernel
theorem dX7_moves_98 : decode cX7_moves 98 = .ok (.bipush 20, 2) := by decide +kernel
theorem dX7_moves_100 : decode cX7_moves 100 = .ok (.iload_n 3, 1) := by decide +kernel
theorem dX7_moves_101 : decode cX7_moves 101 = .ok (.imul, 1) := by decide +kernel
theorem dX7_moves_102 : decode cX7_moves 102 = .ok (.iload 5, 2) := by decide +kernel
theorem dX7_moves_104 : decode cX7_moves 104 = .ok (.iadd, 1) := by decide +kernel
theorem dX7_moves_105 : decode cX7_moves 105 = .ok (.iaload, 1) := by decide +kernel
theorem dX7_moves_106 : decode cX7_moves 106 = .ok (.iadd, 1) := by decide +kernel
theorem dX7_moves_107 : decode cX7_moves 107 = .ok (.istore 4, 2) := by decide +kernel
theorem dX7_moves_109 : decode cX7_moves 109 = .ok (.iinc 5 (-1), 3) := by decide +kernel
theorem dX7_moves_112 : decode cX7_moves 112 = .ok (.goto (-27), 3) := by decide +kernel
theorem dX7_moves_115 : decode cX7_moves 115 = .ok (.aload_n 0, 1) := by decide +kernel
theorem dX7_moves_116 : decode cX7_moves 116 = .ok (.getfield 7, 3) := by decide +kernel
theorem dX7_moves_119 : decode cX7_moves 119 = .ok (.sipush 414, 3) := by decide +kernel
theorem dX7_moves_122 : decode cX7_moves 122 = .ok (.bipush 32, 2) := by decide +kernel
theorem dX7_moves_124 : decode cX7_moves 124 = .ok (.iload_n 1, 1) := by decide +kernel
theorem dX7_moves_125 : decode cX7_moves 125 = .ok (.imul, 1) := by decide +kernel
theorem dX7_moves_126 : decode cX7_moves 126 = .ok (.iadd, 1) := by decide +kernel
theorem dX7_moves_127 : decode cX7_moves 127 = .ok (.iload_n 3, 1) := by decide +kernel
theorem dX7_moves_128 : decode cX7_moves 128 = .ok (.iadd, 1) := by decide +kernel
theorem dX7_moves_129 : decode cX7_moves 129 = .ok (.iload 4, 2) := by decide +kernel
theorem dX7_moves_131 : decode cX7_moves 131 = .ok (.iastore, 1) := by decide +kernel
theorem dX7_moves_132 : decode cX7_moves 132 = .ok (.iinc 3 1, 3) := by decide +kernel
theorem dX7_moves_135 : decode cX7_moves 135 = .ok (.goto (-63), 3) := by decide +kernel
theorem dX7_moves_138 : decode cX7_moves 138 = .ok (.aload_n 0, 1) := by decide +kernel
theorem dX7_moves_139 : decode cX7_moves 139 = .ok (.getfield 7, 3) := by decide +kernel
theorem dX7_moves_142 : decode cX7_moves 142 = .ok (.bipush 22, 2) := by decide +kernel
theorem dX7_moves_144 : decode cX7_moves 144 = .ok (.iload_n 1, 1) := by decide +kernel
theorem dX7_moves_145 : decode cX7_moves 145 = .ok (.iadd, 1) := by decide +kernel
theorem dX7_moves_146 : decode cX7_moves 146 = .ok (.dup2, 1) := by decide +kernel
theorem dX7_moves_147 : decode cX7_moves 147 = .ok (.iaload, 1) := by decide +kernel
theorem dX7_moves_148 : decode cX7_moves 148 = .ok (.iload_n 2, 1) := by decide +kernel
theorem dX7_moves_149 : decode cX7_moves 149 = .ok (.invokestatic 233, 3) := by decide +kernel
theorem dX7_moves_152 : decode cX7_moves 152 = .ok (.iadd, 1) := by decide +kernel
theorem dX7_moves_153 : decode cX7_moves 153 = .ok (.iastore, 1) := by decide +kernel
theorem dX7_moves_154 : decode cX7_moves 154 = .ok (.return_, 1) := by decide +kernel
theorem dX7_drops_0 : decode cX7_drops 0 = .ok (.bipush 7, 2) := by decide +kernel
theorem dX7_drops_2 : decode cX7_drops 2 = .ok (.aload_n 0, 1) := by decide +kernel
theorem dX7_drops_3 : decode cX7_drops 3 = .ok (.getfield 7, 3) := by decide +kernel
theorem dX7_drops_6 : decode cX7_drops 6 = .ok (.iconst 0, 1) := by decide +kernel
theorem dX7_drops_7 : decode cX7_drops 7 = .ok (.iaload, 1) := by decide +kernel
theorem dX7_drops_8 : decode cX7_drops 8 = .ok (.bipush 32, 2) := by decide +kernel
theorem dX7_drops_10 : decode cX7_drops 10 = .ok (.idiv, 1) := by decide +kernel
theorem dX7_drops_11 : decode cX7_drops 11 = .ok (.imul, 1) := by decide +kernel
theorem dX7_drops_12 : decode cX7_drops 12 = .ok (.iload_n 1, 1) := by decide +kernel
theorem dX7_drops_13 : decode cX7_drops 13 = .ok (.iadd, 1) := by decide +kernel
theorem dX7_drops_14 : decode cX7_drops 14 = .ok (.sipush 640, 3) := by decide +kernel
theorem dX7_drops_17 : decode cX7_drops 17 = .ok (.irem, 1) := by decide +kernel
theorem dX7_drops_18 : decode cX7_drops 18 = .ok (.istore_n 2, 1) := by decide +kernel
theorem dX7_drops_19 : decode cX7_drops 19 = .ok (.sipush 414, 3) := by decide +kernel
theorem dX7_drops_22 : decode cX7_drops 22 = .ok (.bipush 32, 2) := by decide +kernel
theorem dX7_drops_24 : decode cX7_drops 24 = .ok (.iload_n 1, 1) := by decide +kernel
theorem dX7_drops_25 : decode cX7_drops 25 = .ok (.imul, 1) := by decide +kernel
theorem dX7_drops_26 : decode cX7_drops 26 = .ok (.iadd, 1) := by decide +kernel
theorem dX7_drops_27 : decode cX7_drops 27 = .ok (.iload_n 2, 1) := by decide +kernel
theorem dX7_drops_28 : decode cX7_drops 28 = .ok (.bipush 20, 2) := by decide +kernel
theorem dX7_drops_30 : decode cX7_drops 30 = .ok (.idiv, 1) := by decide +kernel
theorem dX7_drops_31 : decode cX7_drops 31 = .ok (.iadd, 1) := by decide +kernel
theorem dX7_drops_32 : decode cX7_drops 32 = .ok (.istore_n 3, 1) := by decide +kernel
theorem dX7_drops_33 : decode cX7_drops 33 = .ok (.aload_n 0, 1) := by decide +kernel
theorem dX7_drops_34 : decode cX7_drops 34 = .ok (.getfield 7, 3) := by decide +kernel
theorem dX7_drops_37 : decode cX7_drops 37 = .ok (.bipush 7, 2) := by decide +kernel
theorem dX7_drops_39 : decode cX7_drops 39 = .ok (.dup2, 1) := by decide +kernel
theorem dX7_drops_40 : decode cX7_drops 40 = .ok (.iaload, 1) := by decide +kernel
theorem dX7_drops_41 : decode cX7_drops 41 = .ok (.aload_n 0, 1) := by decide +kernel
theorem dX7_drops_42 : decode cX7_drops 42 = .ok (.getfield 7, 3) := by decide +kernel
theorem dX7_drops_45 : decode cX7_drops 45 = .ok (.iload_n 3, 1) := by decide +kernel
theorem dX7_drops_46 : decode cX7_drops 46 = .ok (.iaload, 1) := by decide +kernel
theorem dX7_drops_47 : decode cX7_drops 47 = .ok (.iload_n 2, 1) := by decide +kernel
theorem dX7_drops_48 : decode cX7_drops 48 = .ok (.bipush 20, 2) := by decide +kernel
theorem dX7_drops_50 : decode cX7_drops 50 = .ok (.irem, 1) := by decide +kernel
theorem dX7_drops_51 : decode cX7_drops 51 = .ok (.ishr, 1) := by decide +kernel
theorem dX7_drops_52 : decode cX7_drops 52 = .ok (.iconst 1, 1) := by decide +kernel
theorem dX7_drops_53 : decode cX7_drops 53 = .ok (.iand, 1) := by decide +kernel
theorem dX7_drops_54 : decode cX7_drops 54 = .ok (.iadd, 1) := by decide +kernel
theorem dX7_drops_55 : decode cX7_drops 55 = .ok (.iastore, 1) := by decide +kernel
theorem dX7_drops_56 : decode cX7_drops 56 = .ok (.aload_n 0, 1) := by decide +kernel
theorem dX7_drops_57 : decode cX7_drops 57 = .ok (.getfield 7, 3) := by decide +kernel
theorem dX7_drops_60 : decode cX7_drops 60 = .ok (.iload_n 3, 1) := by decide +kernel
theorem dX7_drops_61 : decode cX7_drops 61 = .ok (.dup2, 1) := by decide +kernel
theorem dX7_drops_62 : decode cX7_drops 62 = .ok (.iaload, 1) := by decide +kernel
theorem dX7_drops_63 : decode cX7_drops 63 = .ok (.iconst 1, 1) := by decide +kernel
theorem dX7_drops_64 : decode cX7_drops 64 = .ok (.iload_n 2, 1) := by decide +kernel
theorem dX7_drops_65 : decode cX7_drops 65 = .ok (.bipush 20, 2) := by decide +kernel
theorem dX7_drops_67 : decode cX7_drops 67 = .ok (.irem, 1) := by decide +kernel
theorem dX7_drops_68 : decode cX7_drops 68 = .ok (.ishl, 1) := by decide +kernel
theorem dX7_drops_69 : decode cX7_drops 69 = .ok (.iconst (-1), 1) := by decide +kernel
theorem dX7_drops_70 : decode cX7_drops 70 = .ok (.ixor, 1) := by decide +kernel
theorem dX7_drops_71 : decode cX7_drops 71 = .ok (.iand, 1) := by decide +kernel
theorem dX7_drops_72 : decode cX7_drops 72 = .ok (.iastore, 1) := by decide +kernel
theorem dX7_drops_73 : decode cX7_drops 73 = .ok (.return_, 1) := by decide +kernel
theorem dX7_ends_0 : decode cX7_ends 0 = .ok (.aload_n 0, 1) := by decide +kernel
theorem dX7_ends_1 : decode cX7_ends 1 = .ok (.invokevirtual 227, 3) := by decide +kernel
theorem dX7_ends_4 : decode cX7_ends 4 = .ok (.istore_n 1, 1) := by decide +kernel
theorem dX7_ends_5 : decode cX7_ends 5 = .ok (.iconst 0, 1) := by decide +kernel
theorem dX7_ends_6 : decode cX7_ends 6 = .ok (.istore_n 2, 1) := by decide +kernel
theorem dX7_ends_7 : decode cX7_ends 7 = .ok (.iload_n 2, 1) := by decide +kernel
theorem dX7_ends_8 : decode cX7_ends 8 = .ok (.bipush 8, 2) := by decide +kernel
theorem dX7_ends_10 : decode cX7_ends 10 = .ok (.if_icmp .ge 66, 3) := by decide +kernel
theorem dX7_ends_13 : decode cX7_ends 13 = .ok (.aload_n 0, 1) := by decide +kernel
theorem dX7_ends_14 : decode cX7_ends 14 = .ok (.aload_n 0, 1) := by decide +kernel
theorem dX7_ends_15 : decode cX7_ends 15 = .ok (.getfield 7, 3) := by decide +kernel
theorem dX7_ends_18 : decode cX7_ends 18 = .ok (.bipush 14, 2) := by decide +kernel
theorem dX7_ends_20 : decode cX7_ends 20 = .ok (.iload_n 2, 1) := by decide +kernel
theorem dX7_ends_21 : decode cX7_ends 21 = .ok (.iadd, 1) := by decide +kernel
theorem dX7_ends_22 : decode cX7_ends 22 = .ok (.iaload, 1) := by decide +kernel
theorem dX7_ends_23 : decode cX7_ends 23 = .ok (.invokevirtual 230, 3) := by decide +kernel
theorem dX7_ends_26 : decode cX7_ends 26 = .ok (.istore_n 3, 1) := by decide +kernel
theorem dX7_ends_27 : decode cX7_ends 27 = .ok (.iload_n 3, 1) := by decide +kernel
theorem dX7_ends_28 : decode cX7_ends 28 = .ok (.iload_n 1, 1) := by decide +kernel
theorem dX7_ends_29 : decode cX7_ends 29 = .ok (.iconst 2, 1) := by decide +kernel
theorem dX7_ends_30 : decode cX7_ends 30 = .ok (.idiv, 1) := by decide +kernel
theorem dX7_ends_31 : decode cX7_ends 31 = .ok (.iadd, 1) := by decide +kernel
theorem dX7_ends_32 : decode cX7_ends 32 = .ok (.iload_n 1, 1) := by decide +kernel
theorem dX7_ends_33 : decode cX7_ends 33 = .ok (.invokestatic 252, 3) := by decide +kernel
theorem dX7_ends_36 : decode cX7_ends 36 = .ok (.istore 4, 2) := by decide +kernel
theorem dX7_ends_38 : decode cX7_ends 38 = .ok (.iload 4, 2) := by decide +kernel
theorem dX7_ends_40 : decode cX7_ends 40 = .ok (.ifCond .eq 10, 3) := by decide +kernel
theorem dX7_ends_43 : decode cX7_ends 43 = .ok (.aload_n 0, 1) := by decide +kernel
theorem dX7_ends_44 : decode cX7_ends 44 = .ok (.iload_n 2, 1) := by decide +kernel
theorem dX7_ends_45 : decode cX7_ends 45 = .ok (.iload 4, 2) := by decide +kernel
theorem dX7_ends_47 : decode cX7_ends 47 = .ok (.invokevirtual 255, 3) := by decide +kernel
theorem dX7_ends_50 : decode cX7_ends 50 = .ok (.iload_n 3, 1) := by decide +kernel
theorem dX7_ends_51 : decode cX7_ends 51 = .ok (.iload 4, 2) := by decide +kernel
theorem dX7_ends_53 : decode cX7_ends 53 = .ok (.iload_n 1, 1) := by decide +kernel
theorem dX7_ends_54 : decode cX7_ends 54 = .ok (.imul, 1) := by decide +kernel
theorem dX7_ends_55 : decode cX7_ends 55 = .ok (.isub, 1) := by decide +kernel
theorem dX7_ends_56 : decode cX7_ends 56 = .ok (.invokestatic 233, 3) := by decide +kernel
theorem dX7_ends_59 : decode cX7_ends 59 = .ok (.iload_n 1, 1) := by decide +kernel
theorem dX7_ends_60 : decode cX7_ends 60 = .ok (.iconst 4, 1) := by decide +kernel
theorem dX7_ends_61 : decode cX7_ends 61 = .ok (.idiv, 1) := by decide +kernel
theorem dX7_ends_62 : decode cX7_ends 62 = .ok (.if_icmp .le 8, 3) := by decide +kernel
theorem dX7_ends_65 : decode cX7_ends 65 = .ok (.aload_n 0, 1) := by decide +kernel
theorem dX7_ends_66 : decode cX7_ends 66 = .ok (.iload_n 2, 1) := by decide +kernel
theorem dX7_ends_67 : decode cX7_ends 67 = .ok (.invokevirtual 258, 3) := by decide +kernel
theorem dX7_ends_70 : decode cX7_ends 70 = .ok (.iinc 2 1, 3) := by decide +kernel
theorem dX7_ends_73 : decode cX7_ends 73 = .ok (.goto (-66), 3) := by decide +kernel
theorem dX7_ends_76 : decode cX7_ends 76 = .ok (.aload_n 0, 1) := by decide +kernel
theorem dX7_ends_77 : decode cX7_ends 77 = .ok (.invokevirtual 246, 3) := by decide +kernel
theorem dX7_ends_80 : decode cX7_ends 80 = .ok (.return_, 1) := by decide +kernel
theorem dX7_passes_0 : decode cX7_passes 0 = .ok (.iconst 0, 1) := by decide +kernel
theorem dX7_passes_1 : decode cX7_passes 1 = .ok (.istore_n 2, 1) := by decide +kernel
theorem dX7_passes_2 : decode cX7_passes 2 = .ok (.iload_n 2, 1) := by decide +kernel
theorem dX7_passes_3 : decode cX7_passes 3 = .ok (.iload_n 1, 1) := by decide +kernel
theorem dX7_passes_4 : decode cX7_passes 4 = .ok (.if_icmp .ge 35, 3) := by decide +kernel
theorem dX7_passes_7 : decode cX7_passes 7 = .ok (.aload_n 0, 1) := by decide +kernel
theorem dX7_passes_8 : decode cX7_passes 8 = .ok (.getfield 7, 3) := by decide +kernel
theorem dX7_passes_11 : decode cX7_passes 11 = .ok (.iconst 0, 1) := by decide +kernel
theorem dX7_passes_12 : decode cX7_passes 12 = .ok (.dup2, 1) := by decide +kernel
theorem dX7_passes_13 : decode cX7_passes 13 = .ok (.iaload, 1) := by decide +kernel
theorem dX7_passes_14 : decode cX7_passes 14 = .ok (.iconst 1, 1) := by decide +kernel
theorem dX7_passes_15 : decode cX7_passes 15 = .ok (.iadd, 1) := by decide +kernel
theorem dX7_passes_16 : decode cX7_passes 16 = .ok (.iastore, 1) := by decide +kernel
theorem dX7_passes_17 : decode cX7_passes 17 = .ok (.aload_n 0, 1) := by decide +kernel
theorem dX7_passes_18 : decode cX7_passes 18 = .ok (.getfield 7, 3) := by decide +kernel
theorem dX7_passes_21 : decode cX7_passes 21 = .ok (.iconst 0, 1) := by decide +kernel
theorem dX7_passes_22 : decode cX7_passes 22 = .ok (.iaload, 1) := by decide +kernel
theorem dX7_passes_23 : decode cX7_passes 23 = .ok (.bipush 32, 2) := by decide +kernel
theorem dX7_passes_25 : decode cX7_passes 25 = .ok (.irem, 1) := by decide +kernel
theorem dX7_passes_26 : decode cX7_passes 26 = .ok (.ifCond .ne 7, 3) := by decide +kernel
theorem dX7_passes_29 : decode cX7_passes 29 = .ok (.aload_n 0, 1) := by decide +kernel
theorem dX7_passes_30 : decode cX7_passes 30 = .ok (.invokevirtual 261, 3) := by decide +kernel
theorem dX7_passes_33 : decode cX7_passes 33 = .ok (.iinc 2 1, 3) := by decide +kernel
theorem dX7_passes_36 : decode cX7_passes 36 = .ok (.goto (-34), 3) := by decide +kernel
theorem dX7_passes_39 : decode cX7_passes 39 = .ok (.return_, 1) := by decide +kernel
theorem dX7_waitsFor_0 : decode cX7_waitsFor 0 = .ok (.iload_n 1, 1) := by decide +kernel
theorem dX7_waitsFor_1 : decode cX7_waitsFor 1 = .ok (.aload_n 0, 1) := by decide +kernel
theorem dX7_waitsFor_2 : decode cX7_waitsFor 2 = .ok (.getfield 7, 3) := by decide +kernel
theorem dX7_waitsFor_5 : decode cX7_waitsFor 5 = .ok (.iconst 0, 1) := by decide +kernel
theorem dX7_waitsFor_6 : decode cX7_waitsFor 6 = .ok (.iaload, 1) := by decide +kernel
theorem dX7_waitsFor_7 : decode cX7_waitsFor 7 = .ok (.bipush 32, 2) := by decide +kernel
theorem dX7_waitsFor_9 : decode cX7_waitsFor 9 = .ok (.irem, 1) := by decide +kernel
theorem dX7_waitsFor_10 : decode cX7_waitsFor 10 = .ok (.isub, 1) := by decide +kernel
theorem dX7_waitsFor_11 : decode cX7_waitsFor 11 = .ok (.bipush 32, 2) := by decide +kernel
theorem dX7_waitsFor_13 : decode cX7_waitsFor 13 = .ok (.iadd, 1) := by decide +kernel
theorem dX7_waitsFor_14 : decode cX7_waitsFor 14 = .ok (.bipush 32, 2) := by decide +kernel
theorem dX7_waitsFor_16 : decode cX7_waitsFor 16 = .ok (.irem, 1) := by decide +kernel
theorem dX7_waitsFor_17 : decode cX7_waitsFor 17 = .ok (.istore_n 2, 1) := by decide +kernel
theorem dX7_waitsFor_18 : decode cX7_waitsFor 18 = .ok (.aload_n 0, 1) := by decide +kernel
theorem dX7_waitsFor_19 : decode cX7_waitsFor 19 = .ok (.getfield 7, 3) := by decide +kernel
theorem dX7_waitsFor_22 : decode cX7_waitsFor 22 = .ok (.bipush 6, 2) := by decide +kernel
theorem dX7_waitsFor_24 : decode cX7_waitsFor 24 = .ok (.dup2, 1) := by decide +kernel
theorem dX7_waitsFor_25 : decode cX7_waitsFor 25 = .ok (.iaload, 1) := by decide +kernel
theorem dX7_waitsFor_26 : decode cX7_waitsFor 26 = .ok (.iload_n 2, 1) := by decide +kernel
theorem dX7_waitsFor_27 : decode cX7_waitsFor 27 = .ok (.iadd, 1) := by decide +kernel
theorem dX7_waitsFor_28 : decode cX7_waitsFor 28 = .ok (.iastore, 1) := by decide +kernel
theorem dX7_waitsFor_29 : decode cX7_waitsFor 29 = .ok (.aload_n 0, 1) := by decide +kernel
theorem dX7_waitsFor_30 : decode cX7_waitsFor 30 = .ok (.iload_n 2, 1) := by decide +kernel
theorem dX7_waitsFor_31 : decode cX7_waitsFor 31 = .ok (.invokevirtual 264, 3) := by decide +kernel
theorem dX7_waitsFor_34 : decode cX7_waitsFor 34 = .ok (.return_, 1) := by decide +kernel
theorem dX7_takes_0 : decode cX7_takes 0 = .ok (.aload_n 0, 1) := by decide +kernel
theorem dX7_takes_1 : decode cX7_takes 1 = .ok (.getfield 7, 3) := by decide +kernel
theorem dX7_takes_4 : decode cX7_takes 4 = .ok (.iconst 1, 1) := by decide +kernel
theorem dX7_takes_5 : decode cX7_takes 5 = .ok (.lload_n 1, 1) := by decide +kernel
theorem dX7_takes_6 : decode cX7_takes 6 = .ok (.invokestatic 197, 3) := by decide +kernel
theorem dX7_takes_9 : decode cX7_takes 9 = .ok (.iastore, 1) := by decide +kernel
theorem dX7_takes_10 : decode cX7_takes 10 = .ok (.aload_n 0, 1) := by decide +kernel
theorem dX7_takes_11 : decode cX7_takes 11 = .ok (.getfield 7, 3) := by decide +kernel
theorem dX7_takes_14 : decode cX7_takes 14 = .ok (.iconst 2, 1) := by decide +kernel
theorem dX7_takes_15 : decode cX7_takes 15 = .ok (.iload_n 3, 1) := by decide +kernel
theorem dX7_takes_16 : decode cX7_takes 16 = .ok (.ifCond .eq 19, 3) := by decide +kernel
theorem dX7_takes_19 : decode cX7_takes 19 = .ok (.aload_n 0, 1) := by decide +kernel
theorem dX7_takes_20 : decode cX7_takes 20 = .ok (.getfield 7, 3) := by decide +kernel
theorem dX7_takes_23 : decode cX7_takes 23 = .ok (.iconst 1, 1) := by decide +kernel
theorem dX7_takes_24 : decode cX7_takes 24 = .ok (.iaload, 1) := by decide +kernel
theorem dX7_takes_25 : decode cX7_takes 25 = .ok (.i2l, 1) := by decide +kernel
theorem dX7_takes_26 : decode cX7_takes 26 = .ok (.lload_n 1, 1) := by decide +kernel
theorem dX7_takes_27 : decode cX7_takes 27 = .ok (.lcmp, 1) := by decide +kernel
theorem dX7_takes_28 : decode cX7_takes 28 = .ok (.ifCond .eq 7, 3) := by decide +kernel
theorem dX7_takes_31 : decode cX7_takes 31 = .ok (.iconst 1, 1) := by decide +kernel
theorem dX7_takes_32 : decode cX7_takes 32 = .ok (.goto 9, 3) := by decide +kernel
theorem dX7_takes_35 : decode cX7_takes 35 = .ok (.aload_n 0, 1) := by decide +kernel
theorem dX7_takes_36 : decode cX7_takes 36 = .ok (.getfield 7, 3) := by decide +kernel
theorem dX7_takes_39 : decode cX7_takes 39 = .ok (.iconst 2, 1) := by decide +kernel
theorem dX7_takes_40 : decode cX7_takes 40 = .ok (.iaload, 1) := by decide +kernel
theorem dX7_takes_41 : decode cX7_takes 41 = .ok (.iastore, 1) := by decide +kernel
theorem dX7_takes_42 : decode cX7_takes 42 = .ok (.return_, 1) := by decide +kernel
theorem dX7_works_0 : decode cX7_works 0 = .ok (.aload_n 0, 1) := by decide +kernel
theorem dX7_works_1 : decode cX7_works 1 = .ok (.getfield 7, 3) := by decide +kernel
theorem dX7_works_4 : decode cX7_works 4 = .ok (.iconst 1, 1) := by decide +kernel
theorem dX7_works_5 : decode cX7_works 5 = .ok (.iaload, 1) := by decide +kernel
theorem dX7_works_6 : decode cX7_works 6 = .ok (.istore_n 3, 1) := by decide +kernel
theorem dX7_works_7 : decode cX7_works 7 = .ok (.iload_n 1, 1) := by decide +kernel
theorem dX7_works_8 : decode cX7_works 8 = .ok (.tableswitch 100 1 6 #[40, 100, 50, 63, 76, 88], 40) := by decide +kernel
theorem dX7_works_48 : decode cX7_works 48 = .ok (.aload_n 0, 1) := by decide +kernel
theorem dX7_works_49 : decode cX7_works 49 = .ok (.getfield 7, 3) := by decide +kernel
theorem dX7_works_52 : decode cX7_works 52 = .ok (.iconst 1, 1) := by decide +kernel
theorem dX7_works_53 : decode cX7_works 53 = .ok (.iload_n 2, 1) := by decide +kernel
theorem dX7_works_54 : decode cX7_works 54 = .ok (.iastore, 1) := by decide +kernel
theorem dX7_works_55 : decode cX7_works 55 = .ok (.goto 63, 3) := by decide +kernel
theorem dX7_works_58 : decode cX7_works 58 = .ok (.aload_n 0, 1) := by decide +kernel
theorem dX7_works_59 : decode cX7_works 59 = .ok (.iload_n 3, 1) := by decide +kernel
theorem dX7_works_60 : decode cX7_works 60 = .ok (.i2l, 1) := by decide +kernel
theorem dX7_works_61 : decode cX7_works 61 = .ok (.iload_n 2, 1) := by decide +kernel
theorem dX7_works_62 : decode cX7_works 62 = .ok (.i2l, 1) := by decide +kernel
theorem dX7_works_63 : decode cX7_works 63 = .ok (.ladd, 1) := by decide +kernel
theorem dX7_works_64 : decode cX7_works 64 = .ok (.iconst 1, 1) := by decide +kernel
theorem dX7_works_65 : decode cX7_works 65 = .ok (.invokevirtual 267, 3) := by decide +kernel
theorem dX7_works_68 : decode cX7_works 68 = .ok (.goto 50, 3) := by decide +kernel
theorem dX7_works_71 : decode cX7_works 71 = .ok (.aload_n 0, 1) := by decide +kernel
theorem dX7_works_72 : decode cX7_works 72 = .ok (.iload_n 3, 1) := by decide +kernel
theorem dX7_works_73 : decode cX7_works 73 = .ok (.i2l, 1) := by decide +kernel
theorem dX7_works_74 : decode cX7_works 74 = .ok (.iload_n 2, 1) := by decide +kernel
theorem dX7_works_75 : decode cX7_works 75 = .ok (.i2l, 1) := by decide +kernel
theorem dX7_works_76 : decode cX7_works 76 = .ok (.lsub, 1) := by decide +kernel
theorem dX7_works_77 : decode cX7_works 77 = .ok (.iconst 1, 1) := by decide +kernel
theorem dX7_works_78 : decode cX7_works 78 = .ok (.invokevirtual 267, 3) := by decide +kernel
theorem dX7_works_81 : decode cX7_works 81 = .ok (.goto 37, 3) := by decide +kernel
theorem dX7_works_84 : decode cX7_works 84 = .ok (.aload_n 0, 1) := by decide +kernel
theorem dX7_works_85 : decode cX7_works 85 = .ok (.getfield 7, 3) := by decide +kernel
theorem dX7_works_88 : decode cX7_works 88 = .ok (.iconst 1, 1) := by decide +kernel
theorem dX7_works_89 : decode cX7_works 89 = .ok (.iload_n 3, 1) := by decide +kernel
theorem dX7_works_90 : decode cX7_works 90 = .ok (.iload_n 2, 1) := by decide +kernel
theorem dX7_works_91 : decode cX7_works 91 = .ok (.iand, 1) := by decide +kernel
theorem dX7_works_92 : decode cX7_works 92 = .ok (.iastore, 1) := by decide +kernel
theorem dX7_works_93 : decode cX7_works 93 = .ok (.goto 25, 3) := by decide +kernel
theorem dX7_works_96 : decode cX7_works 96 = .ok (.aload_n 0, 1) := by decide +kernel
theorem dX7_works_97 : decode cX7_works 97 = .ok (.getfield 7, 3) := by decide +kernel
theorem dX7_works_100 : decode cX7_works 100 = .ok (.iconst 1, 1) := by decide +kernel
theorem dX7_works_101 : decode cX7_works 101 = .ok (.iload_n 3, 1) := by decide +kernel
theorem dX7_works_102 : decode cX7_works 102 = .ok (.iload_n 2, 1) := by decide +kernel
theorem dX7_works_103 : decode cX7_works 103 = .ok (.ixor, 1) := by decide +kernel
theorem dX7_works_104 : decode cX7_works 104 = .ok (.iastore, 1) := by decide +kernel
theorem dX7_works_105 : decode cX7_works 105 = .ok (.goto 13, 3) := by decide +kernel
theorem dX7_works_108 : decode cX7_works 108 = .ok (.aload_n 0, 1) := by decide +kernel
theorem dX7_works_109 : decode cX7_works 109 = .ok (.iload_n 3, 1) := by decide +kernel
theorem dX7_works_110 : decode cX7_works 110 = .ok (.i2l, 1) := by decide +kernel
theorem dX7_works_111 : decode cX7_works 111 = .ok (.iload_n 2, 1) := by decide +kernel
theorem dX7_works_112 : decode cX7_works 112 = .ok (.i2l, 1) := by decide +kernel
theorem dX7_works_113 : decode cX7_works 113 = .ok (.lmul, 1) := by decide +kernel
theorem dX7_works_114 : decode cX7_works 114 = .ok (.iconst 1, 1) := by decide +kernel
theorem dX7_works_115 : decode cX7_works 115 = .ok (.invokevirtual 267, 3) := by decide +kernel
theorem dX7_works_118 : decode cX7_works 118 = .ok (.return_, 1) := by decide +kernel
theorem dX7_countsDown_0 : decode cX7_countsDown 0 = .ok (.aload_n 0, 1) := by decide +kernel
theorem dX7_countsDown_1 : decode cX7_countsDown 1 = .ok (.iload_n 1, 1) := by decide +kernel
theorem dX7_countsDown_2 : decode cX7_countsDown 2 = .ok (.bipush 32, 2) := by decide +kernel
theorem dX7_countsDown_4 : decode cX7_countsDown 4 = .ok (.irem, 1) := by decide +kernel
theorem dX7_countsDown_5 : decode cX7_countsDown 5 = .ok (.invokevirtual 271, 3) := by decide +kernel
theorem dX7_countsDown_8 : decode cX7_countsDown 8 = .ok (.aload_n 0, 1) := by decide +kernel
theorem dX7_countsDown_9 : decode cX7_countsDown 9 = .ok (.getfield 7, 3) := by decide +kernel
theorem dX7_countsDown_12 : decode cX7_countsDown 12 = .ok (.iconst 1, 1) := by decide +kernel
theorem dX7_countsDown_13 : decode cX7_countsDown 13 = .ok (.aload_n 0, 1) := by decide +kernel
theorem dX7_countsDown_14 : decode cX7_countsDown 14 = .ok (.getfield 7, 3) := by decide +kernel
theorem dX7_countsDown_17 : decode cX7_countsDown 17 = .ok (.sipush 414, 3) := by decide +kernel
theorem dX7_countsDown_20 : decode cX7_countsDown 20 = .ok (.iload_n 1, 1) := by decide +kernel
theorem dX7_countsDown_21 : decode cX7_countsDown 21 = .ok (.iadd, 1) := by decide +kernel
theorem dX7_countsDown_22 : decode cX7_countsDown 22 = .ok (.iaload, 1) := by decide +kernel
theorem dX7_countsDown_23 : decode cX7_countsDown 23 = .ok (.i2l, 1) := by decide +kernel
theorem dX7_countsDown_24 : decode cX7_countsDown 24 = .ok (.invokestatic 197, 3) := by decide +kernel
theorem dX7_countsDown_27 : decode cX7_countsDown 27 = .ok (.i2l, 1) := by decide +kernel
theorem dX7_countsDown_28 : decode cX7_countsDown 28 = .ok (.lconst 1, 1) := by decide +kernel
theorem dX7_countsDown_29 : decode cX7_countsDown 29 = .ok (.lsub, 1) := by decide +kernel
theorem dX7_countsDown_30 : decode cX7_countsDown 30 = .ok (.invokestatic 197, 3) := by decide +kernel
theorem dX7_countsDown_33 : decode cX7_countsDown 33 = .ok (.iastore, 1) := by decide +kernel
theorem dX7_countsDown_34 : decode cX7_countsDown 34 = .ok (.aload_n 0, 1) := by decide +kernel
theorem dX7_countsDown_35 : decode cX7_countsDown 35 = .ok (.bipush 32, 2) := by decide +kernel
theorem dX7_countsDown_37 : decode cX7_countsDown 37 = .ok (.invokevirtual 264, 3) := by decide +kernel
theorem dX7_countsDown_40 : decode cX7_countsDown 40 = .ok (.aload_n 0, 1) := by decide +kernel
theorem dX7_countsDown_41 : decode cX7_countsDown 41 = .ok (.getfield 7, 3) := by decide +kernel
theorem dX7_countsDown_44 : decode cX7_countsDown 44 = .ok (.sipush 414, 3) := by decide +kernel
theorem dX7_countsDown_47 : decode cX7_countsDown 47 = .ok (.iload_n 1, 1) := by decide +kernel
theorem dX7_countsDown_48 : decode cX7_countsDown 48 = .ok (.iadd, 1) := by decide +kernel
theorem dX7_countsDown_49 : decode cX7_countsDown 49 = .ok (.aload_n 0, 1) := by decide +kernel
theorem dX7_countsDown_50 : decode cX7_countsDown 50 = .ok (.getfield 7, 3) := by decide +kernel
theorem dX7_countsDown_53 : decode cX7_countsDown 53 = .ok (.iconst 1, 1) := by decide +kernel
theorem dX7_countsDown_54 : decode cX7_countsDown 54 = .ok (.iaload, 1) := by decide +kernel
theorem dX7_countsDown_55 : decode cX7_countsDown 55 = .ok (.ldc 94, 2) := by decide +kernel
theorem dX7_countsDown_57 : decode cX7_countsDown 57 = .ok (.iand, 1) := by decide +kernel
theorem dX7_countsDown_58 : decode cX7_countsDown 58 = .ok (.iastore, 1) := by decide +kernel
theorem dX7_countsDown_59 : decode cX7_countsDown 59 = .ok (.aload_n 0, 1) := by decide +kernel
theorem dX7_countsDown_60 : decode cX7_countsDown 60 = .ok (.iconst 1, 1) := by decide +kernel
theorem dX7_countsDown_61 : decode cX7_countsDown 61 = .ok (.invokevirtual 264, 3) := by decide +kernel
theorem dX7_countsDown_64 : decode cX7_countsDown 64 = .ok (.return_, 1) := by decide +kernel
theorem dX7_shifts_0 : decode cX7_shifts 0 = .ok (.aload_n 0, 1) := by decide +kernel
theorem dX7_shifts_1 : decode cX7_shifts 1 = .ok (.iload_n 1, 1) := by decide +kernel
theorem dX7_shifts_2 : decode cX7_shifts 2 = .ok (.bipush 8, 2) := by decide +kernel
theorem dX7_shifts_4 : decode cX7_shifts 4 = .ok (.if_icmp .ne 15, 3) := by decide +kernel
theorem dX7_shifts_7 : decode cX7_shifts 7 = .ok (.aload_n 0, 1) := by decide +kernel
theorem dX7_shifts_8 : decode cX7_shifts 8 = .ok (.getfield 7, 3) := by decide +kernel
theorem dX7_shifts_11 : decode cX7_shifts 11 = .ok (.iconst 1, 1) := by decide +kernel
theorem dX7_shifts_12 : decode cX7_shifts 12 = .ok (.iaload, 1) := by decide +kernel
theorem dX7_shifts_13 : decode cX7_shifts 13 = .ok (.i2l, 1) := by decide +kernel
theorem dX7_shifts_14 : decode cX7_shifts 14 = .ok (.iload_n 2, 1) := by decide +kernel
theorem dX7_shifts_15 : decode cX7_shifts 15 = .ok (.lshl, 1) := by decide +kernel
theorem dX7_shifts_16 : decode cX7_shifts 16 = .ok (.goto 12, 3) := by decide +kernel
theorem dX7_shifts_19 : decode cX7_shifts 19 = .ok (.aload_n 0, 1) := by decide +kernel
theorem dX7_shifts_20 : decode cX7_shifts 20 = .ok (.getfield 7, 3) := by decide +kernel
theorem dX7_shifts_23 : decode cX7_shifts 23 = .ok (.iconst 1, 1) := by decide +kernel
theorem dX7_shifts_24 : decode cX7_shifts 24 = .ok (.iaload, 1) := by decide +kernel
theorem dX7_shifts_25 : decode cX7_shifts 25 = .ok (.i2l, 1) := by decide +kernel
theorem dX7_shifts_26 : decode cX7_shifts 26 = .ok (.iload_n 2, 1) := by decide +kernel
theorem dX7_shifts_27 : decode cX7_shifts 27 = .ok (.lshr, 1) := by decide +kernel
theorem dX7_shifts_28 : decode cX7_shifts 28 = .ok (.iconst 0, 1) := by decide +kernel
theorem dX7_shifts_29 : decode cX7_shifts 29 = .ok (.invokevirtual 267, 3) := by decide +kernel
theorem dX7_shifts_32 : decode cX7_shifts 32 = .ok (.aload_n 0, 1) := by decide +kernel
theorem dX7_shifts_33 : decode cX7_shifts 33 = .ok (.iconst 1, 1) := by decide +kernel
theorem dX7_shifts_34 : decode cX7_shifts 34 = .ok (.iload_n 2, 1) := by decide +kernel
theorem dX7_shifts_35 : decode cX7_shifts 35 = .ok (.iadd, 1) := by decide +kernel
theorem dX7_shifts_36 : decode cX7_shifts 36 = .ok (.invokevirtual 264, 3) := by decide +kernel
theorem dX7_shifts_39 : decode cX7_shifts 39 = .ok (.return_, 1) := by decide +kernel
theorem dX7_isTaken_0 : decode cX7_isTaken 0 = .ok (.iload_n 1, 1) := by decide +kernel
theorem dX7_isTaken_1 : decode cX7_isTaken 1 = .ok (.bipush 10, 2) := by decide +kernel
theorem dX7_isTaken_3 : decode cX7_isTaken 3 = .ok (.if_icmp .ne 20, 3) := by decide +kernel
theorem dX7_isTaken_6 : decode cX7_isTaken 6 = .ok (.aload_n 0, 1) := by decide +kernel
theorem dX7_isTaken_7 : decode cX7_isTaken 7 = .ok (.getfield 7, 3) := by decide +kernel
theorem dX7_isTaken_10 : decode cX7_isTaken 10 = .ok (.iconst 1, 1) := by decide +kernel
theorem dX7_isTaken_11 : decode cX7_isTaken 11 = .ok (.iaload, 1) := by decide +kernel
theorem dX7_isTaken_12 : decode cX7_isTaken 12 = .ok (.ifCond .ge 7, 3) := by decide +kernel
theorem dX7_isTaken_15 : decode cX7_isTaken 15 = .ok (.iconst 1, 1) := by decide +kernel
theorem dX7_isTaken_16 : decode cX7_isTaken 16 = .ok (.goto 45, 3) := by decide +kernel
theorem dX7_isTaken_19 : decode cX7_isTaken 19 = .ok (.iconst 0, 1) := by decide +kernel
theorem dX7_isTaken_20 : decode cX7_isTaken 20 = .ok (.goto 41, 3) := by decide +kernel
theorem dX7_isTaken_23 : decode cX7_isTaken 23 = .ok (.iload_n 1, 1) := by decide +kernel
theorem dX7_isTaken_24 : decode cX7_isTaken 24 = .ok (.bipush 11, 2) := by decide +kernel
theorem dX7_isTaken_26 : decode cX7_isTaken 26 = .ok (.if_icmp .ne 20, 3) := by decide +kernel
theorem dX7_isTaken_29 : decode cX7_isTaken 29 = .ok (.aload_n 0, 1) := by decide +kernel
theorem dX7_isTaken_30 : decode cX7_isTaken 30 = .ok (.getfield 7, 3) := by decide +kernel
theorem dX7_isTaken_33 : decode cX7_isTaken 33 = .ok (.iconst 1, 1) := by decide +kernel
theorem dX7_isTaken_34 : decode cX7_isTaken 34 = .ok (.iaload, 1) := by decide +kernel
theorem dX7_isTaken_35 : decode cX7_isTaken 35 = .ok (.ifCond .ne 7, 3) := by decide +kernel
theorem dX7_isTaken_38 : decode cX7_isTaken 38 = .ok (.iconst 1, 1) := by decide +kernel
theorem dX7_isTaken_39 : decode cX7_isTaken 39 = .ok (.goto 22, 3) := by decide +kernel
theorem dX7_isTaken_42 : decode cX7_isTaken 42 = .ok (.iconst 0, 1) := by decide +kernel
theorem dX7_isTaken_43 : decode cX7_isTaken 43 = .ok (.goto 18, 3) := by decide +kernel
theorem dX7_isTaken_46 : decode cX7_isTaken 46 = .ok (.aload_n 0, 1) := by decide +kernel
theorem dX7_isTaken_47 : decode cX7_isTaken 47 = .ok (.getfield 7, 3) := by decide +kernel
theorem dX7_isTaken_50 : decode cX7_isTaken 50 = .ok (.iconst 2, 1) := by decide +kernel
theorem dX7_isTaken_51 : decode cX7_isTaken 51 = .ok (.iaload, 1) := by decide +kernel
theorem dX7_isTaken_52 : decode cX7_isTaken 52 = .ok (.iconst 1, 1) := by decide +kernel
theorem dX7_isTaken_53 : decode cX7_isTaken 53 = .ok (.if_icmp .ne 7, 3) := by decide +kernel
theorem dX7_isTaken_56 : decode cX7_isTaken 56 = .ok (.iconst 1, 1) := by decide +kernel
theorem dX7_isTaken_57 : decode cX7_isTaken 57 = .ok (.goto 4, 3) := by decide +kernel
theorem dX7_isTaken_60 : decode cX7_isTaken 60 = .ok (.iconst 0, 1) := by decide +kernel
theorem dX7_isTaken_61 : decode cX7_isTaken 61 = .ok (.istore_n 2, 1) := by decide +kernel
theorem dX7_isTaken_62 : decode cX7_isTaken 62 = .ok (.aload_n 0, 1) := by decide +kernel
theorem dX7_isTaken_63 : decode cX7_isTaken 63 = .ok (.getfield 7, 3) := by decide +kernel
theorem dX7_isTaken_66 : decode cX7_isTaken 66 = .ok (.iconst 2, 1) := by decide +kernel
theorem dX7_isTaken_67 : decode cX7_isTaken 67 = .ok (.iload_n 1, 1) := by decide +kernel
theorem dX7_isTaken_68 : decode cX7_isTaken 68 = .ok (.bipush 12, 2) := by decide +kernel
theorem dX7_isTaken_70 : decode cX7_isTaken 70 = .ok (.if_icmp .ne 11, 3) := by decide +kernel
theorem dX7_isTaken_73 : decode cX7_isTaken 73 = .ok (.iload_n 2, 1) := by decide +kernel
theorem dX7_isTaken_74 : decode cX7_isTaken 74 = .ok (.ifCond .eq 7, 3) := by decide +kernel
theorem dX7_isTaken_77 : decode cX7_isTaken 77 = .ok (.iconst 0, 1) := by decide +kernel
theorem dX7_isTaken_78 : decode cX7_isTaken 78 = .ok (.goto 9, 3) := by decide +kernel
theorem dX7_isTaken_81 : decode cX7_isTaken 81 = .ok (.aload_n 0, 1) := by decide +kernel
theorem dX7_isTaken_82 : decode cX7_isTaken 82 = .ok (.getfield 7, 3) := by decide +kernel
theorem dX7_isTaken_85 : decode cX7_isTaken 85 = .ok (.iconst 2, 1) := by decide +kernel
theorem dX7_isTaken_86 : decode cX7_isTaken 86 = .ok (.iaload, 1) := by decide +kernel
theorem dX7_isTaken_87 : decode cX7_isTaken 87 = .ok (.iastore, 1) := by decide +kernel
theorem dX7_isTaken_88 : decode cX7_isTaken 88 = .ok (.iload_n 2, 1) := by decide +kernel
theorem dX7_isTaken_89 : decode cX7_isTaken 89 = .ok (.ireturn, 1) := by decide +kernel
theorem dX7_reads_0 : decode cX7_reads 0 = .ok (.aload_n 0, 1) := by decide +kernel
theorem dX7_reads_1 : decode cX7_reads 1 = .ok (.iload_n 2, 1) := by decide +kernel
theorem dX7_reads_2 : decode cX7_reads 2 = .ok (.bipush 32, 2) := by decide +kernel
theorem dX7_reads_4 : decode cX7_reads 4 = .ok (.irem, 1) := by decide +kernel
theorem dX7_reads_5 : decode cX7_reads 5 = .ok (.invokevirtual 271, 3) := by decide +kernel
theorem dX7_reads_8 : decode cX7_reads 8 = .ok (.aload_n 0, 1) := by decide +kernel
theorem dX7_reads_9 : decode cX7_reads 9 = .ok (.getfield 7, 3) := by decide +kernel
theorem dX7_reads_12 : decode cX7_reads 12 = .ok (.sipush 414, 3) := by decide +kernel
theorem dX7_reads_15 : decode cX7_reads 15 = .ok (.iload_n 2, 1) := by decide +kernel
theorem dX7_reads_16 : decode cX7_reads 16 = .ok (.iadd, 1) := by decide +kernel
theorem dX7_reads_17 : decode cX7_reads 17 = .ok (.iaload, 1) := by decide +kernel
theorem dX7_reads_18 : decode cX7_reads 18 = .ok (.i2l, 1) := by decide +kernel
theorem dX7_reads_19 : decode cX7_reads 19 = .ok (.invokestatic 197, 3) := by decide +kernel
theorem dX7_reads_22 : decode cX7_reads 22 = .ok (.istore_n 3, 1) := by decide +kernel
theorem dX7_reads_23 : decode cX7_reads 23 = .ok (.aload_n 0, 1) := by decide +kernel
theorem dX7_reads_24 : decode cX7_reads 24 = .ok (.iload_n 1, 1) := by decide +kernel
theorem dX7_reads_25 : decode cX7_reads 25 = .ok (.iload_n 3, 1) := by decide +kernel
theorem dX7_reads_26 : decode cX7_reads 26 = .ok (.invokevirtual 274, 3) := by decide +kernel
theorem dX7_reads_29 : decode cX7_reads 29 = .ok (.aload_n 0, 1) := by decide +kernel
theorem dX7_reads_30 : decode cX7_reads 30 = .ok (.iload_n 1, 1) := by decide +kernel
theorem dX7_reads_31 : decode cX7_reads 31 = .ok (.bipush 7, 2) := by decide +kernel
theorem dX7_reads_33 : decode cX7_reads 33 = .ok (.if_icmp .ne 8, 3) := by decide +kernel
theorem dX7_reads_36 : decode cX7_reads 36 = .ok (.bipush 21, 2) := by decide +kernel
theorem dX7_reads_38 : decode cX7_reads 38 = .ok (.goto 4, 3) := by decide +kernel
theorem dX7_reads_41 : decode cX7_reads 41 = .ok (.iconst 1, 1) := by decide +kernel
theorem dX7_reads_42 : decode cX7_reads 42 = .ok (.invokevirtual 264, 3) := by decide +kernel
theorem dX7_reads_45 : decode cX7_reads 45 = .ok (.return_, 1) := by decide +kernel
theorem dX7_stores_0 : decode cX7_stores 0 = .ok (.aload_n 0, 1) := by decide +kernel
theorem dX7_stores_1 : decode cX7_stores 1 = .ok (.iload_n 1, 1) := by decide +kernel
theorem dX7_stores_2 : decode cX7_stores 2 = .ok (.bipush 32, 2) := by decide +kernel
theorem dX7_stores_4 : decode cX7_stores 4 = .ok (.irem, 1) := by decide +kernel
theorem dX7_stores_5 : decode cX7_stores 5 = .ok (.invokevirtual 271, 3) := by decide +kernel
theorem dX7_stores_8 : decode cX7_stores 8 = .ok (.aload_n 0, 1) := by decide +kernel
theorem dX7_stores_9 : decode cX7_stores 9 = .ok (.getfield 7, 3) := by decide +kernel
theorem dX7_stores_12 : decode cX7_stores 12 = .ok (.sipush 414, 3) := by decide +kernel
theorem dX7_stores_15 : decode cX7_stores 15 = .ok (.iload_n 1, 1) := by decide +kernel
theorem dX7_stores_16 : decode cX7_stores 16 = .ok (.iadd, 1) := by decide +kernel
theorem dX7_stores_17 : decode cX7_stores 17 = .ok (.aload_n 0, 1) := by decide +kernel
theorem dX7_stores_18 : decode cX7_stores 18 = .ok (.getfield 7, 3) := by decide +kernel
theorem dX7_stores_21 : decode cX7_stores 21 = .ok (.iconst 1, 1) := by decide +kernel
theorem dX7_stores_22 : decode cX7_stores 22 = .ok (.iaload, 1) := by decide +kernel
theorem dX7_stores_23 : decode cX7_stores 23 = .ok (.ldc 94, 2) := by decide +kernel
theorem dX7_stores_25 : decode cX7_stores 25 = .ok (.iand, 1) := by decide +kernel
theorem dX7_stores_26 : decode cX7_stores 26 = .ok (.iastore, 1) := by decide +kernel
theorem dX7_stores_27 : decode cX7_stores 27 = .ok (.aload_n 0, 1) := by decide +kernel
theorem dX7_stores_28 : decode cX7_stores 28 = .ok (.iconst 1, 1) := by decide +kernel
theorem dX7_stores_29 : decode cX7_stores 29 = .ok (.invokevirtual 264, 3) := by decide +kernel
theorem dX7_stores_32 : decode cX7_stores 32 = .ok (.return_, 1) := by decide +kernel
theorem dX7_comesIn_0 : decode cX7_comesIn 0 = .ok (.aload_n 0, 1) := by decide +kernel
theorem dX7_comesIn_1 : decode cX7_comesIn 1 = .ok (.getfield 7, 3) := by decide +kernel
theorem dX7_comesIn_4 : decode cX7_comesIn 4 = .ok (.bipush 12, 2) := by decide +kernel
theorem dX7_comesIn_6 : decode cX7_comesIn 6 = .ok (.iaload, 1) := by decide +kernel
theorem dX7_comesIn_7 : decode cX7_comesIn 7 = .ok (.ifCond .ne 12, 3) := by decide +kernel
theorem dX7_comesIn_10 : decode cX7_comesIn 10 = .ok (.aload_n 0, 1) := by decide +kernel
theorem dX7_comesIn_11 : decode cX7_comesIn 11 = .ok (.getfield 7, 3) := by decide +kernel
theorem dX7_comesIn_14 : decode cX7_comesIn 14 = .ok (.iconst 4, 1) := by decide +kernel
theorem dX7_comesIn_15 : decode cX7_comesIn 15 = .ok (.iconst 2, 1) := by decide +kernel
theorem dX7_comesIn_16 : decode cX7_comesIn 16 = .ok (.iastore, 1) := by decide +kernel
theorem dX7_comesIn_17 : decode cX7_comesIn 17 = .ok (.iconst 0, 1) := by decide +kernel
theorem dX7_comesIn_18 : decode cX7_comesIn 18 = .ok (.ireturn, 1) := by decide +kernel
theorem dX7_comesIn_19 : decode cX7_comesIn 19 = .ok (.aload_n 0, 1) := by decide +kernel
theorem dX7_comesIn_20 : decode cX7_comesIn 20 = .ok (.getfield 7, 3) := by decide +kernel
theorem dX7_comesIn_23 : decode cX7_comesIn 23 = .ok (.iconst 1, 1) := by decide +kernel
theorem dX7_comesIn_24 : decode cX7_comesIn 24 = .ok (.aload_n 0, 1) := by decide +kernel
theorem dX7_comesIn_25 : decode cX7_comesIn 25 = .ok (.getfield 7, 3) := by decide +kernel
theorem dX7_comesIn_28 : decode cX7_comesIn 28 = .ok (.bipush 30, 2) := by decide +kernel
theorem dX7_comesIn_30 : decode cX7_comesIn 30 = .ok (.iaload, 1) := by decide +kernel
theorem dX7_comesIn_31 : decode cX7_comesIn 31 = .ok (.iastore, 1) := by decide +kernel
theorem dX7_comesIn_32 : decode cX7_comesIn 32 = .ok (.aload_n 0, 1) := by decide +kernel
theorem dX7_comesIn_33 : decode cX7_comesIn 33 = .ok (.getfield 7, 3) := by decide +kernel
theorem dX7_comesIn_36 : decode cX7_comesIn 36 = .ok (.bipush 12, 2) := by decide +kernel
theorem dX7_comesIn_38 : decode cX7_comesIn 38 = .ok (.dup2, 1) := by decide +kernel
theorem dX7_comesIn_39 : decode cX7_comesIn 39 = .ok (.iaload, 1) := by decide +kernel
theorem dX7_comesIn_40 : decode cX7_comesIn 40 = .ok (.iconst 1, 1) := by decide +kernel
theorem dX7_comesIn_41 : decode cX7_comesIn 41 = .ok (.isub, 1) := by decide +kernel
theorem dX7_comesIn_42 : decode cX7_comesIn 42 = .ok (.iastore, 1) := by decide +kernel
theorem dX7_comesIn_43 : decode cX7_comesIn 43 = .ok (.iconst 0, 1) := by decide +kernel
theorem dX7_comesIn_44 : decode cX7_comesIn 44 = .ok (.istore_n 1, 1) := by decide +kernel
theorem dX7_comesIn_45 : decode cX7_comesIn 45 = .ok (.iload_n 1, 1) := by decide +kernel
theorem dX7_comesIn_46 : decode cX7_comesIn 46 = .ok (.aload_n 0, 1) := by decide +kernel
theorem dX7_comesIn_47 : decode cX7_comesIn 47 = .ok (.getfield 7, 3) := by decide +kernel
theorem dX7_comesIn_50 : decode cX7_comesIn 50 = .ok (.bipush 12, 2) := by decide +kernel
theorem dX7_comesIn_52 : decode cX7_comesIn 52 = .ok (.iaload, 1) := by decide +kernel
theorem dX7_comesIn_53 : decode cX7_comesIn 53 = .ok (.if_icmp .ge 29, 3) := by decide +kernel
theorem dX7_comesIn_56 : decode cX7_comesIn 56 = .ok (.aload_n 0, 1) := by decide +kernel
theorem dX7_comesIn_57 : decode cX7_comesIn 57 = .ok (.getfield 7, 3) := by decide +kernel
theorem dX7_comesIn_60 : decode cX7_comesIn 60 = .ok (.bipush 30, 2) := by decide +kernel
theorem dX7_comesIn_62 : decode cX7_comesIn 62 = .ok (.iload_n 1, 1) := by decide +kernel
theorem dX7_comesIn_63 : decode cX7_comesIn 63 = .ok (.iadd, 1) := by decide +kernel
theorem dX7_comesIn_64 : decode cX7_comesIn 64 = .ok (.aload_n 0, 1) := by decide +kernel
theorem dX7_comesIn_65 : decode cX7_comesIn 65 = .ok (.getfield 7, 3) := by decide +kernel
theorem dX7_comesIn_68 : decode cX7_comesIn 68 = .ok (.bipush 30, 2) := by decide +kernel
theorem dX7_comesIn_70 : decode cX7_comesIn 70 = .ok (.iload_n 1, 1) := by decide +kernel
theorem dX7_comesIn_71 : decode cX7_comesIn 71 = .ok (.iadd, 1) := by decide +kernel
theorem dX7_comesIn_72 : decode cX7_comesIn 72 = .ok (.iconst 1, 1) := by decide +kernel
theorem dX7_comesIn_73 : decode cX7_comesIn 73 = .ok (.iadd, 1) := by decide +kernel
theorem dX7_comesIn_74 : decode cX7_comesIn 74 = .ok (.iaload, 1) := by decide +kernel
theorem dX7_comesIn_75 : decode cX7_comesIn 75 = .ok (.iastore, 1) := by decide +kernel
theorem dX7_comesIn_76 : decode cX7_comesIn 76 = .ok (.iinc 1 1, 3) := by decide +kernel
theorem dX7_comesIn_79 : decode cX7_comesIn 79 = .ok (.goto (-34), 3) := by decide +kernel
theorem dX7_comesIn_82 : decode cX7_comesIn 82 = .ok (.aload_n 0, 1) := by decide +kernel
theorem dX7_comesIn_83 : decode cX7_comesIn 83 = .ok (.iconst 1, 1) := by decide +kernel
theorem dX7_comesIn_84 : decode cX7_comesIn 84 = .ok (.invokevirtual 264, 3) := by decide +kernel
theorem dX7_comesIn_87 : decode cX7_comesIn 87 = .ok (.iconst 1, 1) := by decide +kernel
theorem dX7_comesIn_88 : decode cX7_comesIn 88 = .ok (.ireturn, 1) := by decide +kernel
theorem dX7_goesOut_0 : decode cX7_goesOut 0 = .ok (.aload_n 0, 1) := by decide +kernel
theorem dX7_goesOut_1 : decode cX7_goesOut 1 = .ok (.getfield 7, 3) := by decide +kernel
theorem dX7_goesOut_4 : decode cX7_goesOut 4 = .ok (.bipush 13, 2) := by decide +kernel
theorem dX7_goesOut_6 : decode cX7_goesOut 6 = .ok (.iaload, 1) := by decide +kernel
theorem dX7_goesOut_7 : decode cX7_goesOut 7 = .ok (.bipush 64, 2) := by decide +kernel
theorem dX7_goesOut_9 : decode cX7_goesOut 9 = .ok (.if_icmp .ne 12, 3) := by decide +kernel
theorem dX7_goesOut_12 : decode cX7_goesOut 12 = .ok (.aload_n 0, 1) := by decide +kernel
theorem dX7_goesOut_13 : decode cX7_goesOut 13 = .ok (.getfield 7, 3) := by decide +kernel
theorem dX7_goesOut_16 : decode cX7_goesOut 16 = .ok (.iconst 4, 1) := by decide +kernel
theorem dX7_goesOut_17 : decode cX7_goesOut 17 = .ok (.iconst 3, 1) := by decide +kernel
theorem dX7_goesOut_18 : decode cX7_goesOut 18 = .ok (.iastore, 1) := by decide +kernel
theorem dX7_goesOut_19 : decode cX7_goesOut 19 = .ok (.iconst 0, 1) := by decide +kernel
theorem dX7_goesOut_20 : decode cX7_goesOut 20 = .ok (.ireturn, 1) := by decide +kernel
theorem dX7_goesOut_21 : decode cX7_goesOut 21 = .ok (.aload_n 0, 1) := by decide +kernel
theorem dX7_goesOut_22 : decode cX7_goesOut 22 = .ok (.getfield 7, 3) := by decide +kernel
theorem dX7_goesOut_25 : decode cX7_goesOut 25 = .ok (.bipush 94, 2) := by decide +kernel
theorem dX7_goesOut_27 : decode cX7_goesOut 27 = .ok (.aload_n 0, 1) := by decide +kernel
theorem dX7_goesOut_28 : decode cX7_goesOut 28 = .ok (.getfield 7, 3) := by decide +kernel
theorem dX7_goesOut_31 : decode cX7_goesOut 31 = .ok (.bipush 13, 2) := by decide +kernel
theorem dX7_goesOut_33 : decode cX7_goesOut 33 = .ok (.iaload, 1) := by decide +kernel
theorem dX7_goesOut_34 : decode cX7_goesOut 34 = .ok (.iadd, 1) := by decide +kernel
theorem dX7_goesOut_35 : decode cX7_goesOut 35 = .ok (.aload_n 0, 1) := by decide +kernel
theorem dX7_goesOut_36 : decode cX7_goesOut 36 = .ok (.getfield 7, 3) := by decide +kernel
theorem dX7_goesOut_39 : decode cX7_goesOut 39 = .ok (.iconst 1, 1) := by decide +kernel
theorem dX7_goesOut_40 : decode cX7_goesOut 40 = .ok (.iaload, 1) := by decide +kernel
theorem dX7_goesOut_41 : decode cX7_goesOut 41 = .ok (.iastore, 1) := by decide +kernel
theorem dX7_goesOut_42 : decode cX7_goesOut 42 = .ok (.aload_n 0, 1) := by decide +kernel
theorem dX7_goesOut_43 : decode cX7_goesOut 43 = .ok (.getfield 7, 3) := by decide +kernel
theorem dX7_goesOut_46 : decode cX7_goesOut 46 = .ok (.bipush 13, 2) := by decide +kernel
theorem dX7_goesOut_48 : decode cX7_goesOut 48 = .ok (.dup2, 1) := by decide +kernel
theorem dX7_goesOut_49 : decode cX7_goesOut 49 = .ok (.iaload, 1) := by decide +kernel
theorem dX7_goesOut_50 : decode cX7_goesOut 50 = .ok (.iconst 1, 1) := by decide +kernel
theorem dX7_goesOut_51 : decode cX7_goesOut 51 = .ok (.iadd, 1) := by decide +kernel
theorem dX7_goesOut_52 : decode cX7_goesOut 52 = .ok (.iastore, 1) := by decide +kernel
theorem dX7_goesOut_53 : decode cX7_goesOut 53 = .ok (.aload_n 0, 1) := by decide +kernel
theorem dX7_goesOut_54 : decode cX7_goesOut 54 = .ok (.iconst 1, 1) := by decide +kernel
theorem dX7_goesOut_55 : decode cX7_goesOut 55 = .ok (.invokevirtual 264, 3) := by decide +kernel
theorem dX7_goesOut_58 : decode cX7_goesOut 58 = .ok (.iconst 1, 1) := by decide +kernel
theorem dX7_goesOut_59 : decode cX7_goesOut 59 = .ok (.ireturn, 1) := by decide +kernel
theorem dX7_operandOf_0 : decode cX7_operandOf 0 = .ok (.bipush 32, 2) := by decide +kernel
theorem dX7_operandOf_2 : decode cX7_operandOf 2 = .ok (.iload_n 0, 1) := by decide +kernel
theorem dX7_operandOf_3 : decode cX7_operandOf 3 = .ok (.iconst 4, 1) := by decide +kernel
theorem dX7_operandOf_4 : decode cX7_operandOf 4 = .ok (.ishr, 1) := by decide +kernel
theorem dX7_operandOf_5 : decode cX7_operandOf 5 = .ok (.bipush 7, 2) := by decide +kernel
theorem dX7_operandOf_7 : decode cX7_operandOf 7 = .ok (.iand, 1) := by decide +kernel
theorem dX7_operandOf_8 : decode cX7_operandOf 8 = .ok (.imul, 1) := by decide +kernel
theorem dX7_operandOf_9 : decode cX7_operandOf 9 = .ok (.iload_n 0, 1) := by decide +kernel
theorem dX7_operandOf_10 : decode cX7_operandOf 10 = .ok (.bipush 7, 2) := by decide +kernel
theorem dX7_operandOf_12 : decode cX7_operandOf 12 = .ok (.ishr, 1) := by decide +kernel
theorem dX7_operandOf_13 : decode cX7_operandOf 13 = .ok (.bipush 31, 2) := by decide +kernel
theorem dX7_operandOf_15 : decode cX7_operandOf 15 = .ok (.iand, 1) := by decide +kernel
theorem dX7_operandOf_16 : decode cX7_operandOf 16 = .ok (.iadd, 1) := by decide +kernel
theorem dX7_operandOf_17 : decode cX7_operandOf 17 = .ok (.ireturn, 1) := by decide +kernel
theorem dX7_nextOf_0 : decode cX7_nextOf 0 = .ok (.bipush 32, 2) := by decide +kernel
theorem dX7_nextOf_2 : decode cX7_nextOf 2 = .ok (.iload_n 0, 1) := by decide +kernel
theorem dX7_nextOf_3 : decode cX7_nextOf 3 = .ok (.bipush 12, 2) := by decide +kernel
theorem dX7_nextOf_5 : decode cX7_nextOf 5 = .ok (.ishr, 1) := by decide +kernel
theorem dX7_nextOf_6 : decode cX7_nextOf 6 = .ok (.bipush 7, 2) := by decide +kernel
theorem dX7_nextOf_8 : decode cX7_nextOf 8 = .ok (.iand, 1) := by decide +kernel
theorem dX7_nextOf_9 : decode cX7_nextOf 9 = .ok (.imul, 1) := by decide +kernel
theorem dX7_nextOf_10 : decode cX7_nextOf 10 = .ok (.iload_n 0, 1) := by decide +kernel
theorem dX7_nextOf_11 : decode cX7_nextOf 11 = .ok (.bipush 15, 2) := by decide +kernel
theorem dX7_nextOf_13 : decode cX7_nextOf 13 = .ok (.ishr, 1) := by decide +kernel
theorem dX7_nextOf_14 : decode cX7_nextOf 14 = .ok (.bipush 31, 2) := by decide +kernel
theorem dX7_nextOf_16 : decode cX7_nextOf 16 = .ok (.iand, 1) := by decide +kernel
theorem dX7_nextOf_17 : decode cX7_nextOf 17 = .ok (.iadd, 1) := by decide +kernel
theorem dX7_nextOf_18 : decode cX7_nextOf 18 = .ok (.ireturn, 1) := by decide +kernel
theorem dX7_executes_0 : decode cX7_executes 0 = .ok (.aload_n 0, 1) := by decide +kernel
theorem dX7_executes_1 : decode cX7_executes 1 = .ok (.getfield 7, 3) := by decide +kernel
theorem dX7_executes_4 : decode cX7_executes 4 = .ok (.iconst 3, 1) := by decide +kernel
theorem dX7_executes_5 : decode cX7_executes 5 = .ok (.iaload, 1) := by decide +kernel
theorem dX7_executes_6 : decode cX7_executes 6 = .ok (.istore_n 1, 1) := by decide +kernel
theorem dX7_executes_7 : decode cX7_executes 7 = .ok (.aload_n 0, 1) := by decide +kernel
theorem dX7_executes_8 : decode cX7_executes 8 = .ok (.iload_n 1, 1) := by decide +kernel
theorem dX7_executes_9 : decode cX7_executes 9 = .ok (.bipush 32, 2) := by decide +kernel
theorem dX7_executes_11 : decode cX7_executes 11 = .ok (.irem, 1) := by decide +kernel
theorem dX7_executes_12 : decode cX7_executes 12 = .ok (.invokevirtual 271, 3) := by decide +kernel
theorem dX7_executes_15 : decode cX7_executes 15 = .ok (.aload_n 0, 1) := by decide +kernel
theorem dX7_executes_16 : decode cX7_executes 16 = .ok (.getfield 7, 3) := by decide +kernel
theorem dX7_executes_19 : decode cX7_executes 19 = .ok (.sipush 414, 3) := by decide +kernel
theorem dX7_executes_22 : decode cX7_executes 22 = .ok (.iload_n 1, 1) := by decide +kernel
theorem dX7_executes_23 : decode cX7_executes 23 = .ok (.iadd, 1) := by decide +kernel
theorem dX7_executes_24 : decode cX7_executes 24 = .ok (.iaload, 1) := by decide +kernel
theorem dX7_executes_25 : decode cX7_executes 25 = .ok (.istore_n 2, 1) := by decide +kernel
theorem dX7_executes_26 : decode cX7_executes 26 = .ok (.aload_n 0, 1) := by decide +kernel
theorem dX7_executes_27 : decode cX7_executes 27 = .ok (.iconst 1, 1) := by decide +kernel
theorem dX7_executes_28 : decode cX7_executes 28 = .ok (.invokevirtual 264, 3) := by decide +kernel
theorem dX7_executes_31 : decode cX7_executes 31 = .ok (.iload_n 2, 1) := by decide +kernel
theorem dX7_executes_32 : decode cX7_executes 32 = .ok (.bipush 15, 2) := by decide +kernel
theorem dX7_executes_34 : decode cX7_executes 34 = .ok (.iand, 1) := by decide +kernel
theorem dX7_executes_35 : decode cX7_executes 35 = .ok (.istore_n 3, 1) := by decide +kernel
theorem dX7_executes_36 : decode cX7_executes 36 = .ok (.iload_n 2, 1) := by decide +kernel
theorem dX7_executes_37 : decode cX7_executes 37 = .ok (.invokestatic 277, 3) := by decide +kernel
theorem dX7_executes_40 : decode cX7_executes 40 = .ok (.istore 4, 2) := by decide +kernel
theorem dX7_executes_42 : decode cX7_executes 42 = .ok (.iconst 0, 1) := by decide +kernel
theorem dX7_executes_43 : decode cX7_executes 43 = .ok (.istore 5, 2) := by decide +kernel
theorem dX7_executes_45 : decode cX7_executes 45 = .ok (.iload_n 3, 1) := by decide +kernel
theorem dX7_executes_46 : decode cX7_executes 46 = .ok (.bipush 13, 2) := by decide +kernel
theorem dX7_executes_48 : decode cX7_executes 48 = .ok (.if_icmp .ne 10, 3) := by decide +kernel
theorem dX7_executes_51 : decode cX7_executes 51 = .ok (.aload_n 0, 1) := by decide +kernel
theorem dX7_executes_52 : decode cX7_executes 52 = .ok (.invokevirtual 280, 3) := by decide +kernel
theorem dX7_executes_55 : decode cX7_executes 55 = .ok (.ifCond .eq 16, 3) := by decide +kernel
theorem dX7_executes_58 : decode cX7_executes 58 = .ok (.iload_n 3, 1) := by decide +kernel
theorem dX7_executes_59 : decode cX7_executes 59 = .ok (.bipush 14, 2) := by decide +kernel
theorem dX7_executes_61 : decode cX7_executes 61 = .ok (.if_icmp .ne 12, 3) := by decide +kernel
theorem dX7_executes_64 : decode cX7_executes 64 = .ok (.aload_n 0, 1) := by decide +kernel
theorem dX7_executes_65 : decode cX7_executes 65 = .ok (.invokevirtual 283, 3) := by decide +kernel
theorem dX7_executes_68 : decode cX7_executes 68 = .ok (.ifCond .ne 5, 3) := by decide +kernel
theorem dX7_executes_71 : decode cX7_executes 71 = .ok (.iconst 0, 1) := by decide +kernel
theorem dX7_executes_72 : decode cX7_executes 72 = .ok (.ireturn, 1) := by decide +kernel
theorem dX7_executes_73 : decode cX7_executes 73 = .ok (.iload_n 3, 1) := by decide +kernel
theorem dX7_executes_74 : decode cX7_executes 74 = .ok (.ifCond .ne 13, 3) := by decide +kernel
theorem dX7_executes_77 : decode cX7_executes 77 = .ok (.aload_n 0, 1) := by decide +kernel
theorem dX7_executes_78 : decode cX7_executes 78 = .ok (.getfield 7, 3) := by decide +kernel
theorem dX7_executes_81 : decode cX7_executes 81 = .ok (.iconst 4, 1) := by decide +kernel
theorem dX7_executes_82 : decode cX7_executes 82 = .ok (.iconst 1, 1) := by decide +kernel
theorem dX7_executes_83 : decode cX7_executes 83 = .ok (.iastore, 1) := by decide +kernel
theorem dX7_executes_84 : decode cX7_executes 84 = .ok (.goto 91, 3) := by decide +kernel
theorem dX7_executes_87 : decode cX7_executes 87 = .ok (.iload_n 3, 1) := by decide +kernel
theorem dX7_executes_88 : decode cX7_executes 88 = .ok (.iconst 2, 1) := by decide +kernel
theorem dX7_executes_89 : decode cX7_executes 89 = .ok (.if_icmp .ne 12, 3) := by decide +kernel
theorem dX7_executes_92 : decode cX7_executes 92 = .ok (.aload_n 0, 1) := by decide +kernel
theorem dX7_executes_93 : decode cX7_executes 93 = .ok (.iload 4, 2) := by decide +kernel
theorem dX7_executes_95 : decode cX7_executes 95 = .ok (.invokevirtual 286, 3) := by decide +kernel
theorem dX7_executes_98 : decode cX7_executes 98 = .ok (.goto 77, 3) := by decide +kernel
theorem dX7_executes_101 : decode cX7_executes 101 = .ok (.iload_n 3, 1) := by decide +kernel
theorem dX7_executes_102 : decode cX7_executes 102 = .ok (.bipush 7, 2) := by decide +kernel
theorem dX7_executes_104 : decode cX7_executes 104 = .ok (.if_icmp .gt 13, 3) := by decide +kernel
theorem dX7_executes_107 : decode cX7_executes 107 = .ok (.aload_n 0, 1) := by decide +kernel
theorem dX7_executes_108 : decode cX7_executes 108 = .ok (.iload_n 3, 1) := by decide +kernel
theorem dX7_executes_109 : decode cX7_executes 109 = .ok (.iload 4, 2) := by decide +kernel
theorem dX7_executes_111 : decode cX7_executes 111 = .ok (.invokevirtual 289, 3) := by decide +kernel
theorem dX7_executes_114 : decode cX7_executes 114 = .ok (.goto 61, 3) := by decide +kernel
theorem dX7_executes_117 : decode cX7_executes 117 = .ok (.iload_n 3, 1) := by decide +kernel
theorem dX7_executes_118 : decode cX7_executes 118 = .ok (.bipush 8, 2) := by decide +kernel
theorem dX7_executes_120 : decode cX7_executes 120 = .ok (.if_icmp .eq 9, 3) := by decide +kernel
theorem dX7_executes_123 : decode cX7_executes 123 = .ok (.iload_n 3, 1) := by decide +kernel
theorem dX7_executes_124 : decode cX7_executes 124 = .ok (.bipush 9, 2) := by decide +kernel
theorem dX7_executes_126 : decode cX7_executes 126 = .ok (.if_icmp .ne 16, 3) := by decide +kernel
theorem dX7_executes_129 : decode cX7_executes 129 = .ok (.aload_n 0, 1) := by decide +kernel
theorem dX7_executes_130 : decode cX7_executes 130 = .ok (.iload_n 3, 1) := by decide +kernel
theorem dX7_executes_131 : decode cX7_executes 131 = .ok (.iload 4, 2) := by decide +kernel
theorem dX7_executes_133 : decode cX7_executes 133 = .ok (.bipush 32, 2) := by decide +kernel
theorem dX7_executes_135 : decode cX7_executes 135 = .ok (.irem, 1) := by decide +kernel
theorem dX7_executes_136 : decode cX7_executes 136 = .ok (.invokevirtual 292, 3) := by decide +kernel
theorem dX7_executes_139 : decode cX7_executes 139 = .ok (.goto 36, 3) := by decide +kernel
theorem dX7_executes_142 : decode cX7_executes 142 = .ok (.iload_n 3, 1) := by decide +kernel
theorem dX7_executes_143 : decode cX7_executes 143 = .ok (.bipush 12, 2) := by decide +kernel
theorem dX7_executes_145 : decode cX7_executes 145 = .ok (.if_icmp .gt 18, 3) := by decide +kernel
theorem dX7_executes_148 : decode cX7_executes 148 = .ok (.aload_n 0, 1) := by decide +kernel
theorem dX7_executes_149 : decode cX7_executes 149 = .ok (.iconst 1, 1) := by decide +kernel
theorem dX7_executes_150 : decode cX7_executes 150 = .ok (.invokevirtual 264, 3) := by decide +kernel
theorem dX7_executes_153 : decode cX7_executes 153 = .ok (.aload_n 0, 1) := by decide +kernel
theorem dX7_executes_154 : decode cX7_executes 154 = .ok (.iload_n 3, 1) := by decide +kernel
theorem dX7_executes_155 : decode cX7_executes 155 = .ok (.invokevirtual 295, 3) := by decide +kernel
theorem dX7_executes_158 : decode cX7_executes 158 = .ok (.istore 5, 2) := by decide +kernel
theorem dX7_executes_160 : decode cX7_executes 160 = .ok (.goto 15, 3) := by decide +kernel
theorem dX7_executes_163 : decode cX7_executes 163 = .ok (.iload_n 3, 1) := by decide +kernel
theorem dX7_executes_164 : decode cX7_executes 164 = .ok (.bipush 15, 2) := by decide +kernel
theorem dX7_executes_166 : decode cX7_executes 166 = .ok (.if_icmp .ne 9, 3) := by decide +kernel
theorem dX7_executes_169 : decode cX7_executes 169 = .ok (.aload_n 0, 1) := by decide +kernel
theorem dX7_executes_170 : decode cX7_executes 170 = .ok (.iload 4, 2) := by decide +kernel
theorem dX7_executes_172 : decode cX7_executes 172 = .ok (.invokevirtual 298, 3) := by decide +kernel
theorem dX7_executes_175 : decode cX7_executes 175 = .ok (.aload_n 0, 1) := by decide +kernel
theorem dX7_executes_176 : decode cX7_executes 176 = .ok (.getfield 7, 3) := by decide +kernel
theorem dX7_executes_179 : decode cX7_executes 179 = .ok (.iconst 3, 1) := by decide +kernel
theorem dX7_executes_180 : decode cX7_executes 180 = .ok (.iload 5, 2) := by decide +kernel
theorem dX7_executes_182 : decode cX7_executes 182 = .ok (.ifCond .eq 8, 3) := by decide +kernel
theorem dX7_executes_185 : decode cX7_executes 185 = .ok (.iload 4, 2) := by decide +kernel
theorem dX7_executes_187 : decode cX7_executes 187 = .ok (.goto 7, 3) := by decide +kernel
theorem dX7_executes_190 : decode cX7_executes 190 = .ok (.iload_n 2, 1) := by decide +kernel
theorem dX7_executes_191 : decode cX7_executes 191 = .ok (.invokestatic 301, 3) := by decide +kernel
theorem dX7_executes_194 : decode cX7_executes 194 = .ok (.iastore, 1) := by decide +kernel
theorem dX7_executes_195 : decode cX7_executes 195 = .ok (.aload_n 0, 1) := by decide +kernel
theorem dX7_executes_196 : decode cX7_executes 196 = .ok (.getfield 7, 3) := by decide +kernel
theorem dX7_executes_199 : decode cX7_executes 199 = .ok (.iconst 5, 1) := by decide +kernel
theorem dX7_executes_200 : decode cX7_executes 200 = .ok (.dup2, 1) := by decide +kernel
theorem dX7_executes_201 : decode cX7_executes 201 = .ok (.iaload, 1) := by decide +kernel
theorem dX7_executes_202 : decode cX7_executes 202 = .ok (.iconst 1, 1) := by decide +kernel
theorem dX7_executes_203 : decode cX7_executes 203 = .ok (.iadd, 1) := by decide +kernel
theorem dX7_executes_204 : decode cX7_executes 204 = .ok (.iastore, 1) := by decide +kernel
theorem dX7_executes_205 : decode cX7_executes 205 = .ok (.aload_n 0, 1) := by decide +kernel
theorem dX7_executes_206 : decode cX7_executes 206 = .ok (.getfield 7, 3) := by decide +kernel
theorem dX7_executes_209 : decode cX7_executes 209 = .ok (.sipush 158, 3) := by decide +kernel
theorem dX7_executes_212 : decode cX7_executes 212 = .ok (.iload_n 1, 1) := by decide +kernel
theorem dX7_executes_213 : decode cX7_executes 213 = .ok (.iadd, 1) := by decide +kernel
theorem dX7_executes_214 : decode cX7_executes 214 = .ok (.dup2, 1) := by decide +kernel
theorem dX7_executes_215 : decode cX7_executes 215 = .ok (.iaload, 1) := by decide +kernel
theorem dX7_executes_216 : decode cX7_executes 216 = .ok (.iconst 1, 1) := by decide +kernel
theorem dX7_executes_217 : decode cX7_executes 217 = .ok (.iadd, 1) := by decide +kernel
theorem dX7_executes_218 : decode cX7_executes 218 = .ok (.iastore, 1) := by decide +kernel
theorem dX7_executes_219 : decode cX7_executes 219 = .ok (.iconst 1, 1) := by decide +kernel
theorem dX7_executes_220 : decode cX7_executes 220 = .ok (.ireturn, 1) := by decide +kernel
theorem dX7_runs_0 : decode cX7_runs 0 = .ok (.iconst 0, 1) := by decide +kernel
theorem dX7_runs_1 : decode cX7_runs 1 = .ok (.istore_n 2, 1) := by decide +kernel
theorem dX7_runs_2 : decode cX7_runs 2 = .ok (.iconst 1, 1) := by decide +kernel
theorem dX7_runs_3 : decode cX7_runs 3 = .ok (.istore_n 3, 1) := by decide +kernel
theorem dX7_runs_4 : decode cX7_runs 4 = .ok (.iload_n 3, 1) := by decide +kernel
theorem dX7_runs_5 : decode cX7_runs 5 = .ok (.ifCond .eq 37, 3) := by decide +kernel
theorem dX7_runs_8 : decode cX7_runs 8 = .ok (.iload_n 2, 1) := by decide +kernel
theorem dX7_runs_9 : decode cX7_runs 9 = .ok (.iload_n 1, 1) := by decide +kernel
theorem dX7_runs_10 : decode cX7_runs 10 = .ok (.if_icmp .ge 32, 3) := by decide +kernel
theorem dX7_runs_13 : decode cX7_runs 13 = .ok (.aload_n 0, 1) := by decide +kernel
theorem dX7_runs_14 : decode cX7_runs 14 = .ok (.getfield 7, 3) := by decide +kernel
theorem dX7_runs_17 : decode cX7_runs 17 = .ok (.iconst 4, 1) := by decide +kernel
theorem dX7_runs_18 : decode cX7_runs 18 = .ok (.iaload, 1) := by decide +kernel
theorem dX7_runs_19 : decode cX7_runs 19 = .ok (.ifCond .ne 23, 3) := by decide +kernel
theorem dX7_runs_22 : decode cX7_runs 22 = .ok (.aload_n 0, 1) := by decide +kernel
theorem dX7_runs_23 : decode cX7_runs 23 = .ok (.invokevirtual 304, 3) := by decide +kernel
theorem dX7_runs_26 : decode cX7_runs 26 = .ok (.istore_n 3, 1) := by decide +kernel
theorem dX7_runs_27 : decode cX7_runs 27 = .ok (.iload_n 2, 1) := by decide +kernel
theorem dX7_runs_28 : decode cX7_runs 28 = .ok (.iload_n 3, 1) := by decide +kernel
theorem dX7_runs_29 : decode cX7_runs 29 = .ok (.ifCond .eq 7, 3) := by decide +kernel
theorem dX7_runs_32 : decode cX7_runs 32 = .ok (.iconst 1, 1) := by decide +kernel
theorem dX7_runs_33 : decode cX7_runs 33 = .ok (.goto 4, 3) := by decide +kernel
theorem dX7_runs_36 : decode cX7_runs 36 = .ok (.iconst 0, 1) := by decide +kernel
theorem dX7_runs_37 : decode cX7_runs 37 = .ok (.iadd, 1) := by decide +kernel
theorem dX7_runs_38 : decode cX7_runs 38 = .ok (.istore_n 2, 1) := by decide +kernel
theorem dX7_runs_39 : decode cX7_runs 39 = .ok (.goto (-35), 3) := by decide +kernel
theorem dX7_runs_42 : decode cX7_runs 42 = .ok (.iload_n 2, 1) := by decide +kernel
theorem dX7_runs_43 : decode cX7_runs 43 = .ok (.ireturn, 1) := by decide +kernel
theorem dX7_start_0 : decode cX7_start 0 = .ok (.aload_n 0, 1) := by decide +kernel
theorem dX7_start_1 : decode cX7_start 1 = .ok (.iconst 0, 1) := by decide +kernel
theorem dX7_start_2 : decode cX7_start 2 = .ok (.putfield 76, 3) := by decide +kernel
theorem dX7_start_5 : decode cX7_start 5 = .ok (.iload_n 1, 1) := by decide +kernel
theorem dX7_start_6 : decode cX7_start 6 = .ok (.iload_n 2, 1) := by decide +kernel
theorem dX7_start_7 : decode cX7_start 7 = .ok (.invokestatic 193, 3) := by decide +kernel
theorem dX7_start_10 : decode cX7_start 10 = .ok (.ifCond .ne 9, 3) := by decide +kernel
theorem dX7_start_13 : decode cX7_start 13 = .ok (.aload_n 0, 1) := by decide +kernel
theorem dX7_start_14 : decode cX7_start 14 = .ok (.iconst 1, 1) := by decide +kernel
theorem dX7_start_15 : decode cX7_start 15 = .ok (.putfield 76, 3) := by decide +kernel
theorem dX7_start_18 : decode cX7_start 18 = .ok (.return_, 1) := by decide +kernel
theorem dX7_start_19 : decode cX7_start 19 = .ok (.aload_n 0, 1) := by decide +kernel
theorem dX7_start_20 : decode cX7_start 20 = .ok (.getfield 7, 3) := by decide +kernel
theorem dX7_start_23 : decode cX7_start 23 = .ok (.iconst 4, 1) := by decide +kernel
theorem dX7_start_24 : decode cX7_start 24 = .ok (.iconst 0, 1) := by decide +kernel
theorem dX7_start_25 : decode cX7_start 25 = .ok (.iastore, 1) := by decide +kernel
theorem dX7_start_26 : decode cX7_start 26 = .ok (.aload_n 0, 1) := by decide +kernel
theorem dX7_start_27 : decode cX7_start 27 = .ok (.getfield 7, 3) := by decide +kernel
theorem dX7_start_30 : decode cX7_start 30 = .ok (.iconst 3, 1) := by decide +kernel
theorem dX7_start_31 : decode cX7_start 31 = .ok (.bipush 32, 2) := by decide +kernel
theorem dX7_start_33 : decode cX7_start 33 = .ok (.iload_n 1, 1) := by decide +kernel
theorem dX7_start_34 : decode cX7_start 34 = .ok (.imul, 1) := by decide +kernel
theorem dX7_start_35 : decode cX7_start 35 = .ok (.iload_n 2, 1) := by decide +kernel
theorem dX7_start_36 : decode cX7_start 36 = .ok (.iadd, 1) := by decide +kernel
theorem dX7_start_37 : decode cX7_start 37 = .ok (.iastore, 1) := by decide +kernel
theorem dX7_start_38 : decode cX7_start 38 = .ok (.return_, 1) := by decide +kernel
theorem dX7_whyNot_0 : decode cX7_whyNot 0 = .ok (.iload_n 1, 1) := by decide +kernel
theorem dX7_whyNot_1 : decode cX7_whyNot 1 = .ok (.i2l, 1) := by decide +kernel
theorem dX7_whyNot_2 : decode cX7_whyNot 2 = .ok (.lconst 1, 1) := by decide +kernel
theorem dX7_whyNot_3 : decode cX7_whyNot 3 = .ok (.ldc2_w 307, 3) := by decide +kernel
theorem dX7_whyNot_6 : decode cX7_whyNot 6 = .ok (.invokestatic 81, 3) := by decide +kernel
theorem dX7_whyNot_9 : decode cX7_whyNot 9 = .ok (.ifCond .ne 7, 3) := by decide +kernel
theorem dX7_whyNot_12 : decode cX7_whyNot 12 = .ok (.iconst 1, 1) := by decide +kernel
theorem dX7_whyNot_13 : decode cX7_whyNot 13 = .ok (.goto 17, 3) := by decide +kernel
theorem dX7_whyNot_16 : decode cX7_whyNot 16 = .ok (.aload_n 0, 1) := by decide +kernel
theorem dX7_whyNot_17 : decode cX7_whyNot 17 = .ok (.getfield 7, 3) := by decide +kernel
theorem dX7_whyNot_20 : decode cX7_whyNot 20 = .ok (.iconst 4, 1) := by decide +kernel
theorem dX7_whyNot_21 : decode cX7_whyNot 21 = .ok (.iaload, 1) := by decide +kernel
theorem dX7_whyNot_22 : decode cX7_whyNot 22 = .ok (.ifCond .eq 7, 3) := by decide +kernel
theorem dX7_whyNot_25 : decode cX7_whyNot 25 = .ok (.iconst 2, 1) := by decide +kernel
theorem dX7_whyNot_26 : decode cX7_whyNot 26 = .ok (.goto 4, 3) := by decide +kernel
theorem dX7_whyNot_29 : decode cX7_whyNot 29 = .ok (.iconst 0, 1) := by decide +kernel
theorem dX7_whyNot_30 : decode cX7_whyNot 30 = .ok (.ireturn, 1) := by decide +kernel
theorem dX7_run_0 : decode cX7_run 0 = .ok (.aload_n 0, 1) := by decide +kernel
theorem dX7_run_1 : decode cX7_run 1 = .ok (.aload_n 0, 1) := by decide +kernel
theorem dX7_run_2 : decode cX7_run 2 = .ok (.iload_n 1, 1) := by decide +kernel
theorem dX7_run_3 : decode cX7_run 3 = .ok (.invokevirtual 309, 3) := by decide +kernel
theorem dX7_run_6 : decode cX7_run 6 = .ok (.putfield 76, 3) := by decide +kernel
theorem dX7_run_9 : decode cX7_run 9 = .ok (.aload_n 0, 1) := by decide +kernel
theorem dX7_run_10 : decode cX7_run 10 = .ok (.getfield 76, 3) := by decide +kernel
theorem dX7_run_13 : decode cX7_run 13 = .ok (.ifCond .le 7, 3) := by decide +kernel
theorem dX7_run_16 : decode cX7_run 16 = .ok (.iconst 0, 1) := by decide +kernel
theorem dX7_run_17 : decode cX7_run 17 = .ok (.goto 8, 3) := by decide +kernel
theorem dX7_run_20 : decode cX7_run 20 = .ok (.aload_n 0, 1) := by decide +kernel
theorem dX7_run_21 : decode cX7_run 21 = .ok (.iload_n 1, 1) := by decide +kernel
theorem dX7_run_22 : decode cX7_run 22 = .ok (.invokevirtual 312, 3) := by decide +kernel
theorem dX7_run_25 : decode cX7_run 25 = .ok (.ireturn, 1) := by decide +kernel
theorem dX7_idle_0 : decode cX7_idle 0 = .ok (.aload_n 0, 1) := by decide +kernel
theorem dX7_idle_1 : decode cX7_idle 1 = .ok (.iconst 0, 1) := by decide +kernel
theorem dX7_idle_2 : decode cX7_idle 2 = .ok (.putfield 76, 3) := by decide +kernel
theorem dX7_idle_5 : decode cX7_idle 5 = .ok (.iload_n 1, 1) := by decide +kernel
theorem dX7_idle_6 : decode cX7_idle 6 = .ok (.i2l, 1) := by decide +kernel
theorem dX7_idle_7 : decode cX7_idle 7 = .ok (.lconst 1, 1) := by decide +kernel
theorem dX7_idle_8 : decode cX7_idle 8 = .ok (.ldc2_w 315, 3) := by decide +kernel
theorem dX7_idle_11 : decode cX7_idle 11 = .ok (.invokestatic 81, 3) := by decide +kernel
theorem dX7_idle_14 : decode cX7_idle 14 = .ok (.ifCond .ne 9, 3) := by decide +kernel
theorem dX7_idle_17 : decode cX7_idle 17 = .ok (.aload_n 0, 1) := by decide +kernel
theorem dX7_idle_18 : decode cX7_idle 18 = .ok (.iconst 1, 1) := by decide +kernel
theorem dX7_idle_19 : decode cX7_idle 19 = .ok (.invokevirtual 98, 3) := by decide +kernel
theorem dX7_idle_22 : decode cX7_idle 22 = .ok (.ireturn, 1) := by decide +kernel
theorem dX7_idle_23 : decode cX7_idle 23 = .ok (.aload_n 0, 1) := by decide +kernel
theorem dX7_idle_24 : decode cX7_idle 24 = .ok (.iload_n 1, 1) := by decide +kernel
theorem dX7_idle_25 : decode cX7_idle 25 = .ok (.invokevirtual 264, 3) := by decide +kernel
theorem dX7_idle_28 : decode cX7_idle 28 = .ok (.aload_n 0, 1) := by decide +kernel
theorem dX7_idle_29 : decode cX7_idle 29 = .ok (.getfield 7, 3) := by decide +kernel
theorem dX7_idle_32 : decode cX7_idle 32 = .ok (.iconst 0, 1) := by decide +kernel
theorem dX7_idle_33 : decode cX7_idle 33 = .ok (.iaload, 1) := by decide +kernel
theorem dX7_idle_34 : decode cX7_idle 34 = .ok (.ireturn, 1) := by decide +kernel
theorem dX7_time_0 : decode cX7_time 0 = .ok (.aload_n 0, 1) := by decide +kernel
theorem dX7_time_1 : decode cX7_time 1 = .ok (.iconst 0, 1) := by decide +kernel
theorem dX7_time_2 : decode cX7_time 2 = .ok (.putfield 76, 3) := by decide +kernel
theorem dX7_time_5 : decode cX7_time 5 = .ok (.aload_n 0, 1) := by decide +kernel
theorem dX7_time_6 : decode cX7_time 6 = .ok (.getfield 7, 3) := by decide +kernel
theorem dX7_time_9 : decode cX7_time 9 = .ok (.iconst 0, 1) := by decide +kernel
theorem dX7_time_10 : decode cX7_time 10 = .ok (.iaload, 1) := by decide +kernel
theorem dX7_time_11 : decode cX7_time 11 = .ok (.ireturn, 1) := by decide +kernel
theorem dX7_state_0 : decode cX7_state 0 = .ok (.aload_n 0, 1) := by decide +kernel
theorem dX7_state_1 : decode cX7_state 1 = .ok (.iconst 0, 1) := by decide +kernel
theorem dX7_state_2 : decode cX7_state 2 = .ok (.putfield 76, 3) := by decide +kernel
theorem dX7_state_5 : decode cX7_state 5 = .ok (.aload_n 0, 1) := by decide +kernel
theorem dX7_state_6 : decode cX7_state 6 = .ok (.getfield 7, 3) := by decide +kernel
theorem dX7_state_9 : decode cX7_state 9 = .ok (.iconst 4, 1) := by decide +kernel
theorem dX7_state_10 : decode cX7_state 10 = .ok (.iaload, 1) := by decide +kernel
theorem dX7_state_11 : decode cX7_state 11 = .ok (.ireturn, 1) := by decide +kernel
theorem dX7_accumulator_0 : decode cX7_accumulator 0 = .ok (.aload_n 0, 1) := by decide +kernel
theorem dX7_accumulator_1 : decode cX7_accumulator 1 = .ok (.iconst 0, 1) := by decide +kernel
theorem dX7_accumulator_2 : decode cX7_accumulator 2 = .ok (.putfield 76, 3) := by decide +kernel
theorem dX7_accumulator_5 : decode cX7_accumulator 5 = .ok (.aload_n 0, 1) := by decide +kernel
theorem dX7_accumulator_6 : decode cX7_accumulator 6 = .ok (.getfield 7, 3) := by decide +kernel
theorem dX7_accumulator_9 : decode cX7_accumulator 9 = .ok (.iconst 1, 1) := by decide +kernel
theorem dX7_accumulator_10 : decode cX7_accumulator 10 = .ok (.iaload, 1) := by decide +kernel
theorem dX7_accumulator_11 : decode cX7_accumulator 11 = .ok (.ireturn, 1) := by decide +kernel
theorem dX7_hasOverflow_0 : decode cX7_hasOverflow 0 = .ok (.aload_n 0, 1) := by decide +kernel
theorem dX7_hasOverflow_1 : decode cX7_hasOverflow 1 = .ok (.iconst 0, 1) := by decide +kernel
theorem dX7_hasOverflow_2 : decode cX7_hasOverflow 2 = .ok (.putfield 76, 3) := by decide +kernel
theorem dX7_hasOverflow_5 : decode cX7_hasOverflow 5 = .ok (.aload_n 0, 1) := by decide +kernel
theorem dX7_hasOverflow_6 : decode cX7_hasOverflow 6 = .ok (.getfield 7, 3) := by decide +kernel
theorem dX7_hasOverflow_9 : decode cX7_hasOverflow 9 = .ok (.iconst 2, 1) := by decide +kernel
theorem dX7_hasOverflow_10 : decode cX7_hasOverflow 10 = .ok (.iaload, 1) := by decide +kernel
theorem dX7_hasOverflow_11 : decode cX7_hasOverflow 11 = .ok (.iconst 1, 1) := by decide +kernel
theorem dX7_hasOverflow_12 : decode cX7_hasOverflow 12 = .ok (.if_icmp .ne 7, 3) := by decide +kernel
theorem dX7_hasOverflow_15 : decode cX7_hasOverflow 15 = .ok (.iconst 1, 1) := by decide +kernel
theorem dX7_hasOverflow_16 : decode cX7_hasOverflow 16 = .ok (.goto 4, 3) := by decide +kernel
theorem dX7_hasOverflow_19 : decode cX7_hasOverflow 19 = .ok (.iconst 0, 1) := by decide +kernel
theorem dX7_hasOverflow_20 : decode cX7_hasOverflow 20 = .ok (.ireturn, 1) := by decide +kernel
theorem dX7_location_0 : decode cX7_location 0 = .ok (.aload_n 0, 1) := by decide +kernel
theorem dX7_location_1 : decode cX7_location 1 = .ok (.iconst 0, 1) := by decide +kernel
theorem dX7_location_2 : decode cX7_location 2 = .ok (.putfield 76, 3) := by decide +kernel
theorem dX7_location_5 : decode cX7_location 5 = .ok (.aload_n 0, 1) := by decide +kernel
theorem dX7_location_6 : decode cX7_location 6 = .ok (.getfield 7, 3) := by decide +kernel
theorem dX7_location_9 : decode cX7_location 9 = .ok (.iconst 3, 1) := by decide +kernel
theorem dX7_location_10 : decode cX7_location 10 = .ok (.iaload, 1) := by decide +kernel
theorem dX7_location_11 : decode cX7_location 11 = .ok (.ireturn, 1) := by decide +kernel
theorem dX7_offerInput_0 : decode cX7_offerInput 0 = .ok (.aload_n 0, 1) := by decide +kernel
theorem dX7_offerInput_1 : decode cX7_offerInput 1 = .ok (.iconst 0, 1) := by decide +kernel
theorem dX7_offerInput_2 : decode cX7_offerInput 2 = .ok (.putfield 76, 3) := by decide +kernel
theorem dX7_offerInput_5 : decode cX7_offerInput 5 = .ok (.iload_n 1, 1) := by decide +kernel
theorem dX7_offerInput_6 : decode cX7_offerInput 6 = .ok (.i2l, 1) := by decide +kernel
theorem dX7_offerInput_7 : decode cX7_offerInput 7 = .ok (.ldc2_w 200, 3) := by decide +kernel
theorem dX7_offerInput_10 : decode cX7_offerInput 10 = .ok (.ldc2_w 202, 3) := by decide +kernel
theorem dX7_offerInput_13 : decode cX7_offerInput 13 = .ok (.invokestatic 81, 3) := by decide +kernel
theorem dX7_offerInput_16 : decode cX7_offerInput 16 = .ok (.ifCond .ne 9, 3) := by decide +kernel
theorem dX7_offerInput_19 : decode cX7_offerInput 19 = .ok (.aload_n 0, 1) := by decide +kernel
theorem dX7_offerInput_20 : decode cX7_offerInput 20 = .ok (.iconst 1, 1) := by decide +kernel
theorem dX7_offerInput_21 : decode cX7_offerInput 21 = .ok (.invokevirtual 98, 3) := by decide +kernel
theorem dX7_offerInput_24 : decode cX7_offerInput 24 = .ok (.ireturn, 1) := by decide +kernel
theorem dX7_offerInput_25 : decode cX7_offerInput 25 = .ok (.aload_n 0, 1) := by decide +kernel
theorem dX7_offerInput_26 : decode cX7_offerInput 26 = .ok (.getfield 7, 3) := by decide +kernel
theorem dX7_offerInput_29 : decode cX7_offerInput 29 = .ok (.bipush 12, 2) := by decide +kernel
theorem dX7_offerInput_31 : decode cX7_offerInput 31 = .ok (.iaload, 1) := by decide +kernel
theorem dX7_offerInput_32 : decode cX7_offerInput 32 = .ok (.bipush 64, 2) := by decide +kernel
theorem dX7_offerInput_34 : decode cX7_offerInput 34 = .ok (.if_icmp .ne 9, 3) := by decide +kernel
theorem dX7_offerInput_37 : decode cX7_offerInput 37 = .ok (.aload_n 0, 1) := by decide +kernel
theorem dX7_offerInput_38 : decode cX7_offerInput 38 = .ok (.iconst 2, 1) := by decide +kernel
theorem dX7_offerInput_39 : decode cX7_offerInput 39 = .ok (.invokevirtual 98, 3) := by decide +kernel
theorem dX7_offerInput_42 : decode cX7_offerInput 42 = .ok (.ireturn, 1) := by decide +kernel
theorem dX7_offerInput_43 : decode cX7_offerInput 43 = .ok (.aload_n 0, 1) := by decide +kernel
theorem dX7_offerInput_44 : decode cX7_offerInput 44 = .ok (.getfield 7, 3) := by decide +kernel
theorem dX7_offerInput_47 : decode cX7_offerInput 47 = .ok (.bipush 30, 2) := by decide +kernel
theorem dX7_offerInput_49 : decode cX7_offerInput 49 = .ok (.aload_n 0, 1) := by decide +kernel
theorem dX7_offerInput_50 : decode cX7_offerInput 50 = .ok (.getfield 7, 3) := by decide +kernel
theorem dX7_offerInput_53 : decode cX7_offerInput 53 = .ok (.bipush 12, 2) := by decide +kernel
theorem dX7_offerInput_55 : decode cX7_offerInput 55 = .ok (.iaload, 1) := by decide +kernel
theorem dX7_offerInput_56 : decode cX7_offerInput 56 = .ok (.iadd, 1) := by decide +kernel
theorem dX7_offerInput_57 : decode cX7_offerInput 57 = .ok (.iload_n 1, 1) := by decide +kernel
theorem dX7_offerInput_58 : decode cX7_offerInput 58 = .ok (.iastore, 1) := by decide +kernel
theorem dX7_offerInput_59 : decode cX7_offerInput 59 = .ok (.aload_n 0, 1) := by decide +kernel
theorem dX7_offerInput_60 : decode cX7_offerInput 60 = .ok (.getfield 7, 3) := by decide +kernel
theorem dX7_offerInput_63 : decode cX7_offerInput 63 = .ok (.bipush 12, 2) := by decide +kernel
theorem dX7_offerInput_65 : decode cX7_offerInput 65 = .ok (.dup2, 1) := by decide +kernel
theorem dX7_offerInput_66 : decode cX7_offerInput 66 = .ok (.iaload, 1) := by decide +kernel
theorem dX7_offerInput_67 : decode cX7_offerInput 67 = .ok (.iconst 1, 1) := by decide +kernel
theorem dX7_offerInput_68 : decode cX7_offerInput 68 = .ok (.iadd, 1) := by decide +kernel
theorem dX7_offerInput_69 : decode cX7_offerInput 69 = .ok (.iastore, 1) := by decide +kernel
theorem dX7_offerInput_70 : decode cX7_offerInput 70 = .ok (.aload_n 0, 1) := by decide +kernel
theorem dX7_offerInput_71 : decode cX7_offerInput 71 = .ok (.getfield 7, 3) := by decide +kernel
theorem dX7_offerInput_74 : decode cX7_offerInput 74 = .ok (.iconst 4, 1) := by decide +kernel
theorem dX7_offerInput_75 : decode cX7_offerInput 75 = .ok (.aload_n 0, 1) := by decide +kernel
theorem dX7_offerInput_76 : decode cX7_offerInput 76 = .ok (.getfield 7, 3) := by decide +kernel
theorem dX7_offerInput_79 : decode cX7_offerInput 79 = .ok (.iconst 4, 1) := by decide +kernel
theorem dX7_offerInput_80 : decode cX7_offerInput 80 = .ok (.iaload, 1) := by decide +kernel
theorem dX7_offerInput_81 : decode cX7_offerInput 81 = .ok (.iconst 2, 1) := by decide +kernel
theorem dX7_offerInput_82 : decode cX7_offerInput 82 = .ok (.if_icmp .ne 7, 3) := by decide +kernel
theorem dX7_offerInput_85 : decode cX7_offerInput 85 = .ok (.iconst 0, 1) := by decide +kernel
theorem dX7_offerInput_86 : decode cX7_offerInput 86 = .ok (.goto 9, 3) := by decide +kernel
theorem dX7_offerInput_89 : decode cX7_offerInput 89 = .ok (.aload_n 0, 1) := by decide +kernel
theorem dX7_offerInput_90 : decode cX7_offerInput 90 = .ok (.getfield 7, 3) := by decide +kernel
theorem dX7_offerInput_93 : decode cX7_offerInput 93 = .ok (.iconst 4, 1) := by decide +kernel
theorem dX7_offerInput_94 : decode cX7_offerInput 94 = .ok (.iaload, 1) := by decide +kernel
theorem dX7_offerInput_95 : decode cX7_offerInput 95 = .ok (.iastore, 1) := by decide +kernel
theorem dX7_offerInput_96 : decode cX7_offerInput 96 = .ok (.aload_n 0, 1) := by decide +kernel
theorem dX7_offerInput_97 : decode cX7_offerInput 97 = .ok (.getfield 7, 3) := by decide +kernel
theorem dX7_offerInput_100 : decode cX7_offerInput 100 = .ok (.bipush 12, 2) := by decide +kernel
theorem dX7_offerInput_102 : decode cX7_offerInput 102 = .ok (.iaload, 1) := by decide +kernel
theorem dX7_offerInput_103 : decode cX7_offerInput 103 = .ok (.ireturn, 1) := by decide +kernel
theorem dX7_takeOutput_0 : decode cX7_takeOutput 0 = .ok (.aload_n 0, 1) := by decide +kernel
theorem dX7_takeOutput_1 : decode cX7_takeOutput 1 = .ok (.iconst 0, 1) := by decide +kernel
theorem dX7_takeOutput_2 : decode cX7_takeOutput 2 = .ok (.putfield 76, 3) := by decide +kernel
theorem dX7_takeOutput_5 : decode cX7_takeOutput 5 = .ok (.aload_n 0, 1) := by decide +kernel
theorem dX7_takeOutput_6 : decode cX7_takeOutput 6 = .ok (.getfield 7, 3) := by decide +kernel
theorem dX7_takeOutput_9 : decode cX7_takeOutput 9 = .ok (.bipush 13, 2) := by decide +kernel
theorem dX7_takeOutput_11 : decode cX7_takeOutput 11 = .ok (.iaload, 1) := by decide +kernel
theorem dX7_takeOutput_12 : decode cX7_takeOutput 12 = .ok (.ifCond .ne 9, 3) := by decide +kernel
theorem dX7_takeOutput_15 : decode cX7_takeOutput 15 = .ok (.aload_n 0, 1) := by decide +kernel
theorem dX7_takeOutput_16 : decode cX7_takeOutput 16 = .ok (.iconst 1, 1) := by decide +kernel
theorem dX7_takeOutput_17 : decode cX7_takeOutput 17 = .ok (.invokevirtual 98, 3) := by decide +kernel
theorem dX7_takeOutput_20 : decode cX7_takeOutput 20 = .ok (.ireturn, 1) := by decide +kernel
theorem dX7_takeOutput_21 : decode cX7_takeOutput 21 = .ok (.aload_n 0, 1) := by decide +kernel
theorem dX7_takeOutput_22 : decode cX7_takeOutput 22 = .ok (.getfield 7, 3) := by decide +kernel
theorem dX7_takeOutput_25 : decode cX7_takeOutput 25 = .ok (.bipush 94, 2) := by decide +kernel
theorem dX7_takeOutput_27 : decode cX7_takeOutput 27 = .ok (.iaload, 1) := by decide +kernel
theorem dX7_takeOutput_28 : decode cX7_takeOutput 28 = .ok (.istore_n 1, 1) := by decide +kernel
theorem dX7_takeOutput_29 : decode cX7_takeOutput 29 = .ok (.aload_n 0, 1) := by decide +kernel
theorem dX7_takeOutput_30 : decode cX7_takeOutput 30 = .ok (.getfield 7, 3) := by decide +kernel
theorem dX7_takeOutput_33 : decode cX7_takeOutput 33 = .ok (.bipush 13, 2) := by decide +kernel
theorem dX7_takeOutput_35 : decode cX7_takeOutput 35 = .ok (.dup2, 1) := by decide +kernel
theorem dX7_takeOutput_36 : decode cX7_takeOutput 36 = .ok (.iaload, 1) := by decide +kernel
theorem dX7_takeOutput_37 : decode cX7_takeOutput 37 = .ok (.iconst 1, 1) := by decide +kernel
theorem dX7_takeOutput_38 : decode cX7_takeOutput 38 = .ok (.isub, 1) := by decide +kernel
theorem dX7_takeOutput_39 : decode cX7_takeOutput 39 = .ok (.iastore, 1) := by decide +kernel
theorem dX7_takeOutput_40 : decode cX7_takeOutput 40 = .ok (.iconst 0, 1) := by decide +kernel
theorem dX7_takeOutput_41 : decode cX7_takeOutput 41 = .ok (.istore_n 2, 1) := by decide +kernel
theorem dX7_takeOutput_42 : decode cX7_takeOutput 42 = .ok (.iload_n 2, 1) := by decide +kernel
theorem dX7_takeOutput_43 : decode cX7_takeOutput 43 = .ok (.aload_n 0, 1) := by decide +kernel
theorem dX7_takeOutput_44 : decode cX7_takeOutput 44 = .ok (.getfield 7, 3) := by decide +kernel
theorem dX7_takeOutput_47 : decode cX7_takeOutput 47 = .ok (.bipush 13, 2) := by decide +kernel
theorem dX7_takeOutput_49 : decode cX7_takeOutput 49 = .ok (.iaload, 1) := by decide +kernel
theorem dX7_takeOutput_50 : decode cX7_takeOutput 50 = .ok (.if_icmp .ge 29, 3) := by decide +kernel
theorem dX7_takeOutput_53 : decode cX7_takeOutput 53 = .ok (.aload_n 0, 1) := by decide +kernel
theorem dX7_takeOutput_54 : decode cX7_takeOutput 54 = .ok (.getfield 7, 3) := by decide +kernel
theorem dX7_takeOutput_57 : decode cX7_takeOutput 57 = .ok (.bipush 94, 2) := by decide +kernel
theorem dX7_takeOutput_59 : decode cX7_takeOutput 59 = .ok (.iload_n 2, 1) := by decide +kernel
theorem dX7_takeOutput_60 : decode cX7_takeOutput 60 = .ok (.iadd, 1) := by decide +kernel
theorem dX7_takeOutput_61 : decode cX7_takeOutput 61 = .ok (.aload_n 0, 1) := by decide +kernel
theorem dX7_takeOutput_62 : decode cX7_takeOutput 62 = .ok (.getfield 7, 3) := by decide +kernel
theorem dX7_takeOutput_65 : decode cX7_takeOutput 65 = .ok (.bipush 94, 2) := by decide +kernel
theorem dX7_takeOutput_67 : decode cX7_takeOutput 67 = .ok (.iload_n 2, 1) := by decide +kernel
theorem dX7_takeOutput_68 : decode cX7_takeOutput 68 = .ok (.iadd, 1) := by decide +kernel
theorem dX7_takeOutput_69 : decode cX7_takeOutput 69 = .ok (.iconst 1, 1) := by decide +kernel
theorem dX7_takeOutput_70 : decode cX7_takeOutput 70 = .ok (.iadd, 1) := by decide +kernel
theorem dX7_takeOutput_71 : decode cX7_takeOutput 71 = .ok (.iaload, 1) := by decide +kernel
theorem dX7_takeOutput_72 : decode cX7_takeOutput 72 = .ok (.iastore, 1) := by decide +kernel
theorem dX7_takeOutput_73 : decode cX7_takeOutput 73 = .ok (.iinc 2 1, 3) := by decide +kernel
theorem dX7_takeOutput_76 : decode cX7_takeOutput 76 = .ok (.goto (-34), 3) := by decide +kernel
theorem dX7_takeOutput_79 : decode cX7_takeOutput 79 = .ok (.aload_n 0, 1) := by decide +kernel
theorem dX7_takeOutput_80 : decode cX7_takeOutput 80 = .ok (.getfield 7, 3) := by decide +kernel
theorem dX7_takeOutput_83 : decode cX7_takeOutput 83 = .ok (.iconst 4, 1) := by decide +kernel
theorem dX7_takeOutput_84 : decode cX7_takeOutput 84 = .ok (.aload_n 0, 1) := by decide +kernel
theorem dX7_takeOutput_85 : decode cX7_takeOutput 85 = .ok (.getfield 7, 3) := by decide +kernel
theorem dX7_takeOutput_88 : decode cX7_takeOutput 88 = .ok (.iconst 4, 1) := by decide +kernel
theorem dX7_takeOutput_89 : decode cX7_takeOutput 89 = .ok (.iaload, 1) := by decide +kernel
theorem dX7_takeOutput_90 : decode cX7_takeOutput 90 = .ok (.iconst 3, 1) := by decide +kernel
theorem dX7_takeOutput_91 : decode cX7_takeOutput 91 = .ok (.if_icmp .ne 7, 3) := by decide +kernel
theorem dX7_takeOutput_94 : decode cX7_takeOutput 94 = .ok (.iconst 0, 1) := by decide +kernel
theorem dX7_takeOutput_95 : decode cX7_takeOutput 95 = .ok (.goto 9, 3) := by decide +kernel
theorem dX7_takeOutput_98 : decode cX7_takeOutput 98 = .ok (.aload_n 0, 1) := by decide +kernel
theorem dX7_takeOutput_99 : decode cX7_takeOutput 99 = .ok (.getfield 7, 3) := by decide +kernel
theorem dX7_takeOutput_102 : decode cX7_takeOutput 102 = .ok (.iconst 4, 1) := by decide +kernel
theorem dX7_takeOutput_103 : decode cX7_takeOutput 103 = .ok (.iaload, 1) := by decide +kernel
theorem dX7_takeOutput_104 : decode cX7_takeOutput 104 = .ok (.iastore, 1) := by decide +kernel
theorem dX7_takeOutput_105 : decode cX7_takeOutput 105 = .ok (.iload_n 1, 1) := by decide +kernel
theorem dX7_takeOutput_106 : decode cX7_takeOutput 106 = .ok (.ireturn, 1) := by decide +kernel
theorem dX7_outputLength_0 : decode cX7_outputLength 0 = .ok (.aload_n 0, 1) := by decide +kernel
theorem dX7_outputLength_1 : decode cX7_outputLength 1 = .ok (.iconst 0, 1) := by decide +kernel
theorem dX7_outputLength_2 : decode cX7_outputLength 2 = .ok (.putfield 76, 3) := by decide +kernel
theorem dX7_outputLength_5 : decode cX7_outputLength 5 = .ok (.aload_n 0, 1) := by decide +kernel
theorem dX7_outputLength_6 : decode cX7_outputLength 6 = .ok (.getfield 7, 3) := by decide +kernel
theorem dX7_outputLength_9 : decode cX7_outputLength 9 = .ok (.bipush 13, 2) := by decide +kernel
theorem dX7_outputLength_11 : decode cX7_outputLength 11 = .ok (.iaload, 1) := by decide +kernel
theorem dX7_outputLength_12 : decode cX7_outputLength 12 = .ok (.ireturn, 1) := by decide +kernel
theorem dX7_executed_0 : decode cX7_executed 0 = .ok (.aload_n 0, 1) := by decide +kernel
theorem dX7_executed_1 : decode cX7_executed 1 = .ok (.iconst 0, 1) := by decide +kernel
theorem dX7_executed_2 : decode cX7_executed 2 = .ok (.putfield 76, 3) := by decide +kernel
theorem dX7_executed_5 : decode cX7_executed 5 = .ok (.aload_n 0, 1) := by decide +kernel
theorem dX7_executed_6 : decode cX7_executed 6 = .ok (.getfield 7, 3) := by decide +kernel
theorem dX7_executed_9 : decode cX7_executed 9 = .ok (.iconst 5, 1) := by decide +kernel
theorem dX7_executed_10 : decode cX7_executed 10 = .ok (.iaload, 1) := by decide +kernel
theorem dX7_executed_11 : decode cX7_executed 11 = .ok (.ireturn, 1) := by decide +kernel
theorem dX7_executedAt_0 : decode cX7_executedAt 0 = .ok (.aload_n 0, 1) := by decide +kernel
theorem dX7_executedAt_1 : decode cX7_executedAt 1 = .ok (.iconst 0, 1) := by decide +kernel
theorem dX7_executedAt_2 : decode cX7_executedAt 2 = .ok (.putfield 76, 3) := by decide +kernel
theorem dX7_executedAt_5 : decode cX7_executedAt 5 = .ok (.iload_n 1, 1) := by decide +kernel
theorem dX7_executedAt_6 : decode cX7_executedAt 6 = .ok (.iload_n 2, 1) := by decide +kernel
theorem dX7_executedAt_7 : decode cX7_executedAt 7 = .ok (.invokestatic 193, 3) := by decide +kernel
theorem dX7_executedAt_10 : decode cX7_executedAt 10 = .ok (.ifCond .eq 21, 3) := by decide +kernel
theorem dX7_executedAt_13 : decode cX7_executedAt 13 = .ok (.aload_n 0, 1) := by decide +kernel
theorem dX7_executedAt_14 : decode cX7_executedAt 14 = .ok (.getfield 7, 3) := by decide +kernel
theorem dX7_executedAt_17 : decode cX7_executedAt 17 = .ok (.sipush 158, 3) := by decide +kernel
theorem dX7_executedAt_20 : decode cX7_executedAt 20 = .ok (.bipush 32, 2) := by decide +kernel
theorem dX7_executedAt_22 : decode cX7_executedAt 22 = .ok (.iload_n 1, 1) := by decide +kernel
theorem dX7_executedAt_23 : decode cX7_executedAt 23 = .ok (.imul, 1) := by decide +kernel
theorem dX7_executedAt_24 : decode cX7_executedAt 24 = .ok (.iadd, 1) := by decide +kernel
theorem dX7_executedAt_25 : decode cX7_executedAt 25 = .ok (.iload_n 2, 1) := by decide +kernel
theorem dX7_executedAt_26 : decode cX7_executedAt 26 = .ok (.iadd, 1) := by decide +kernel
theorem dX7_executedAt_27 : decode cX7_executedAt 27 = .ok (.iaload, 1) := by decide +kernel
theorem dX7_executedAt_28 : decode cX7_executedAt 28 = .ok (.goto 8, 3) := by decide +kernel
theorem dX7_executedAt_31 : decode cX7_executedAt 31 = .ok (.aload_n 0, 1) := by decide +kernel
theorem dX7_executedAt_32 : decode cX7_executedAt 32 = .ok (.iconst 1, 1) := by decide +kernel
theorem dX7_executedAt_33 : decode cX7_executedAt 33 = .ok (.invokevirtual 98, 3) := by decide +kernel
theorem dX7_executedAt_36 : decode cX7_executedAt 36 = .ok (.ireturn, 1) := by decide +kernel
theorem dX7_waited_0 : decode cX7_waited 0 = .ok (.aload_n 0, 1) := by decide +kernel
theorem dX7_waited_1 : decode cX7_waited 1 = .ok (.iconst 0, 1) := by decide +kernel
theorem dX7_waited_2 : decode cX7_waited 2 = .ok (.putfield 76, 3) := by decide +kernel
theorem dX7_waited_5 : decode cX7_waited 5 = .ok (.aload_n 0, 1) := by decide +kernel
theorem dX7_waited_6 : decode cX7_waited 6 = .ok (.getfield 7, 3) := by decide +kernel
theorem dX7_waited_9 : decode cX7_waited 9 = .ok (.bipush 6, 2) := by decide +kernel
theorem dX7_waited_11 : decode cX7_waited 11 = .ok (.iaload, 1) := by decide +kernel
theorem dX7_waited_12 : decode cX7_waited 12 = .ok (.ireturn, 1) := by decide +kernel
theorem dX7_predictTime_0 : decode cX7_predictTime 0 = .ok (.aload_n 0, 1) := by decide +kernel
theorem dX7_predictTime_1 : decode cX7_predictTime 1 = .ok (.aload_n 0, 1) := by decide +kernel
theorem dX7_predictTime_2 : decode cX7_predictTime 2 = .ok (.iload_n 1, 1) := by decide +kernel
theorem dX7_predictTime_3 : decode cX7_predictTime 3 = .ok (.invokevirtual 309, 3) := by decide +kernel
theorem dX7_predictTime_6 : decode cX7_predictTime 6 = .ok (.putfield 76, 3) := by decide +kernel
theorem dX7_predictTime_9 : decode cX7_predictTime 9 = .ok (.aload_n 0, 1) := by decide +kernel
theorem dX7_predictTime_10 : decode cX7_predictTime 10 = .ok (.getfield 76, 3) := by decide +kernel
theorem dX7_predictTime_13 : decode cX7_predictTime 13 = .ok (.ifCond .le 5, 3) := by decide +kernel
theorem dX7_predictTime_16 : decode cX7_predictTime 16 = .ok (.iconst 0, 1) := by decide +kernel
theorem dX7_predictTime_17 : decode cX7_predictTime 17 = .ok (.ireturn, 1) := by decide +kernel
theorem dX7_predictTime_18 : decode cX7_predictTime 18 = .ok (.aload_n 0, 1) := by decide +kernel
theorem dX7_predictTime_19 : decode cX7_predictTime 19 = .ok (.invokevirtual 239, 3) := by decide +kernel
theorem dX7_predictTime_22 : decode cX7_predictTime 22 = .ok (.aload_n 0, 1) := by decide +kernel
theorem dX7_predictTime_23 : decode cX7_predictTime 23 = .ok (.getfield 7, 3) := by decide +kernel
theorem dX7_predictTime_26 : decode cX7_predictTime 26 = .ok (.iconst 0, 1) := by decide +kernel
theorem dX7_predictTime_27 : decode cX7_predictTime 27 = .ok (.iaload, 1) := by decide +kernel
theorem dX7_predictTime_28 : decode cX7_predictTime 28 = .ok (.istore_n 2, 1) := by decide +kernel
theorem dX7_predictTime_29 : decode cX7_predictTime 29 = .ok (.aload_n 0, 1) := by decide +kernel
theorem dX7_predictTime_30 : decode cX7_predictTime 30 = .ok (.iload_n 1, 1) := by decide +kernel
theorem dX7_predictTime_31 : decode cX7_predictTime 31 = .ok (.invokevirtual 312, 3) := by decide +kernel
theorem dX7_predictTime_34 : decode cX7_predictTime 34 = .ok (.istore_n 3, 1) := by decide +kernel
theorem dX7_predictTime_35 : decode cX7_predictTime 35 = .ok (.aload_n 0, 1) := by decide +kernel
theorem dX7_predictTime_36 : decode cX7_predictTime 36 = .ok (.getfield 7, 3) := by decide +kernel
theorem dX7_predictTime_39 : decode cX7_predictTime 39 = .ok (.iconst 0, 1) := by decide +kernel
theorem dX7_predictTime_40 : decode cX7_predictTime 40 = .ok (.iaload, 1) := by decide +kernel
theorem dX7_predictTime_41 : decode cX7_predictTime 41 = .ok (.iload_n 2, 1) := by decide +kernel
theorem dX7_predictTime_42 : decode cX7_predictTime 42 = .ok (.isub, 1) := by decide +kernel
theorem dX7_predictTime_43 : decode cX7_predictTime 43 = .ok (.istore 4, 2) := by decide +kernel
theorem dX7_predictTime_45 : decode cX7_predictTime 45 = .ok (.aload_n 0, 1) := by decide +kernel
theorem dX7_predictTime_46 : decode cX7_predictTime 46 = .ok (.invokevirtual 249, 3) := by decide +kernel
theorem dX7_predictTime_49 : decode cX7_predictTime 49 = .ok (.iload 4, 2) := by decide +kernel
theorem dX7_predictTime_51 : decode cX7_predictTime 51 = .ok (.ireturn, 1) := by decide +kernel
theorem dX7_until_0 : decode cX7_until 0 = .ok (.iload_n 0, 1) := by decide +kernel
theorem dX7_until_1 : decode cX7_until 1 = .ok (.iload_n 1, 1) := by decide +kernel
theorem dX7_until_2 : decode cX7_until 2 = .ok (.iload_n 0, 1) := by decide +kernel
theorem dX7_until_3 : decode cX7_until 3 = .ok (.bipush 32, 2) := by decide +kernel
theorem dX7_until_5 : decode cX7_until 5 = .ok (.irem, 1) := by decide +kernel
theorem dX7_until_6 : decode cX7_until 6 = .ok (.isub, 1) := by decide +kernel
theorem dX7_until_7 : decode cX7_until 7 = .ok (.bipush 32, 2) := by decide +kernel
theorem dX7_until_9 : decode cX7_until 9 = .ok (.iadd, 1) := by decide +kernel
theorem dX7_until_10 : decode cX7_until 10 = .ok (.bipush 32, 2) := by decide +kernel
theorem dX7_until_12 : decode cX7_until 12 = .ok (.irem, 1) := by decide +kernel
theorem dX7_until_13 : decode cX7_until 13 = .ok (.iadd, 1) := by decide +kernel
theorem dX7_until_14 : decode cX7_until 14 = .ok (.ireturn, 1) := by decide +kernel
theorem dX7_doneAt_0 : decode cX7_doneAt 0 = .ok (.iload_n 0, 1) := by decide +kernel
theorem dX7_doneAt_1 : decode cX7_doneAt 1 = .ok (.bipush 15, 2) := by decide +kernel
theorem dX7_doneAt_3 : decode cX7_doneAt 3 = .ok (.iand, 1) := by decide +kernel
theorem dX7_doneAt_4 : decode cX7_doneAt 4 = .ok (.istore_n 2, 1) := by decide +kernel
theorem dX7_doneAt_5 : decode cX7_doneAt 5 = .ok (.iload_n 0, 1) := by decide +kernel
theorem dX7_doneAt_6 : decode cX7_doneAt 6 = .ok (.bipush 7, 2) := by decide +kernel
theorem dX7_doneAt_8 : decode cX7_doneAt 8 = .ok (.ishr, 1) := by decide +kernel
theorem dX7_doneAt_9 : decode cX7_doneAt 9 = .ok (.bipush 31, 2) := by decide +kernel
theorem dX7_doneAt_11 : decode cX7_doneAt 11 = .ok (.iand, 1) := by decide +kernel
theorem dX7_doneAt_12 : decode cX7_doneAt 12 = .ok (.istore_n 3, 1) := by decide +kernel
theorem dX7_doneAt_13 : decode cX7_doneAt 13 = .ok (.iload_n 1, 1) := by decide +kernel
theorem dX7_doneAt_14 : decode cX7_doneAt 14 = .ok (.iconst 1, 1) := by decide +kernel
theorem dX7_doneAt_15 : decode cX7_doneAt 15 = .ok (.iadd, 1) := by decide +kernel
theorem dX7_doneAt_16 : decode cX7_doneAt 16 = .ok (.istore 4, 2) := by decide +kernel
theorem dX7_doneAt_18 : decode cX7_doneAt 18 = .ok (.iload_n 2, 1) := by decide +kernel
theorem dX7_doneAt_19 : decode cX7_doneAt 19 = .ok (.ifCond .ne 6, 3) := by decide +kernel
theorem dX7_doneAt_22 : decode cX7_doneAt 22 = .ok (.iload 4, 2) := by decide +kernel
theorem dX7_doneAt_24 : decode cX7_doneAt 24 = .ok (.ireturn, 1) := by decide +kernel
theorem dX7_doneAt_25 : decode cX7_doneAt 25 = .ok (.iload_n 2, 1) := by decide +kernel
theorem dX7_doneAt_26 : decode cX7_doneAt 26 = .ok (.bipush 8, 2) := by decide +kernel
theorem dX7_doneAt_28 : decode cX7_doneAt 28 = .ok (.if_icmp .eq 9, 3) := by decide +kernel
theorem dX7_doneAt_31 : decode cX7_doneAt 31 = .ok (.iload_n 2, 1) := by decide +kernel
theorem dX7_doneAt_32 : decode cX7_doneAt 32 = .ok (.bipush 9, 2) := by decide +kernel
theorem dX7_doneAt_34 : decode cX7_doneAt 34 = .ok (.if_icmp .ne 10, 3) := by decide +kernel
theorem dX7_doneAt_37 : decode cX7_doneAt 37 = .ok (.iload 4, 2) := by decide +kernel
theorem dX7_doneAt_39 : decode cX7_doneAt 39 = .ok (.iconst 1, 1) := by decide +kernel
theorem dX7_doneAt_40 : decode cX7_doneAt 40 = .ok (.iadd, 1) := by decide +kernel
theorem dX7_doneAt_41 : decode cX7_doneAt 41 = .ok (.iload_n 3, 1) := by decide +kernel
theorem dX7_doneAt_42 : decode cX7_doneAt 42 = .ok (.iadd, 1) := by decide +kernel
theorem dX7_doneAt_43 : decode cX7_doneAt 43 = .ok (.ireturn, 1) := by decide +kernel
theorem dX7_doneAt_44 : decode cX7_doneAt 44 = .ok (.iload_n 2, 1) := by decide +kernel
theorem dX7_doneAt_45 : decode cX7_doneAt 45 = .ok (.bipush 15, 2) := by decide +kernel
theorem dX7_doneAt_47 : decode cX7_doneAt 47 = .ok (.if_icmp .ne 15, 3) := by decide +kernel
theorem dX7_doneAt_50 : decode cX7_doneAt 50 = .ok (.iload 4, 2) := by decide +kernel
theorem dX7_doneAt_52 : decode cX7_doneAt 52 = .ok (.iload_n 3, 1) := by decide +kernel
theorem dX7_doneAt_53 : decode cX7_doneAt 53 = .ok (.invokestatic 317, 3) := by decide +kernel
theorem dX7_doneAt_56 : decode cX7_doneAt 56 = .ok (.bipush 32, 2) := by decide +kernel
theorem dX7_doneAt_58 : decode cX7_doneAt 58 = .ok (.iadd, 1) := by decide +kernel
theorem dX7_doneAt_59 : decode cX7_doneAt 59 = .ok (.iconst 1, 1) := by decide +kernel
theorem dX7_doneAt_60 : decode cX7_doneAt 60 = .ok (.iadd, 1) := by decide +kernel
theorem dX7_doneAt_61 : decode cX7_doneAt 61 = .ok (.ireturn, 1) := by decide +kernel
theorem dX7_doneAt_62 : decode cX7_doneAt 62 = .ok (.iload_n 2, 1) := by decide +kernel
theorem dX7_doneAt_63 : decode cX7_doneAt 63 = .ok (.bipush 7, 2) := by decide +kernel
theorem dX7_doneAt_65 : decode cX7_doneAt 65 = .ok (.if_icmp .gt 25, 3) := by decide +kernel
theorem dX7_doneAt_68 : decode cX7_doneAt 68 = .ok (.iload 4, 2) := by decide +kernel
theorem dX7_doneAt_70 : decode cX7_doneAt 70 = .ok (.iload_n 3, 1) := by decide +kernel
theorem dX7_doneAt_71 : decode cX7_doneAt 71 = .ok (.invokestatic 317, 3) := by decide +kernel
theorem dX7_doneAt_74 : decode cX7_doneAt 74 = .ok (.iload_n 2, 1) := by decide +kernel
theorem dX7_doneAt_75 : decode cX7_doneAt 75 = .ok (.bipush 7, 2) := by decide +kernel
theorem dX7_doneAt_77 : decode cX7_doneAt 77 = .ok (.if_icmp .ne 8, 3) := by decide +kernel
theorem dX7_doneAt_80 : decode cX7_doneAt 80 = .ok (.bipush 21, 2) := by decide +kernel
theorem dX7_doneAt_82 : decode cX7_doneAt 82 = .ok (.goto 4, 3) := by decide +kernel
theorem dX7_doneAt_85 : decode cX7_doneAt 85 = .ok (.iconst 1, 1) := by decide +kernel
theorem dX7_doneAt_86 : decode cX7_doneAt 86 = .ok (.iadd, 1) := by decide +kernel
theorem dX7_doneAt_87 : decode cX7_doneAt 87 = .ok (.goto 7, 3) := by decide +kernel
theorem dX7_doneAt_90 : decode cX7_doneAt 90 = .ok (.iload 4, 2) := by decide +kernel
theorem dX7_doneAt_92 : decode cX7_doneAt 92 = .ok (.iconst 1, 1) := by decide +kernel
theorem dX7_doneAt_93 : decode cX7_doneAt 93 = .ok (.iadd, 1) := by decide +kernel
theorem dX7_doneAt_94 : decode cX7_doneAt 94 = .ok (.ireturn, 1) := by decide +kernel
theorem dX7_idealOf_0 : decode cX7_idealOf 0 = .ok (.aload_n 0, 1) := by decide +kernel
theorem dX7_idealOf_1 : decode cX7_idealOf 1 = .ok (.getfield 7, 3) := by decide +kernel
theorem dX7_idealOf_4 : decode cX7_idealOf 4 = .ok (.sipush 414, 3) := by decide +kernel
theorem dX7_idealOf_7 : decode cX7_idealOf 7 = .ok (.iload_n 1, 1) := by decide +kernel
theorem dX7_idealOf_8 : decode cX7_idealOf 8 = .ok (.iadd, 1) := by decide +kernel
theorem dX7_idealOf_9 : decode cX7_idealOf 9 = .ok (.iaload, 1) := by decide +kernel
theorem dX7_idealOf_10 : decode cX7_idealOf 10 = .ok (.iload_n 1, 1) := by decide +kernel
theorem dX7_idealOf_11 : decode cX7_idealOf 11 = .ok (.bipush 32, 2) := by decide +kernel
theorem dX7_idealOf_13 : decode cX7_idealOf 13 = .ok (.irem, 1) := by decide +kernel
theorem dX7_idealOf_14 : decode cX7_idealOf 14 = .ok (.invokestatic 320, 3) := by decide +kernel
theorem dX7_idealOf_17 : decode cX7_idealOf 17 = .ok (.bipush 32, 2) := by decide +kernel
theorem dX7_idealOf_19 : decode cX7_idealOf 19 = .ok (.irem, 1) := by decide +kernel
theorem dX7_idealOf_20 : decode cX7_idealOf 20 = .ok (.ireturn, 1) := by decide +kernel
theorem dX7_idealNextCycle_0 : decode cX7_idealNextCycle 0 = .ok (.aload_n 0, 1) := by decide +kernel
theorem dX7_idealNextCycle_1 : decode cX7_idealNextCycle 1 = .ok (.iconst 0, 1) := by decide +kernel
theorem dX7_idealNextCycle_2 : decode cX7_idealNextCycle 2 = .ok (.putfield 76, 3) := by decide +kernel
theorem dX7_idealNextCycle_5 : decode cX7_idealNextCycle 5 = .ok (.iload_n 1, 1) := by decide +kernel
theorem dX7_idealNextCycle_6 : decode cX7_idealNextCycle 6 = .ok (.iload_n 2, 1) := by decide +kernel
theorem dX7_idealNextCycle_7 : decode cX7_idealNextCycle 7 = .ok (.invokestatic 193, 3) := by decide +kernel
theorem dX7_idealNextCycle_10 : decode cX7_idealNextCycle 10 = .ok (.ifCond .eq 16, 3) := by decide +kernel
theorem dX7_idealNextCycle_13 : decode cX7_idealNextCycle 13 = .ok (.aload_n 0, 1) := by decide +kernel
theorem dX7_idealNextCycle_14 : decode cX7_idealNextCycle 14 = .ok (.bipush 32, 2) := by decide +kernel
theorem dX7_idealNextCycle_16 : decode cX7_idealNextCycle 16 = .ok (.iload_n 1, 1) := by decide +kernel
theorem dX7_idealNextCycle_17 : decode cX7_idealNextCycle 17 = .ok (.imul, 1) := by decide +kernel
theorem dX7_idealNextCycle_18 : decode cX7_idealNextCycle 18 = .ok (.iload_n 2, 1) := by decide +kernel
theorem dX7_idealNextCycle_19 : decode cX7_idealNextCycle 19 = .ok (.iadd, 1) := by decide +kernel
theorem dX7_idealNextCycle_20 : decode cX7_idealNextCycle 20 = .ok (.invokevirtual 323, 3) := by decide +kernel
theorem dX7_idealNextCycle_23 : decode cX7_idealNextCycle 23 = .ok (.goto 8, 3) := by decide +kernel
theorem dX7_idealNextCycle_26 : decode cX7_idealNextCycle 26 = .ok (.aload_n 0, 1) := by decide +kernel
theorem dX7_idealNextCycle_27 : decode cX7_idealNextCycle 27 = .ok (.iconst 1, 1) := by decide +kernel
theorem dX7_idealNextCycle_28 : decode cX7_idealNextCycle 28 = .ok (.invokevirtual 98, 3) := by decide +kernel
theorem dX7_idealNextCycle_31 : decode cX7_idealNextCycle 31 = .ok (.ireturn, 1) := by decide +kernel
theorem dX7_pathTime_0 : decode cX7_pathTime 0 = .ok (.aload_n 0, 1) := by decide +kernel
theorem dX7_pathTime_1 : decode cX7_pathTime 1 = .ok (.iload_n 1, 1) := by decide +kernel
theorem dX7_pathTime_2 : decode cX7_pathTime 2 = .ok (.iload_n 2, 1) := by decide +kernel
theorem dX7_pathTime_3 : decode cX7_pathTime 3 = .ok (.invokestatic 193, 3) := by decide +kernel
theorem dX7_pathTime_6 : decode cX7_pathTime 6 = .ok (.ifCond .ne 7, 3) := by decide +kernel
theorem dX7_pathTime_9 : decode cX7_pathTime 9 = .ok (.iconst 1, 1) := by decide +kernel
theorem dX7_pathTime_10 : decode cX7_pathTime 10 = .ok (.goto 20, 3) := by decide +kernel
theorem dX7_pathTime_13 : decode cX7_pathTime 13 = .ok (.iload_n 3, 1) := by decide +kernel
theorem dX7_pathTime_14 : decode cX7_pathTime 14 = .ok (.i2l, 1) := by decide +kernel
theorem dX7_pathTime_15 : decode cX7_pathTime 15 = .ok (.lconst 1, 1) := by decide +kernel
theorem dX7_pathTime_16 : decode cX7_pathTime 16 = .ok (.ldc2_w 326, 3) := by decide +kernel
theorem dX7_pathTime_19 : decode cX7_pathTime 19 = .ok (.invokestatic 81, 3) := by decide +kernel
theorem dX7_pathTime_22 : decode cX7_pathTime 22 = .ok (.ifCond .eq 7, 3) := by decide +kernel
theorem dX7_pathTime_25 : decode cX7_pathTime 25 = .ok (.iconst 0, 1) := by decide +kernel
theorem dX7_pathTime_26 : decode cX7_pathTime 26 = .ok (.goto 4, 3) := by decide +kernel
theorem dX7_pathTime_29 : decode cX7_pathTime 29 = .ok (.iconst 2, 1) := by decide +kernel
theorem dX7_pathTime_30 : decode cX7_pathTime 30 = .ok (.putfield 76, 3) := by decide +kernel
theorem dX7_pathTime_33 : decode cX7_pathTime 33 = .ok (.aload_n 0, 1) := by decide +kernel
theorem dX7_pathTime_34 : decode cX7_pathTime 34 = .ok (.getfield 76, 3) := by decide +kernel
theorem dX7_pathTime_37 : decode cX7_pathTime 37 = .ok (.ifCond .le 5, 3) := by decide +kernel
theorem dX7_pathTime_40 : decode cX7_pathTime 40 = .ok (.iconst 0, 1) := by decide +kernel
theorem dX7_pathTime_41 : decode cX7_pathTime 41 = .ok (.ireturn, 1) := by decide +kernel
theorem dX7_pathTime_42 : decode cX7_pathTime 42 = .ok (.bipush 32, 2) := by decide +kernel
theorem dX7_pathTime_44 : decode cX7_pathTime 44 = .ok (.iload_n 1, 1) := by decide +kernel
theorem dX7_pathTime_45 : decode cX7_pathTime 45 = .ok (.imul, 1) := by decide +kernel
theorem dX7_pathTime_46 : decode cX7_pathTime 46 = .ok (.iload_n 2, 1) := by decide +kernel
theorem dX7_pathTime_47 : decode cX7_pathTime 47 = .ok (.iadd, 1) := by decide +kernel
theorem dX7_pathTime_48 : decode cX7_pathTime 48 = .ok (.istore 4, 2) := by decide +kernel
theorem dX7_pathTime_50 : decode cX7_pathTime 50 = .ok (.iload_n 2, 1) := by decide +kernel
theorem dX7_pathTime_51 : decode cX7_pathTime 51 = .ok (.istore 5, 2) := by decide +kernel
theorem dX7_pathTime_53 : decode cX7_pathTime 53 = .ok (.iconst 1, 1) := by decide +kernel
theorem dX7_pathTime_54 : decode cX7_pathTime 54 = .ok (.istore 6, 2) := by decide +kernel
theorem dX7_pathTime_56 : decode cX7_pathTime 56 = .ok (.iconst 0, 1) := by decide +kernel
theorem dX7_pathTime_57 : decode cX7_pathTime 57 = .ok (.istore 7, 2) := by decide +kernel
theorem dX7_pathTime_59 : decode cX7_pathTime 59 = .ok (.iload 7, 2) := by decide +kernel
theorem dX7_pathTime_61 : decode cX7_pathTime 61 = .ok (.iload_n 3, 1) := by decide +kernel
theorem dX7_pathTime_62 : decode cX7_pathTime 62 = .ok (.if_icmp .ge 66, 3) := by decide +kernel
theorem dX7_pathTime_65 : decode cX7_pathTime 65 = .ok (.iload 6, 2) := by decide +kernel
theorem dX7_pathTime_67 : decode cX7_pathTime 67 = .ok (.ifCond .eq 61, 3) := by decide +kernel
theorem dX7_pathTime_70 : decode cX7_pathTime 70 = .ok (.aload_n 0, 1) := by decide +kernel
theorem dX7_pathTime_71 : decode cX7_pathTime 71 = .ok (.getfield 7, 3) := by decide +kernel
theorem dX7_pathTime_74 : decode cX7_pathTime 74 = .ok (.sipush 414, 3) := by decide +kernel
theorem dX7_pathTime_77 : decode cX7_pathTime 77 = .ok (.iload 4, 2) := by decide +kernel
theorem dX7_pathTime_79 : decode cX7_pathTime 79 = .ok (.iadd, 1) := by decide +kernel
theorem dX7_pathTime_80 : decode cX7_pathTime 80 = .ok (.iaload, 1) := by decide +kernel
theorem dX7_pathTime_81 : decode cX7_pathTime 81 = .ok (.istore 8, 2) := by decide +kernel
theorem dX7_pathTime_83 : decode cX7_pathTime 83 = .ok (.iload 8, 2) := by decide +kernel
theorem dX7_pathTime_85 : decode cX7_pathTime 85 = .ok (.iload 5, 2) := by decide +kernel
theorem dX7_pathTime_87 : decode cX7_pathTime 87 = .ok (.iload 4, 2) := by decide +kernel
theorem dX7_pathTime_89 : decode cX7_pathTime 89 = .ok (.bipush 32, 2) := by decide +kernel
theorem dX7_pathTime_91 : decode cX7_pathTime 91 = .ok (.irem, 1) := by decide +kernel
theorem dX7_pathTime_92 : decode cX7_pathTime 92 = .ok (.invokestatic 317, 3) := by decide +kernel
theorem dX7_pathTime_95 : decode cX7_pathTime 95 = .ok (.invokestatic 320, 3) := by decide +kernel
theorem dX7_pathTime_98 : decode cX7_pathTime 98 = .ok (.istore 5, 2) := by decide +kernel
theorem dX7_pathTime_100 : decode cX7_pathTime 100 = .ok (.iload 8, 2) := by decide +kernel
theorem dX7_pathTime_102 : decode cX7_pathTime 102 = .ok (.bipush 15, 2) := by decide +kernel
theorem dX7_pathTime_104 : decode cX7_pathTime 104 = .ok (.iand, 1) := by decide +kernel
theorem dX7_pathTime_105 : decode cX7_pathTime 105 = .ok (.ifCond .eq 7, 3) := by decide +kernel
theorem dX7_pathTime_108 : decode cX7_pathTime 108 = .ok (.iconst 1, 1) := by decide +kernel
theorem dX7_pathTime_109 : decode cX7_pathTime 109 = .ok (.goto 4, 3) := by decide +kernel
theorem dX7_pathTime_112 : decode cX7_pathTime 112 = .ok (.iconst 0, 1) := by decide +kernel
theorem dX7_pathTime_113 : decode cX7_pathTime 113 = .ok (.istore 6, 2) := by decide +kernel
theorem dX7_pathTime_115 : decode cX7_pathTime 115 = .ok (.iload 8, 2) := by decide +kernel
theorem dX7_pathTime_117 : decode cX7_pathTime 117 = .ok (.invokestatic 301, 3) := by decide +kernel
theorem dX7_pathTime_120 : decode cX7_pathTime 120 = .ok (.istore 4, 2) := by decide +kernel
theorem dX7_pathTime_122 : decode cX7_pathTime 122 = .ok (.iinc 7 1, 3) := by decide +kernel
theorem dX7_pathTime_125 : decode cX7_pathTime 125 = .ok (.goto (-66), 3) := by decide +kernel
theorem dX7_pathTime_128 : decode cX7_pathTime 128 = .ok (.iload 5, 2) := by decide +kernel
theorem dX7_pathTime_130 : decode cX7_pathTime 130 = .ok (.iload_n 2, 1) := by decide +kernel
theorem dX7_pathTime_131 : decode cX7_pathTime 131 = .ok (.isub, 1) := by decide +kernel
theorem dX7_pathTime_132 : decode cX7_pathTime 132 = .ok (.ireturn, 1) := by decide +kernel
theorem dX7_bestFree_0 : decode cX7_bestFree 0 = .ok (.aload_n 0, 1) := by decide +kernel
theorem dX7_bestFree_1 : decode cX7_bestFree 1 = .ok (.iload_n 1, 1) := by decide +kernel
theorem dX7_bestFree_2 : decode cX7_bestFree 2 = .ok (.invokevirtual 323, 3) := by decide +kernel
theorem dX7_bestFree_5 : decode cX7_bestFree 5 = .ok (.istore_n 3, 1) := by decide +kernel
theorem dX7_bestFree_6 : decode cX7_bestFree 6 = .ok (.iconst 0, 1) := by decide +kernel
theorem dX7_bestFree_7 : decode cX7_bestFree 7 = .ok (.istore 4, 2) := by decide +kernel
theorem dX7_bestFree_9 : decode cX7_bestFree 9 = .ok (.iload 4, 2) := by decide +kernel
theorem dX7_bestFree_11 : decode cX7_bestFree 11 = .ok (.bipush 32, 2) := by decide +kernel
theorem dX7_bestFree_13 : decode cX7_bestFree 13 = .ok (.if_icmp .ge 49, 3) := by decide +kernel
theorem dX7_bestFree_16 : decode cX7_bestFree 16 = .ok (.bipush 32, 2) := by decide +kernel
theorem dX7_bestFree_18 : decode cX7_bestFree 18 = .ok (.iload_n 2, 1) := by decide +kernel
theorem dX7_bestFree_19 : decode cX7_bestFree 19 = .ok (.imul, 1) := by decide +kernel
theorem dX7_bestFree_20 : decode cX7_bestFree 20 = .ok (.iload_n 3, 1) := by decide +kernel
theorem dX7_bestFree_21 : decode cX7_bestFree 21 = .ok (.iload 4, 2) := by decide +kernel
theorem dX7_bestFree_23 : decode cX7_bestFree 23 = .ok (.iadd, 1) := by decide +kernel
theorem dX7_bestFree_24 : decode cX7_bestFree 24 = .ok (.bipush 32, 2) := by decide +kernel
theorem dX7_bestFree_26 : decode cX7_bestFree 26 = .ok (.irem, 1) := by decide +kernel
theorem dX7_bestFree_27 : decode cX7_bestFree 27 = .ok (.iadd, 1) := by decide +kernel
theorem dX7_bestFree_28 : decode cX7_bestFree 28 = .ok (.istore 5, 2) := by decide +kernel
theorem dX7_bestFree_30 : decode cX7_bestFree 30 = .ok (.iload 5, 2) := by decide +kernel
theorem dX7_bestFree_32 : decode cX7_bestFree 32 = .ok (.iload_n 1, 1) := by decide +kernel
theorem dX7_bestFree_33 : decode cX7_bestFree 33 = .ok (.if_icmp .eq 23, 3) := by decide +kernel
theorem dX7_bestFree_36 : decode cX7_bestFree 36 = .ok (.aload_n 0, 1) := by decide +kernel
theorem dX7_bestFree_37 : decode cX7_bestFree 37 = .ok (.getfield 7, 3) := by decide +kernel
theorem dX7_bestFree_40 : decode cX7_bestFree 40 = .ok (.sipush 414, 3) := by decide +kernel
theorem dX7_bestFree_43 : decode cX7_bestFree 43 = .ok (.iload 5, 2) := by decide +kernel
theorem dX7_bestFree_45 : decode cX7_bestFree 45 = .ok (.iadd, 1) := by decide +kernel
theorem dX7_bestFree_46 : decode cX7_bestFree 46 = .ok (.iaload, 1) := by decide +kernel
theorem dX7_bestFree_47 : decode cX7_bestFree 47 = .ok (.ifCond .ne 9, 3) := by decide +kernel
theorem dX7_bestFree_50 : decode cX7_bestFree 50 = .ok (.iload 5, 2) := by decide +kernel
theorem dX7_bestFree_52 : decode cX7_bestFree 52 = .ok (.bipush 32, 2) := by decide +kernel
theorem dX7_bestFree_54 : decode cX7_bestFree 54 = .ok (.irem, 1) := by decide +kernel
theorem dX7_bestFree_55 : decode cX7_bestFree 55 = .ok (.ireturn, 1) := by decide +kernel
theorem dX7_bestFree_56 : decode cX7_bestFree 56 = .ok (.iinc 4 1, 3) := by decide +kernel
theorem dX7_bestFree_59 : decode cX7_bestFree 59 = .ok (.goto (-50), 3) := by decide +kernel
theorem dX7_bestFree_62 : decode cX7_bestFree 62 = .ok (.iconst (-1), 1) := by decide +kernel
theorem dX7_bestFree_63 : decode cX7_bestFree 63 = .ok (.ireturn, 1) := by decide +kernel
theorem dX7_bestFreeCycle_0 : decode cX7_bestFreeCycle 0 = .ok (.aload_n 0, 1) := by decide +kernel
theorem dX7_bestFreeCycle_1 : decode cX7_bestFreeCycle 1 = .ok (.iconst 0, 1) := by decide +kernel
theorem dX7_bestFreeCycle_2 : decode cX7_bestFreeCycle 2 = .ok (.putfield 76, 3) := by decide +kernel
theorem dX7_bestFreeCycle_5 : decode cX7_bestFreeCycle 5 = .ok (.iload_n 1, 1) := by decide +kernel
theorem dX7_bestFreeCycle_6 : decode cX7_bestFreeCycle 6 = .ok (.iload_n 2, 1) := by decide +kernel
theorem dX7_bestFreeCycle_7 : decode cX7_bestFreeCycle 7 = .ok (.invokestatic 193, 3) := by decide +kernel
theorem dX7_bestFreeCycle_10 : decode cX7_bestFreeCycle 10 = .ok (.ifCond .eq 24, 3) := by decide +kernel
theorem dX7_bestFreeCycle_13 : decode cX7_bestFreeCycle 13 = .ok (.iload_n 3, 1) := by decide +kernel
theorem dX7_bestFreeCycle_14 : decode cX7_bestFreeCycle 14 = .ok (.invokestatic 85, 3) := by decide +kernel
theorem dX7_bestFreeCycle_17 : decode cX7_bestFreeCycle 17 = .ok (.ifCond .eq 17, 3) := by decide +kernel
theorem dX7_bestFreeCycle_20 : decode cX7_bestFreeCycle 20 = .ok (.aload_n 0, 1) := by decide +kernel
theorem dX7_bestFreeCycle_21 : decode cX7_bestFreeCycle 21 = .ok (.bipush 32, 2) := by decide +kernel
theorem dX7_bestFreeCycle_23 : decode cX7_bestFreeCycle 23 = .ok (.iload_n 1, 1) := by decide +kernel
theorem dX7_bestFreeCycle_24 : decode cX7_bestFreeCycle 24 = .ok (.imul, 1) := by decide +kernel
theorem dX7_bestFreeCycle_25 : decode cX7_bestFreeCycle 25 = .ok (.iload_n 2, 1) := by decide +kernel
theorem dX7_bestFreeCycle_26 : decode cX7_bestFreeCycle 26 = .ok (.iadd, 1) := by decide +kernel
theorem dX7_bestFreeCycle_27 : decode cX7_bestFreeCycle 27 = .ok (.iload_n 3, 1) := by decide +kernel
theorem dX7_bestFreeCycle_28 : decode cX7_bestFreeCycle 28 = .ok (.invokevirtual 328, 3) := by decide +kernel
theorem dX7_bestFreeCycle_31 : decode cX7_bestFreeCycle 31 = .ok (.goto 8, 3) := by decide +kernel
theorem dX7_bestFreeCycle_34 : decode cX7_bestFreeCycle 34 = .ok (.aload_n 0, 1) := by decide +kernel
theorem dX7_bestFreeCycle_35 : decode cX7_bestFreeCycle 35 = .ok (.iconst 1, 1) := by decide +kernel
theorem dX7_bestFreeCycle_36 : decode cX7_bestFreeCycle 36 = .ok (.invokevirtual 98, 3) := by decide +kernel
theorem dX7_bestFreeCycle_39 : decode cX7_bestFreeCycle 39 = .ok (.ireturn, 1) := by decide +kernel
theorem dX7_moveNext_0 : decode cX7_moveNext 0 = .ok (.aload_n 0, 1) := by decide +kernel
theorem dX7_moveNext_1 : decode cX7_moveNext 1 = .ok (.iconst 0, 1) := by decide +kernel
theorem dX7_moveNext_2 : decode cX7_moveNext 2 = .ok (.putfield 76, 3) := by decide +kernel
theorem dX7_moveNext_5 : decode cX7_moveNext 5 = .ok (.iload_n 1, 1) := by decide +kernel
theorem dX7_moveNext_6 : decode cX7_moveNext 6 = .ok (.iload_n 2, 1) := by decide +kernel
theorem dX7_moveNext_7 : decode cX7_moveNext 7 = .ok (.invokestatic 193, 3) := by decide +kernel
theorem dX7_moveNext_10 : decode cX7_moveNext 10 = .ok (.ifCond .eq 10, 3) := by decide +kernel
theorem dX7_moveNext_13 : decode cX7_moveNext 13 = .ok (.iload_n 3, 1) := by decide +kernel
theorem dX7_moveNext_14 : decode cX7_moveNext 14 = .ok (.invokestatic 85, 3) := by decide +kernel
theorem dX7_moveNext_17 : decode cX7_moveNext 17 = .ok (.ifCond .ne 9, 3) := by decide +kernel
theorem dX7_moveNext_20 : decode cX7_moveNext 20 = .ok (.aload_n 0, 1) := by decide +kernel
theorem dX7_moveNext_21 : decode cX7_moveNext 21 = .ok (.iconst 1, 1) := by decide +kernel
theorem dX7_moveNext_22 : decode cX7_moveNext 22 = .ok (.invokevirtual 98, 3) := by decide +kernel
theorem dX7_moveNext_25 : decode cX7_moveNext 25 = .ok (.ireturn, 1) := by decide +kernel
theorem dX7_moveNext_26 : decode cX7_moveNext 26 = .ok (.bipush 32, 2) := by decide +kernel
theorem dX7_moveNext_28 : decode cX7_moveNext 28 = .ok (.iload_n 1, 1) := by decide +kernel
theorem dX7_moveNext_29 : decode cX7_moveNext 29 = .ok (.imul, 1) := by decide +kernel
theorem dX7_moveNext_30 : decode cX7_moveNext 30 = .ok (.iload_n 2, 1) := by decide +kernel
theorem dX7_moveNext_31 : decode cX7_moveNext 31 = .ok (.iadd, 1) := by decide +kernel
theorem dX7_moveNext_32 : decode cX7_moveNext 32 = .ok (.istore 4, 2) := by decide +kernel
theorem dX7_moveNext_34 : decode cX7_moveNext 34 = .ok (.aload_n 0, 1) := by decide +kernel
theorem dX7_moveNext_35 : decode cX7_moveNext 35 = .ok (.iload 4, 2) := by decide +kernel
theorem dX7_moveNext_37 : decode cX7_moveNext 37 = .ok (.iload_n 3, 1) := by decide +kernel
theorem dX7_moveNext_38 : decode cX7_moveNext 38 = .ok (.invokevirtual 328, 3) := by decide +kernel
theorem dX7_moveNext_41 : decode cX7_moveNext 41 = .ok (.istore 5, 2) := by decide +kernel
theorem dX7_moveNext_43 : decode cX7_moveNext 43 = .ok (.aload_n 0, 1) := by decide +kernel
theorem dX7_moveNext_44 : decode cX7_moveNext 44 = .ok (.getfield 7, 3) := by decide +kernel
theorem dX7_moveNext_47 : decode cX7_moveNext 47 = .ok (.sipush 414, 3) := by decide +kernel
theorem dX7_moveNext_50 : decode cX7_moveNext 50 = .ok (.iload 4, 2) := by decide +kernel
theorem dX7_moveNext_52 : decode cX7_moveNext 52 = .ok (.iadd, 1) := by decide +kernel
theorem dX7_moveNext_53 : decode cX7_moveNext 53 = .ok (.iaload, 1) := by decide +kernel
theorem dX7_moveNext_54 : decode cX7_moveNext 54 = .ok (.invokestatic 301, 3) := by decide +kernel
theorem dX7_moveNext_57 : decode cX7_moveNext 57 = .ok (.istore 6, 2) := by decide +kernel
theorem dX7_moveNext_59 : decode cX7_moveNext 59 = .ok (.iload 5, 2) := by decide +kernel
theorem dX7_moveNext_61 : decode cX7_moveNext 61 = .ok (.iconst (-1), 1) := by decide +kernel
theorem dX7_moveNext_62 : decode cX7_moveNext 62 = .ok (.if_icmp .eq 10, 3) := by decide +kernel
theorem dX7_moveNext_65 : decode cX7_moveNext 65 = .ok (.iload 6, 2) := by decide +kernel
theorem dX7_moveNext_67 : decode cX7_moveNext 67 = .ok (.iload 4, 2) := by decide +kernel
theorem dX7_moveNext_69 : decode cX7_moveNext 69 = .ok (.if_icmp .ne 9, 3) := by decide +kernel
theorem dX7_moveNext_72 : decode cX7_moveNext 72 = .ok (.aload_n 0, 1) := by decide +kernel
theorem dX7_moveNext_73 : decode cX7_moveNext 73 = .ok (.iconst 2, 1) := by decide +kernel
theorem dX7_moveNext_74 : decode cX7_moveNext 74 = .ok (.invokevirtual 98, 3) := by decide +kernel
theorem dX7_moveNext_77 : decode cX7_moveNext 77 = .ok (.ireturn, 1) := by decide +kernel
theorem dX7_moveNext_78 : decode cX7_moveNext 78 = .ok (.bipush 32, 2) := by decide +kernel
theorem dX7_moveNext_80 : decode cX7_moveNext 80 = .ok (.iload_n 3, 1) := by decide +kernel
theorem dX7_moveNext_81 : decode cX7_moveNext 81 = .ok (.imul, 1) := by decide +kernel
theorem dX7_moveNext_82 : decode cX7_moveNext 82 = .ok (.iload 5, 2) := by decide +kernel
theorem dX7_moveNext_84 : decode cX7_moveNext 84 = .ok (.iadd, 1) := by decide +kernel
theorem dX7_moveNext_85 : decode cX7_moveNext 85 = .ok (.istore 7, 2) := by decide +kernel
theorem dX7_moveNext_87 : decode cX7_moveNext 87 = .ok (.aload_n 0, 1) := by decide +kernel
theorem dX7_moveNext_88 : decode cX7_moveNext 88 = .ok (.getfield 7, 3) := by decide +kernel
theorem dX7_moveNext_91 : decode cX7_moveNext 91 = .ok (.sipush 414, 3) := by decide +kernel
theorem dX7_moveNext_94 : decode cX7_moveNext 94 = .ok (.iload 6, 2) := by decide +kernel
theorem dX7_moveNext_96 : decode cX7_moveNext 96 = .ok (.iadd, 1) := by decide +kernel
theorem dX7_moveNext_97 : decode cX7_moveNext 97 = .ok (.iaload, 1) := by decide +kernel
theorem dX7_moveNext_98 : decode cX7_moveNext 98 = .ok (.istore 8, 2) := by decide +kernel
theorem dX7_moveNext_100 : decode cX7_moveNext 100 = .ok (.aload_n 0, 1) := by decide +kernel
theorem dX7_moveNext_101 : decode cX7_moveNext 101 = .ok (.getfield 7, 3) := by decide +kernel
theorem dX7_moveNext_104 : decode cX7_moveNext 104 = .ok (.sipush 414, 3) := by decide +kernel
theorem dX7_moveNext_107 : decode cX7_moveNext 107 = .ok (.iload 6, 2) := by decide +kernel
theorem dX7_moveNext_109 : decode cX7_moveNext 109 = .ok (.iadd, 1) := by decide +kernel
theorem dX7_moveNext_110 : decode cX7_moveNext 110 = .ok (.iconst 0, 1) := by decide +kernel
theorem dX7_moveNext_111 : decode cX7_moveNext 111 = .ok (.iastore, 1) := by decide +kernel
theorem dX7_moveNext_112 : decode cX7_moveNext 112 = .ok (.aload_n 0, 1) := by decide +kernel
theorem dX7_moveNext_113 : decode cX7_moveNext 113 = .ok (.getfield 7, 3) := by decide +kernel
theorem dX7_moveNext_116 : decode cX7_moveNext 116 = .ok (.sipush 414, 3) := by decide +kernel
theorem dX7_moveNext_119 : decode cX7_moveNext 119 = .ok (.iload 7, 2) := by decide +kernel
theorem dX7_moveNext_121 : decode cX7_moveNext 121 = .ok (.iadd, 1) := by decide +kernel
theorem dX7_moveNext_122 : decode cX7_moveNext 122 = .ok (.iload 8, 2) := by decide +kernel
theorem dX7_moveNext_124 : decode cX7_moveNext 124 = .ok (.iastore, 1) := by decide +kernel
theorem dX7_moveNext_125 : decode cX7_moveNext 125 = .ok (.aload_n 0, 1) := by decide +kernel
theorem dX7_moveNext_126 : decode cX7_moveNext 126 = .ok (.getfield 7, 3) := by decide +kernel
theorem dX7_moveNext_129 : decode cX7_moveNext 129 = .ok (.sipush 414, 3) := by decide +kernel
theorem dX7_moveNext_132 : decode cX7_moveNext 132 = .ok (.iload 4, 2) := by decide +kernel
theorem dX7_moveNext_134 : decode cX7_moveNext 134 = .ok (.iadd, 1) := by decide +kernel
theorem dX7_moveNext_135 : decode cX7_moveNext 135 = .ok (.aload_n 0, 1) := by decide +kernel
theorem dX7_moveNext_136 : decode cX7_moveNext 136 = .ok (.getfield 7, 3) := by decide +kernel
theorem dX7_moveNext_139 : decode cX7_moveNext 139 = .ok (.sipush 414, 3) := by decide +kernel
theorem dX7_moveNext_142 : decode cX7_moveNext 142 = .ok (.iload 4, 2) := by decide +kernel
theorem dX7_moveNext_144 : decode cX7_moveNext 144 = .ok (.iadd, 1) := by decide +kernel
theorem dX7_moveNext_145 : decode cX7_moveNext 145 = .ok (.iaload, 1) := by decide +kernel
theorem dX7_moveNext_146 : decode cX7_moveNext 146 = .ok (.sipush 4095, 3) := by decide +kernel
theorem dX7_moveNext_149 : decode cX7_moveNext 149 = .ok (.iand, 1) := by decide +kernel
theorem dX7_moveNext_150 : decode cX7_moveNext 150 = .ok (.iload_n 3, 1) := by decide +kernel
theorem dX7_moveNext_151 : decode cX7_moveNext 151 = .ok (.bipush 12, 2) := by decide +kernel
theorem dX7_moveNext_153 : decode cX7_moveNext 153 = .ok (.ishl, 1) := by decide +kernel
theorem dX7_moveNext_154 : decode cX7_moveNext 154 = .ok (.ior, 1) := by decide +kernel
theorem dX7_moveNext_155 : decode cX7_moveNext 155 = .ok (.iload 5, 2) := by decide +kernel
theorem dX7_moveNext_157 : decode cX7_moveNext 157 = .ok (.bipush 15, 2) := by decide +kernel
theorem dX7_moveNext_159 : decode cX7_moveNext 159 = .ok (.ishl, 1) := by decide +kernel
theorem dX7_moveNext_160 : decode cX7_moveNext 160 = .ok (.ior, 1) := by decide +kernel
theorem dX7_moveNext_161 : decode cX7_moveNext 161 = .ok (.iastore, 1) := by decide +kernel
theorem dX7_moveNext_162 : decode cX7_moveNext 162 = .ok (.iload 5, 2) := by decide +kernel
theorem dX7_moveNext_164 : decode cX7_moveNext 164 = .ok (.ireturn, 1) := by decide +kernel
theorem dX7_shows_0 : decode cX7_shows 0 = .ok (.aload_n 0, 1) := by decide +kernel
theorem dX7_shows_1 : decode cX7_shows 1 = .ok (.getfield 72, 3) := by decide +kernel
theorem dX7_shows_4 : decode cX7_shows 4 = .ok (.aload_n 0, 1) := by decide +kernel
theorem dX7_shows_5 : decode cX7_shows 5 = .ok (.getfield 331, 3) := by decide +kernel
theorem dX7_shows_8 : decode cX7_shows 8 = .ok (.iload_n 1, 1) := by decide +kernel
theorem dX7_shows_9 : decode cX7_shows 9 = .ok (.iastore, 1) := by decide +kernel
theorem dX7_shows_10 : decode cX7_shows 10 = .ok (.aload_n 0, 1) := by decide +kernel
theorem dX7_shows_11 : decode cX7_shows 11 = .ok (.dup, 1) := by decide +kernel
theorem dX7_shows_12 : decode cX7_shows 12 = .ok (.getfield 331, 3) := by decide +kernel
theorem dX7_shows_15 : decode cX7_shows 15 = .ok (.iconst 1, 1) := by decide +kernel
theorem dX7_shows_16 : decode cX7_shows 16 = .ok (.iadd, 1) := by decide +kernel
theorem dX7_shows_17 : decode cX7_shows 17 = .ok (.putfield 331, 3) := by decide +kernel
theorem dX7_shows_20 : decode cX7_shows 20 = .ok (.return_, 1) := by decide +kernel
theorem dX7_showsName_0 : decode cX7_showsName 0 = .ok (.lload_n 1, 1) := by decide +kernel
theorem dX7_showsName_1 : decode cX7_showsName 1 = .ok (.lstore_n 3, 1) := by decide +kernel
theorem dX7_showsName_2 : decode cX7_showsName 2 = .ok (.aload_n 0, 1) := by decide +kernel
theorem dX7_showsName_3 : decode cX7_showsName 3 = .ok (.getfield 331, 3) := by decide +kernel
theorem dX7_showsName_6 : decode cX7_showsName 6 = .ok (.istore 5, 2) := by decide +kernel
theorem dX7_showsName_8 : decode cX7_showsName 8 = .ok (.lload_n 3, 1) := by decide +kernel
theorem dX7_showsName_9 : decode cX7_showsName 9 = .ok (.lconst 0, 1) := by decide +kernel
theorem dX7_showsName_10 : decode cX7_showsName 10 = .ok (.lcmp, 1) := by decide +kernel
theorem dX7_showsName_11 : decode cX7_showsName 11 = .ok (.ifCond .le 22, 3) := by decide +kernel
theorem dX7_showsName_14 : decode cX7_showsName 14 = .ok (.lload_n 3, 1) := by decide +kernel
theorem dX7_showsName_15 : decode cX7_showsName 15 = .ok (.ldc2_w 127, 3) := by decide +kernel
theorem dX7_showsName_18 : decode cX7_showsName 18 = .ok (.ldiv, 1) := by decide +kernel
theorem dX7_showsName_19 : decode cX7_showsName 19 = .ok (.lstore_n 3, 1) := by decide +kernel
theorem dX7_showsName_20 : decode cX7_showsName 20 = .ok (.aload_n 0, 1) := by decide +kernel
theorem dX7_showsName_21 : decode cX7_showsName 21 = .ok (.dup, 1) := by decide +kernel
theorem dX7_showsName_22 : decode cX7_showsName 22 = .ok (.getfield 331, 3) := by decide +kernel
theorem dX7_showsName_25 : decode cX7_showsName 25 = .ok (.iconst 1, 1) := by decide +kernel
theorem dX7_showsName_26 : decode cX7_showsName 26 = .ok (.iadd, 1) := by decide +kernel
theorem dX7_showsName_27 : decode cX7_showsName 27 = .ok (.putfield 331, 3) := by decide +kernel
theorem dX7_showsName_30 : decode cX7_showsName 30 = .ok (.goto (-22), 3) := by decide +kernel
theorem dX7_showsName_33 : decode cX7_showsName 33 = .ok (.lload_n 1, 1) := by decide +kernel
theorem dX7_showsName_34 : decode cX7_showsName 34 = .ok (.lstore_n 3, 1) := by decide +kernel
theorem dX7_showsName_35 : decode cX7_showsName 35 = .ok (.aload_n 0, 1) := by decide +kernel
theorem dX7_showsName_36 : decode cX7_showsName 36 = .ok (.getfield 331, 3) := by decide +kernel
theorem dX7_showsName_39 : decode cX7_showsName 39 = .ok (.iconst 1, 1) := by decide +kernel
theorem dX7_showsName_40 : decode cX7_showsName 40 = .ok (.isub, 1) := by decide +kernel
theorem dX7_showsName_41 : decode cX7_showsName 41 = .ok (.istore 6, 2) := by decide +kernel
theorem dX7_showsName_43 : decode cX7_showsName 43 = .ok (.iload 6, 2) := by decide +kernel
theorem dX7_showsName_45 : decode cX7_showsName 45 = .ok (.iload 5, 2) := by decide +kernel
theorem dX7_showsName_47 : decode cX7_showsName 47 = .ok (.if_icmp .lt 31, 3) := by decide +kernel
theorem dX7_showsName_50 : decode cX7_showsName 50 = .ok (.aload_n 0, 1) := by decide +kernel
theorem dX7_showsName_51 : decode cX7_showsName 51 = .ok (.getfield 72, 3) := by decide +kernel
theorem dX7_showsName_54 : decode cX7_showsName 54 = .ok (.iload 6, 2) := by decide +kernel
theorem dX7_showsName_56 : decode cX7_showsName 56 = .ok (.lload_n 3, 1) := by decide +kernel
theorem dX7_showsName_57 : decode cX7_showsName 57 = .ok (.ldc2_w 127, 3) := by decide +kernel
theorem dX7_showsName_60 : decode cX7_showsName 60 = .ok (.lrem, 1) := by decide +kernel
theorem dX7_showsName_61 : decode cX7_showsName 61 = .ok (.l2i, 1) := by decide +kernel
theorem dX7_showsName_62 : decode cX7_showsName 62 = .ok (.bipush 96, 2) := by decide +kernel
theorem dX7_showsName_64 : decode cX7_showsName 64 = .ok (.iadd, 1) := by decide +kernel
theorem dX7_showsName_65 : decode cX7_showsName 65 = .ok (.iastore, 1) := by decide +kernel
theorem dX7_showsName_66 : decode cX7_showsName 66 = .ok (.lload_n 3, 1) := by decide +kernel
theorem dX7_showsName_67 : decode cX7_showsName 67 = .ok (.ldc2_w 127, 3) := by decide +kernel
theorem dX7_showsName_70 : decode cX7_showsName 70 = .ok (.ldiv, 1) := by decide +kernel
theorem dX7_showsName_71 : decode cX7_showsName 71 = .ok (.lstore_n 3, 1) := by decide +kernel
theorem dX7_showsName_72 : decode cX7_showsName 72 = .ok (.iinc 6 (-1), 3) := by decide +kernel
theorem dX7_showsName_75 : decode cX7_showsName 75 = .ok (.goto (-32), 3) := by decide +kernel
theorem dX7_showsName_78 : decode cX7_showsName 78 = .ok (.return_, 1) := by decide +kernel
theorem dX7_showsNumber_0 : decode cX7_showsNumber 0 = .ok (.iload_n 1, 1) := by decide +kernel
theorem dX7_showsNumber_1 : decode cX7_showsNumber 1 = .ok (.bipush 9, 2) := by decide +kernel
theorem dX7_showsNumber_3 : decode cX7_showsNumber 3 = .ok (.if_icmp .le 14, 3) := by decide +kernel
theorem dX7_showsNumber_6 : decode cX7_showsNumber 6 = .ok (.aload_n 0, 1) := by decide +kernel
theorem dX7_showsNumber_7 : decode cX7_showsNumber 7 = .ok (.bipush 48, 2) := by decide +kernel
theorem dX7_showsNumber_9 : decode cX7_showsNumber 9 = .ok (.iload_n 1, 1) := by decide +kernel
theorem dX7_showsNumber_10 : decode cX7_showsNumber 10 = .ok (.bipush 10, 2) := by decide +kernel
theorem dX7_showsNumber_12 : decode cX7_showsNumber 12 = .ok (.idiv, 1) := by decide +kernel
theorem dX7_showsNumber_13 : decode cX7_showsNumber 13 = .ok (.iadd, 1) := by decide +kernel
theorem dX7_showsNumber_14 : decode cX7_showsNumber 14 = .ok (.invokevirtual 334, 3) := by decide +kernel
theorem dX7_showsNumber_17 : decode cX7_showsNumber 17 = .ok (.aload_n 0, 1) := by decide +kernel
theorem dX7_showsNumber_18 : decode cX7_showsNumber 18 = .ok (.bipush 48, 2) := by decide +kernel
theorem dX7_showsNumber_20 : decode cX7_showsNumber 20 = .ok (.iload_n 1, 1) := by decide +kernel
theorem dX7_showsNumber_21 : decode cX7_showsNumber 21 = .ok (.bipush 10, 2) := by decide +kernel
theorem dX7_showsNumber_23 : decode cX7_showsNumber 23 = .ok (.irem, 1) := by decide +kernel
theorem dX7_showsNumber_24 : decode cX7_showsNumber 24 = .ok (.iadd, 1) := by decide +kernel
theorem dX7_showsNumber_25 : decode cX7_showsNumber 25 = .ok (.invokevirtual 334, 3) := by decide +kernel
theorem dX7_showsNumber_28 : decode cX7_showsNumber 28 = .ok (.return_, 1) := by decide +kernel
theorem dX7_showsLocation_0 : decode cX7_showsLocation 0 = .ok (.aload_n 0, 1) := by decide +kernel
theorem dX7_showsLocation_1 : decode cX7_showsLocation 1 = .ok (.bipush 32, 2) := by decide +kernel
theorem dX7_showsLocation_3 : decode cX7_showsLocation 3 = .ok (.invokevirtual 334, 3) := by decide +kernel
theorem dX7_showsLocation_6 : decode cX7_showsLocation 6 = .ok (.aload_n 0, 1) := by decide +kernel
theorem dX7_showsLocation_7 : decode cX7_showsLocation 7 = .ok (.iload_n 1, 1) := by decide +kernel
theorem dX7_showsLocation_8 : decode cX7_showsLocation 8 = .ok (.bipush 32, 2) := by decide +kernel
theorem dX7_showsLocation_10 : decode cX7_showsLocation 10 = .ok (.idiv, 1) := by decide +kernel
theorem dX7_showsLocation_11 : decode cX7_showsLocation 11 = .ok (.invokevirtual 337, 3) := by decide +kernel
theorem dX7_showsLocation_14 : decode cX7_showsLocation 14 = .ok (.aload_n 0, 1) := by decide +kernel
theorem dX7_showsLocation_15 : decode cX7_showsLocation 15 = .ok (.bipush 46, 2) := by decide +kernel
theorem dX7_showsLocation_17 : decode cX7_showsLocation 17 = .ok (.invokevirtual 334, 3) := by decide +kernel
theorem dX7_showsLocation_20 : decode cX7_showsLocation 20 = .ok (.aload_n 0, 1) := by decide +kernel
theorem dX7_showsLocation_21 : decode cX7_showsLocation 21 = .ok (.iload_n 1, 1) := by decide +kernel
theorem dX7_showsLocation_22 : decode cX7_showsLocation 22 = .ok (.bipush 32, 2) := by decide +kernel
theorem dX7_showsLocation_24 : decode cX7_showsLocation 24 = .ok (.irem, 1) := by decide +kernel
theorem dX7_showsLocation_25 : decode cX7_showsLocation 25 = .ok (.invokevirtual 337, 3) := by decide +kernel
theorem dX7_showsLocation_28 : decode cX7_showsLocation 28 = .ok (.return_, 1) := by decide +kernel
theorem dX7_format_0 : decode cX7_format 0 = .ok (.aload_n 0, 1) := by decide +kernel
theorem dX7_format_1 : decode cX7_format 1 = .ok (.iconst 0, 1) := by decide +kernel
theorem dX7_format_2 : decode cX7_format 2 = .ok (.putfield 76, 3) := by decide +kernel
theorem dX7_format_5 : decode cX7_format 5 = .ok (.iload_n 1, 1) := by decide +kernel
theorem dX7_format_6 : decode cX7_format 6 = .ok (.iload_n 2, 1) := by decide +kernel
theorem dX7_format_7 : decode cX7_format 7 = .ok (.invokestatic 193, 3) := by decide +kernel
theorem dX7_format_10 : decode cX7_format 10 = .ok (.ifCond .ne 9, 3) := by decide +kernel
theorem dX7_format_13 : decode cX7_format 13 = .ok (.aload_n 0, 1) := by decide +kernel
theorem dX7_format_14 : decode cX7_format 14 = .ok (.iconst 1, 1) := by decide +kernel
theorem dX7_format_15 : decode cX7_format 15 = .ok (.invokevirtual 98, 3) := by decide +kernel
theorem dX7_format_18 : decode cX7_format 18 = .ok (.ireturn, 1) := by decide +kernel
theorem dX7_format_19 : decode cX7_format 19 = .ok (.aload_n 0, 1) := by decide +kernel
theorem dX7_format_20 : decode cX7_format 20 = .ok (.getfield 7, 3) := by decide +kernel
theorem dX7_format_23 : decode cX7_format 23 = .ok (.sipush 414, 3) := by decide +kernel
theorem dX7_format_26 : decode cX7_format 26 = .ok (.bipush 32, 2) := by decide +kernel
theorem dX7_format_28 : decode cX7_format 28 = .ok (.iload_n 1, 1) := by decide +kernel
theorem dX7_format_29 : decode cX7_format 29 = .ok (.imul, 1) := by decide +kernel
theorem dX7_format_30 : decode cX7_format 30 = .ok (.iadd, 1) := by decide +kernel
theorem dX7_format_31 : decode cX7_format 31 = .ok (.iload_n 2, 1) := by decide +kernel
theorem dX7_format_32 : decode cX7_format 32 = .ok (.iadd, 1) := by decide +kernel
theorem dX7_format_33 : decode cX7_format 33 = .ok (.iaload, 1) := by decide +kernel
theorem dX7_format_34 : decode cX7_format 34 = .ok (.istore_n 3, 1) := by decide +kernel
theorem dX7_format_35 : decode cX7_format 35 = .ok (.iload_n 3, 1) := by decide +kernel
theorem dX7_format_36 : decode cX7_format 36 = .ok (.bipush 15, 2) := by decide +kernel
theorem dX7_format_38 : decode cX7_format 38 = .ok (.iand, 1) := by decide +kernel
theorem dX7_format_39 : decode cX7_format 39 = .ok (.istore 4, 2) := by decide +kernel
theorem dX7_format_41 : decode cX7_format 41 = .ok (.aload_n 0, 1) := by decide +kernel
theorem dX7_format_42 : decode cX7_format 42 = .ok (.iconst 0, 1) := by decide +kernel
theorem dX7_format_43 : decode cX7_format 43 = .ok (.putfield 331, 3) := by decide +kernel
theorem dX7_format_46 : decode cX7_format 46 = .ok (.aload_n 0, 1) := by decide +kernel
theorem dX7_format_47 : decode cX7_format 47 = .ok (.aload_n 0, 1) := by decide +kernel
theorem dX7_format_48 : decode cX7_format 48 = .ok (.getfield 65, 3) := by decide +kernel
theorem dX7_format_51 : decode cX7_format 51 = .ok (.iload 4, 2) := by decide +kernel
theorem dX7_format_53 : decode cX7_format 53 = .ok (.laload, 1) := by decide +kernel
theorem dX7_format_54 : decode cX7_format 54 = .ok (.invokevirtual 340, 3) := by decide +kernel
theorem dX7_format_57 : decode cX7_format 57 = .ok (.iload 4, 2) := by decide +kernel
theorem dX7_format_59 : decode cX7_format 59 = .ok (.invokestatic 154, 3) := by decide +kernel
theorem dX7_format_62 : decode cX7_format 62 = .ok (.ifCond .eq 14, 3) := by decide +kernel
theorem dX7_format_65 : decode cX7_format 65 = .ok (.aload_n 0, 1) := by decide +kernel
theorem dX7_format_66 : decode cX7_format 66 = .ok (.iload_n 3, 1) := by decide +kernel
theorem dX7_format_67 : decode cX7_format 67 = .ok (.invokestatic 277, 3) := by decide +kernel
theorem dX7_format_70 : decode cX7_format 70 = .ok (.invokevirtual 344, 3) := by decide +kernel
theorem dX7_format_73 : decode cX7_format 73 = .ok (.goto 34, 3) := by decide +kernel
theorem dX7_format_76 : decode cX7_format 76 = .ok (.iload 4, 2) := by decide +kernel
theorem dX7_format_78 : decode cX7_format 78 = .ok (.bipush 8, 2) := by decide +kernel
theorem dX7_format_80 : decode cX7_format 80 = .ok (.if_icmp .eq 10, 3) := by decide +kernel
theorem dX7_format_83 : decode cX7_format 83 = .ok (.iload 4, 2) := by decide +kernel
theorem dX7_format_85 : decode cX7_format 85 = .ok (.bipush 9, 2) := by decide +kernel
theorem dX7_format_87 : decode cX7_format 87 = .ok (.if_icmp .ne 20, 3) := by decide +kernel
theorem dX7_format_90 : decode cX7_format 90 = .ok (.aload_n 0, 1) := by decide +kernel
theorem dX7_format_91 : decode cX7_format 91 = .ok (.bipush 32, 2) := by decide +kernel
theorem dX7_format_93 : decode cX7_format 93 = .ok (.invokevirtual 334, 3) := by decide +kernel
theorem dX7_format_96 : decode cX7_format 96 = .ok (.aload_n 0, 1) := by decide +kernel
theorem dX7_format_97 : decode cX7_format 97 = .ok (.iload_n 3, 1) := by decide +kernel
theorem dX7_format_98 : decode cX7_format 98 = .ok (.bipush 7, 2) := by decide +kernel
theorem dX7_format_100 : decode cX7_format 100 = .ok (.ishr, 1) := by decide +kernel
theorem dX7_format_101 : decode cX7_format 101 = .ok (.bipush 31, 2) := by decide +kernel
theorem dX7_format_103 : decode cX7_format 103 = .ok (.iand, 1) := by decide +kernel
theorem dX7_format_104 : decode cX7_format 104 = .ok (.invokevirtual 337, 3) := by decide +kernel
theorem dX7_format_107 : decode cX7_format 107 = .ok (.aload_n 0, 1) := by decide +kernel
theorem dX7_format_108 : decode cX7_format 108 = .ok (.bipush 32, 2) := by decide +kernel
theorem dX7_format_110 : decode cX7_format 110 = .ok (.invokevirtual 334, 3) := by decide +kernel
theorem dX7_format_113 : decode cX7_format 113 = .ok (.aload_n 0, 1) := by decide +kernel
theorem dX7_format_114 : decode cX7_format 114 = .ok (.ldc2_w 164, 3) := by decide +kernel
theorem dX7_format_117 : decode cX7_format 117 = .ok (.invokevirtual 340, 3) := by decide +kernel
theorem dX7_format_120 : decode cX7_format 120 = .ok (.aload_n 0, 1) := by decide +kernel
theorem dX7_format_121 : decode cX7_format 121 = .ok (.iload_n 3, 1) := by decide +kernel
theorem dX7_format_122 : decode cX7_format 122 = .ok (.invokestatic 301, 3) := by decide +kernel
theorem dX7_format_125 : decode cX7_format 125 = .ok (.invokevirtual 344, 3) := by decide +kernel
theorem dX7_format_128 : decode cX7_format 128 = .ok (.aload_n 0, 1) := by decide +kernel
theorem dX7_format_129 : decode cX7_format 129 = .ok (.getfield 331, 3) := by decide +kernel
theorem dX7_format_132 : decode cX7_format 132 = .ok (.ireturn, 1) := by decide +kernel
theorem dX7_formattedByte_0 : decode cX7_formattedByte 0 = .ok (.aload_n 0, 1) := by decide +kernel
theorem dX7_formattedByte_1 : decode cX7_formattedByte 1 = .ok (.iconst 0, 1) := by decide +kernel
theorem dX7_formattedByte_2 : decode cX7_formattedByte 2 = .ok (.putfield 76, 3) := by decide +kernel
theorem dX7_formattedByte_5 : decode cX7_formattedByte 5 = .ok (.iload_n 1, 1) := by decide +kernel
theorem dX7_formattedByte_6 : decode cX7_formattedByte 6 = .ok (.i2l, 1) := by decide +kernel
theorem dX7_formattedByte_7 : decode cX7_formattedByte 7 = .ok (.lconst 0, 1) := by decide +kernel
theorem dX7_formattedByte_8 : decode cX7_formattedByte 8 = .ok (.aload_n 0, 1) := by decide +kernel
theorem dX7_formattedByte_9 : decode cX7_formattedByte 9 = .ok (.getfield 331, 3) := by decide +kernel
theorem dX7_formattedByte_12 : decode cX7_formattedByte 12 = .ok (.iconst 1, 1) := by decide +kernel
theorem dX7_formattedByte_13 : decode cX7_formattedByte 13 = .ok (.isub, 1) := by decide +kernel
theorem dX7_formattedByte_14 : decode cX7_formattedByte 14 = .ok (.i2l, 1) := by decide +kernel
theorem dX7_formattedByte_15 : decode cX7_formattedByte 15 = .ok (.invokestatic 81, 3) := by decide +kernel
theorem dX7_formattedByte_18 : decode cX7_formattedByte 18 = .ok (.ifCond .eq 12, 3) := by decide +kernel
theorem dX7_formattedByte_21 : decode cX7_formattedByte 21 = .ok (.aload_n 0, 1) := by decide +kernel
theorem dX7_formattedByte_22 : decode cX7_formattedByte 22 = .ok (.getfield 72, 3) := by decide +kernel
theorem dX7_formattedByte_25 : decode cX7_formattedByte 25 = .ok (.iload_n 1, 1) := by decide +kernel
theorem dX7_formattedByte_26 : decode cX7_formattedByte 26 = .ok (.iaload, 1) := by decide +kernel
theorem dX7_formattedByte_27 : decode cX7_formattedByte 27 = .ok (.goto 8, 3) := by decide +kernel
theorem dX7_formattedByte_30 : decode cX7_formattedByte 30 = .ok (.aload_n 0, 1) := by decide +kernel
theorem dX7_formattedByte_31 : decode cX7_formattedByte 31 = .ok (.iconst 1, 1) := by decide +kernel
theorem dX7_formattedByte_32 : decode cX7_formattedByte 32 = .ok (.invokevirtual 98, 3) := by decide +kernel
theorem dX7_formattedByte_35 : decode cX7_formattedByte 35 = .ok (.ireturn, 1) := by decide +kernel
theorem dX7_save_0 : decode cX7_save 0 = .ok (.aload_n 0, 1) := by decide +kernel
theorem dX7_save_1 : decode cX7_save 1 = .ok (.iconst 0, 1) := by decide +kernel
theorem dX7_save_2 : decode cX7_save 2 = .ok (.putfield 76, 3) := by decide +kernel
theorem dX7_save_5 : decode cX7_save 5 = .ok (.iload_n 1, 1) := by decide +kernel
theorem dX7_save_6 : decode cX7_save 6 = .ok (.i2l, 1) := by decide +kernel
theorem dX7_save_7 : decode cX7_save 7 = .ok (.lconst 0, 1) := by decide +kernel
theorem dX7_save_8 : decode cX7_save 8 = .ok (.lconst 1, 1) := by decide +kernel
theorem dX7_save_9 : decode cX7_save 9 = .ok (.invokestatic 81, 3) := by decide +kernel
theorem dX7_save_12 : decode cX7_save 12 = .ok (.ifCond .ne 9, 3) := by decide +kernel
theorem dX7_save_15 : decode cX7_save 15 = .ok (.aload_n 0, 1) := by decide +kernel
theorem dX7_save_16 : decode cX7_save 16 = .ok (.iconst 1, 1) := by decide +kernel
theorem dX7_save_17 : decode cX7_save 17 = .ok (.putfield 76, 3) := by decide +kernel
theorem dX7_save_20 : decode cX7_save 20 = .ok (.return_, 1) := by decide +kernel
theorem dX7_save_21 : decode cX7_save 21 = .ok (.iconst 0, 1) := by decide +kernel
theorem dX7_save_22 : decode cX7_save 22 = .ok (.istore_n 2, 1) := by decide +kernel
theorem dX7_save_23 : decode cX7_save 23 = .ok (.iload_n 2, 1) := by decide +kernel
theorem dX7_save_24 : decode cX7_save 24 = .ok (.sipush 670, 3) := by decide +kernel
theorem dX7_save_27 : decode cX7_save 27 = .ok (.if_icmp .ge 27, 3) := by decide +kernel
theorem dX7_save_30 : decode cX7_save 30 = .ok (.aload_n 0, 1) := by decide +kernel
theorem dX7_save_31 : decode cX7_save 31 = .ok (.getfield 16, 3) := by decide +kernel
theorem dX7_save_34 : decode cX7_save 34 = .ok (.sipush 670, 3) := by decide +kernel
theorem dX7_save_37 : decode cX7_save 37 = .ok (.iload_n 1, 1) := by decide +kernel
theorem dX7_save_38 : decode cX7_save 38 = .ok (.imul, 1) := by decide +kernel
theorem dX7_save_39 : decode cX7_save 39 = .ok (.iload_n 2, 1) := by decide +kernel
theorem dX7_save_40 : decode cX7_save 40 = .ok (.iadd, 1) := by decide +kernel
theorem dX7_save_41 : decode cX7_save 41 = .ok (.aload_n 0, 1) := by decide +kernel
theorem dX7_save_42 : decode cX7_save 42 = .ok (.getfield 7, 3) := by decide +kernel
theorem dX7_save_45 : decode cX7_save 45 = .ok (.iload_n 2, 1) := by decide +kernel
theorem dX7_save_46 : decode cX7_save 46 = .ok (.iaload, 1) := by decide +kernel
theorem dX7_save_47 : decode cX7_save 47 = .ok (.iastore, 1) := by decide +kernel
theorem dX7_save_48 : decode cX7_save 48 = .ok (.iinc 2 1, 3) := by decide +kernel
theorem dX7_save_51 : decode cX7_save 51 = .ok (.goto (-28), 3) := by decide +kernel
theorem dX7_save_54 : decode cX7_save 54 = .ok (.aload_n 0, 1) := by decide +kernel
theorem dX7_save_55 : decode cX7_save 55 = .ok (.aload_n 0, 1) := by decide +kernel
theorem dX7_save_56 : decode cX7_save 56 = .ok (.getfield 347, 3) := by decide +kernel
theorem dX7_save_59 : decode cX7_save 59 = .ok (.ifCond .ne 7, 3) := by decide +kernel
theorem dX7_save_62 : decode cX7_save 62 = .ok (.iload_n 1, 1) := by decide +kernel
theorem dX7_save_63 : decode cX7_save 63 = .ok (.ifCond .ne 7, 3) := by decide +kernel
theorem dX7_save_66 : decode cX7_save 66 = .ok (.iconst 1, 1) := by decide +kernel
theorem dX7_save_67 : decode cX7_save 67 = .ok (.goto 4, 3) := by decide +kernel
theorem dX7_save_70 : decode cX7_save 70 = .ok (.iconst 0, 1) := by decide +kernel
theorem dX7_save_71 : decode cX7_save 71 = .ok (.putfield 347, 3) := by decide +kernel
theorem dX7_save_74 : decode cX7_save 74 = .ok (.aload_n 0, 1) := by decide +kernel
theorem dX7_save_75 : decode cX7_save 75 = .ok (.aload_n 0, 1) := by decide +kernel
theorem dX7_save_76 : decode cX7_save 76 = .ok (.getfield 350, 3) := by decide +kernel
theorem dX7_save_79 : decode cX7_save 79 = .ok (.ifCond .ne 8, 3) := by decide +kernel
theorem dX7_save_82 : decode cX7_save 82 = .ok (.iload_n 1, 1) := by decide +kernel
theorem dX7_save_83 : decode cX7_save 83 = .ok (.iconst 1, 1) := by decide +kernel
theorem dX7_save_84 : decode cX7_save 84 = .ok (.if_icmp .ne 7, 3) := by decide +kernel
theorem dX7_save_87 : decode cX7_save 87 = .ok (.iconst 1, 1) := by decide +kernel
theorem dX7_save_88 : decode cX7_save 88 = .ok (.goto 4, 3) := by decide +kernel
theorem dX7_save_91 : decode cX7_save 91 = .ok (.iconst 0, 1) := by decide +kernel
theorem dX7_save_92 : decode cX7_save 92 = .ok (.putfield 350, 3) := by decide +kernel
theorem dX7_save_95 : decode cX7_save 95 = .ok (.return_, 1) := by decide +kernel
theorem dX7_restore_0 : decode cX7_restore 0 = .ok (.aload_n 0, 1) := by decide +kernel
theorem dX7_restore_1 : decode cX7_restore 1 = .ok (.iconst 0, 1) := by decide +kernel
theorem dX7_restore_2 : decode cX7_restore 2 = .ok (.putfield 76, 3) := by decide +kernel
theorem dX7_restore_5 : decode cX7_restore 5 = .ok (.iload_n 1, 1) := by decide +kernel
theorem dX7_restore_6 : decode cX7_restore 6 = .ok (.i2l, 1) := by decide +kernel
theorem dX7_restore_7 : decode cX7_restore 7 = .ok (.lconst 0, 1) := by decide +kernel
theorem dX7_restore_8 : decode cX7_restore 8 = .ok (.lconst 1, 1) := by decide +kernel
theorem dX7_restore_9 : decode cX7_restore 9 = .ok (.invokestatic 81, 3) := by decide +kernel
theorem dX7_restore_12 : decode cX7_restore 12 = .ok (.ifCond .ne 11, 3) := by decide +kernel
theorem dX7_restore_15 : decode cX7_restore 15 = .ok (.aload_n 0, 1) := by decide +kernel
theorem dX7_restore_16 : decode cX7_restore 16 = .ok (.iconst 1, 1) := by decide +kernel
theorem dX7_restore_17 : decode cX7_restore 17 = .ok (.putfield 76, 3) := by decide +kernel
theorem dX7_restore_20 : decode cX7_restore 20 = .ok (.goto 29, 3) := by decide +kernel
theorem dX7_restore_23 : decode cX7_restore 23 = .ok (.iload_n 1, 1) := by decide +kernel
theorem dX7_restore_24 : decode cX7_restore 24 = .ok (.ifCond .ne 13, 3) := by decide +kernel
theorem dX7_restore_27 : decode cX7_restore 27 = .ok (.aload_n 0, 1) := by decide +kernel
theorem dX7_restore_28 : decode cX7_restore 28 = .ok (.getfield 347, 3) := by decide +kernel
theorem dX7_restore_31 : decode cX7_restore 31 = .ok (.ifCond .ne 18, 3) := by decide +kernel
theorem dX7_restore_34 : decode cX7_restore 34 = .ok (.goto 10, 3) := by decide +kernel
theorem dX7_restore_37 : decode cX7_restore 37 = .ok (.aload_n 0, 1) := by decide +kernel
theorem dX7_restore_38 : decode cX7_restore 38 = .ok (.getfield 350, 3) := by decide +kernel
theorem dX7_restore_41 : decode cX7_restore 41 = .ok (.ifCond .ne 8, 3) := by decide +kernel
theorem dX7_restore_44 : decode cX7_restore 44 = .ok (.aload_n 0, 1) := by decide +kernel
theorem dX7_restore_45 : decode cX7_restore 45 = .ok (.iconst 2, 1) := by decide +kernel
theorem dX7_restore_46 : decode cX7_restore 46 = .ok (.putfield 76, 3) := by decide +kernel
theorem dX7_restore_49 : decode cX7_restore 49 = .ok (.iconst 0, 1) := by decide +kernel
theorem dX7_restore_50 : decode cX7_restore 50 = .ok (.istore_n 2, 1) := by decide +kernel
theorem dX7_restore_51 : decode cX7_restore 51 = .ok (.iload_n 2, 1) := by decide +kernel
theorem dX7_restore_52 : decode cX7_restore 52 = .ok (.sipush 670, 3) := by decide +kernel
theorem dX7_restore_55 : decode cX7_restore 55 = .ok (.if_icmp .ge 34, 3) := by decide +kernel
theorem dX7_restore_58 : decode cX7_restore 58 = .ok (.aload_n 0, 1) := by decide +kernel
theorem dX7_restore_59 : decode cX7_restore 59 = .ok (.getfield 76, 3) := by decide +kernel
theorem dX7_restore_62 : decode cX7_restore 62 = .ok (.ifCond .ne 27, 3) := by decide +kernel
theorem dX7_restore_65 : decode cX7_restore 65 = .ok (.aload_n 0, 1) := by decide +kernel
theorem dX7_restore_66 : decode cX7_restore 66 = .ok (.getfield 7, 3) := by decide +kernel
theorem dX7_restore_69 : decode cX7_restore 69 = .ok (.iload_n 2, 1) := by decide +kernel
theorem dX7_restore_70 : decode cX7_restore 70 = .ok (.aload_n 0, 1) := by decide +kernel
theorem dX7_restore_71 : decode cX7_restore 71 = .ok (.getfield 16, 3) := by decide +kernel
theorem dX7_restore_74 : decode cX7_restore 74 = .ok (.sipush 670, 3) := by decide +kernel
theorem dX7_restore_77 : decode cX7_restore 77 = .ok (.iload_n 1, 1) := by decide +kernel
theorem dX7_restore_78 : decode cX7_restore 78 = .ok (.imul, 1) := by decide +kernel
theorem dX7_restore_79 : decode cX7_restore 79 = .ok (.iload_n 2, 1) := by decide +kernel
theorem dX7_restore_80 : decode cX7_restore 80 = .ok (.iadd, 1) := by decide +kernel
theorem dX7_restore_81 : decode cX7_restore 81 = .ok (.iaload, 1) := by decide +kernel
theorem dX7_restore_82 : decode cX7_restore 82 = .ok (.iastore, 1) := by decide +kernel
theorem dX7_restore_83 : decode cX7_restore 83 = .ok (.iinc 2 1, 3) := by decide +kernel
theorem dX7_restore_86 : decode cX7_restore 86 = .ok (.goto (-35), 3) := by decide +kernel
theorem dX7_restore_89 : decode cX7_restore 89 = .ok (.return_, 1) := by decide +kernel
