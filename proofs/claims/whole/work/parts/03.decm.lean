theorem dX8_init_0 : decode cX8_init 0 = .ok (.aload_n 0, 1) := by decide +kernel
theorem dX8_init_1 : decode cX8_init 1 = .ok (.invokespecial 1, 3) := by decide +kernel
theorem dX8_init_4 : decode cX8_init 4 = .ok (.aload_n 0, 1) := by decide +kernel
theorem dX8_init_5 : decode cX8_init 5 = .ok (.bipush 48, 2) := by decide +kernel
theorem dX8_init_7 : decode cX8_init 7 = .ok (.newarray .int, 2) := by decide +kernel
theorem dX8_init_9 : decode cX8_init 9 = .ok (.putfield 7, 3) := by decide +kernel
theorem dX8_init_12 : decode cX8_init 12 = .ok (.aload_n 0, 1) := by decide +kernel
theorem dX8_init_13 : decode cX8_init 13 = .ok (.bipush 12, 2) := by decide +kernel
theorem dX8_init_15 : decode cX8_init 15 = .ok (.newarray .int, 2) := by decide +kernel
theorem dX8_init_17 : decode cX8_init 17 = .ok (.putfield 13, 3) := by decide +kernel
theorem dX8_init_20 : decode cX8_init 20 = .ok (.aload_n 0, 1) := by decide +kernel
theorem dX8_init_21 : decode cX8_init 21 = .ok (.iconst 4, 1) := by decide +kernel
theorem dX8_init_22 : decode cX8_init 22 = .ok (.newarray .int, 2) := by decide +kernel
theorem dX8_init_24 : decode cX8_init 24 = .ok (.putfield 16, 3) := by decide +kernel
theorem dX8_init_27 : decode cX8_init 27 = .ok (.aload_n 0, 1) := by decide +kernel
theorem dX8_init_28 : decode cX8_init 28 = .ok (.bipush 60, 2) := by decide +kernel
theorem dX8_init_30 : decode cX8_init 30 = .ok (.newarray .int, 2) := by decide +kernel
theorem dX8_init_32 : decode cX8_init 32 = .ok (.putfield 19, 3) := by decide +kernel
theorem dX8_init_35 : decode cX8_init 35 = .ok (.aload_n 0, 1) := by decide +kernel
theorem dX8_init_36 : decode cX8_init 36 = .ok (.bipush 48, 2) := by decide +kernel
theorem dX8_init_38 : decode cX8_init 38 = .ok (.newarray .int, 2) := by decide +kernel
theorem dX8_init_40 : decode cX8_init 40 = .ok (.putfield 22, 3) := by decide +kernel
theorem dX8_init_43 : decode cX8_init 43 = .ok (.aload_n 0, 1) := by decide +kernel
theorem dX8_init_44 : decode cX8_init 44 = .ok (.iconst 4, 1) := by decide +kernel
theorem dX8_init_45 : decode cX8_init 45 = .ok (.newarray .int, 2) := by decide +kernel
theorem dX8_init_47 : decode cX8_init 47 = .ok (.putfield 25, 3) := by decide +kernel
theorem dX8_init_50 : decode cX8_init 50 = .ok (.aload_n 0, 1) := by decide +kernel
theorem dX8_init_51 : decode cX8_init 51 = .ok (.iconst 4, 1) := by decide +kernel
theorem dX8_init_52 : decode cX8_init 52 = .ok (.newarray .int, 2) := by decide +kernel
theorem dX8_init_54 : decode cX8_init 54 = .ok (.putfield 28, 3) := by decide +kernel
theorem dX8_init_57 : decode cX8_init 57 = .ok (.aload_n 0, 1) := by decide +kernel
theorem dX8_init_58 : decode cX8_init 58 = .ok (.iconst 4, 1) := by decide +kernel
theorem dX8_init_59 : decode cX8_init 59 = .ok (.newarray .int, 2) := by decide +kernel
theorem dX8_init_61 : decode cX8_init 61 = .ok (.putfield 31, 3) := by decide +kernel
theorem dX8_init_64 : decode cX8_init 64 = .ok (.aload_n 0, 1) := by decide +kernel
theorem dX8_init_65 : decode cX8_init 65 = .ok (.bipush 12, 2) := by decide +kernel
theorem dX8_init_67 : decode cX8_init 67 = .ok (.newarray .int, 2) := by decide +kernel
theorem dX8_init_69 : decode cX8_init 69 = .ok (.putfield 34, 3) := by decide +kernel
theorem dX8_init_72 : decode cX8_init 72 = .ok (.aload_n 0, 1) := by decide +kernel
theorem dX8_init_73 : decode cX8_init 73 = .ok (.bipush 12, 2) := by decide +kernel
theorem dX8_init_75 : decode cX8_init 75 = .ok (.newarray .int, 2) := by decide +kernel
theorem dX8_init_77 : decode cX8_init 77 = .ok (.putfield 37, 3) := by decide +kernel
theorem dX8_init_80 : decode cX8_init 80 = .ok (.aload_n 0, 1) := by decide +kernel
theorem dX8_init_81 : decode cX8_init 81 = .ok (.bipush 12, 2) := by decide +kernel
theorem dX8_init_83 : decode cX8_init 83 = .ok (.newarray .int, 2) := by decide +kernel
theorem dX8_init_85 : decode cX8_init 85 = .ok (.putfield 40, 3) := by decide +kernel
theorem dX8_init_88 : decode cX8_init 88 = .ok (.aload_n 0, 1) := by decide +kernel
theorem dX8_init_89 : decode cX8_init 89 = .ok (.iconst 4, 1) := by decide +kernel
theorem dX8_init_90 : decode cX8_init 90 = .ok (.newarray .int, 2) := by decide +kernel
theorem dX8_init_92 : decode cX8_init 92 = .ok (.putfield 43, 3) := by decide +kernel
theorem dX8_init_95 : decode cX8_init 95 = .ok (.aload_n 0, 1) := by decide +kernel
theorem dX8_init_96 : decode cX8_init 96 = .ok (.bipush 16, 2) := by decide +kernel
theorem dX8_init_98 : decode cX8_init 98 = .ok (.newarray .int, 2) := by decide +kernel
theorem dX8_init_100 : decode cX8_init 100 = .ok (.putfield 46, 3) := by decide +kernel
theorem dX8_init_103 : decode cX8_init 103 = .ok (.aload_n 0, 1) := by decide +kernel
theorem dX8_init_104 : decode cX8_init 104 = .ok (.iconst 5, 1) := by decide +kernel
theorem dX8_init_105 : decode cX8_init 105 = .ok (.newarray .int, 2) := by decide +kernel
theorem dX8_init_107 : decode cX8_init 107 = .ok (.putfield 49, 3) := by decide +kernel
theorem dX8_init_110 : decode cX8_init 110 = .ok (.aload_n 0, 1) := by decide +kernel
theorem dX8_init_111 : decode cX8_init 111 = .ok (.iconst 5, 1) := by decide +kernel
theorem dX8_init_112 : decode cX8_init 112 = .ok (.newarray .boolean, 2) := by decide +kernel
theorem dX8_init_114 : decode cX8_init 114 = .ok (.putfield 52, 3) := by decide +kernel
theorem dX8_init_117 : decode cX8_init 117 = .ok (.aload_n 0, 1) := by decide +kernel
theorem dX8_init_118 : decode cX8_init 118 = .ok (.iconst 4, 1) := by decide +kernel
theorem dX8_init_119 : decode cX8_init 119 = .ok (.newarray .int, 2) := by decide +kernel
theorem dX8_init_121 : decode cX8_init 121 = .ok (.putfield 56, 3) := by decide +kernel
theorem dX8_init_124 : decode cX8_init 124 = .ok (.aload_n 0, 1) := by decide +kernel
theorem dX8_init_125 : decode cX8_init 125 = .ok (.sipush 2000, 3) := by decide +kernel
theorem dX8_init_128 : decode cX8_init 128 = .ok (.newarray .int, 2) := by decide +kernel
theorem dX8_init_130 : decode cX8_init 130 = .ok (.putfield 59, 3) := by decide +kernel
theorem dX8_init_133 : decode cX8_init 133 = .ok (.aload_n 0, 1) := by decide +kernel
theorem dX8_init_134 : decode cX8_init 134 = .ok (.invokevirtual 62, 3) := by decide +kernel
theorem dX8_init_137 : decode cX8_init 137 = .ok (.return_, 1) := by decide +kernel
theorem dX8_within_0 : decode cX8_within 0 = .ok (.iload_n 0, 1) := by decide +kernel
theorem dX8_within_1 : decode cX8_within 1 = .ok (.iload_n 1, 1) := by decide +kernel
theorem dX8_within_2 : decode cX8_within 2 = .ok (.if_icmp .lt 12, 3) := by decide +kernel
theorem dX8_within_5 : decode cX8_within 5 = .ok (.iload_n 0, 1) := by decide +kernel
theorem dX8_within_6 : decode cX8_within 6 = .ok (.iload_n 2, 1) := by decide +kernel
theorem dX8_within_7 : decode cX8_within 7 = .ok (.if_icmp .gt 7, 3) := by decide +kernel
theorem dX8_within_10 : decode cX8_within 10 = .ok (.iconst 1, 1) := by decide +kernel
theorem dX8_within_11 : decode cX8_within 11 = .ok (.goto 4, 3) := by decide +kernel
theorem dX8_within_14 : decode cX8_within 14 = .ok (.iconst 0, 1) := by decide +kernel
theorem dX8_within_15 : decode cX8_within 15 = .ok (.ireturn, 1) := by decide +kernel
theorem dX8_clearBoard_0 : decode cX8_clearBoard 0 = .ok (.iconst 0, 1) := by decide +kernel
theorem dX8_clearBoard_1 : decode cX8_clearBoard 1 = .ok (.istore_n 1, 1) := by decide +kernel
theorem dX8_clearBoard_2 : decode cX8_clearBoard 2 = .ok (.iload_n 1, 1) := by decide +kernel
theorem dX8_clearBoard_3 : decode cX8_clearBoard 3 = .ok (.iconst 4, 1) := by decide +kernel
theorem dX8_clearBoard_4 : decode cX8_clearBoard 4 = .ok (.if_icmp .ge 16, 3) := by decide +kernel
theorem dX8_clearBoard_7 : decode cX8_clearBoard 7 = .ok (.aload_n 0, 1) := by decide +kernel
theorem dX8_clearBoard_8 : decode cX8_clearBoard 8 = .ok (.getfield 16, 3) := by decide +kernel
theorem dX8_clearBoard_11 : decode cX8_clearBoard 11 = .ok (.iload_n 1, 1) := by decide +kernel
theorem dX8_clearBoard_12 : decode cX8_clearBoard 12 = .ok (.iconst (-1), 1) := by decide +kernel
theorem dX8_clearBoard_13 : decode cX8_clearBoard 13 = .ok (.iastore, 1) := by decide +kernel
theorem dX8_clearBoard_14 : decode cX8_clearBoard 14 = .ok (.iinc 1 1, 3) := by decide +kernel
theorem dX8_clearBoard_17 : decode cX8_clearBoard 17 = .ok (.goto (-15), 3) := by decide +kernel
theorem dX8_clearBoard_20 : decode cX8_clearBoard 20 = .ok (.return_, 1) := by decide +kernel
theorem dX8_letter_0 : decode cX8_letter 0 = .ok (.iload_n 1, 1) := by decide +kernel
theorem dX8_letter_1 : decode cX8_letter 1 = .ok (.bipush 32, 2) := by decide +kernel
theorem dX8_letter_3 : decode cX8_letter 3 = .ok (.bipush 126, 2) := by decide +kernel
theorem dX8_letter_5 : decode cX8_letter 5 = .ok (.invokestatic 65, 3) := by decide +kernel
theorem dX8_letter_8 : decode cX8_letter 8 = .ok (.ifCond .ne 6, 3) := by decide +kernel
theorem dX8_letter_11 : decode cX8_letter 11 = .ok (.bipush (-102), 2) := by decide +kernel
theorem dX8_letter_13 : decode cX8_letter 13 = .ok (.ireturn, 1) := by decide +kernel
theorem dX8_letter_14 : decode cX8_letter 14 = .ok (.aload_n 0, 1) := by decide +kernel
theorem dX8_letter_15 : decode cX8_letter 15 = .ok (.getfield 69, 3) := by decide +kernel
theorem dX8_letter_18 : decode cX8_letter 18 = .ok (.bipush 60, 2) := by decide +kernel
theorem dX8_letter_20 : decode cX8_letter 20 = .ok (.if_icmp .ne 6, 3) := by decide +kernel
theorem dX8_letter_23 : decode cX8_letter 23 = .ok (.bipush (-104), 2) := by decide +kernel
theorem dX8_letter_25 : decode cX8_letter 25 = .ok (.ireturn, 1) := by decide +kernel
theorem dX8_letter_26 : decode cX8_letter 26 = .ok (.aload_n 0, 1) := by decide +kernel
theorem dX8_letter_27 : decode cX8_letter 27 = .ok (.getfield 19, 3) := by decide +kernel
theorem dX8_letter_30 : decode cX8_letter 30 = .ok (.aload_n 0, 1) := by decide +kernel
theorem dX8_letter_31 : decode cX8_letter 31 = .ok (.getfield 69, 3) := by decide +kernel
theorem dX8_letter_34 : decode cX8_letter 34 = .ok (.iload_n 1, 1) := by decide +kernel
theorem dX8_letter_35 : decode cX8_letter 35 = .ok (.iastore, 1) := by decide +kernel
theorem dX8_letter_36 : decode cX8_letter 36 = .ok (.aload_n 0, 1) := by decide +kernel
theorem dX8_letter_37 : decode cX8_letter 37 = .ok (.dup, 1) := by decide +kernel
theorem dX8_letter_38 : decode cX8_letter 38 = .ok (.getfield 69, 3) := by decide +kernel
theorem dX8_letter_41 : decode cX8_letter 41 = .ok (.iconst 1, 1) := by decide +kernel
theorem dX8_letter_42 : decode cX8_letter 42 = .ok (.iadd, 1) := by decide +kernel
theorem dX8_letter_43 : decode cX8_letter 43 = .ok (.putfield 69, 3) := by decide +kernel
theorem dX8_letter_46 : decode cX8_letter 46 = .ok (.aload_n 0, 1) := by decide +kernel
theorem dX8_letter_47 : decode cX8_letter 47 = .ok (.getfield 69, 3) := by decide +kernel
theorem dX8_letter_50 : decode cX8_letter 50 = .ok (.ireturn, 1) := by decide +kernel
theorem dX8_blank_0 : decode cX8_blank 0 = .ok (.aload_n 0, 1) := by decide +kernel
theorem dX8_blank_1 : decode cX8_blank 1 = .ok (.getfield 69, 3) := by decide +kernel
theorem dX8_blank_4 : decode cX8_blank 4 = .ok (.istore_n 1, 1) := by decide +kernel
theorem dX8_blank_5 : decode cX8_blank 5 = .ok (.aload_n 0, 1) := by decide +kernel
theorem dX8_blank_6 : decode cX8_blank 6 = .ok (.iconst 0, 1) := by decide +kernel
theorem dX8_blank_7 : decode cX8_blank 7 = .ok (.putfield 69, 3) := by decide +kernel
theorem dX8_blank_10 : decode cX8_blank 10 = .ok (.iload_n 1, 1) := by decide +kernel
theorem dX8_blank_11 : decode cX8_blank 11 = .ok (.ireturn, 1) := by decide +kernel
theorem dX8_isTwice_0 : decode cX8_isTwice 0 = .ok (.iconst 0, 1) := by decide +kernel
theorem dX8_isTwice_1 : decode cX8_isTwice 1 = .ok (.istore_n 1, 1) := by decide +kernel
theorem dX8_isTwice_2 : decode cX8_isTwice 2 = .ok (.iconst 0, 1) := by decide +kernel
theorem dX8_isTwice_3 : decode cX8_isTwice 3 = .ok (.istore_n 2, 1) := by decide +kernel
theorem dX8_isTwice_4 : decode cX8_isTwice 4 = .ok (.iload_n 2, 1) := by decide +kernel
theorem dX8_isTwice_5 : decode cX8_isTwice 5 = .ok (.aload_n 0, 1) := by decide +kernel
theorem dX8_isTwice_6 : decode cX8_isTwice 6 = .ok (.getfield 73, 3) := by decide +kernel
theorem dX8_isTwice_9 : decode cX8_isTwice 9 = .ok (.if_icmp .ge 81, 3) := by decide +kernel
theorem dX8_isTwice_12 : decode cX8_isTwice 12 = .ok (.iconst 1, 1) := by decide +kernel
theorem dX8_isTwice_13 : decode cX8_isTwice 13 = .ok (.istore_n 3, 1) := by decide +kernel
theorem dX8_isTwice_14 : decode cX8_isTwice 14 = .ok (.iconst 0, 1) := by decide +kernel
theorem dX8_isTwice_15 : decode cX8_isTwice 15 = .ok (.istore 4, 2) := by decide +kernel
theorem dX8_isTwice_17 : decode cX8_isTwice 17 = .ok (.iload 4, 2) := by decide +kernel
theorem dX8_isTwice_19 : decode cX8_isTwice 19 = .ok (.aload_n 0, 1) := by decide +kernel
theorem dX8_isTwice_20 : decode cX8_isTwice 20 = .ok (.getfield 76, 3) := by decide +kernel
theorem dX8_isTwice_23 : decode cX8_isTwice 23 = .ok (.if_icmp .ge 47, 3) := by decide +kernel
theorem dX8_isTwice_26 : decode cX8_isTwice 26 = .ok (.iload_n 3, 1) := by decide +kernel
theorem dX8_isTwice_27 : decode cX8_isTwice 27 = .ok (.ifCond .eq 35, 3) := by decide +kernel
theorem dX8_isTwice_30 : decode cX8_isTwice 30 = .ok (.aload_n 0, 1) := by decide +kernel
theorem dX8_isTwice_31 : decode cX8_isTwice 31 = .ok (.getfield 22, 3) := by decide +kernel
theorem dX8_isTwice_34 : decode cX8_isTwice 34 = .ok (.iconst 4, 1) := by decide +kernel
theorem dX8_isTwice_35 : decode cX8_isTwice 35 = .ok (.iload_n 2, 1) := by decide +kernel
theorem dX8_isTwice_36 : decode cX8_isTwice 36 = .ok (.imul, 1) := by decide +kernel
theorem dX8_isTwice_37 : decode cX8_isTwice 37 = .ok (.iload 4, 2) := by decide +kernel
theorem dX8_isTwice_39 : decode cX8_isTwice 39 = .ok (.iadd, 1) := by decide +kernel
theorem dX8_isTwice_40 : decode cX8_isTwice 40 = .ok (.iaload, 1) := by decide +kernel
theorem dX8_isTwice_41 : decode cX8_isTwice 41 = .ok (.aload_n 0, 1) := by decide +kernel
theorem dX8_isTwice_42 : decode cX8_isTwice 42 = .ok (.getfield 22, 3) := by decide +kernel
theorem dX8_isTwice_45 : decode cX8_isTwice 45 = .ok (.iconst 4, 1) := by decide +kernel
theorem dX8_isTwice_46 : decode cX8_isTwice 46 = .ok (.aload_n 0, 1) := by decide +kernel
theorem dX8_isTwice_47 : decode cX8_isTwice 47 = .ok (.getfield 73, 3) := by decide +kernel
theorem dX8_isTwice_50 : decode cX8_isTwice 50 = .ok (.imul, 1) := by decide +kernel
theorem dX8_isTwice_51 : decode cX8_isTwice 51 = .ok (.iload 4, 2) := by decide +kernel
theorem dX8_isTwice_53 : decode cX8_isTwice 53 = .ok (.iadd, 1) := by decide +kernel
theorem dX8_isTwice_54 : decode cX8_isTwice 54 = .ok (.iaload, 1) := by decide +kernel
theorem dX8_isTwice_55 : decode cX8_isTwice 55 = .ok (.if_icmp .ne 7, 3) := by decide +kernel
theorem dX8_isTwice_58 : decode cX8_isTwice 58 = .ok (.iconst 1, 1) := by decide +kernel
theorem dX8_isTwice_59 : decode cX8_isTwice 59 = .ok (.goto 4, 3) := by decide +kernel
theorem dX8_isTwice_62 : decode cX8_isTwice 62 = .ok (.iconst 0, 1) := by decide +kernel
theorem dX8_isTwice_63 : decode cX8_isTwice 63 = .ok (.istore_n 3, 1) := by decide +kernel
theorem dX8_isTwice_64 : decode cX8_isTwice 64 = .ok (.iinc 4 1, 3) := by decide +kernel
theorem dX8_isTwice_67 : decode cX8_isTwice 67 = .ok (.goto (-50), 3) := by decide +kernel
theorem dX8_isTwice_70 : decode cX8_isTwice 70 = .ok (.iload_n 1, 1) := by decide +kernel
theorem dX8_isTwice_71 : decode cX8_isTwice 71 = .ok (.ifCond .ne 7, 3) := by decide +kernel
theorem dX8_isTwice_74 : decode cX8_isTwice 74 = .ok (.iload_n 3, 1) := by decide +kernel
theorem dX8_isTwice_75 : decode cX8_isTwice 75 = .ok (.ifCond .eq 7, 3) := by decide +kernel
theorem dX8_isTwice_78 : decode cX8_isTwice 78 = .ok (.iconst 1, 1) := by decide +kernel
theorem dX8_isTwice_79 : decode cX8_isTwice 79 = .ok (.goto 4, 3) := by decide +kernel
theorem dX8_isTwice_82 : decode cX8_isTwice 82 = .ok (.iconst 0, 1) := by decide +kernel
theorem dX8_isTwice_83 : decode cX8_isTwice 83 = .ok (.istore_n 1, 1) := by decide +kernel
theorem dX8_isTwice_84 : decode cX8_isTwice 84 = .ok (.iinc 2 1, 3) := by decide +kernel
theorem dX8_isTwice_87 : decode cX8_isTwice 87 = .ok (.goto (-83), 3) := by decide +kernel
theorem dX8_isTwice_90 : decode cX8_isTwice 90 = .ok (.iload_n 1, 1) := by decide +kernel
theorem dX8_isTwice_91 : decode cX8_isTwice 91 = .ok (.ireturn, 1) := by decide +kernel
theorem dX8_takesComma_0 : decode cX8_takesComma 0 = .ok (.aload_n 0, 1) := by decide +kernel
theorem dX8_takesComma_1 : decode cX8_takesComma 1 = .ok (.getfield 76, 3) := by decide +kernel
theorem dX8_takesComma_4 : decode cX8_takesComma 4 = .ok (.ifCond .ne 19, 3) := by decide +kernel
theorem dX8_takesComma_7 : decode cX8_takesComma 7 = .ok (.aload_n 0, 1) := by decide +kernel
theorem dX8_takesComma_8 : decode cX8_takesComma 8 = .ok (.getfield 79, 3) := by decide +kernel
theorem dX8_takesComma_11 : decode cX8_takesComma 11 = .ok (.iconst 2, 1) := by decide +kernel
theorem dX8_takesComma_12 : decode cX8_takesComma 12 = .ok (.if_icmp .lt 7, 3) := by decide +kernel
theorem dX8_takesComma_15 : decode cX8_takesComma 15 = .ok (.iconst 1, 1) := by decide +kernel
theorem dX8_takesComma_16 : decode cX8_takesComma 16 = .ok (.goto 23, 3) := by decide +kernel
theorem dX8_takesComma_19 : decode cX8_takesComma 19 = .ok (.iconst 0, 1) := by decide +kernel
theorem dX8_takesComma_20 : decode cX8_takesComma 20 = .ok (.goto 19, 3) := by decide +kernel
theorem dX8_takesComma_23 : decode cX8_takesComma 23 = .ok (.aload_n 0, 1) := by decide +kernel
theorem dX8_takesComma_24 : decode cX8_takesComma 24 = .ok (.getfield 79, 3) := by decide +kernel
theorem dX8_takesComma_27 : decode cX8_takesComma 27 = .ok (.aload_n 0, 1) := by decide +kernel
theorem dX8_takesComma_28 : decode cX8_takesComma 28 = .ok (.getfield 76, 3) := by decide +kernel
theorem dX8_takesComma_31 : decode cX8_takesComma 31 = .ok (.if_icmp .ne 7, 3) := by decide +kernel
theorem dX8_takesComma_34 : decode cX8_takesComma 34 = .ok (.iconst 1, 1) := by decide +kernel
theorem dX8_takesComma_35 : decode cX8_takesComma 35 = .ok (.goto 4, 3) := by decide +kernel
theorem dX8_takesComma_38 : decode cX8_takesComma 38 = .ok (.iconst 0, 1) := by decide +kernel
theorem dX8_takesComma_39 : decode cX8_takesComma 39 = .ok (.istore_n 1, 1) := by decide +kernel
theorem dX8_takesComma_40 : decode cX8_takesComma 40 = .ok (.iload_n 1, 1) := by decide +kernel
theorem dX8_takesComma_41 : decode cX8_takesComma 41 = .ok (.ifCond .eq 14, 3) := by decide +kernel
theorem dX8_takesComma_44 : decode cX8_takesComma 44 = .ok (.aload_n 0, 1) := by decide +kernel
theorem dX8_takesComma_45 : decode cX8_takesComma 45 = .ok (.getfield 73, 3) := by decide +kernel
theorem dX8_takesComma_48 : decode cX8_takesComma 48 = .ok (.iconst 1, 1) := by decide +kernel
theorem dX8_takesComma_49 : decode cX8_takesComma 49 = .ok (.iadd, 1) := by decide +kernel
theorem dX8_takesComma_50 : decode cX8_takesComma 50 = .ok (.bipush 12, 2) := by decide +kernel
theorem dX8_takesComma_52 : decode cX8_takesComma 52 = .ok (.if_icmp .ne 5, 3) := by decide +kernel
theorem dX8_takesComma_55 : decode cX8_takesComma 55 = .ok (.iconst 0, 1) := by decide +kernel
theorem dX8_takesComma_56 : decode cX8_takesComma 56 = .ok (.ireturn, 1) := by decide +kernel
theorem dX8_takesComma_57 : decode cX8_takesComma 57 = .ok (.aload_n 0, 1) := by decide +kernel
theorem dX8_takesComma_58 : decode cX8_takesComma 58 = .ok (.aload_n 0, 1) := by decide +kernel
theorem dX8_takesComma_59 : decode cX8_takesComma 59 = .ok (.getfield 79, 3) := by decide +kernel
theorem dX8_takesComma_62 : decode cX8_takesComma 62 = .ok (.putfield 76, 3) := by decide +kernel
theorem dX8_takesComma_65 : decode cX8_takesComma 65 = .ok (.aload_n 0, 1) := by decide +kernel
theorem dX8_takesComma_66 : decode cX8_takesComma 66 = .ok (.dup, 1) := by decide +kernel
theorem dX8_takesComma_67 : decode cX8_takesComma 67 = .ok (.getfield 73, 3) := by decide +kernel
theorem dX8_takesComma_70 : decode cX8_takesComma 70 = .ok (.iconst 1, 1) := by decide +kernel
theorem dX8_takesComma_71 : decode cX8_takesComma 71 = .ok (.iadd, 1) := by decide +kernel
theorem dX8_takesComma_72 : decode cX8_takesComma 72 = .ok (.putfield 73, 3) := by decide +kernel
theorem dX8_takesComma_75 : decode cX8_takesComma 75 = .ok (.aload_n 0, 1) := by decide +kernel
theorem dX8_takesComma_76 : decode cX8_takesComma 76 = .ok (.iconst 0, 1) := by decide +kernel
theorem dX8_takesComma_77 : decode cX8_takesComma 77 = .ok (.putfield 79, 3) := by decide +kernel
theorem dX8_takesComma_80 : decode cX8_takesComma 80 = .ok (.iconst 1, 1) := by decide +kernel
theorem dX8_takesComma_81 : decode cX8_takesComma 81 = .ok (.ireturn, 1) := by decide +kernel
theorem dX8_takes_0 : decode cX8_takes 0 = .ok (.iload_n 1, 1) := by decide +kernel
theorem dX8_takes_1 : decode cX8_takes 1 = .ok (.bipush 44, 2) := by decide +kernel
theorem dX8_takes_3 : decode cX8_takes 3 = .ok (.if_icmp .ne 8, 3) := by decide +kernel
theorem dX8_takes_6 : decode cX8_takes 6 = .ok (.aload_n 0, 1) := by decide +kernel
theorem dX8_takes_7 : decode cX8_takes 7 = .ok (.invokevirtual 82, 3) := by decide +kernel
theorem dX8_takes_10 : decode cX8_takes 10 = .ok (.ireturn, 1) := by decide +kernel
theorem dX8_takes_11 : decode cX8_takes 11 = .ok (.iload_n 1, 1) := by decide +kernel
theorem dX8_takes_12 : decode cX8_takes 12 = .ok (.bipush 97, 2) := by decide +kernel
theorem dX8_takes_14 : decode cX8_takes 14 = .ok (.bipush 122, 2) := by decide +kernel
theorem dX8_takes_16 : decode cX8_takes 16 = .ok (.invokestatic 65, 3) := by decide +kernel
theorem dX8_takes_19 : decode cX8_takes 19 = .ok (.ifCond .eq 25, 3) := by decide +kernel
theorem dX8_takes_22 : decode cX8_takes 22 = .ok (.aload_n 0, 1) := by decide +kernel
theorem dX8_takes_23 : decode cX8_takes 23 = .ok (.getfield 79, 3) := by decide +kernel
theorem dX8_takes_26 : decode cX8_takes 26 = .ok (.aload_n 0, 1) := by decide +kernel
theorem dX8_takes_27 : decode cX8_takes 27 = .ok (.getfield 76, 3) := by decide +kernel
theorem dX8_takes_30 : decode cX8_takes 30 = .ok (.ifCond .ne 7, 3) := by decide +kernel
theorem dX8_takes_33 : decode cX8_takes 33 = .ok (.iconst 4, 1) := by decide +kernel
theorem dX8_takes_34 : decode cX8_takes 34 = .ok (.goto 7, 3) := by decide +kernel
theorem dX8_takes_37 : decode cX8_takes 37 = .ok (.aload_n 0, 1) := by decide +kernel
theorem dX8_takes_38 : decode cX8_takes 38 = .ok (.getfield 76, 3) := by decide +kernel
theorem dX8_takes_41 : decode cX8_takes 41 = .ok (.if_icmp .ne 5, 3) := by decide +kernel
theorem dX8_takes_44 : decode cX8_takes 44 = .ok (.iconst 0, 1) := by decide +kernel
theorem dX8_takes_45 : decode cX8_takes 45 = .ok (.ireturn, 1) := by decide +kernel
theorem dX8_takes_46 : decode cX8_takes 46 = .ok (.aload_n 0, 1) := by decide +kernel
theorem dX8_takes_47 : decode cX8_takes 47 = .ok (.getfield 22, 3) := by decide +kernel
theorem dX8_takes_50 : decode cX8_takes 50 = .ok (.iconst 4, 1) := by decide +kernel
theorem dX8_takes_51 : decode cX8_takes 51 = .ok (.aload_n 0, 1) := by decide +kernel
theorem dX8_takes_52 : decode cX8_takes 52 = .ok (.getfield 73, 3) := by decide +kernel
theorem dX8_takes_55 : decode cX8_takes 55 = .ok (.imul, 1) := by decide +kernel
theorem dX8_takes_56 : decode cX8_takes 56 = .ok (.aload_n 0, 1) := by decide +kernel
theorem dX8_takes_57 : decode cX8_takes 57 = .ok (.getfield 79, 3) := by decide +kernel
theorem dX8_takes_60 : decode cX8_takes 60 = .ok (.iadd, 1) := by decide +kernel
theorem dX8_takes_61 : decode cX8_takes 61 = .ok (.iload_n 1, 1) := by decide +kernel
theorem dX8_takes_62 : decode cX8_takes 62 = .ok (.iastore, 1) := by decide +kernel
theorem dX8_takes_63 : decode cX8_takes 63 = .ok (.aload_n 0, 1) := by decide +kernel
theorem dX8_takes_64 : decode cX8_takes 64 = .ok (.dup, 1) := by decide +kernel
theorem dX8_takes_65 : decode cX8_takes 65 = .ok (.getfield 79, 3) := by decide +kernel
theorem dX8_takes_68 : decode cX8_takes 68 = .ok (.iconst 1, 1) := by decide +kernel
theorem dX8_takes_69 : decode cX8_takes 69 = .ok (.iadd, 1) := by decide +kernel
theorem dX8_takes_70 : decode cX8_takes 70 = .ok (.putfield 79, 3) := by decide +kernel
theorem dX8_takes_73 : decode cX8_takes 73 = .ok (.aload_n 0, 1) := by decide +kernel
theorem dX8_takes_74 : decode cX8_takes 74 = .ok (.getfield 76, 3) := by decide +kernel
theorem dX8_takes_77 : decode cX8_takes 77 = .ok (.ifCond .eq 21, 3) := by decide +kernel
theorem dX8_takes_80 : decode cX8_takes 80 = .ok (.aload_n 0, 1) := by decide +kernel
theorem dX8_takes_81 : decode cX8_takes 81 = .ok (.getfield 79, 3) := by decide +kernel
theorem dX8_takes_84 : decode cX8_takes 84 = .ok (.aload_n 0, 1) := by decide +kernel
theorem dX8_takes_85 : decode cX8_takes 85 = .ok (.getfield 76, 3) := by decide +kernel
theorem dX8_takes_88 : decode cX8_takes 88 = .ok (.if_icmp .lt 10, 3) := by decide +kernel
theorem dX8_takes_91 : decode cX8_takes 91 = .ok (.aload_n 0, 1) := by decide +kernel
theorem dX8_takes_92 : decode cX8_takes 92 = .ok (.invokevirtual 86, 3) := by decide +kernel
theorem dX8_takes_95 : decode cX8_takes 95 = .ok (.ifCond .ne 7, 3) := by decide +kernel
theorem dX8_takes_98 : decode cX8_takes 98 = .ok (.iconst 1, 1) := by decide +kernel
theorem dX8_takes_99 : decode cX8_takes 99 = .ok (.goto 4, 3) := by decide +kernel
theorem dX8_takes_102 : decode cX8_takes 102 = .ok (.iconst 0, 1) := by decide +kernel
theorem dX8_takes_103 : decode cX8_takes 103 = .ok (.ireturn, 1) := by decide +kernel
theorem dX8_read_0 : decode cX8_read 0 = .ok (.aload_n 0, 1) := by decide +kernel
theorem dX8_read_1 : decode cX8_read 1 = .ok (.iconst 0, 1) := by decide +kernel
theorem dX8_read_2 : decode cX8_read 2 = .ok (.putfield 73, 3) := by decide +kernel
theorem dX8_read_5 : decode cX8_read 5 = .ok (.aload_n 0, 1) := by decide +kernel
theorem dX8_read_6 : decode cX8_read 6 = .ok (.iconst 0, 1) := by decide +kernel
theorem dX8_read_7 : decode cX8_read 7 = .ok (.putfield 79, 3) := by decide +kernel
theorem dX8_read_10 : decode cX8_read 10 = .ok (.aload_n 0, 1) := by decide +kernel
theorem dX8_read_11 : decode cX8_read 11 = .ok (.iconst 0, 1) := by decide +kernel
theorem dX8_read_12 : decode cX8_read 12 = .ok (.putfield 76, 3) := by decide +kernel
theorem dX8_read_15 : decode cX8_read 15 = .ok (.iconst 0, 1) := by decide +kernel
theorem dX8_read_16 : decode cX8_read 16 = .ok (.istore_n 1, 1) := by decide +kernel
theorem dX8_read_17 : decode cX8_read 17 = .ok (.iload_n 1, 1) := by decide +kernel
theorem dX8_read_18 : decode cX8_read 18 = .ok (.aload_n 0, 1) := by decide +kernel
theorem dX8_read_19 : decode cX8_read 19 = .ok (.getfield 69, 3) := by decide +kernel
theorem dX8_read_22 : decode cX8_read 22 = .ok (.if_icmp .ge 22, 3) := by decide +kernel
theorem dX8_read_25 : decode cX8_read 25 = .ok (.aload_n 0, 1) := by decide +kernel
theorem dX8_read_26 : decode cX8_read 26 = .ok (.aload_n 0, 1) := by decide +kernel
theorem dX8_read_27 : decode cX8_read 27 = .ok (.getfield 19, 3) := by decide +kernel
theorem dX8_read_30 : decode cX8_read 30 = .ok (.iload_n 1, 1) := by decide +kernel
theorem dX8_read_31 : decode cX8_read 31 = .ok (.iaload, 1) := by decide +kernel
theorem dX8_read_32 : decode cX8_read 32 = .ok (.invokevirtual 89, 3) := by decide +kernel
theorem dX8_read_35 : decode cX8_read 35 = .ok (.ifCond .eq 9, 3) := by decide +kernel
theorem dX8_read_38 : decode cX8_read 38 = .ok (.iinc 1 1, 3) := by decide +kernel
theorem dX8_read_41 : decode cX8_read 41 = .ok (.goto (-24), 3) := by decide +kernel
theorem dX8_read_44 : decode cX8_read 44 = .ok (.iload_n 1, 1) := by decide +kernel
theorem dX8_read_45 : decode cX8_read 45 = .ok (.ireturn, 1) := by decide +kernel
theorem dX8_fault_0 : decode cX8_fault 0 = .ok (.aload_n 0, 1) := by decide +kernel
theorem dX8_fault_1 : decode cX8_fault 1 = .ok (.invokevirtual 93, 3) := by decide +kernel
theorem dX8_fault_4 : decode cX8_fault 4 = .ok (.ireturn, 1) := by decide +kernel
theorem dX8_isThere_0 : decode cX8_isThere 0 = .ok (.iconst 0, 1) := by decide +kernel
theorem dX8_isThere_1 : decode cX8_isThere 1 = .ok (.istore_n 2, 1) := by decide +kernel
theorem dX8_isThere_2 : decode cX8_isThere 2 = .ok (.iconst 0, 1) := by decide +kernel
theorem dX8_isThere_3 : decode cX8_isThere 3 = .ok (.istore_n 3, 1) := by decide +kernel
theorem dX8_isThere_4 : decode cX8_isThere 4 = .ok (.iload_n 3, 1) := by decide +kernel
theorem dX8_isThere_5 : decode cX8_isThere 5 = .ok (.aload_n 0, 1) := by decide +kernel
theorem dX8_isThere_6 : decode cX8_isThere 6 = .ok (.getfield 97, 3) := by decide +kernel
theorem dX8_isThere_9 : decode cX8_isThere 9 = .ok (.if_icmp .ge 82, 3) := by decide +kernel
theorem dX8_isThere_12 : decode cX8_isThere 12 = .ok (.iconst 1, 1) := by decide +kernel
theorem dX8_isThere_13 : decode cX8_isThere 13 = .ok (.istore 4, 2) := by decide +kernel
theorem dX8_isThere_15 : decode cX8_isThere 15 = .ok (.iconst 0, 1) := by decide +kernel
theorem dX8_isThere_16 : decode cX8_isThere 16 = .ok (.istore 5, 2) := by decide +kernel
theorem dX8_isThere_18 : decode cX8_isThere 18 = .ok (.iload 5, 2) := by decide +kernel
theorem dX8_isThere_20 : decode cX8_isThere 20 = .ok (.aload_n 0, 1) := by decide +kernel
theorem dX8_isThere_21 : decode cX8_isThere 21 = .ok (.getfield 100, 3) := by decide +kernel
theorem dX8_isThere_24 : decode cX8_isThere 24 = .ok (.if_icmp .ge 46, 3) := by decide +kernel
theorem dX8_isThere_27 : decode cX8_isThere 27 = .ok (.iload 4, 2) := by decide +kernel
theorem dX8_isThere_29 : decode cX8_isThere 29 = .ok (.ifCond .eq 32, 3) := by decide +kernel
theorem dX8_isThere_32 : decode cX8_isThere 32 = .ok (.aload_n 0, 1) := by decide +kernel
theorem dX8_isThere_33 : decode cX8_isThere 33 = .ok (.getfield 7, 3) := by decide +kernel
theorem dX8_isThere_36 : decode cX8_isThere 36 = .ok (.iconst 4, 1) := by decide +kernel
theorem dX8_isThere_37 : decode cX8_isThere 37 = .ok (.iload_n 3, 1) := by decide +kernel
theorem dX8_isThere_38 : decode cX8_isThere 38 = .ok (.imul, 1) := by decide +kernel
theorem dX8_isThere_39 : decode cX8_isThere 39 = .ok (.iload 5, 2) := by decide +kernel
theorem dX8_isThere_41 : decode cX8_isThere 41 = .ok (.iadd, 1) := by decide +kernel
theorem dX8_isThere_42 : decode cX8_isThere 42 = .ok (.iaload, 1) := by decide +kernel
theorem dX8_isThere_43 : decode cX8_isThere 43 = .ok (.aload_n 0, 1) := by decide +kernel
theorem dX8_isThere_44 : decode cX8_isThere 44 = .ok (.getfield 22, 3) := by decide +kernel
theorem dX8_isThere_47 : decode cX8_isThere 47 = .ok (.iconst 4, 1) := by decide +kernel
theorem dX8_isThere_48 : decode cX8_isThere 48 = .ok (.iload_n 1, 1) := by decide +kernel
theorem dX8_isThere_49 : decode cX8_isThere 49 = .ok (.imul, 1) := by decide +kernel
theorem dX8_isThere_50 : decode cX8_isThere 50 = .ok (.iload 5, 2) := by decide +kernel
theorem dX8_isThere_52 : decode cX8_isThere 52 = .ok (.iadd, 1) := by decide +kernel
theorem dX8_isThere_53 : decode cX8_isThere 53 = .ok (.iaload, 1) := by decide +kernel
theorem dX8_isThere_54 : decode cX8_isThere 54 = .ok (.if_icmp .ne 7, 3) := by decide +kernel
theorem dX8_isThere_57 : decode cX8_isThere 57 = .ok (.iconst 1, 1) := by decide +kernel
theorem dX8_isThere_58 : decode cX8_isThere 58 = .ok (.goto 4, 3) := by decide +kernel
theorem dX8_isThere_61 : decode cX8_isThere 61 = .ok (.iconst 0, 1) := by decide +kernel
theorem dX8_isThere_62 : decode cX8_isThere 62 = .ok (.istore 4, 2) := by decide +kernel
theorem dX8_isThere_64 : decode cX8_isThere 64 = .ok (.iinc 5 1, 3) := by decide +kernel
theorem dX8_isThere_67 : decode cX8_isThere 67 = .ok (.goto (-49), 3) := by decide +kernel
theorem dX8_isThere_70 : decode cX8_isThere 70 = .ok (.iload_n 2, 1) := by decide +kernel
theorem dX8_isThere_71 : decode cX8_isThere 71 = .ok (.ifCond .ne 8, 3) := by decide +kernel
theorem dX8_isThere_74 : decode cX8_isThere 74 = .ok (.iload 4, 2) := by decide +kernel
theorem dX8_isThere_76 : decode cX8_isThere 76 = .ok (.ifCond .eq 7, 3) := by decide +kernel
theorem dX8_isThere_79 : decode cX8_isThere 79 = .ok (.iconst 1, 1) := by decide +kernel
theorem dX8_isThere_80 : decode cX8_isThere 80 = .ok (.goto 4, 3) := by decide +kernel
theorem dX8_isThere_83 : decode cX8_isThere 83 = .ok (.iconst 0, 1) := by decide +kernel
theorem dX8_isThere_84 : decode cX8_isThere 84 = .ok (.istore_n 2, 1) := by decide +kernel
theorem dX8_isThere_85 : decode cX8_isThere 85 = .ok (.iinc 3 1, 3) := by decide +kernel
theorem dX8_isThere_88 : decode cX8_isThere 88 = .ok (.goto (-84), 3) := by decide +kernel
theorem dX8_isThere_91 : decode cX8_isThere 91 = .ok (.iload_n 2, 1) := by decide +kernel
theorem dX8_isThere_92 : decode cX8_isThere 92 = .ok (.ireturn, 1) := by decide +kernel
theorem dX8_isAhead_0 : decode cX8_isAhead 0 = .ok (.iconst 0, 1) := by decide +kernel
theorem dX8_isAhead_1 : decode cX8_isAhead 1 = .ok (.istore_n 3, 1) := by decide +kernel
theorem dX8_isAhead_2 : decode cX8_isAhead 2 = .ok (.iload_n 3, 1) := by decide +kernel
theorem dX8_isAhead_3 : decode cX8_isAhead 3 = .ok (.aload_n 0, 1) := by decide +kernel
theorem dX8_isAhead_4 : decode cX8_isAhead 4 = .ok (.getfield 100, 3) := by decide +kernel
theorem dX8_isAhead_7 : decode cX8_isAhead 7 = .ok (.if_icmp .ge 48, 3) := by decide +kernel
theorem dX8_isAhead_10 : decode cX8_isAhead 10 = .ok (.aload_n 0, 1) := by decide +kernel
theorem dX8_isAhead_11 : decode cX8_isAhead 11 = .ok (.getfield 22, 3) := by decide +kernel
theorem dX8_isAhead_14 : decode cX8_isAhead 14 = .ok (.iconst 4, 1) := by decide +kernel
theorem dX8_isAhead_15 : decode cX8_isAhead 15 = .ok (.iload_n 1, 1) := by decide +kernel
theorem dX8_isAhead_16 : decode cX8_isAhead 16 = .ok (.imul, 1) := by decide +kernel
theorem dX8_isAhead_17 : decode cX8_isAhead 17 = .ok (.iload_n 3, 1) := by decide +kernel
theorem dX8_isAhead_18 : decode cX8_isAhead 18 = .ok (.iadd, 1) := by decide +kernel
theorem dX8_isAhead_19 : decode cX8_isAhead 19 = .ok (.iaload, 1) := by decide +kernel
theorem dX8_isAhead_20 : decode cX8_isAhead 20 = .ok (.aload_n 0, 1) := by decide +kernel
theorem dX8_isAhead_21 : decode cX8_isAhead 21 = .ok (.getfield 7, 3) := by decide +kernel
theorem dX8_isAhead_24 : decode cX8_isAhead 24 = .ok (.iconst 4, 1) := by decide +kernel
theorem dX8_isAhead_25 : decode cX8_isAhead 25 = .ok (.iload_n 2, 1) := by decide +kernel
theorem dX8_isAhead_26 : decode cX8_isAhead 26 = .ok (.imul, 1) := by decide +kernel
theorem dX8_isAhead_27 : decode cX8_isAhead 27 = .ok (.iload_n 3, 1) := by decide +kernel
theorem dX8_isAhead_28 : decode cX8_isAhead 28 = .ok (.iadd, 1) := by decide +kernel
theorem dX8_isAhead_29 : decode cX8_isAhead 29 = .ok (.iaload, 1) := by decide +kernel
theorem dX8_isAhead_30 : decode cX8_isAhead 30 = .ok (.isub, 1) := by decide +kernel
theorem dX8_isAhead_31 : decode cX8_isAhead 31 = .ok (.istore 4, 2) := by decide +kernel
theorem dX8_isAhead_33 : decode cX8_isAhead 33 = .ok (.iload 4, 2) := by decide +kernel
theorem dX8_isAhead_35 : decode cX8_isAhead 35 = .ok (.ifCond .eq 14, 3) := by decide +kernel
theorem dX8_isAhead_38 : decode cX8_isAhead 38 = .ok (.iload 4, 2) := by decide +kernel
theorem dX8_isAhead_40 : decode cX8_isAhead 40 = .ok (.ifCond .ge 7, 3) := by decide +kernel
theorem dX8_isAhead_43 : decode cX8_isAhead 43 = .ok (.iconst 1, 1) := by decide +kernel
theorem dX8_isAhead_44 : decode cX8_isAhead 44 = .ok (.goto 4, 3) := by decide +kernel
theorem dX8_isAhead_47 : decode cX8_isAhead 47 = .ok (.iconst 0, 1) := by decide +kernel
theorem dX8_isAhead_48 : decode cX8_isAhead 48 = .ok (.ireturn, 1) := by decide +kernel
theorem dX8_isAhead_49 : decode cX8_isAhead 49 = .ok (.iinc 3 1, 3) := by decide +kernel
theorem dX8_isAhead_52 : decode cX8_isAhead 52 = .ok (.goto (-50), 3) := by decide +kernel
theorem dX8_isAhead_55 : decode cX8_isAhead 55 = .ok (.iconst 0, 1) := by decide +kernel
theorem dX8_isAhead_56 : decode cX8_isAhead 56 = .ok (.ireturn, 1) := by decide +kernel
theorem dX8_move_0 : decode cX8_move 0 = .ok (.aload_n 0, 1) := by decide +kernel
theorem dX8_move_1 : decode cX8_move 1 = .ok (.getfield 13, 3) := by decide +kernel
theorem dX8_move_4 : decode cX8_move 4 = .ok (.iload_n 2, 1) := by decide +kernel
theorem dX8_move_5 : decode cX8_move 5 = .ok (.aload_n 0, 1) := by decide +kernel
theorem dX8_move_6 : decode cX8_move 6 = .ok (.getfield 13, 3) := by decide +kernel
theorem dX8_move_9 : decode cX8_move 9 = .ok (.iload_n 1, 1) := by decide +kernel
theorem dX8_move_10 : decode cX8_move 10 = .ok (.iaload, 1) := by decide +kernel
theorem dX8_move_11 : decode cX8_move 11 = .ok (.iastore, 1) := by decide +kernel
theorem dX8_move_12 : decode cX8_move 12 = .ok (.iconst 0, 1) := by decide +kernel
theorem dX8_move_13 : decode cX8_move 13 = .ok (.istore_n 3, 1) := by decide +kernel
theorem dX8_move_14 : decode cX8_move 14 = .ok (.iload_n 3, 1) := by decide +kernel
theorem dX8_move_15 : decode cX8_move 15 = .ok (.iconst 4, 1) := by decide +kernel
theorem dX8_move_16 : decode cX8_move 16 = .ok (.if_icmp .ge 29, 3) := by decide +kernel
theorem dX8_move_19 : decode cX8_move 19 = .ok (.aload_n 0, 1) := by decide +kernel
theorem dX8_move_20 : decode cX8_move 20 = .ok (.getfield 7, 3) := by decide +kernel
theorem dX8_move_23 : decode cX8_move 23 = .ok (.iconst 4, 1) := by decide +kernel
theorem dX8_move_24 : decode cX8_move 24 = .ok (.iload_n 2, 1) := by decide +kernel
theorem dX8_move_25 : decode cX8_move 25 = .ok (.imul, 1) := by decide +kernel
theorem dX8_move_26 : decode cX8_move 26 = .ok (.iload_n 3, 1) := by decide +kernel
theorem dX8_move_27 : decode cX8_move 27 = .ok (.iadd, 1) := by decide +kernel
theorem dX8_move_28 : decode cX8_move 28 = .ok (.aload_n 0, 1) := by decide +kernel
theorem dX8_move_29 : decode cX8_move 29 = .ok (.getfield 7, 3) := by decide +kernel
theorem dX8_move_32 : decode cX8_move 32 = .ok (.iconst 4, 1) := by decide +kernel
theorem dX8_move_33 : decode cX8_move 33 = .ok (.iload_n 1, 1) := by decide +kernel
theorem dX8_move_34 : decode cX8_move 34 = .ok (.imul, 1) := by decide +kernel
theorem dX8_move_35 : decode cX8_move 35 = .ok (.iload_n 3, 1) := by decide +kernel
theorem dX8_move_36 : decode cX8_move 36 = .ok (.iadd, 1) := by decide +kernel
theorem dX8_move_37 : decode cX8_move 37 = .ok (.iaload, 1) := by decide +kernel
theorem dX8_move_38 : decode cX8_move 38 = .ok (.iastore, 1) := by decide +kernel
theorem dX8_move_39 : decode cX8_move 39 = .ok (.iinc 3 1, 3) := by decide +kernel
theorem dX8_move_42 : decode cX8_move 42 = .ok (.goto (-28), 3) := by decide +kernel
theorem dX8_move_45 : decode cX8_move 45 = .ok (.return_, 1) := by decide +kernel
theorem dX8_comes_0 : decode cX8_comes 0 = .ok (.aload_n 0, 1) := by decide +kernel
theorem dX8_comes_1 : decode cX8_comes 1 = .ok (.getfield 97, 3) := by decide +kernel
theorem dX8_comes_4 : decode cX8_comes 4 = .ok (.istore_n 2, 1) := by decide +kernel
theorem dX8_comes_5 : decode cX8_comes 5 = .ok (.iload_n 2, 1) := by decide +kernel
theorem dX8_comes_6 : decode cX8_comes 6 = .ok (.ifCond .le 28, 3) := by decide +kernel
theorem dX8_comes_9 : decode cX8_comes 9 = .ok (.aload_n 0, 1) := by decide +kernel
theorem dX8_comes_10 : decode cX8_comes 10 = .ok (.iload_n 1, 1) := by decide +kernel
theorem dX8_comes_11 : decode cX8_comes 11 = .ok (.iload_n 2, 1) := by decide +kernel
theorem dX8_comes_12 : decode cX8_comes 12 = .ok (.iconst 1, 1) := by decide +kernel
theorem dX8_comes_13 : decode cX8_comes 13 = .ok (.isub, 1) := by decide +kernel
theorem dX8_comes_14 : decode cX8_comes 14 = .ok (.invokevirtual 103, 3) := by decide +kernel
theorem dX8_comes_17 : decode cX8_comes 17 = .ok (.ifCond .eq 17, 3) := by decide +kernel
theorem dX8_comes_20 : decode cX8_comes 20 = .ok (.aload_n 0, 1) := by decide +kernel
theorem dX8_comes_21 : decode cX8_comes 21 = .ok (.iload_n 2, 1) := by decide +kernel
theorem dX8_comes_22 : decode cX8_comes 22 = .ok (.iconst 1, 1) := by decide +kernel
theorem dX8_comes_23 : decode cX8_comes 23 = .ok (.isub, 1) := by decide +kernel
theorem dX8_comes_24 : decode cX8_comes 24 = .ok (.iload_n 2, 1) := by decide +kernel
theorem dX8_comes_25 : decode cX8_comes 25 = .ok (.invokevirtual 107, 3) := by decide +kernel
theorem dX8_comes_28 : decode cX8_comes 28 = .ok (.iinc 2 (-1), 3) := by decide +kernel
theorem dX8_comes_31 : decode cX8_comes 31 = .ok (.goto (-26), 3) := by decide +kernel
theorem dX8_comes_34 : decode cX8_comes 34 = .ok (.aload_n 0, 1) := by decide +kernel
theorem dX8_comes_35 : decode cX8_comes 35 = .ok (.getfield 13, 3) := by decide +kernel
theorem dX8_comes_38 : decode cX8_comes 38 = .ok (.iload_n 2, 1) := by decide +kernel
theorem dX8_comes_39 : decode cX8_comes 39 = .ok (.iconst 1, 1) := by decide +kernel
theorem dX8_comes_40 : decode cX8_comes 40 = .ok (.iastore, 1) := by decide +kernel
theorem dX8_comes_41 : decode cX8_comes 41 = .ok (.iconst 0, 1) := by decide +kernel
theorem dX8_comes_42 : decode cX8_comes 42 = .ok (.istore_n 3, 1) := by decide +kernel
theorem dX8_comes_43 : decode cX8_comes 43 = .ok (.iload_n 3, 1) := by decide +kernel
theorem dX8_comes_44 : decode cX8_comes 44 = .ok (.iconst 4, 1) := by decide +kernel
theorem dX8_comes_45 : decode cX8_comes 45 = .ok (.if_icmp .ge 29, 3) := by decide +kernel
theorem dX8_comes_48 : decode cX8_comes 48 = .ok (.aload_n 0, 1) := by decide +kernel
theorem dX8_comes_49 : decode cX8_comes 49 = .ok (.getfield 7, 3) := by decide +kernel
theorem dX8_comes_52 : decode cX8_comes 52 = .ok (.iconst 4, 1) := by decide +kernel
theorem dX8_comes_53 : decode cX8_comes 53 = .ok (.iload_n 2, 1) := by decide +kernel
theorem dX8_comes_54 : decode cX8_comes 54 = .ok (.imul, 1) := by decide +kernel
theorem dX8_comes_55 : decode cX8_comes 55 = .ok (.iload_n 3, 1) := by decide +kernel
theorem dX8_comes_56 : decode cX8_comes 56 = .ok (.iadd, 1) := by decide +kernel
theorem dX8_comes_57 : decode cX8_comes 57 = .ok (.aload_n 0, 1) := by decide +kernel
theorem dX8_comes_58 : decode cX8_comes 58 = .ok (.getfield 22, 3) := by decide +kernel
theorem dX8_comes_61 : decode cX8_comes 61 = .ok (.iconst 4, 1) := by decide +kernel
theorem dX8_comes_62 : decode cX8_comes 62 = .ok (.iload_n 1, 1) := by decide +kernel
theorem dX8_comes_63 : decode cX8_comes 63 = .ok (.imul, 1) := by decide +kernel
theorem dX8_comes_64 : decode cX8_comes 64 = .ok (.iload_n 3, 1) := by decide +kernel
theorem dX8_comes_65 : decode cX8_comes 65 = .ok (.iadd, 1) := by decide +kernel
theorem dX8_comes_66 : decode cX8_comes 66 = .ok (.iaload, 1) := by decide +kernel
theorem dX8_comes_67 : decode cX8_comes 67 = .ok (.iastore, 1) := by decide +kernel
theorem dX8_comes_68 : decode cX8_comes 68 = .ok (.iinc 3 1, 3) := by decide +kernel
theorem dX8_comes_71 : decode cX8_comes 71 = .ok (.goto (-28), 3) := by decide +kernel
theorem dX8_comes_74 : decode cX8_comes 74 = .ok (.aload_n 0, 1) := by decide +kernel
theorem dX8_comes_75 : decode cX8_comes 75 = .ok (.dup, 1) := by decide +kernel
theorem dX8_comes_76 : decode cX8_comes 76 = .ok (.getfield 97, 3) := by decide +kernel
theorem dX8_comes_79 : decode cX8_comes 79 = .ok (.iconst 1, 1) := by decide +kernel
theorem dX8_comes_80 : decode cX8_comes 80 = .ok (.iadd, 1) := by decide +kernel
theorem dX8_comes_81 : decode cX8_comes 81 = .ok (.putfield 97, 3) := by decide +kernel
theorem dX8_comes_84 : decode cX8_comes 84 = .ok (.return_, 1) := by decide +kernel
theorem dX8_isNew_0 : decode cX8_isNew 0 = .ok (.aload_n 0, 1) := by decide +kernel
theorem dX8_isNew_1 : decode cX8_isNew 1 = .ok (.getfield 97, 3) := by decide +kernel
theorem dX8_isNew_4 : decode cX8_isNew 4 = .ok (.ifCond .eq 14, 3) := by decide +kernel
theorem dX8_isNew_7 : decode cX8_isNew 7 = .ok (.aload_n 0, 1) := by decide +kernel
theorem dX8_isNew_8 : decode cX8_isNew 8 = .ok (.getfield 79, 3) := by decide +kernel
theorem dX8_isNew_11 : decode cX8_isNew 11 = .ok (.aload_n 0, 1) := by decide +kernel
theorem dX8_isNew_12 : decode cX8_isNew 12 = .ok (.getfield 100, 3) := by decide +kernel
theorem dX8_isNew_15 : decode cX8_isNew 15 = .ok (.if_icmp .ne 7, 3) := by decide +kernel
theorem dX8_isNew_18 : decode cX8_isNew 18 = .ok (.iconst 1, 1) := by decide +kernel
theorem dX8_isNew_19 : decode cX8_isNew 19 = .ok (.goto 4, 3) := by decide +kernel
theorem dX8_isNew_22 : decode cX8_isNew 22 = .ok (.iconst 0, 1) := by decide +kernel
theorem dX8_isNew_23 : decode cX8_isNew 23 = .ok (.istore_n 2, 1) := by decide +kernel
theorem dX8_isNew_24 : decode cX8_isNew 24 = .ok (.iconst 0, 1) := by decide +kernel
theorem dX8_isNew_25 : decode cX8_isNew 25 = .ok (.istore_n 3, 1) := by decide +kernel
theorem dX8_isNew_26 : decode cX8_isNew 26 = .ok (.iload_n 3, 1) := by decide +kernel
theorem dX8_isNew_27 : decode cX8_isNew 27 = .ok (.iload_n 1, 1) := by decide +kernel
theorem dX8_isNew_28 : decode cX8_isNew 28 = .ok (.if_icmp .ge 34, 3) := by decide +kernel
theorem dX8_isNew_31 : decode cX8_isNew 31 = .ok (.iload_n 2, 1) := by decide +kernel
theorem dX8_isNew_32 : decode cX8_isNew 32 = .ok (.ifCond .eq 22, 3) := by decide +kernel
theorem dX8_isNew_35 : decode cX8_isNew 35 = .ok (.aload_n 0, 1) := by decide +kernel
theorem dX8_isNew_36 : decode cX8_isNew 36 = .ok (.getfield 97, 3) := by decide +kernel
theorem dX8_isNew_39 : decode cX8_isNew 39 = .ok (.ifCond .eq 11, 3) := by decide +kernel
theorem dX8_isNew_42 : decode cX8_isNew 42 = .ok (.aload_n 0, 1) := by decide +kernel
theorem dX8_isNew_43 : decode cX8_isNew 43 = .ok (.iload_n 3, 1) := by decide +kernel
theorem dX8_isNew_44 : decode cX8_isNew 44 = .ok (.invokevirtual 111, 3) := by decide +kernel
theorem dX8_isNew_47 : decode cX8_isNew 47 = .ok (.ifCond .ne 7, 3) := by decide +kernel
theorem dX8_isNew_50 : decode cX8_isNew 50 = .ok (.iconst 1, 1) := by decide +kernel
theorem dX8_isNew_51 : decode cX8_isNew 51 = .ok (.goto 4, 3) := by decide +kernel
theorem dX8_isNew_54 : decode cX8_isNew 54 = .ok (.iconst 0, 1) := by decide +kernel
theorem dX8_isNew_55 : decode cX8_isNew 55 = .ok (.istore_n 2, 1) := by decide +kernel
theorem dX8_isNew_56 : decode cX8_isNew 56 = .ok (.iinc 3 1, 3) := by decide +kernel
theorem dX8_isNew_59 : decode cX8_isNew 59 = .ok (.goto (-33), 3) := by decide +kernel
theorem dX8_isNew_62 : decode cX8_isNew 62 = .ok (.iload_n 2, 1) := by decide +kernel
theorem dX8_isNew_63 : decode cX8_isNew 63 = .ok (.ireturn, 1) := by decide +kernel
theorem dX8_words_0 : decode cX8_words 0 = .ok (.aload_n 0, 1) := by decide +kernel
theorem dX8_words_1 : decode cX8_words 1 = .ok (.invokevirtual 93, 3) := by decide +kernel
theorem dX8_words_4 : decode cX8_words 4 = .ok (.aload_n 0, 1) := by decide +kernel
theorem dX8_words_5 : decode cX8_words 5 = .ok (.getfield 69, 3) := by decide +kernel
theorem dX8_words_8 : decode cX8_words 8 = .ok (.if_icmp .ne 33, 3) := by decide +kernel
theorem dX8_words_11 : decode cX8_words 11 = .ok (.aload_n 0, 1) := by decide +kernel
theorem dX8_words_12 : decode cX8_words 12 = .ok (.getfield 79, 3) := by decide +kernel
theorem dX8_words_15 : decode cX8_words 15 = .ok (.iconst 2, 1) := by decide +kernel
theorem dX8_words_16 : decode cX8_words 16 = .ok (.if_icmp .lt 25, 3) := by decide +kernel
theorem dX8_words_19 : decode cX8_words 19 = .ok (.aload_n 0, 1) := by decide +kernel
theorem dX8_words_20 : decode cX8_words 20 = .ok (.getfield 76, 3) := by decide +kernel
theorem dX8_words_23 : decode cX8_words 23 = .ok (.ifCond .eq 14, 3) := by decide +kernel
theorem dX8_words_26 : decode cX8_words 26 = .ok (.aload_n 0, 1) := by decide +kernel
theorem dX8_words_27 : decode cX8_words 27 = .ok (.getfield 79, 3) := by decide +kernel
theorem dX8_words_30 : decode cX8_words 30 = .ok (.aload_n 0, 1) := by decide +kernel
theorem dX8_words_31 : decode cX8_words 31 = .ok (.getfield 76, 3) := by decide +kernel
theorem dX8_words_34 : decode cX8_words 34 = .ok (.if_icmp .ne 7, 3) := by decide +kernel
theorem dX8_words_37 : decode cX8_words 37 = .ok (.iconst 1, 1) := by decide +kernel
theorem dX8_words_38 : decode cX8_words 38 = .ok (.goto 4, 3) := by decide +kernel
theorem dX8_words_41 : decode cX8_words 41 = .ok (.iconst 0, 1) := by decide +kernel
theorem dX8_words_42 : decode cX8_words 42 = .ok (.istore_n 1, 1) := by decide +kernel
theorem dX8_words_43 : decode cX8_words 43 = .ok (.aload_n 0, 1) := by decide +kernel
theorem dX8_words_44 : decode cX8_words 44 = .ok (.getfield 73, 3) := by decide +kernel
theorem dX8_words_47 : decode cX8_words 47 = .ok (.iconst 1, 1) := by decide +kernel
theorem dX8_words_48 : decode cX8_words 48 = .ok (.iadd, 1) := by decide +kernel
theorem dX8_words_49 : decode cX8_words 49 = .ok (.istore_n 2, 1) := by decide +kernel
theorem dX8_words_50 : decode cX8_words 50 = .ok (.iload_n 1, 1) := by decide +kernel
theorem dX8_words_51 : decode cX8_words 51 = .ok (.ifCond .eq 11, 3) := by decide +kernel
theorem dX8_words_54 : decode cX8_words 54 = .ok (.aload_n 0, 1) := by decide +kernel
theorem dX8_words_55 : decode cX8_words 55 = .ok (.iload_n 2, 1) := by decide +kernel
theorem dX8_words_56 : decode cX8_words 56 = .ok (.invokevirtual 114, 3) := by decide +kernel
theorem dX8_words_59 : decode cX8_words 59 = .ok (.ifCond .ne 6, 3) := by decide +kernel
theorem dX8_words_62 : decode cX8_words 62 = .ok (.bipush (-103), 2) := by decide +kernel
theorem dX8_words_64 : decode cX8_words 64 = .ok (.ireturn, 1) := by decide +kernel
theorem dX8_words_65 : decode cX8_words 65 = .ok (.aload_n 0, 1) := by decide +kernel
theorem dX8_words_66 : decode cX8_words 66 = .ok (.getfield 97, 3) := by decide +kernel
theorem dX8_words_69 : decode cX8_words 69 = .ok (.iload_n 2, 1) := by decide +kernel
theorem dX8_words_70 : decode cX8_words 70 = .ok (.iadd, 1) := by decide +kernel
theorem dX8_words_71 : decode cX8_words 71 = .ok (.bipush 12, 2) := by decide +kernel
theorem dX8_words_73 : decode cX8_words 73 = .ok (.if_icmp .le 6, 3) := by decide +kernel
theorem dX8_words_76 : decode cX8_words 76 = .ok (.bipush (-104), 2) := by decide +kernel
theorem dX8_words_78 : decode cX8_words 78 = .ok (.ireturn, 1) := by decide +kernel
theorem dX8_words_79 : decode cX8_words 79 = .ok (.aload_n 0, 1) := by decide +kernel
theorem dX8_words_80 : decode cX8_words 80 = .ok (.aload_n 0, 1) := by decide +kernel
theorem dX8_words_81 : decode cX8_words 81 = .ok (.getfield 79, 3) := by decide +kernel
theorem dX8_words_84 : decode cX8_words 84 = .ok (.putfield 100, 3) := by decide +kernel
theorem dX8_words_87 : decode cX8_words 87 = .ok (.iconst 0, 1) := by decide +kernel
theorem dX8_words_88 : decode cX8_words 88 = .ok (.istore_n 3, 1) := by decide +kernel
theorem dX8_words_89 : decode cX8_words 89 = .ok (.iload_n 3, 1) := by decide +kernel
theorem dX8_words_90 : decode cX8_words 90 = .ok (.iload_n 2, 1) := by decide +kernel
theorem dX8_words_91 : decode cX8_words 91 = .ok (.if_icmp .ge 14, 3) := by decide +kernel
theorem dX8_words_94 : decode cX8_words 94 = .ok (.aload_n 0, 1) := by decide +kernel
theorem dX8_words_95 : decode cX8_words 95 = .ok (.iload_n 3, 1) := by decide +kernel
theorem dX8_words_96 : decode cX8_words 96 = .ok (.invokevirtual 117, 3) := by decide +kernel
theorem dX8_words_99 : decode cX8_words 99 = .ok (.iinc 3 1, 3) := by decide +kernel
theorem dX8_words_102 : decode cX8_words 102 = .ok (.goto (-13), 3) := by decide +kernel
theorem dX8_words_105 : decode cX8_words 105 = .ok (.aload_n 0, 1) := by decide +kernel
theorem dX8_words_106 : decode cX8_words 106 = .ok (.invokevirtual 62, 3) := by decide +kernel
theorem dX8_words_109 : decode cX8_words 109 = .ok (.aload_n 0, 1) := by decide +kernel
theorem dX8_words_110 : decode cX8_words 110 = .ok (.dup, 1) := by decide +kernel
theorem dX8_words_111 : decode cX8_words 111 = .ok (.getfield 121, 3) := by decide +kernel
theorem dX8_words_114 : decode cX8_words 114 = .ok (.iconst 1, 1) := by decide +kernel
theorem dX8_words_115 : decode cX8_words 115 = .ok (.iadd, 1) := by decide +kernel
theorem dX8_words_116 : decode cX8_words 116 = .ok (.putfield 121, 3) := by decide +kernel
theorem dX8_words_119 : decode cX8_words 119 = .ok (.aload_n 0, 1) := by decide +kernel
theorem dX8_words_120 : decode cX8_words 120 = .ok (.iconst 0, 1) := by decide +kernel
theorem dX8_words_121 : decode cX8_words 121 = .ok (.putfield 69, 3) := by decide +kernel
theorem dX8_words_124 : decode cX8_words 124 = .ok (.iload_n 2, 1) := by decide +kernel
theorem dX8_words_125 : decode cX8_words 125 = .ok (.ireturn, 1) := by decide +kernel
theorem dX8_isWord_0 : decode cX8_isWord 0 = .ok (.iload_n 1, 1) := by decide +kernel
theorem dX8_isWord_1 : decode cX8_isWord 1 = .ok (.iconst 0, 1) := by decide +kernel
theorem dX8_isWord_2 : decode cX8_isWord 2 = .ok (.aload_n 0, 1) := by decide +kernel
theorem dX8_isWord_3 : decode cX8_isWord 3 = .ok (.getfield 97, 3) := by decide +kernel
theorem dX8_isWord_6 : decode cX8_isWord 6 = .ok (.iconst 1, 1) := by decide +kernel
theorem dX8_isWord_7 : decode cX8_isWord 7 = .ok (.isub, 1) := by decide +kernel
theorem dX8_isWord_8 : decode cX8_isWord 8 = .ok (.invokestatic 65, 3) := by decide +kernel
theorem dX8_isWord_11 : decode cX8_isWord 11 = .ok (.ireturn, 1) := by decide +kernel
theorem dX8_strike_0 : decode cX8_strike 0 = .ok (.aload_n 0, 1) := by decide +kernel
theorem dX8_strike_1 : decode cX8_strike 1 = .ok (.iload_n 1, 1) := by decide +kernel
theorem dX8_strike_2 : decode cX8_strike 2 = .ok (.invokevirtual 124, 3) := by decide +kernel
theorem dX8_strike_5 : decode cX8_strike 5 = .ok (.ifCond .ne 6, 3) := by decide +kernel
theorem dX8_strike_8 : decode cX8_strike 8 = .ok (.bipush (-101), 2) := by decide +kernel
theorem dX8_strike_10 : decode cX8_strike 10 = .ok (.ireturn, 1) := by decide +kernel
theorem dX8_strike_11 : decode cX8_strike 11 = .ok (.aload_n 0, 1) := by decide +kernel
theorem dX8_strike_12 : decode cX8_strike 12 = .ok (.dup, 1) := by decide +kernel
theorem dX8_strike_13 : decode cX8_strike 13 = .ok (.getfield 97, 3) := by decide +kernel
theorem dX8_strike_16 : decode cX8_strike 16 = .ok (.iconst 1, 1) := by decide +kernel
theorem dX8_strike_17 : decode cX8_strike 17 = .ok (.isub, 1) := by decide +kernel
theorem dX8_strike_18 : decode cX8_strike 18 = .ok (.putfield 97, 3) := by decide +kernel
theorem dX8_strike_21 : decode cX8_strike 21 = .ok (.iload_n 1, 1) := by decide +kernel
theorem dX8_strike_22 : decode cX8_strike 22 = .ok (.istore_n 2, 1) := by decide +kernel
theorem dX8_strike_23 : decode cX8_strike 23 = .ok (.iload_n 2, 1) := by decide +kernel
theorem dX8_strike_24 : decode cX8_strike 24 = .ok (.aload_n 0, 1) := by decide +kernel
theorem dX8_strike_25 : decode cX8_strike 25 = .ok (.getfield 97, 3) := by decide +kernel
theorem dX8_strike_28 : decode cX8_strike 28 = .ok (.if_icmp .ge 17, 3) := by decide +kernel
theorem dX8_strike_31 : decode cX8_strike 31 = .ok (.aload_n 0, 1) := by decide +kernel
theorem dX8_strike_32 : decode cX8_strike 32 = .ok (.iload_n 2, 1) := by decide +kernel
theorem dX8_strike_33 : decode cX8_strike 33 = .ok (.iconst 1, 1) := by decide +kernel
theorem dX8_strike_34 : decode cX8_strike 34 = .ok (.iadd, 1) := by decide +kernel
theorem dX8_strike_35 : decode cX8_strike 35 = .ok (.iload_n 2, 1) := by decide +kernel
theorem dX8_strike_36 : decode cX8_strike 36 = .ok (.invokevirtual 107, 3) := by decide +kernel
theorem dX8_strike_39 : decode cX8_strike 39 = .ok (.iinc 2 1, 3) := by decide +kernel
theorem dX8_strike_42 : decode cX8_strike 42 = .ok (.goto (-19), 3) := by decide +kernel
theorem dX8_strike_45 : decode cX8_strike 45 = .ok (.aload_n 0, 1) := by decide +kernel
theorem dX8_strike_46 : decode cX8_strike 46 = .ok (.aload_n 0, 1) := by decide +kernel
theorem dX8_strike_47 : decode cX8_strike 47 = .ok (.getfield 97, 3) := by decide +kernel
theorem dX8_strike_50 : decode cX8_strike 50 = .ok (.ifCond .ne 7, 3) := by decide +kernel
theorem dX8_strike_53 : decode cX8_strike 53 = .ok (.iconst 0, 1) := by decide +kernel
theorem dX8_strike_54 : decode cX8_strike 54 = .ok (.goto 7, 3) := by decide +kernel
theorem dX8_strike_57 : decode cX8_strike 57 = .ok (.aload_n 0, 1) := by decide +kernel
theorem dX8_strike_58 : decode cX8_strike 58 = .ok (.getfield 100, 3) := by decide +kernel
theorem dX8_strike_61 : decode cX8_strike 61 = .ok (.putfield 100, 3) := by decide +kernel
theorem dX8_strike_64 : decode cX8_strike 64 = .ok (.aload_n 0, 1) := by decide +kernel
theorem dX8_strike_65 : decode cX8_strike 65 = .ok (.invokevirtual 62, 3) := by decide +kernel
theorem dX8_strike_68 : decode cX8_strike 68 = .ok (.aload_n 0, 1) := by decide +kernel
theorem dX8_strike_69 : decode cX8_strike 69 = .ok (.dup, 1) := by decide +kernel
theorem dX8_strike_70 : decode cX8_strike 70 = .ok (.getfield 127, 3) := by decide +kernel
theorem dX8_strike_73 : decode cX8_strike 73 = .ok (.iconst 1, 1) := by decide +kernel
theorem dX8_strike_74 : decode cX8_strike 74 = .ok (.iadd, 1) := by decide +kernel
theorem dX8_strike_75 : decode cX8_strike 75 = .ok (.putfield 127, 3) := by decide +kernel
theorem dX8_strike_78 : decode cX8_strike 78 = .ok (.aload_n 0, 1) := by decide +kernel
theorem dX8_strike_79 : decode cX8_strike 79 = .ok (.getfield 97, 3) := by decide +kernel
theorem dX8_strike_82 : decode cX8_strike 82 = .ok (.ireturn, 1) := by decide +kernel
theorem dX8_weigh_0 : decode cX8_weigh 0 = .ok (.aload_n 0, 1) := by decide +kernel
theorem dX8_weigh_1 : decode cX8_weigh 1 = .ok (.iload_n 1, 1) := by decide +kernel
theorem dX8_weigh_2 : decode cX8_weigh 2 = .ok (.invokevirtual 124, 3) := by decide +kernel
theorem dX8_weigh_5 : decode cX8_weigh 5 = .ok (.ifCond .ne 6, 3) := by decide +kernel
theorem dX8_weigh_8 : decode cX8_weigh 8 = .ok (.bipush (-101), 2) := by decide +kernel
theorem dX8_weigh_10 : decode cX8_weigh 10 = .ok (.ireturn, 1) := by decide +kernel
theorem dX8_weigh_11 : decode cX8_weigh 11 = .ok (.iload_n 2, 1) := by decide +kernel
theorem dX8_weigh_12 : decode cX8_weigh 12 = .ok (.iconst 1, 1) := by decide +kernel
theorem dX8_weigh_13 : decode cX8_weigh 13 = .ok (.bipush 9, 2) := by decide +kernel
theorem dX8_weigh_15 : decode cX8_weigh 15 = .ok (.invokestatic 65, 3) := by decide +kernel
theorem dX8_weigh_18 : decode cX8_weigh 18 = .ok (.ifCond .ne 6, 3) := by decide +kernel
theorem dX8_weigh_21 : decode cX8_weigh 21 = .ok (.bipush (-102), 2) := by decide +kernel
theorem dX8_weigh_23 : decode cX8_weigh 23 = .ok (.ireturn, 1) := by decide +kernel
theorem dX8_weigh_24 : decode cX8_weigh 24 = .ok (.aload_n 0, 1) := by decide +kernel
theorem dX8_weigh_25 : decode cX8_weigh 25 = .ok (.getfield 13, 3) := by decide +kernel
theorem dX8_weigh_28 : decode cX8_weigh 28 = .ok (.iload_n 1, 1) := by decide +kernel
theorem dX8_weigh_29 : decode cX8_weigh 29 = .ok (.iaload, 1) := by decide +kernel
theorem dX8_weigh_30 : decode cX8_weigh 30 = .ok (.istore_n 3, 1) := by decide +kernel
theorem dX8_weigh_31 : decode cX8_weigh 31 = .ok (.aload_n 0, 1) := by decide +kernel
theorem dX8_weigh_32 : decode cX8_weigh 32 = .ok (.getfield 13, 3) := by decide +kernel
theorem dX8_weigh_35 : decode cX8_weigh 35 = .ok (.iload_n 1, 1) := by decide +kernel
theorem dX8_weigh_36 : decode cX8_weigh 36 = .ok (.iload_n 2, 1) := by decide +kernel
theorem dX8_weigh_37 : decode cX8_weigh 37 = .ok (.iastore, 1) := by decide +kernel
theorem dX8_weigh_38 : decode cX8_weigh 38 = .ok (.iload_n 3, 1) := by decide +kernel
theorem dX8_weigh_39 : decode cX8_weigh 39 = .ok (.ireturn, 1) := by decide +kernel
theorem dX8_at_0 : decode cX8_at 0 = .ok (.aload_n 0, 1) := by decide +kernel
theorem dX8_at_1 : decode cX8_at 1 = .ok (.getfield 7, 3) := by decide +kernel
theorem dX8_at_4 : decode cX8_at 4 = .ok (.iconst 4, 1) := by decide +kernel
theorem dX8_at_5 : decode cX8_at 5 = .ok (.iload_n 1, 1) := by decide +kernel
theorem dX8_at_6 : decode cX8_at 6 = .ok (.imul, 1) := by decide +kernel
theorem dX8_at_7 : decode cX8_at 7 = .ok (.iload_n 2, 1) := by decide +kernel
theorem dX8_at_8 : decode cX8_at 8 = .ok (.iadd, 1) := by decide +kernel
theorem dX8_at_9 : decode cX8_at 9 = .ok (.iaload, 1) := by decide +kernel
theorem dX8_at_10 : decode cX8_at 10 = .ok (.ireturn, 1) := by decide +kernel
theorem dX8_alike_0 : decode cX8_alike 0 = .ok (.iconst 0, 1) := by decide +kernel
theorem dX8_alike_1 : decode cX8_alike 1 = .ok (.istore_n 3, 1) := by decide +kernel
theorem dX8_alike_2 : decode cX8_alike 2 = .ok (.iload_n 3, 1) := by decide +kernel
theorem dX8_alike_3 : decode cX8_alike 3 = .ok (.aload_n 0, 1) := by decide +kernel
theorem dX8_alike_4 : decode cX8_alike 4 = .ok (.getfield 100, 3) := by decide +kernel
theorem dX8_alike_7 : decode cX8_alike 7 = .ok (.if_icmp .ge 24, 3) := by decide +kernel
theorem dX8_alike_10 : decode cX8_alike 10 = .ok (.aload_n 0, 1) := by decide +kernel
theorem dX8_alike_11 : decode cX8_alike 11 = .ok (.iload_n 1, 1) := by decide +kernel
theorem dX8_alike_12 : decode cX8_alike 12 = .ok (.iload_n 3, 1) := by decide +kernel
theorem dX8_alike_13 : decode cX8_alike 13 = .ok (.invokevirtual 130, 3) := by decide +kernel
theorem dX8_alike_16 : decode cX8_alike 16 = .ok (.aload_n 0, 1) := by decide +kernel
theorem dX8_alike_17 : decode cX8_alike 17 = .ok (.iload_n 2, 1) := by decide +kernel
theorem dX8_alike_18 : decode cX8_alike 18 = .ok (.iload_n 3, 1) := by decide +kernel
theorem dX8_alike_19 : decode cX8_alike 19 = .ok (.invokevirtual 130, 3) := by decide +kernel
theorem dX8_alike_22 : decode cX8_alike 22 = .ok (.if_icmp .ne 9, 3) := by decide +kernel
theorem dX8_alike_25 : decode cX8_alike 25 = .ok (.iinc 3 1, 3) := by decide +kernel
theorem dX8_alike_28 : decode cX8_alike 28 = .ok (.goto (-26), 3) := by decide +kernel
theorem dX8_alike_31 : decode cX8_alike 31 = .ok (.iload_n 3, 1) := by decide +kernel
theorem dX8_alike_32 : decode cX8_alike 32 = .ok (.ireturn, 1) := by decide +kernel
theorem dX8_beginnings_0 : decode cX8_beginnings 0 = .ok (.aload_n 0, 1) := by decide +kernel
theorem dX8_beginnings_1 : decode cX8_beginnings 1 = .ok (.getfield 97, 3) := by decide +kernel
theorem dX8_beginnings_4 : decode cX8_beginnings 4 = .ok (.ifCond .ne 7, 3) := by decide +kernel
theorem dX8_beginnings_7 : decode cX8_beginnings 7 = .ok (.iconst 0, 1) := by decide +kernel
theorem dX8_beginnings_8 : decode cX8_beginnings 8 = .ok (.goto 4, 3) := by decide +kernel
theorem dX8_beginnings_11 : decode cX8_beginnings 11 = .ok (.iconst 1, 1) := by decide +kernel
theorem dX8_beginnings_12 : decode cX8_beginnings 12 = .ok (.istore_n 1, 1) := by decide +kernel
theorem dX8_beginnings_13 : decode cX8_beginnings 13 = .ok (.iconst 0, 1) := by decide +kernel
theorem dX8_beginnings_14 : decode cX8_beginnings 14 = .ok (.istore_n 2, 1) := by decide +kernel
theorem dX8_beginnings_15 : decode cX8_beginnings 15 = .ok (.iload_n 2, 1) := by decide +kernel
theorem dX8_beginnings_16 : decode cX8_beginnings 16 = .ok (.aload_n 0, 1) := by decide +kernel
theorem dX8_beginnings_17 : decode cX8_beginnings 17 = .ok (.getfield 97, 3) := by decide +kernel
theorem dX8_beginnings_20 : decode cX8_beginnings 20 = .ok (.if_icmp .ge 33, 3) := by decide +kernel
theorem dX8_beginnings_23 : decode cX8_beginnings 23 = .ok (.iload_n 1, 1) := by decide +kernel
theorem dX8_beginnings_24 : decode cX8_beginnings 24 = .ok (.aload_n 0, 1) := by decide +kernel
theorem dX8_beginnings_25 : decode cX8_beginnings 25 = .ok (.getfield 100, 3) := by decide +kernel
theorem dX8_beginnings_28 : decode cX8_beginnings 28 = .ok (.iload_n 2, 1) := by decide +kernel
theorem dX8_beginnings_29 : decode cX8_beginnings 29 = .ok (.ifCond .ne 7, 3) := by decide +kernel
theorem dX8_beginnings_32 : decode cX8_beginnings 32 = .ok (.iconst 0, 1) := by decide +kernel
theorem dX8_beginnings_33 : decode cX8_beginnings 33 = .ok (.goto 11, 3) := by decide +kernel
theorem dX8_beginnings_36 : decode cX8_beginnings 36 = .ok (.aload_n 0, 1) := by decide +kernel
theorem dX8_beginnings_37 : decode cX8_beginnings 37 = .ok (.iload_n 2, 1) := by decide +kernel
theorem dX8_beginnings_38 : decode cX8_beginnings 38 = .ok (.iconst 1, 1) := by decide +kernel
theorem dX8_beginnings_39 : decode cX8_beginnings 39 = .ok (.isub, 1) := by decide +kernel
theorem dX8_beginnings_40 : decode cX8_beginnings 40 = .ok (.iload_n 2, 1) := by decide +kernel
theorem dX8_beginnings_41 : decode cX8_beginnings 41 = .ok (.invokevirtual 134, 3) := by decide +kernel
theorem dX8_beginnings_44 : decode cX8_beginnings 44 = .ok (.isub, 1) := by decide +kernel
theorem dX8_beginnings_45 : decode cX8_beginnings 45 = .ok (.iadd, 1) := by decide +kernel
theorem dX8_beginnings_46 : decode cX8_beginnings 46 = .ok (.istore_n 1, 1) := by decide +kernel
theorem dX8_beginnings_47 : decode cX8_beginnings 47 = .ok (.iinc 2 1, 3) := by decide +kernel
theorem dX8_beginnings_50 : decode cX8_beginnings 50 = .ok (.goto (-35), 3) := by decide +kernel
theorem dX8_beginnings_53 : decode cX8_beginnings 53 = .ok (.iload_n 1, 1) := by decide +kernel
theorem dX8_beginnings_54 : decode cX8_beginnings 54 = .ok (.ireturn, 1) := by decide +kernel
theorem dX8_lettersMany_0 : decode cX8_lettersMany 0 = .ok (.iconst 0, 1) := by decide +kernel
theorem dX8_lettersMany_1 : decode cX8_lettersMany 1 = .ok (.istore_n 1, 1) := by decide +kernel
theorem dX8_lettersMany_2 : decode cX8_lettersMany 2 = .ok (.iconst 0, 1) := by decide +kernel
theorem dX8_lettersMany_3 : decode cX8_lettersMany 3 = .ok (.istore_n 2, 1) := by decide +kernel
theorem dX8_lettersMany_4 : decode cX8_lettersMany 4 = .ok (.iload_n 2, 1) := by decide +kernel
theorem dX8_lettersMany_5 : decode cX8_lettersMany 5 = .ok (.aload_n 0, 1) := by decide +kernel
theorem dX8_lettersMany_6 : decode cX8_lettersMany 6 = .ok (.getfield 97, 3) := by decide +kernel
theorem dX8_lettersMany_9 : decode cX8_lettersMany 9 = .ok (.if_icmp .ge 39, 3) := by decide +kernel
theorem dX8_lettersMany_12 : decode cX8_lettersMany 12 = .ok (.iconst 0, 1) := by decide +kernel
theorem dX8_lettersMany_13 : decode cX8_lettersMany 13 = .ok (.istore_n 3, 1) := by decide +kernel
theorem dX8_lettersMany_14 : decode cX8_lettersMany 14 = .ok (.iload_n 3, 1) := by decide +kernel
theorem dX8_lettersMany_15 : decode cX8_lettersMany 15 = .ok (.aload_n 0, 1) := by decide +kernel
theorem dX8_lettersMany_16 : decode cX8_lettersMany 16 = .ok (.getfield 100, 3) := by decide +kernel
theorem dX8_lettersMany_19 : decode cX8_lettersMany 19 = .ok (.if_icmp .ge 23, 3) := by decide +kernel
theorem dX8_lettersMany_22 : decode cX8_lettersMany 22 = .ok (.iload_n 1, 1) := by decide +kernel
theorem dX8_lettersMany_23 : decode cX8_lettersMany 23 = .ok (.iconst 1, 1) := by decide +kernel
theorem dX8_lettersMany_24 : decode cX8_lettersMany 24 = .ok (.aload_n 0, 1) := by decide +kernel
theorem dX8_lettersMany_25 : decode cX8_lettersMany 25 = .ok (.iload_n 2, 1) := by decide +kernel
theorem dX8_lettersMany_26 : decode cX8_lettersMany 26 = .ok (.iload_n 3, 1) := by decide +kernel
theorem dX8_lettersMany_27 : decode cX8_lettersMany 27 = .ok (.invokevirtual 130, 3) := by decide +kernel
theorem dX8_lettersMany_30 : decode cX8_lettersMany 30 = .ok (.bipush 97, 2) := by decide +kernel
theorem dX8_lettersMany_32 : decode cX8_lettersMany 32 = .ok (.isub, 1) := by decide +kernel
theorem dX8_lettersMany_33 : decode cX8_lettersMany 33 = .ok (.ishl, 1) := by decide +kernel
theorem dX8_lettersMany_34 : decode cX8_lettersMany 34 = .ok (.ior, 1) := by decide +kernel
theorem dX8_lettersMany_35 : decode cX8_lettersMany 35 = .ok (.istore_n 1, 1) := by decide +kernel
theorem dX8_lettersMany_36 : decode cX8_lettersMany 36 = .ok (.iinc 3 1, 3) := by decide +kernel
theorem dX8_lettersMany_39 : decode cX8_lettersMany 39 = .ok (.goto (-25), 3) := by decide +kernel
theorem dX8_lettersMany_42 : decode cX8_lettersMany 42 = .ok (.iinc 2 1, 3) := by decide +kernel
theorem dX8_lettersMany_45 : decode cX8_lettersMany 45 = .ok (.goto (-41), 3) := by decide +kernel
theorem dX8_lettersMany_48 : decode cX8_lettersMany 48 = .ok (.iconst 0, 1) := by decide +kernel
theorem dX8_lettersMany_49 : decode cX8_lettersMany 49 = .ok (.istore_n 2, 1) := by decide +kernel
theorem dX8_lettersMany_50 : decode cX8_lettersMany 50 = .ok (.iconst 0, 1) := by decide +kernel
theorem dX8_lettersMany_51 : decode cX8_lettersMany 51 = .ok (.istore_n 3, 1) := by decide +kernel
theorem dX8_lettersMany_52 : decode cX8_lettersMany 52 = .ok (.iload_n 3, 1) := by decide +kernel
theorem dX8_lettersMany_53 : decode cX8_lettersMany 53 = .ok (.bipush 26, 2) := by decide +kernel
theorem dX8_lettersMany_55 : decode cX8_lettersMany 55 = .ok (.if_icmp .ge 17, 3) := by decide +kernel
theorem dX8_lettersMany_58 : decode cX8_lettersMany 58 = .ok (.iload_n 2, 1) := by decide +kernel
theorem dX8_lettersMany_59 : decode cX8_lettersMany 59 = .ok (.iload_n 1, 1) := by decide +kernel
theorem dX8_lettersMany_60 : decode cX8_lettersMany 60 = .ok (.iload_n 3, 1) := by decide +kernel
theorem dX8_lettersMany_61 : decode cX8_lettersMany 61 = .ok (.ishr, 1) := by decide +kernel
theorem dX8_lettersMany_62 : decode cX8_lettersMany 62 = .ok (.iconst 1, 1) := by decide +kernel
theorem dX8_lettersMany_63 : decode cX8_lettersMany 63 = .ok (.iand, 1) := by decide +kernel
theorem dX8_lettersMany_64 : decode cX8_lettersMany 64 = .ok (.iadd, 1) := by decide +kernel
theorem dX8_lettersMany_65 : decode cX8_lettersMany 65 = .ok (.istore_n 2, 1) := by decide +kernel
theorem dX8_lettersMany_66 : decode cX8_lettersMany 66 = .ok (.iinc 3 1, 3) := by decide +kernel
theorem dX8_lettersMany_69 : decode cX8_lettersMany 69 = .ok (.goto (-17), 3) := by decide +kernel
theorem dX8_lettersMany_72 : decode cX8_lettersMany 72 = .ok (.iload_n 2, 1) := by decide +kernel
theorem dX8_lettersMany_73 : decode cX8_lettersMany 73 = .ok (.ireturn, 1) := by decide +kernel
theorem dX8_weightsAll_0 : decode cX8_weightsAll 0 = .ok (.iconst 0, 1) := by decide +kernel
theorem dX8_weightsAll_1 : decode cX8_weightsAll 1 = .ok (.istore_n 1, 1) := by decide +kernel
theorem dX8_weightsAll_2 : decode cX8_weightsAll 2 = .ok (.iconst 0, 1) := by decide +kernel
theorem dX8_weightsAll_3 : decode cX8_weightsAll 3 = .ok (.istore_n 2, 1) := by decide +kernel
theorem dX8_weightsAll_4 : decode cX8_weightsAll 4 = .ok (.iload_n 2, 1) := by decide +kernel
theorem dX8_weightsAll_5 : decode cX8_weightsAll 5 = .ok (.aload_n 0, 1) := by decide +kernel
theorem dX8_weightsAll_6 : decode cX8_weightsAll 6 = .ok (.getfield 97, 3) := by decide +kernel
theorem dX8_weightsAll_9 : decode cX8_weightsAll 9 = .ok (.if_icmp .ge 18, 3) := by decide +kernel
theorem dX8_weightsAll_12 : decode cX8_weightsAll 12 = .ok (.iload_n 1, 1) := by decide +kernel
theorem dX8_weightsAll_13 : decode cX8_weightsAll 13 = .ok (.aload_n 0, 1) := by decide +kernel
theorem dX8_weightsAll_14 : decode cX8_weightsAll 14 = .ok (.getfield 13, 3) := by decide +kernel
theorem dX8_weightsAll_17 : decode cX8_weightsAll 17 = .ok (.iload_n 2, 1) := by decide +kernel
theorem dX8_weightsAll_18 : decode cX8_weightsAll 18 = .ok (.iaload, 1) := by decide +kernel
theorem dX8_weightsAll_19 : decode cX8_weightsAll 19 = .ok (.iadd, 1) := by decide +kernel
theorem dX8_weightsAll_20 : decode cX8_weightsAll 20 = .ok (.istore_n 1, 1) := by decide +kernel
theorem dX8_weightsAll_21 : decode cX8_weightsAll 21 = .ok (.iinc 2 1, 3) := by decide +kernel
theorem dX8_weightsAll_24 : decode cX8_weightsAll 24 = .ok (.goto (-20), 3) := by decide +kernel
theorem dX8_weightsAll_27 : decode cX8_weightsAll 27 = .ok (.iload_n 1, 1) := by decide +kernel
theorem dX8_weightsAll_28 : decode cX8_weightsAll 28 = .ok (.ireturn, 1) := by decide +kernel
theorem dX8_mirrorOf_0 : decode cX8_mirrorOf 0 = .ok (.iconst 0, 1) := by decide +kernel
theorem dX8_mirrorOf_1 : decode cX8_mirrorOf 1 = .ok (.istore_n 2, 1) := by decide +kernel
theorem dX8_mirrorOf_2 : decode cX8_mirrorOf 2 = .ok (.iload_n 2, 1) := by decide +kernel
theorem dX8_mirrorOf_3 : decode cX8_mirrorOf 3 = .ok (.aload_n 0, 1) := by decide +kernel
theorem dX8_mirrorOf_4 : decode cX8_mirrorOf 4 = .ok (.getfield 97, 3) := by decide +kernel
theorem dX8_mirrorOf_7 : decode cX8_mirrorOf 7 = .ok (.if_icmp .ge 69, 3) := by decide +kernel
theorem dX8_mirrorOf_10 : decode cX8_mirrorOf 10 = .ok (.iconst 1, 1) := by decide +kernel
theorem dX8_mirrorOf_11 : decode cX8_mirrorOf 11 = .ok (.istore_n 3, 1) := by decide +kernel
theorem dX8_mirrorOf_12 : decode cX8_mirrorOf 12 = .ok (.iconst 0, 1) := by decide +kernel
theorem dX8_mirrorOf_13 : decode cX8_mirrorOf 13 = .ok (.istore 4, 2) := by decide +kernel
theorem dX8_mirrorOf_15 : decode cX8_mirrorOf 15 = .ok (.iload 4, 2) := by decide +kernel
theorem dX8_mirrorOf_17 : decode cX8_mirrorOf 17 = .ok (.aload_n 0, 1) := by decide +kernel
theorem dX8_mirrorOf_18 : decode cX8_mirrorOf 18 = .ok (.getfield 100, 3) := by decide +kernel
theorem dX8_mirrorOf_21 : decode cX8_mirrorOf 21 = .ok (.if_icmp .ge 43, 3) := by decide +kernel
theorem dX8_mirrorOf_24 : decode cX8_mirrorOf 24 = .ok (.iload_n 3, 1) := by decide +kernel
theorem dX8_mirrorOf_25 : decode cX8_mirrorOf 25 = .ok (.ifCond .eq 31, 3) := by decide +kernel
theorem dX8_mirrorOf_28 : decode cX8_mirrorOf 28 = .ok (.aload_n 0, 1) := by decide +kernel
theorem dX8_mirrorOf_29 : decode cX8_mirrorOf 29 = .ok (.iload_n 2, 1) := by decide +kernel
theorem dX8_mirrorOf_30 : decode cX8_mirrorOf 30 = .ok (.iload 4, 2) := by decide +kernel
theorem dX8_mirrorOf_32 : decode cX8_mirrorOf 32 = .ok (.invokevirtual 130, 3) := by decide +kernel
theorem dX8_mirrorOf_35 : decode cX8_mirrorOf 35 = .ok (.aload_n 0, 1) := by decide +kernel
theorem dX8_mirrorOf_36 : decode cX8_mirrorOf 36 = .ok (.iload_n 1, 1) := by decide +kernel
theorem dX8_mirrorOf_37 : decode cX8_mirrorOf 37 = .ok (.aload_n 0, 1) := by decide +kernel
theorem dX8_mirrorOf_38 : decode cX8_mirrorOf 38 = .ok (.getfield 100, 3) := by decide +kernel
theorem dX8_mirrorOf_41 : decode cX8_mirrorOf 41 = .ok (.iconst 1, 1) := by decide +kernel
theorem dX8_mirrorOf_42 : decode cX8_mirrorOf 42 = .ok (.isub, 1) := by decide +kernel
theorem dX8_mirrorOf_43 : decode cX8_mirrorOf 43 = .ok (.iload 4, 2) := by decide +kernel
theorem dX8_mirrorOf_45 : decode cX8_mirrorOf 45 = .ok (.isub, 1) := by decide +kernel
theorem dX8_mirrorOf_46 : decode cX8_mirrorOf 46 = .ok (.invokevirtual 130, 3) := by decide +kernel
theorem dX8_mirrorOf_49 : decode cX8_mirrorOf 49 = .ok (.if_icmp .ne 7, 3) := by decide +kernel
theorem dX8_mirrorOf_52 : decode cX8_mirrorOf 52 = .ok (.iconst 1, 1) := by decide +kernel
theorem dX8_mirrorOf_53 : decode cX8_mirrorOf 53 = .ok (.goto 4, 3) := by decide +kernel
theorem dX8_mirrorOf_56 : decode cX8_mirrorOf 56 = .ok (.iconst 0, 1) := by decide +kernel
theorem dX8_mirrorOf_57 : decode cX8_mirrorOf 57 = .ok (.istore_n 3, 1) := by decide +kernel
theorem dX8_mirrorOf_58 : decode cX8_mirrorOf 58 = .ok (.iinc 4 1, 3) := by decide +kernel
theorem dX8_mirrorOf_61 : decode cX8_mirrorOf 61 = .ok (.goto (-46), 3) := by decide +kernel
theorem dX8_mirrorOf_64 : decode cX8_mirrorOf 64 = .ok (.iload_n 3, 1) := by decide +kernel
theorem dX8_mirrorOf_65 : decode cX8_mirrorOf 65 = .ok (.ifCond .eq 5, 3) := by decide +kernel
theorem dX8_mirrorOf_68 : decode cX8_mirrorOf 68 = .ok (.iload_n 2, 1) := by decide +kernel
theorem dX8_mirrorOf_69 : decode cX8_mirrorOf 69 = .ok (.ireturn, 1) := by decide +kernel
theorem dX8_mirrorOf_70 : decode cX8_mirrorOf 70 = .ok (.iinc 2 1, 3) := by decide +kernel
theorem dX8_mirrorOf_73 : decode cX8_mirrorOf 73 = .ok (.goto (-71), 3) := by decide +kernel
theorem dX8_mirrorOf_76 : decode cX8_mirrorOf 76 = .ok (.iconst (-1), 1) := by decide +kernel
theorem dX8_mirrorOf_77 : decode cX8_mirrorOf 77 = .ok (.ireturn, 1) := by decide +kernel
theorem dX8_mirrored_0 : decode cX8_mirrored 0 = .ok (.iconst 0, 1) := by decide +kernel
theorem dX8_mirrored_1 : decode cX8_mirrored 1 = .ok (.istore_n 1, 1) := by decide +kernel
theorem dX8_mirrored_2 : decode cX8_mirrored 2 = .ok (.iconst 0, 1) := by decide +kernel
theorem dX8_mirrored_3 : decode cX8_mirrored 3 = .ok (.istore_n 2, 1) := by decide +kernel
theorem dX8_mirrored_4 : decode cX8_mirrored 4 = .ok (.iload_n 2, 1) := by decide +kernel
theorem dX8_mirrored_5 : decode cX8_mirrored 5 = .ok (.aload_n 0, 1) := by decide +kernel
theorem dX8_mirrored_6 : decode cX8_mirrored 6 = .ok (.getfield 97, 3) := by decide +kernel
theorem dX8_mirrored_9 : decode cX8_mirrored 9 = .ok (.if_icmp .ge 26, 3) := by decide +kernel
theorem dX8_mirrored_12 : decode cX8_mirrored 12 = .ok (.iload_n 1, 1) := by decide +kernel
theorem dX8_mirrored_13 : decode cX8_mirrored 13 = .ok (.aload_n 0, 1) := by decide +kernel
theorem dX8_mirrored_14 : decode cX8_mirrored 14 = .ok (.iload_n 2, 1) := by decide +kernel
theorem dX8_mirrored_15 : decode cX8_mirrored 15 = .ok (.invokevirtual 137, 3) := by decide +kernel
theorem dX8_mirrored_18 : decode cX8_mirrored 18 = .ok (.iconst (-1), 1) := by decide +kernel
theorem dX8_mirrored_19 : decode cX8_mirrored 19 = .ok (.if_icmp .ne 7, 3) := by decide +kernel
theorem dX8_mirrored_22 : decode cX8_mirrored 22 = .ok (.iconst 0, 1) := by decide +kernel
theorem dX8_mirrored_23 : decode cX8_mirrored 23 = .ok (.goto 4, 3) := by decide +kernel
theorem dX8_mirrored_26 : decode cX8_mirrored 26 = .ok (.iconst 1, 1) := by decide +kernel
theorem dX8_mirrored_27 : decode cX8_mirrored 27 = .ok (.iadd, 1) := by decide +kernel
theorem dX8_mirrored_28 : decode cX8_mirrored 28 = .ok (.istore_n 1, 1) := by decide +kernel
theorem dX8_mirrored_29 : decode cX8_mirrored 29 = .ok (.iinc 2 1, 3) := by decide +kernel
theorem dX8_mirrored_32 : decode cX8_mirrored 32 = .ok (.goto (-28), 3) := by decide +kernel
theorem dX8_mirrored_35 : decode cX8_mirrored 35 = .ok (.iload_n 1, 1) := by decide +kernel
theorem dX8_mirrored_36 : decode cX8_mirrored 36 = .ok (.ireturn, 1) := by decide +kernel
theorem dX8_aboutNow_0 : decode cX8_aboutNow 0 = .ok (.iload_n 1, 1) := by decide +kernel
theorem dX8_aboutNow_1 : decode cX8_aboutNow 1 = .ok (.tableswitch 60 0 4 #[35, 40, 45, 50, 55], 35) := by decide +kernel
theorem dX8_aboutNow_36 : decode cX8_aboutNow 36 = .ok (.aload_n 0, 1) := by decide +kernel
theorem dX8_aboutNow_37 : decode cX8_aboutNow 37 = .ok (.getfield 100, 3) := by decide +kernel
theorem dX8_aboutNow_40 : decode cX8_aboutNow 40 = .ok (.ireturn, 1) := by decide +kernel
theorem dX8_aboutNow_41 : decode cX8_aboutNow 41 = .ok (.aload_n 0, 1) := by decide +kernel
theorem dX8_aboutNow_42 : decode cX8_aboutNow 42 = .ok (.getfield 97, 3) := by decide +kernel
theorem dX8_aboutNow_45 : decode cX8_aboutNow 45 = .ok (.ireturn, 1) := by decide +kernel
theorem dX8_aboutNow_46 : decode cX8_aboutNow 46 = .ok (.aload_n 0, 1) := by decide +kernel
theorem dX8_aboutNow_47 : decode cX8_aboutNow 47 = .ok (.invokevirtual 141, 3) := by decide +kernel
theorem dX8_aboutNow_50 : decode cX8_aboutNow 50 = .ok (.ireturn, 1) := by decide +kernel
theorem dX8_aboutNow_51 : decode cX8_aboutNow 51 = .ok (.aload_n 0, 1) := by decide +kernel
theorem dX8_aboutNow_52 : decode cX8_aboutNow 52 = .ok (.invokevirtual 144, 3) := by decide +kernel
theorem dX8_aboutNow_55 : decode cX8_aboutNow 55 = .ok (.ireturn, 1) := by decide +kernel
theorem dX8_aboutNow_56 : decode cX8_aboutNow 56 = .ok (.aload_n 0, 1) := by decide +kernel
theorem dX8_aboutNow_57 : decode cX8_aboutNow 57 = .ok (.invokevirtual 147, 3) := by decide +kernel
theorem dX8_aboutNow_60 : decode cX8_aboutNow 60 = .ok (.ireturn, 1) := by decide +kernel
theorem dX8_aboutNow_61 : decode cX8_aboutNow 61 = .ok (.aload_n 0, 1) := by decide +kernel
theorem dX8_aboutNow_62 : decode cX8_aboutNow 62 = .ok (.invokevirtual 150, 3) := by decide +kernel
theorem dX8_aboutNow_65 : decode cX8_aboutNow 65 = .ok (.ireturn, 1) := by decide +kernel
theorem dX8_about_0 : decode cX8_about 0 = .ok (.iload_n 1, 1) := by decide +kernel
theorem dX8_about_1 : decode cX8_about 1 = .ok (.iconst 0, 1) := by decide +kernel
theorem dX8_about_2 : decode cX8_about 2 = .ok (.iconst 5, 1) := by decide +kernel
theorem dX8_about_3 : decode cX8_about 3 = .ok (.invokestatic 65, 3) := by decide +kernel
theorem dX8_about_6 : decode cX8_about 6 = .ok (.ifCond .eq 11, 3) := by decide +kernel
theorem dX8_about_9 : decode cX8_about 9 = .ok (.aload_n 0, 1) := by decide +kernel
theorem dX8_about_10 : decode cX8_about 10 = .ok (.iload_n 1, 1) := by decide +kernel
theorem dX8_about_11 : decode cX8_about 11 = .ok (.invokevirtual 153, 3) := by decide +kernel
theorem dX8_about_14 : decode cX8_about 14 = .ok (.goto 5, 3) := by decide +kernel
theorem dX8_about_17 : decode cX8_about 17 = .ok (.bipush (-102), 2) := by decide +kernel
theorem dX8_about_19 : decode cX8_about 19 = .ok (.ireturn, 1) := by decide +kernel
theorem dX8_sign_0 : decode cX8_sign 0 = .ok (.aload_n 0, 1) := by decide +kernel
theorem dX8_sign_1 : decode cX8_sign 1 = .ok (.iload_n 1, 1) := by decide +kernel
theorem dX8_sign_2 : decode cX8_sign 2 = .ok (.invokevirtual 124, 3) := by decide +kernel
theorem dX8_sign_5 : decode cX8_sign 5 = .ok (.ifCond .eq 26, 3) := by decide +kernel
theorem dX8_sign_8 : decode cX8_sign 8 = .ok (.iload_n 2, 1) := by decide +kernel
theorem dX8_sign_9 : decode cX8_sign 9 = .ok (.iconst 0, 1) := by decide +kernel
theorem dX8_sign_10 : decode cX8_sign 10 = .ok (.aload_n 0, 1) := by decide +kernel
theorem dX8_sign_11 : decode cX8_sign 11 = .ok (.getfield 100, 3) := by decide +kernel
theorem dX8_sign_14 : decode cX8_sign 14 = .ok (.iconst 1, 1) := by decide +kernel
theorem dX8_sign_15 : decode cX8_sign 15 = .ok (.isub, 1) := by decide +kernel
theorem dX8_sign_16 : decode cX8_sign 16 = .ok (.invokestatic 65, 3) := by decide +kernel
theorem dX8_sign_19 : decode cX8_sign 19 = .ok (.ifCond .eq 12, 3) := by decide +kernel
theorem dX8_sign_22 : decode cX8_sign 22 = .ok (.aload_n 0, 1) := by decide +kernel
theorem dX8_sign_23 : decode cX8_sign 23 = .ok (.iload_n 1, 1) := by decide +kernel
theorem dX8_sign_24 : decode cX8_sign 24 = .ok (.iload_n 2, 1) := by decide +kernel
theorem dX8_sign_25 : decode cX8_sign 25 = .ok (.invokevirtual 130, 3) := by decide +kernel
theorem dX8_sign_28 : decode cX8_sign 28 = .ok (.goto 5, 3) := by decide +kernel
theorem dX8_sign_31 : decode cX8_sign 31 = .ok (.bipush (-101), 2) := by decide +kernel
theorem dX8_sign_33 : decode cX8_sign 33 = .ok (.ireturn, 1) := by decide +kernel
theorem dX8_beginsNow_0 : decode cX8_beginsNow 0 = .ok (.iconst 0, 1) := by decide +kernel
theorem dX8_beginsNow_1 : decode cX8_beginsNow 1 = .ok (.istore_n 3, 1) := by decide +kernel
theorem dX8_beginsNow_2 : decode cX8_beginsNow 2 = .ok (.iconst 0, 1) := by decide +kernel
theorem dX8_beginsNow_3 : decode cX8_beginsNow 3 = .ok (.istore 4, 2) := by decide +kernel
theorem dX8_beginsNow_5 : decode cX8_beginsNow 5 = .ok (.iload 4, 2) := by decide +kernel
theorem dX8_beginsNow_7 : decode cX8_beginsNow 7 = .ok (.aload_n 0, 1) := by decide +kernel
theorem dX8_beginsNow_8 : decode cX8_beginsNow 8 = .ok (.getfield 97, 3) := by decide +kernel
theorem dX8_beginsNow_11 : decode cX8_beginsNow 11 = .ok (.if_icmp .ge 28, 3) := by decide +kernel
theorem dX8_beginsNow_14 : decode cX8_beginsNow 14 = .ok (.iload_n 3, 1) := by decide +kernel
theorem dX8_beginsNow_15 : decode cX8_beginsNow 15 = .ok (.aload_n 0, 1) := by decide +kernel
theorem dX8_beginsNow_16 : decode cX8_beginsNow 16 = .ok (.iload_n 1, 1) := by decide +kernel
theorem dX8_beginsNow_17 : decode cX8_beginsNow 17 = .ok (.iload 4, 2) := by decide +kernel
theorem dX8_beginsNow_19 : decode cX8_beginsNow 19 = .ok (.invokevirtual 134, 3) := by decide +kernel
theorem dX8_beginsNow_22 : decode cX8_beginsNow 22 = .ok (.iload_n 2, 1) := by decide +kernel
theorem dX8_beginsNow_23 : decode cX8_beginsNow 23 = .ok (.if_icmp .lt 7, 3) := by decide +kernel
theorem dX8_beginsNow_26 : decode cX8_beginsNow 26 = .ok (.iconst 1, 1) := by decide +kernel
theorem dX8_beginsNow_27 : decode cX8_beginsNow 27 = .ok (.goto 4, 3) := by decide +kernel
theorem dX8_beginsNow_30 : decode cX8_beginsNow 30 = .ok (.iconst 0, 1) := by decide +kernel
theorem dX8_beginsNow_31 : decode cX8_beginsNow 31 = .ok (.iadd, 1) := by decide +kernel
theorem dX8_beginsNow_32 : decode cX8_beginsNow 32 = .ok (.istore_n 3, 1) := by decide +kernel
theorem dX8_beginsNow_33 : decode cX8_beginsNow 33 = .ok (.iinc 4 1, 3) := by decide +kernel
theorem dX8_beginsNow_36 : decode cX8_beginsNow 36 = .ok (.goto (-31), 3) := by decide +kernel
theorem dX8_beginsNow_39 : decode cX8_beginsNow 39 = .ok (.iload_n 3, 1) := by decide +kernel
theorem dX8_beginsNow_40 : decode cX8_beginsNow 40 = .ok (.ireturn, 1) := by decide +kernel
theorem dX8_begins_0 : decode cX8_begins 0 = .ok (.aload_n 0, 1) := by decide +kernel
theorem dX8_begins_1 : decode cX8_begins 1 = .ok (.iload_n 1, 1) := by decide +kernel
theorem dX8_begins_2 : decode cX8_begins 2 = .ok (.invokevirtual 124, 3) := by decide +kernel
theorem dX8_begins_5 : decode cX8_begins 5 = .ok (.ifCond .ne 6, 3) := by decide +kernel
theorem dX8_begins_8 : decode cX8_begins 8 = .ok (.bipush (-101), 2) := by decide +kernel
theorem dX8_begins_10 : decode cX8_begins 10 = .ok (.ireturn, 1) := by decide +kernel
theorem dX8_begins_11 : decode cX8_begins 11 = .ok (.iload_n 2, 1) := by decide +kernel
theorem dX8_begins_12 : decode cX8_begins 12 = .ok (.iconst 0, 1) := by decide +kernel
theorem dX8_begins_13 : decode cX8_begins 13 = .ok (.aload_n 0, 1) := by decide +kernel
theorem dX8_begins_14 : decode cX8_begins 14 = .ok (.getfield 100, 3) := by decide +kernel
theorem dX8_begins_17 : decode cX8_begins 17 = .ok (.invokestatic 65, 3) := by decide +kernel
theorem dX8_begins_20 : decode cX8_begins 20 = .ok (.ifCond .eq 12, 3) := by decide +kernel
theorem dX8_begins_23 : decode cX8_begins 23 = .ok (.aload_n 0, 1) := by decide +kernel
theorem dX8_begins_24 : decode cX8_begins 24 = .ok (.iload_n 1, 1) := by decide +kernel
theorem dX8_begins_25 : decode cX8_begins 25 = .ok (.iload_n 2, 1) := by decide +kernel
theorem dX8_begins_26 : decode cX8_begins 26 = .ok (.invokevirtual 156, 3) := by decide +kernel
theorem dX8_begins_29 : decode cX8_begins 29 = .ok (.goto 5, 3) := by decide +kernel
theorem dX8_begins_32 : decode cX8_begins 32 = .ok (.bipush (-102), 2) := by decide +kernel
theorem dX8_begins_34 : decode cX8_begins 34 = .ok (.ireturn, 1) := by decide +kernel
theorem dX8_begin_0 : decode cX8_begin 0 = .ok (.iconst 0, 1) := by decide +kernel
theorem dX8_begin_1 : decode cX8_begin 1 = .ok (.istore_n 1, 1) := by decide +kernel
theorem dX8_begin_2 : decode cX8_begin 2 = .ok (.iload_n 1, 1) := by decide +kernel
theorem dX8_begin_3 : decode cX8_begin 3 = .ok (.iconst 4, 1) := by decide +kernel
theorem dX8_begin_4 : decode cX8_begin 4 = .ok (.if_icmp .ge 16, 3) := by decide +kernel
theorem dX8_begin_7 : decode cX8_begin 7 = .ok (.aload_n 0, 1) := by decide +kernel
theorem dX8_begin_8 : decode cX8_begin 8 = .ok (.getfield 25, 3) := by decide +kernel
theorem dX8_begin_11 : decode cX8_begin 11 = .ok (.iload_n 1, 1) := by decide +kernel
theorem dX8_begin_12 : decode cX8_begin 12 = .ok (.iconst 0, 1) := by decide +kernel
theorem dX8_begin_13 : decode cX8_begin 13 = .ok (.iastore, 1) := by decide +kernel
theorem dX8_begin_14 : decode cX8_begin 14 = .ok (.iinc 1 1, 3) := by decide +kernel
theorem dX8_begin_17 : decode cX8_begin 17 = .ok (.goto (-15), 3) := by decide +kernel
theorem dX8_begin_20 : decode cX8_begin 20 = .ok (.return_, 1) := by decide +kernel
theorem dX8_next_0 : decode cX8_next 0 = .ok (.aload_n 0, 1) := by decide +kernel
theorem dX8_next_1 : decode cX8_next 1 = .ok (.getfield 100, 3) := by decide +kernel
theorem dX8_next_4 : decode cX8_next 4 = .ok (.iconst 1, 1) := by decide +kernel
theorem dX8_next_5 : decode cX8_next 5 = .ok (.isub, 1) := by decide +kernel
theorem dX8_next_6 : decode cX8_next 6 = .ok (.istore_n 1, 1) := by decide +kernel
theorem dX8_next_7 : decode cX8_next 7 = .ok (.iload_n 1, 1) := by decide +kernel
theorem dX8_next_8 : decode cX8_next 8 = .ok (.ifCond .lt 31, 3) := by decide +kernel
theorem dX8_next_11 : decode cX8_next 11 = .ok (.aload_n 0, 1) := by decide +kernel
theorem dX8_next_12 : decode cX8_next 12 = .ok (.getfield 25, 3) := by decide +kernel
theorem dX8_next_15 : decode cX8_next 15 = .ok (.iload_n 1, 1) := by decide +kernel
theorem dX8_next_16 : decode cX8_next 16 = .ok (.iaload, 1) := by decide +kernel
theorem dX8_next_17 : decode cX8_next 17 = .ok (.aload_n 0, 1) := by decide +kernel
theorem dX8_next_18 : decode cX8_next 18 = .ok (.getfield 97, 3) := by decide +kernel
theorem dX8_next_21 : decode cX8_next 21 = .ok (.iconst 1, 1) := by decide +kernel
theorem dX8_next_22 : decode cX8_next 22 = .ok (.isub, 1) := by decide +kernel
theorem dX8_next_23 : decode cX8_next 23 = .ok (.if_icmp .ne 16, 3) := by decide +kernel
theorem dX8_next_26 : decode cX8_next 26 = .ok (.aload_n 0, 1) := by decide +kernel
theorem dX8_next_27 : decode cX8_next 27 = .ok (.getfield 25, 3) := by decide +kernel
theorem dX8_next_30 : decode cX8_next 30 = .ok (.iload_n 1, 1) := by decide +kernel
theorem dX8_next_31 : decode cX8_next 31 = .ok (.iconst 0, 1) := by decide +kernel
theorem dX8_next_32 : decode cX8_next 32 = .ok (.iastore, 1) := by decide +kernel
theorem dX8_next_33 : decode cX8_next 33 = .ok (.iinc 1 (-1), 3) := by decide +kernel
theorem dX8_next_36 : decode cX8_next 36 = .ok (.goto (-29), 3) := by decide +kernel
theorem dX8_next_39 : decode cX8_next 39 = .ok (.iload_n 1, 1) := by decide +kernel
theorem dX8_next_40 : decode cX8_next 40 = .ok (.ifCond .ge 5, 3) := by decide +kernel
theorem dX8_next_43 : decode cX8_next 43 = .ok (.iconst 0, 1) := by decide +kernel
theorem dX8_next_44 : decode cX8_next 44 = .ok (.ireturn, 1) := by decide +kernel
theorem dX8_next_45 : decode cX8_next 45 = .ok (.aload_n 0, 1) := by decide +kernel
theorem dX8_next_46 : decode cX8_next 46 = .ok (.getfield 25, 3) := by decide +kernel
theorem dX8_next_49 : decode cX8_next 49 = .ok (.iload_n 1, 1) := by decide +kernel
theorem dX8_next_50 : decode cX8_next 50 = .ok (.dup2, 1) := by decide +kernel
theorem dX8_next_51 : decode cX8_next 51 = .ok (.iaload, 1) := by decide +kernel
theorem dX8_next_52 : decode cX8_next 52 = .ok (.iconst 1, 1) := by decide +kernel
theorem dX8_next_53 : decode cX8_next 53 = .ok (.iadd, 1) := by decide +kernel
theorem dX8_next_54 : decode cX8_next 54 = .ok (.iastore, 1) := by decide +kernel
theorem dX8_next_55 : decode cX8_next 55 = .ok (.iconst 1, 1) := by decide +kernel
theorem dX8_next_56 : decode cX8_next 56 = .ok (.ireturn, 1) := by decide +kernel
theorem dX8_wordOfColumn_0 : decode cX8_wordOfColumn 0 = .ok (.iconst 0, 1) := by decide +kernel
theorem dX8_wordOfColumn_1 : decode cX8_wordOfColumn 1 = .ok (.istore_n 2, 1) := by decide +kernel
theorem dX8_wordOfColumn_2 : decode cX8_wordOfColumn 2 = .ok (.iload_n 2, 1) := by decide +kernel
theorem dX8_wordOfColumn_3 : decode cX8_wordOfColumn 3 = .ok (.aload_n 0, 1) := by decide +kernel
theorem dX8_wordOfColumn_4 : decode cX8_wordOfColumn 4 = .ok (.getfield 97, 3) := by decide +kernel
theorem dX8_wordOfColumn_7 : decode cX8_wordOfColumn 7 = .ok (.if_icmp .ge 67, 3) := by decide +kernel
theorem dX8_wordOfColumn_10 : decode cX8_wordOfColumn 10 = .ok (.iconst 1, 1) := by decide +kernel
theorem dX8_wordOfColumn_11 : decode cX8_wordOfColumn 11 = .ok (.istore_n 3, 1) := by decide +kernel
theorem dX8_wordOfColumn_12 : decode cX8_wordOfColumn 12 = .ok (.iconst 0, 1) := by decide +kernel
theorem dX8_wordOfColumn_13 : decode cX8_wordOfColumn 13 = .ok (.istore 4, 2) := by decide +kernel
theorem dX8_wordOfColumn_15 : decode cX8_wordOfColumn 15 = .ok (.iload 4, 2) := by decide +kernel
theorem dX8_wordOfColumn_17 : decode cX8_wordOfColumn 17 = .ok (.aload_n 0, 1) := by decide +kernel
theorem dX8_wordOfColumn_18 : decode cX8_wordOfColumn 18 = .ok (.getfield 100, 3) := by decide +kernel
theorem dX8_wordOfColumn_21 : decode cX8_wordOfColumn 21 = .ok (.if_icmp .ge 41, 3) := by decide +kernel
theorem dX8_wordOfColumn_24 : decode cX8_wordOfColumn 24 = .ok (.iload_n 3, 1) := by decide +kernel
theorem dX8_wordOfColumn_25 : decode cX8_wordOfColumn 25 = .ok (.ifCond .eq 37, 3) := by decide +kernel
theorem dX8_wordOfColumn_28 : decode cX8_wordOfColumn 28 = .ok (.aload_n 0, 1) := by decide +kernel
theorem dX8_wordOfColumn_29 : decode cX8_wordOfColumn 29 = .ok (.aload_n 0, 1) := by decide +kernel
theorem dX8_wordOfColumn_30 : decode cX8_wordOfColumn 30 = .ok (.getfield 25, 3) := by decide +kernel
theorem dX8_wordOfColumn_33 : decode cX8_wordOfColumn 33 = .ok (.iload 4, 2) := by decide +kernel
theorem dX8_wordOfColumn_35 : decode cX8_wordOfColumn 35 = .ok (.iaload, 1) := by decide +kernel
theorem dX8_wordOfColumn_36 : decode cX8_wordOfColumn 36 = .ok (.iload_n 1, 1) := by decide +kernel
theorem dX8_wordOfColumn_37 : decode cX8_wordOfColumn 37 = .ok (.invokevirtual 130, 3) := by decide +kernel
theorem dX8_wordOfColumn_40 : decode cX8_wordOfColumn 40 = .ok (.aload_n 0, 1) := by decide +kernel
theorem dX8_wordOfColumn_41 : decode cX8_wordOfColumn 41 = .ok (.iload_n 2, 1) := by decide +kernel
theorem dX8_wordOfColumn_42 : decode cX8_wordOfColumn 42 = .ok (.iload 4, 2) := by decide +kernel
theorem dX8_wordOfColumn_44 : decode cX8_wordOfColumn 44 = .ok (.invokevirtual 130, 3) := by decide +kernel
theorem dX8_wordOfColumn_47 : decode cX8_wordOfColumn 47 = .ok (.if_icmp .ne 7, 3) := by decide +kernel
theorem dX8_wordOfColumn_50 : decode cX8_wordOfColumn 50 = .ok (.iconst 1, 1) := by decide +kernel
theorem dX8_wordOfColumn_51 : decode cX8_wordOfColumn 51 = .ok (.goto 4, 3) := by decide +kernel
theorem dX8_wordOfColumn_54 : decode cX8_wordOfColumn 54 = .ok (.iconst 0, 1) := by decide +kernel
theorem dX8_wordOfColumn_55 : decode cX8_wordOfColumn 55 = .ok (.istore_n 3, 1) := by decide +kernel
theorem dX8_wordOfColumn_56 : decode cX8_wordOfColumn 56 = .ok (.iinc 4 1, 3) := by decide +kernel
theorem dX8_wordOfColumn_59 : decode cX8_wordOfColumn 59 = .ok (.goto (-44), 3) := by decide +kernel
theorem dX8_wordOfColumn_62 : decode cX8_wordOfColumn 62 = .ok (.iload_n 3, 1) := by decide +kernel
theorem dX8_wordOfColumn_63 : decode cX8_wordOfColumn 63 = .ok (.ifCond .eq 5, 3) := by decide +kernel
theorem dX8_wordOfColumn_66 : decode cX8_wordOfColumn 66 = .ok (.iload_n 2, 1) := by decide +kernel
theorem dX8_wordOfColumn_67 : decode cX8_wordOfColumn 67 = .ok (.ireturn, 1) := by decide +kernel
theorem dX8_wordOfColumn_68 : decode cX8_wordOfColumn 68 = .ok (.iinc 2 1, 3) := by decide +kernel
theorem dX8_wordOfColumn_71 : decode cX8_wordOfColumn 71 = .ok (.goto (-69), 3) := by decide +kernel
theorem dX8_wordOfColumn_74 : decode cX8_wordOfColumn 74 = .ok (.iconst (-1), 1) := by decide +kernel
theorem dX8_wordOfColumn_75 : decode cX8_wordOfColumn 75 = .ok (.ireturn, 1) := by decide +kernel
theorem dX8_isSquare_0 : decode cX8_isSquare 0 = .ok (.iconst 0, 1) := by decide +kernel
theorem dX8_isSquare_1 : decode cX8_isSquare 1 = .ok (.istore_n 1, 1) := by decide +kernel
theorem dX8_isSquare_2 : decode cX8_isSquare 2 = .ok (.iload_n 1, 1) := by decide +kernel
theorem dX8_isSquare_3 : decode cX8_isSquare 3 = .ok (.aload_n 0, 1) := by decide +kernel
theorem dX8_isSquare_4 : decode cX8_isSquare 4 = .ok (.getfield 100, 3) := by decide +kernel
theorem dX8_isSquare_7 : decode cX8_isSquare 7 = .ok (.if_icmp .ge 32, 3) := by decide +kernel
theorem dX8_isSquare_10 : decode cX8_isSquare 10 = .ok (.aload_n 0, 1) := by decide +kernel
theorem dX8_isSquare_11 : decode cX8_isSquare 11 = .ok (.getfield 28, 3) := by decide +kernel
theorem dX8_isSquare_14 : decode cX8_isSquare 14 = .ok (.iload_n 1, 1) := by decide +kernel
theorem dX8_isSquare_15 : decode cX8_isSquare 15 = .ok (.aload_n 0, 1) := by decide +kernel
theorem dX8_isSquare_16 : decode cX8_isSquare 16 = .ok (.iload_n 1, 1) := by decide +kernel
theorem dX8_isSquare_17 : decode cX8_isSquare 17 = .ok (.invokevirtual 159, 3) := by decide +kernel
theorem dX8_isSquare_20 : decode cX8_isSquare 20 = .ok (.iastore, 1) := by decide +kernel
theorem dX8_isSquare_21 : decode cX8_isSquare 21 = .ok (.aload_n 0, 1) := by decide +kernel
theorem dX8_isSquare_22 : decode cX8_isSquare 22 = .ok (.getfield 28, 3) := by decide +kernel
theorem dX8_isSquare_25 : decode cX8_isSquare 25 = .ok (.iload_n 1, 1) := by decide +kernel
theorem dX8_isSquare_26 : decode cX8_isSquare 26 = .ok (.iaload, 1) := by decide +kernel
theorem dX8_isSquare_27 : decode cX8_isSquare 27 = .ok (.iconst (-1), 1) := by decide +kernel
theorem dX8_isSquare_28 : decode cX8_isSquare 28 = .ok (.if_icmp .ne 5, 3) := by decide +kernel
theorem dX8_isSquare_31 : decode cX8_isSquare 31 = .ok (.iconst 0, 1) := by decide +kernel
theorem dX8_isSquare_32 : decode cX8_isSquare 32 = .ok (.ireturn, 1) := by decide +kernel
theorem dX8_isSquare_33 : decode cX8_isSquare 33 = .ok (.iinc 1 1, 3) := by decide +kernel
theorem dX8_isSquare_36 : decode cX8_isSquare 36 = .ok (.goto (-34), 3) := by decide +kernel
theorem dX8_isSquare_39 : decode cX8_isSquare 39 = .ok (.aload_n 0, 1) := by decide +kernel
theorem dX8_isSquare_40 : decode cX8_isSquare 40 = .ok (.getfield 97, 3) := by decide +kernel
theorem dX8_isSquare_43 : decode cX8_isSquare 43 = .ok (.ifCond .le 7, 3) := by decide +kernel
theorem dX8_isSquare_46 : decode cX8_isSquare 46 = .ok (.iconst 1, 1) := by decide +kernel
theorem dX8_isSquare_47 : decode cX8_isSquare 47 = .ok (.goto 4, 3) := by decide +kernel
theorem dX8_isSquare_50 : decode cX8_isSquare 50 = .ok (.iconst 0, 1) := by decide +kernel
theorem dX8_isSquare_51 : decode cX8_isSquare 51 = .ok (.ireturn, 1) := by decide +kernel
theorem dX8_isSame_0 : decode cX8_isSame 0 = .ok (.iconst 1, 1) := by decide +kernel
theorem dX8_isSame_1 : decode cX8_isSame 1 = .ok (.istore_n 1, 1) := by decide +kernel
theorem dX8_isSame_2 : decode cX8_isSame 2 = .ok (.iconst 0, 1) := by decide +kernel
theorem dX8_isSame_3 : decode cX8_isSame 3 = .ok (.istore_n 2, 1) := by decide +kernel
theorem dX8_isSame_4 : decode cX8_isSame 4 = .ok (.iload_n 2, 1) := by decide +kernel
theorem dX8_isSame_5 : decode cX8_isSame 5 = .ok (.aload_n 0, 1) := by decide +kernel
theorem dX8_isSame_6 : decode cX8_isSame 6 = .ok (.getfield 100, 3) := by decide +kernel
theorem dX8_isSame_9 : decode cX8_isSame 9 = .ok (.if_icmp .ge 34, 3) := by decide +kernel
theorem dX8_isSame_12 : decode cX8_isSame 12 = .ok (.iload_n 1, 1) := by decide +kernel
theorem dX8_isSame_13 : decode cX8_isSame 13 = .ok (.ifCond .eq 22, 3) := by decide +kernel
theorem dX8_isSame_16 : decode cX8_isSame 16 = .ok (.aload_n 0, 1) := by decide +kernel
theorem dX8_isSame_17 : decode cX8_isSame 17 = .ok (.getfield 25, 3) := by decide +kernel
theorem dX8_isSame_20 : decode cX8_isSame 20 = .ok (.iload_n 2, 1) := by decide +kernel
theorem dX8_isSame_21 : decode cX8_isSame 21 = .ok (.iaload, 1) := by decide +kernel
theorem dX8_isSame_22 : decode cX8_isSame 22 = .ok (.aload_n 0, 1) := by decide +kernel
theorem dX8_isSame_23 : decode cX8_isSame 23 = .ok (.getfield 28, 3) := by decide +kernel
theorem dX8_isSame_26 : decode cX8_isSame 26 = .ok (.iload_n 2, 1) := by decide +kernel
theorem dX8_isSame_27 : decode cX8_isSame 27 = .ok (.iaload, 1) := by decide +kernel
theorem dX8_isSame_28 : decode cX8_isSame 28 = .ok (.if_icmp .ne 7, 3) := by decide +kernel
theorem dX8_isSame_31 : decode cX8_isSame 31 = .ok (.iconst 1, 1) := by decide +kernel
theorem dX8_isSame_32 : decode cX8_isSame 32 = .ok (.goto 4, 3) := by decide +kernel
theorem dX8_isSame_35 : decode cX8_isSame 35 = .ok (.iconst 0, 1) := by decide +kernel
theorem dX8_isSame_36 : decode cX8_isSame 36 = .ok (.istore_n 1, 1) := by decide +kernel
theorem dX8_isSame_37 : decode cX8_isSame 37 = .ok (.iinc 2 1, 3) := by decide +kernel
theorem dX8_isSame_40 : decode cX8_isSame 40 = .ok (.goto (-36), 3) := by decide +kernel
theorem dX8_isSame_43 : decode cX8_isSame 43 = .ok (.iload_n 1, 1) := by decide +kernel
theorem dX8_isSame_44 : decode cX8_isSame 44 = .ok (.ireturn, 1) := by decide +kernel
theorem dX8_isUnlike_0 : decode cX8_isUnlike 0 = .ok (.iconst 0, 1) := by decide +kernel
theorem dX8_isUnlike_1 : decode cX8_isUnlike 1 = .ok (.istore_n 1, 1) := by decide +kernel
theorem dX8_isUnlike_2 : decode cX8_isUnlike 2 = .ok (.iconst 0, 1) := by decide +kernel
theorem dX8_isUnlike_3 : decode cX8_isUnlike 3 = .ok (.istore_n 2, 1) := by decide +kernel
theorem dX8_isUnlike_4 : decode cX8_isUnlike 4 = .ok (.iload_n 2, 1) := by decide +kernel
theorem dX8_isUnlike_5 : decode cX8_isUnlike 5 = .ok (.aload_n 0, 1) := by decide +kernel
theorem dX8_isUnlike_6 : decode cX8_isUnlike 6 = .ok (.getfield 100, 3) := by decide +kernel
theorem dX8_isUnlike_9 : decode cX8_isUnlike 9 = .ok (.if_icmp .ge 94, 3) := by decide +kernel
theorem dX8_isUnlike_12 : decode cX8_isUnlike 12 = .ok (.iload_n 1, 1) := by decide +kernel
theorem dX8_isUnlike_13 : decode cX8_isUnlike 13 = .ok (.aload_n 0, 1) := by decide +kernel
theorem dX8_isUnlike_14 : decode cX8_isUnlike 14 = .ok (.getfield 25, 3) := by decide +kernel
theorem dX8_isUnlike_17 : decode cX8_isUnlike 17 = .ok (.iload_n 2, 1) := by decide +kernel
theorem dX8_isUnlike_18 : decode cX8_isUnlike 18 = .ok (.iaload, 1) := by decide +kernel
theorem dX8_isUnlike_19 : decode cX8_isUnlike 19 = .ok (.ishr, 1) := by decide +kernel
theorem dX8_isUnlike_20 : decode cX8_isUnlike 20 = .ok (.iconst 1, 1) := by decide +kernel
theorem dX8_isUnlike_21 : decode cX8_isUnlike 21 = .ok (.iand, 1) := by decide +kernel
theorem dX8_isUnlike_22 : decode cX8_isUnlike 22 = .ok (.ifCond .ne 22, 3) := by decide +kernel
theorem dX8_isUnlike_25 : decode cX8_isUnlike 25 = .ok (.aload_n 0, 1) := by decide +kernel
theorem dX8_isUnlike_26 : decode cX8_isUnlike 26 = .ok (.getfield 25, 3) := by decide +kernel
theorem dX8_isUnlike_29 : decode cX8_isUnlike 29 = .ok (.iload_n 2, 1) := by decide +kernel
theorem dX8_isUnlike_30 : decode cX8_isUnlike 30 = .ok (.iaload, 1) := by decide +kernel
theorem dX8_isUnlike_31 : decode cX8_isUnlike 31 = .ok (.aload_n 0, 1) := by decide +kernel
theorem dX8_isUnlike_32 : decode cX8_isUnlike 32 = .ok (.getfield 28, 3) := by decide +kernel
theorem dX8_isUnlike_35 : decode cX8_isUnlike 35 = .ok (.iload_n 2, 1) := by decide +kernel
theorem dX8_isUnlike_36 : decode cX8_isUnlike 36 = .ok (.iaload, 1) := by decide +kernel
theorem dX8_isUnlike_37 : decode cX8_isUnlike 37 = .ok (.if_icmp .eq 7, 3) := by decide +kernel
theorem dX8_isUnlike_40 : decode cX8_isUnlike 40 = .ok (.iconst 1, 1) := by decide +kernel
theorem dX8_isUnlike_41 : decode cX8_isUnlike 41 = .ok (.goto 4, 3) := by decide +kernel
theorem dX8_isUnlike_44 : decode cX8_isUnlike 44 = .ok (.iconst 0, 1) := by decide +kernel
theorem dX8_isUnlike_45 : decode cX8_isUnlike 45 = .ok (.istore_n 3, 1) := by decide +kernel
theorem dX8_isUnlike_46 : decode cX8_isUnlike 46 = .ok (.iload_n 1, 1) := by decide +kernel
theorem dX8_isUnlike_47 : decode cX8_isUnlike 47 = .ok (.iconst 1, 1) := by decide +kernel
theorem dX8_isUnlike_48 : decode cX8_isUnlike 48 = .ok (.aload_n 0, 1) := by decide +kernel
theorem dX8_isUnlike_49 : decode cX8_isUnlike 49 = .ok (.getfield 25, 3) := by decide +kernel
theorem dX8_isUnlike_52 : decode cX8_isUnlike 52 = .ok (.iload_n 2, 1) := by decide +kernel
theorem dX8_isUnlike_53 : decode cX8_isUnlike 53 = .ok (.iaload, 1) := by decide +kernel
theorem dX8_isUnlike_54 : decode cX8_isUnlike 54 = .ok (.ishl, 1) := by decide +kernel
theorem dX8_isUnlike_55 : decode cX8_isUnlike 55 = .ok (.ior, 1) := by decide +kernel
theorem dX8_isUnlike_56 : decode cX8_isUnlike 56 = .ok (.istore_n 1, 1) := by decide +kernel
theorem dX8_isUnlike_57 : decode cX8_isUnlike 57 = .ok (.iload_n 3, 1) := by decide +kernel
theorem dX8_isUnlike_58 : decode cX8_isUnlike 58 = .ok (.ifCond .eq 20, 3) := by decide +kernel
theorem dX8_isUnlike_61 : decode cX8_isUnlike 61 = .ok (.iload_n 1, 1) := by decide +kernel
theorem dX8_isUnlike_62 : decode cX8_isUnlike 62 = .ok (.aload_n 0, 1) := by decide +kernel
theorem dX8_isUnlike_63 : decode cX8_isUnlike 63 = .ok (.getfield 28, 3) := by decide +kernel
theorem dX8_isUnlike_66 : decode cX8_isUnlike 66 = .ok (.iload_n 2, 1) := by decide +kernel
theorem dX8_isUnlike_67 : decode cX8_isUnlike 67 = .ok (.iaload, 1) := by decide +kernel
theorem dX8_isUnlike_68 : decode cX8_isUnlike 68 = .ok (.ishr, 1) := by decide +kernel
theorem dX8_isUnlike_69 : decode cX8_isUnlike 69 = .ok (.iconst 1, 1) := by decide +kernel
theorem dX8_isUnlike_70 : decode cX8_isUnlike 70 = .ok (.iand, 1) := by decide +kernel
theorem dX8_isUnlike_71 : decode cX8_isUnlike 71 = .ok (.ifCond .ne 7, 3) := by decide +kernel
theorem dX8_isUnlike_74 : decode cX8_isUnlike 74 = .ok (.iconst 1, 1) := by decide +kernel
theorem dX8_isUnlike_75 : decode cX8_isUnlike 75 = .ok (.goto 4, 3) := by decide +kernel
theorem dX8_isUnlike_78 : decode cX8_isUnlike 78 = .ok (.iconst 0, 1) := by decide +kernel
theorem dX8_isUnlike_79 : decode cX8_isUnlike 79 = .ok (.istore_n 3, 1) := by decide +kernel
theorem dX8_isUnlike_80 : decode cX8_isUnlike 80 = .ok (.iload_n 1, 1) := by decide +kernel
theorem dX8_isUnlike_81 : decode cX8_isUnlike 81 = .ok (.iconst 1, 1) := by decide +kernel
theorem dX8_isUnlike_82 : decode cX8_isUnlike 82 = .ok (.aload_n 0, 1) := by decide +kernel
theorem dX8_isUnlike_83 : decode cX8_isUnlike 83 = .ok (.getfield 28, 3) := by decide +kernel
theorem dX8_isUnlike_86 : decode cX8_isUnlike 86 = .ok (.iload_n 2, 1) := by decide +kernel
theorem dX8_isUnlike_87 : decode cX8_isUnlike 87 = .ok (.iaload, 1) := by decide +kernel
theorem dX8_isUnlike_88 : decode cX8_isUnlike 88 = .ok (.ishl, 1) := by decide +kernel
theorem dX8_isUnlike_89 : decode cX8_isUnlike 89 = .ok (.ior, 1) := by decide +kernel
theorem dX8_isUnlike_90 : decode cX8_isUnlike 90 = .ok (.istore_n 1, 1) := by decide +kernel
theorem dX8_isUnlike_91 : decode cX8_isUnlike 91 = .ok (.iload_n 3, 1) := by decide +kernel
theorem dX8_isUnlike_92 : decode cX8_isUnlike 92 = .ok (.ifCond .ne 5, 3) := by decide +kernel
theorem dX8_isUnlike_95 : decode cX8_isUnlike 95 = .ok (.iconst 0, 1) := by decide +kernel
theorem dX8_isUnlike_96 : decode cX8_isUnlike 96 = .ok (.ireturn, 1) := by decide +kernel
theorem dX8_isUnlike_97 : decode cX8_isUnlike 97 = .ok (.iinc 2 1, 3) := by decide +kernel
theorem dX8_isUnlike_100 : decode cX8_isUnlike 100 = .ok (.goto (-96), 3) := by decide +kernel
theorem dX8_isUnlike_103 : decode cX8_isUnlike 103 = .ok (.iconst 1, 1) := by decide +kernel
theorem dX8_isUnlike_104 : decode cX8_isUnlike 104 = .ok (.ireturn, 1) := by decide +kernel
theorem dX8_isOf_0 : decode cX8_isOf 0 = .ok (.aload_n 0, 1) := by decide +kernel
theorem dX8_isOf_1 : decode cX8_isOf 1 = .ok (.invokevirtual 162, 3) := by decide +kernel
theorem dX8_isOf_4 : decode cX8_isOf 4 = .ok (.ifCond .eq 33, 3) := by decide +kernel
theorem dX8_isOf_7 : decode cX8_isOf 7 = .ok (.iload_n 1, 1) := by decide +kernel
theorem dX8_isOf_8 : decode cX8_isOf 8 = .ok (.ifCond .eq 25, 3) := by decide +kernel
theorem dX8_isOf_11 : decode cX8_isOf 11 = .ok (.iload_n 1, 1) := by decide +kernel
theorem dX8_isOf_12 : decode cX8_isOf 12 = .ok (.iconst 1, 1) := by decide +kernel
theorem dX8_isOf_13 : decode cX8_isOf 13 = .ok (.if_icmp .ne 13, 3) := by decide +kernel
theorem dX8_isOf_16 : decode cX8_isOf 16 = .ok (.aload_n 0, 1) := by decide +kernel
theorem dX8_isOf_17 : decode cX8_isOf 17 = .ok (.invokevirtual 165, 3) := by decide +kernel
theorem dX8_isOf_20 : decode cX8_isOf 20 = .ok (.ifCond .eq 17, 3) := by decide +kernel
theorem dX8_isOf_23 : decode cX8_isOf 23 = .ok (.goto 10, 3) := by decide +kernel
theorem dX8_isOf_26 : decode cX8_isOf 26 = .ok (.aload_n 0, 1) := by decide +kernel
theorem dX8_isOf_27 : decode cX8_isOf 27 = .ok (.invokevirtual 168, 3) := by decide +kernel
theorem dX8_isOf_30 : decode cX8_isOf 30 = .ok (.ifCond .eq 7, 3) := by decide +kernel
theorem dX8_isOf_33 : decode cX8_isOf 33 = .ok (.iconst 1, 1) := by decide +kernel
theorem dX8_isOf_34 : decode cX8_isOf 34 = .ok (.goto 4, 3) := by decide +kernel
theorem dX8_isOf_37 : decode cX8_isOf 37 = .ok (.iconst 0, 1) := by decide +kernel
theorem dX8_isOf_38 : decode cX8_isOf 38 = .ok (.ireturn, 1) := by decide +kernel
theorem dX8_squaresNow_0 : decode cX8_squaresNow 0 = .ok (.iconst 0, 1) := by decide +kernel
theorem dX8_squaresNow_1 : decode cX8_squaresNow 1 = .ok (.istore_n 2, 1) := by decide +kernel
theorem dX8_squaresNow_2 : decode cX8_squaresNow 2 = .ok (.aload_n 0, 1) := by decide +kernel
theorem dX8_squaresNow_3 : decode cX8_squaresNow 3 = .ok (.invokevirtual 171, 3) := by decide +kernel
theorem dX8_squaresNow_6 : decode cX8_squaresNow 6 = .ok (.aload_n 0, 1) := by decide +kernel
theorem dX8_squaresNow_7 : decode cX8_squaresNow 7 = .ok (.getfield 97, 3) := by decide +kernel
theorem dX8_squaresNow_10 : decode cX8_squaresNow 10 = .ok (.ifCond .le 7, 3) := by decide +kernel
theorem dX8_squaresNow_13 : decode cX8_squaresNow 13 = .ok (.iconst 1, 1) := by decide +kernel
theorem dX8_squaresNow_14 : decode cX8_squaresNow 14 = .ok (.goto 4, 3) := by decide +kernel
theorem dX8_squaresNow_17 : decode cX8_squaresNow 17 = .ok (.iconst 0, 1) := by decide +kernel
theorem dX8_squaresNow_18 : decode cX8_squaresNow 18 = .ok (.istore_n 3, 1) := by decide +kernel
theorem dX8_squaresNow_19 : decode cX8_squaresNow 19 = .ok (.iload_n 3, 1) := by decide +kernel
theorem dX8_squaresNow_20 : decode cX8_squaresNow 20 = .ok (.ifCond .eq 27, 3) := by decide +kernel
theorem dX8_squaresNow_23 : decode cX8_squaresNow 23 = .ok (.iload_n 2, 1) := by decide +kernel
theorem dX8_squaresNow_24 : decode cX8_squaresNow 24 = .ok (.aload_n 0, 1) := by decide +kernel
theorem dX8_squaresNow_25 : decode cX8_squaresNow 25 = .ok (.iload_n 1, 1) := by decide +kernel
theorem dX8_squaresNow_26 : decode cX8_squaresNow 26 = .ok (.invokevirtual 174, 3) := by decide +kernel
theorem dX8_squaresNow_29 : decode cX8_squaresNow 29 = .ok (.ifCond .eq 7, 3) := by decide +kernel
theorem dX8_squaresNow_32 : decode cX8_squaresNow 32 = .ok (.iconst 1, 1) := by decide +kernel
theorem dX8_squaresNow_33 : decode cX8_squaresNow 33 = .ok (.goto 4, 3) := by decide +kernel
theorem dX8_squaresNow_36 : decode cX8_squaresNow 36 = .ok (.iconst 0, 1) := by decide +kernel
theorem dX8_squaresNow_37 : decode cX8_squaresNow 37 = .ok (.iadd, 1) := by decide +kernel
theorem dX8_squaresNow_38 : decode cX8_squaresNow 38 = .ok (.istore_n 2, 1) := by decide +kernel
theorem dX8_squaresNow_39 : decode cX8_squaresNow 39 = .ok (.aload_n 0, 1) := by decide +kernel
theorem dX8_squaresNow_40 : decode cX8_squaresNow 40 = .ok (.invokevirtual 177, 3) := by decide +kernel
theorem dX8_squaresNow_43 : decode cX8_squaresNow 43 = .ok (.istore_n 3, 1) := by decide +kernel
theorem dX8_squaresNow_44 : decode cX8_squaresNow 44 = .ok (.goto (-25), 3) := by decide +kernel
theorem dX8_squaresNow_47 : decode cX8_squaresNow 47 = .ok (.iload_n 2, 1) := by decide +kernel
theorem dX8_squaresNow_48 : decode cX8_squaresNow 48 = .ok (.ireturn, 1) := by decide +kernel
theorem dX8_squares_0 : decode cX8_squares 0 = .ok (.iload_n 1, 1) := by decide +kernel
theorem dX8_squares_1 : decode cX8_squares 1 = .ok (.iconst 0, 1) := by decide +kernel
theorem dX8_squares_2 : decode cX8_squares 2 = .ok (.iconst 2, 1) := by decide +kernel
theorem dX8_squares_3 : decode cX8_squares 3 = .ok (.invokestatic 65, 3) := by decide +kernel
theorem dX8_squares_6 : decode cX8_squares 6 = .ok (.ifCond .eq 11, 3) := by decide +kernel
theorem dX8_squares_9 : decode cX8_squares 9 = .ok (.aload_n 0, 1) := by decide +kernel
theorem dX8_squares_10 : decode cX8_squares 10 = .ok (.iload_n 1, 1) := by decide +kernel
theorem dX8_squares_11 : decode cX8_squares 11 = .ok (.invokevirtual 180, 3) := by decide +kernel
theorem dX8_squares_14 : decode cX8_squares 14 = .ok (.goto 5, 3) := by decide +kernel
theorem dX8_squares_17 : decode cX8_squares 17 = .ok (.bipush (-102), 2) := by decide +kernel
theorem dX8_squares_19 : decode cX8_squares 19 = .ok (.ireturn, 1) := by decide +kernel
theorem dX8_lay_0 : decode cX8_lay 0 = .ok (.iload_n 2, 1) := by decide +kernel
theorem dX8_lay_1 : decode cX8_lay 1 = .ok (.istore_n 3, 1) := by decide +kernel
theorem dX8_lay_2 : decode cX8_lay 2 = .ok (.aload_n 0, 1) := by decide +kernel
theorem dX8_lay_3 : decode cX8_lay 3 = .ok (.invokevirtual 171, 3) := by decide +kernel
theorem dX8_lay_6 : decode cX8_lay 6 = .ok (.aload_n 0, 1) := by decide +kernel
theorem dX8_lay_7 : decode cX8_lay 7 = .ok (.getfield 97, 3) := by decide +kernel
theorem dX8_lay_10 : decode cX8_lay 10 = .ok (.ifCond .le 11, 3) := by decide +kernel
theorem dX8_lay_13 : decode cX8_lay 13 = .ok (.iload_n 2, 1) := by decide +kernel
theorem dX8_lay_14 : decode cX8_lay 14 = .ok (.ifCond .lt 7, 3) := by decide +kernel
theorem dX8_lay_17 : decode cX8_lay 17 = .ok (.iconst 1, 1) := by decide +kernel
theorem dX8_lay_18 : decode cX8_lay 18 = .ok (.goto 4, 3) := by decide +kernel
theorem dX8_lay_21 : decode cX8_lay 21 = .ok (.iconst 0, 1) := by decide +kernel
theorem dX8_lay_22 : decode cX8_lay 22 = .ok (.istore 4, 2) := by decide +kernel
theorem dX8_lay_24 : decode cX8_lay 24 = .ok (.iload 4, 2) := by decide +kernel
theorem dX8_lay_26 : decode cX8_lay 26 = .ok (.ifCond .eq 29, 3) := by decide +kernel
theorem dX8_lay_29 : decode cX8_lay 29 = .ok (.aload_n 0, 1) := by decide +kernel
theorem dX8_lay_30 : decode cX8_lay 30 = .ok (.iload_n 1, 1) := by decide +kernel
theorem dX8_lay_31 : decode cX8_lay 31 = .ok (.invokevirtual 174, 3) := by decide +kernel
theorem dX8_lay_34 : decode cX8_lay 34 = .ok (.ifCond .eq 12, 3) := by decide +kernel
theorem dX8_lay_37 : decode cX8_lay 37 = .ok (.iload_n 3, 1) := by decide +kernel
theorem dX8_lay_38 : decode cX8_lay 38 = .ok (.ifCond .ne 5, 3) := by decide +kernel
theorem dX8_lay_41 : decode cX8_lay 41 = .ok (.iconst 1, 1) := by decide +kernel
theorem dX8_lay_42 : decode cX8_lay 42 = .ok (.ireturn, 1) := by decide +kernel
theorem dX8_lay_43 : decode cX8_lay 43 = .ok (.iinc 3 (-1), 3) := by decide +kernel
theorem dX8_lay_46 : decode cX8_lay 46 = .ok (.aload_n 0, 1) := by decide +kernel
theorem dX8_lay_47 : decode cX8_lay 47 = .ok (.invokevirtual 177, 3) := by decide +kernel
theorem dX8_lay_50 : decode cX8_lay 50 = .ok (.istore 4, 2) := by decide +kernel
theorem dX8_lay_52 : decode cX8_lay 52 = .ok (.goto (-28), 3) := by decide +kernel
theorem dX8_lay_55 : decode cX8_lay 55 = .ok (.iconst 0, 1) := by decide +kernel
theorem dX8_lay_56 : decode cX8_lay 56 = .ok (.ireturn, 1) := by decide +kernel
theorem dX8_row_0 : decode cX8_row 0 = .ok (.iload_n 1, 1) := by decide +kernel
theorem dX8_row_1 : decode cX8_row 1 = .ok (.iconst 0, 1) := by decide +kernel
theorem dX8_row_2 : decode cX8_row 2 = .ok (.iconst 2, 1) := by decide +kernel
theorem dX8_row_3 : decode cX8_row 3 = .ok (.invokestatic 65, 3) := by decide +kernel
theorem dX8_row_6 : decode cX8_row 6 = .ok (.ifCond .ne 6, 3) := by decide +kernel
theorem dX8_row_9 : decode cX8_row 9 = .ok (.bipush (-102), 2) := by decide +kernel
theorem dX8_row_11 : decode cX8_row 11 = .ok (.ireturn, 1) := by decide +kernel
theorem dX8_row_12 : decode cX8_row 12 = .ok (.iload_n 3, 1) := by decide +kernel
theorem dX8_row_13 : decode cX8_row 13 = .ok (.iconst 0, 1) := by decide +kernel
theorem dX8_row_14 : decode cX8_row 14 = .ok (.aload_n 0, 1) := by decide +kernel
theorem dX8_row_15 : decode cX8_row 15 = .ok (.getfield 100, 3) := by decide +kernel
theorem dX8_row_18 : decode cX8_row 18 = .ok (.iconst 1, 1) := by decide +kernel
theorem dX8_row_19 : decode cX8_row 19 = .ok (.isub, 1) := by decide +kernel
theorem dX8_row_20 : decode cX8_row 20 = .ok (.invokestatic 65, 3) := by decide +kernel
theorem dX8_row_23 : decode cX8_row 23 = .ok (.ifCond .eq 21, 3) := by decide +kernel
theorem dX8_row_26 : decode cX8_row 26 = .ok (.aload_n 0, 1) := by decide +kernel
theorem dX8_row_27 : decode cX8_row 27 = .ok (.iload_n 1, 1) := by decide +kernel
theorem dX8_row_28 : decode cX8_row 28 = .ok (.iload_n 2, 1) := by decide +kernel
theorem dX8_row_29 : decode cX8_row 29 = .ok (.invokevirtual 183, 3) := by decide +kernel
theorem dX8_row_32 : decode cX8_row 32 = .ok (.ifCond .eq 12, 3) := by decide +kernel
theorem dX8_row_35 : decode cX8_row 35 = .ok (.aload_n 0, 1) := by decide +kernel
theorem dX8_row_36 : decode cX8_row 36 = .ok (.getfield 25, 3) := by decide +kernel
theorem dX8_row_39 : decode cX8_row 39 = .ok (.iload_n 3, 1) := by decide +kernel
theorem dX8_row_40 : decode cX8_row 40 = .ok (.iaload, 1) := by decide +kernel
theorem dX8_row_41 : decode cX8_row 41 = .ok (.goto 5, 3) := by decide +kernel
theorem dX8_row_44 : decode cX8_row 44 = .ok (.bipush (-101), 2) := by decide +kernel
theorem dX8_row_46 : decode cX8_row 46 = .ok (.ireturn, 1) := by decide +kernel
theorem dX8_turnedNow_0 : decode cX8_turnedNow 0 = .ok (.iconst 0, 1) := by decide +kernel
theorem dX8_turnedNow_1 : decode cX8_turnedNow 1 = .ok (.istore_n 1, 1) := by decide +kernel
theorem dX8_turnedNow_2 : decode cX8_turnedNow 2 = .ok (.iload_n 1, 1) := by decide +kernel
theorem dX8_turnedNow_3 : decode cX8_turnedNow 3 = .ok (.iconst 4, 1) := by decide +kernel
theorem dX8_turnedNow_4 : decode cX8_turnedNow 4 = .ok (.if_icmp .ge 21, 3) := by decide +kernel
theorem dX8_turnedNow_7 : decode cX8_turnedNow 7 = .ok (.aload_n 0, 1) := by decide +kernel
theorem dX8_turnedNow_8 : decode cX8_turnedNow 8 = .ok (.getfield 31, 3) := by decide +kernel
theorem dX8_turnedNow_11 : decode cX8_turnedNow 11 = .ok (.iload_n 1, 1) := by decide +kernel
theorem dX8_turnedNow_12 : decode cX8_turnedNow 12 = .ok (.aload_n 0, 1) := by decide +kernel
theorem dX8_turnedNow_13 : decode cX8_turnedNow 13 = .ok (.getfield 28, 3) := by decide +kernel
theorem dX8_turnedNow_16 : decode cX8_turnedNow 16 = .ok (.iload_n 1, 1) := by decide +kernel
theorem dX8_turnedNow_17 : decode cX8_turnedNow 17 = .ok (.iaload, 1) := by decide +kernel
theorem dX8_turnedNow_18 : decode cX8_turnedNow 18 = .ok (.iastore, 1) := by decide +kernel
theorem dX8_turnedNow_19 : decode cX8_turnedNow 19 = .ok (.iinc 1 1, 3) := by decide +kernel
theorem dX8_turnedNow_22 : decode cX8_turnedNow 22 = .ok (.goto (-20), 3) := by decide +kernel
theorem dX8_turnedNow_25 : decode cX8_turnedNow 25 = .ok (.iconst 0, 1) := by decide +kernel
theorem dX8_turnedNow_26 : decode cX8_turnedNow 26 = .ok (.istore_n 1, 1) := by decide +kernel
theorem dX8_turnedNow_27 : decode cX8_turnedNow 27 = .ok (.aload_n 0, 1) := by decide +kernel
theorem dX8_turnedNow_28 : decode cX8_turnedNow 28 = .ok (.invokevirtual 171, 3) := by decide +kernel
theorem dX8_turnedNow_31 : decode cX8_turnedNow 31 = .ok (.iconst 0, 1) := by decide +kernel
theorem dX8_turnedNow_32 : decode cX8_turnedNow 32 = .ok (.istore_n 2, 1) := by decide +kernel
theorem dX8_turnedNow_33 : decode cX8_turnedNow 33 = .ok (.iload_n 2, 1) := by decide +kernel
theorem dX8_turnedNow_34 : decode cX8_turnedNow 34 = .ok (.ifCond .ne 73, 3) := by decide +kernel
theorem dX8_turnedNow_37 : decode cX8_turnedNow 37 = .ok (.iconst 1, 1) := by decide +kernel
theorem dX8_turnedNow_38 : decode cX8_turnedNow 38 = .ok (.istore_n 2, 1) := by decide +kernel
theorem dX8_turnedNow_39 : decode cX8_turnedNow 39 = .ok (.iconst 0, 1) := by decide +kernel
theorem dX8_turnedNow_40 : decode cX8_turnedNow 40 = .ok (.istore_n 3, 1) := by decide +kernel
theorem dX8_turnedNow_41 : decode cX8_turnedNow 41 = .ok (.iload_n 3, 1) := by decide +kernel
theorem dX8_turnedNow_42 : decode cX8_turnedNow 42 = .ok (.aload_n 0, 1) := by decide +kernel
theorem dX8_turnedNow_43 : decode cX8_turnedNow 43 = .ok (.getfield 100, 3) := by decide +kernel
theorem dX8_turnedNow_46 : decode cX8_turnedNow 46 = .ok (.if_icmp .ge 34, 3) := by decide +kernel
theorem dX8_turnedNow_49 : decode cX8_turnedNow 49 = .ok (.iload_n 2, 1) := by decide +kernel
theorem dX8_turnedNow_50 : decode cX8_turnedNow 50 = .ok (.ifCond .eq 22, 3) := by decide +kernel
theorem dX8_turnedNow_53 : decode cX8_turnedNow 53 = .ok (.aload_n 0, 1) := by decide +kernel
theorem dX8_turnedNow_54 : decode cX8_turnedNow 54 = .ok (.getfield 25, 3) := by decide +kernel
theorem dX8_turnedNow_57 : decode cX8_turnedNow 57 = .ok (.iload_n 3, 1) := by decide +kernel
theorem dX8_turnedNow_58 : decode cX8_turnedNow 58 = .ok (.iaload, 1) := by decide +kernel
theorem dX8_turnedNow_59 : decode cX8_turnedNow 59 = .ok (.aload_n 0, 1) := by decide +kernel
theorem dX8_turnedNow_60 : decode cX8_turnedNow 60 = .ok (.getfield 31, 3) := by decide +kernel
theorem dX8_turnedNow_63 : decode cX8_turnedNow 63 = .ok (.iload_n 3, 1) := by decide +kernel
theorem dX8_turnedNow_64 : decode cX8_turnedNow 64 = .ok (.iaload, 1) := by decide +kernel
theorem dX8_turnedNow_65 : decode cX8_turnedNow 65 = .ok (.if_icmp .ne 7, 3) := by decide +kernel
theorem dX8_turnedNow_68 : decode cX8_turnedNow 68 = .ok (.iconst 1, 1) := by decide +kernel
theorem dX8_turnedNow_69 : decode cX8_turnedNow 69 = .ok (.goto 4, 3) := by decide +kernel
theorem dX8_turnedNow_72 : decode cX8_turnedNow 72 = .ok (.iconst 0, 1) := by decide +kernel
theorem dX8_turnedNow_73 : decode cX8_turnedNow 73 = .ok (.istore_n 2, 1) := by decide +kernel
theorem dX8_turnedNow_74 : decode cX8_turnedNow 74 = .ok (.iinc 3 1, 3) := by decide +kernel
theorem dX8_turnedNow_77 : decode cX8_turnedNow 77 = .ok (.goto (-36), 3) := by decide +kernel
theorem dX8_turnedNow_80 : decode cX8_turnedNow 80 = .ok (.iload_n 2, 1) := by decide +kernel
theorem dX8_turnedNow_81 : decode cX8_turnedNow 81 = .ok (.ifCond .ne (-48), 3) := by decide +kernel
theorem dX8_turnedNow_84 : decode cX8_turnedNow 84 = .ok (.iload_n 1, 1) := by decide +kernel
theorem dX8_turnedNow_85 : decode cX8_turnedNow 85 = .ok (.aload_n 0, 1) := by decide +kernel
theorem dX8_turnedNow_86 : decode cX8_turnedNow 86 = .ok (.invokevirtual 162, 3) := by decide +kernel
theorem dX8_turnedNow_89 : decode cX8_turnedNow 89 = .ok (.ifCond .eq 7, 3) := by decide +kernel
theorem dX8_turnedNow_92 : decode cX8_turnedNow 92 = .ok (.iconst 1, 1) := by decide +kernel
theorem dX8_turnedNow_93 : decode cX8_turnedNow 93 = .ok (.goto 4, 3) := by decide +kernel
theorem dX8_turnedNow_96 : decode cX8_turnedNow 96 = .ok (.iconst 0, 1) := by decide +kernel
theorem dX8_turnedNow_97 : decode cX8_turnedNow 97 = .ok (.iadd, 1) := by decide +kernel
theorem dX8_turnedNow_98 : decode cX8_turnedNow 98 = .ok (.istore_n 1, 1) := by decide +kernel
theorem dX8_turnedNow_99 : decode cX8_turnedNow 99 = .ok (.aload_n 0, 1) := by decide +kernel
theorem dX8_turnedNow_100 : decode cX8_turnedNow 100 = .ok (.invokevirtual 177, 3) := by decide +kernel
theorem dX8_turnedNow_103 : decode cX8_turnedNow 103 = .ok (.pop, 1) := by decide +kernel
theorem dX8_turnedNow_104 : decode cX8_turnedNow 104 = .ok (.goto (-71), 3) := by decide +kernel
theorem dX8_turnedNow_107 : decode cX8_turnedNow 107 = .ok (.iload_n 1, 1) := by decide +kernel
theorem dX8_turnedNow_108 : decode cX8_turnedNow 108 = .ok (.ireturn, 1) := by decide +kernel
theorem dX8_turned_0 : decode cX8_turned 0 = .ok (.aload_n 0, 1) := by decide +kernel
theorem dX8_turned_1 : decode cX8_turned 1 = .ok (.iconst 0, 1) := by decide +kernel
theorem dX8_turned_2 : decode cX8_turned 2 = .ok (.iload_n 1, 1) := by decide +kernel
theorem dX8_turned_3 : decode cX8_turned 3 = .ok (.invokevirtual 183, 3) := by decide +kernel
theorem dX8_turned_6 : decode cX8_turned 6 = .ok (.ifCond .eq 10, 3) := by decide +kernel
theorem dX8_turned_9 : decode cX8_turned 9 = .ok (.aload_n 0, 1) := by decide +kernel
theorem dX8_turned_10 : decode cX8_turned 10 = .ok (.invokevirtual 186, 3) := by decide +kernel
theorem dX8_turned_13 : decode cX8_turned 13 = .ok (.goto 5, 3) := by decide +kernel
theorem dX8_turned_16 : decode cX8_turned 16 = .ok (.bipush (-101), 2) := by decide +kernel
theorem dX8_turned_18 : decode cX8_turned 18 = .ok (.ireturn, 1) := by decide +kernel
theorem dX8_heavyNow_0 : decode cX8_heavyNow 0 = .ok (.iconst 0, 1) := by decide +kernel
theorem dX8_heavyNow_1 : decode cX8_heavyNow 1 = .ok (.istore_n 1, 1) := by decide +kernel
theorem dX8_heavyNow_2 : decode cX8_heavyNow 2 = .ok (.iconst 0, 1) := by decide +kernel
theorem dX8_heavyNow_3 : decode cX8_heavyNow 3 = .ok (.istore_n 2, 1) := by decide +kernel
theorem dX8_heavyNow_4 : decode cX8_heavyNow 4 = .ok (.iload_n 2, 1) := by decide +kernel
theorem dX8_heavyNow_5 : decode cX8_heavyNow 5 = .ok (.aload_n 0, 1) := by decide +kernel
theorem dX8_heavyNow_6 : decode cX8_heavyNow 6 = .ok (.getfield 100, 3) := by decide +kernel
theorem dX8_heavyNow_9 : decode cX8_heavyNow 9 = .ok (.if_icmp .ge 35, 3) := by decide +kernel
theorem dX8_heavyNow_12 : decode cX8_heavyNow 12 = .ok (.iload_n 1, 1) := by decide +kernel
theorem dX8_heavyNow_13 : decode cX8_heavyNow 13 = .ok (.aload_n 0, 1) := by decide +kernel
theorem dX8_heavyNow_14 : decode cX8_heavyNow 14 = .ok (.getfield 13, 3) := by decide +kernel
theorem dX8_heavyNow_17 : decode cX8_heavyNow 17 = .ok (.aload_n 0, 1) := by decide +kernel
theorem dX8_heavyNow_18 : decode cX8_heavyNow 18 = .ok (.getfield 25, 3) := by decide +kernel
theorem dX8_heavyNow_21 : decode cX8_heavyNow 21 = .ok (.iload_n 2, 1) := by decide +kernel
theorem dX8_heavyNow_22 : decode cX8_heavyNow 22 = .ok (.iaload, 1) := by decide +kernel
theorem dX8_heavyNow_23 : decode cX8_heavyNow 23 = .ok (.iaload, 1) := by decide +kernel
theorem dX8_heavyNow_24 : decode cX8_heavyNow 24 = .ok (.aload_n 0, 1) := by decide +kernel
theorem dX8_heavyNow_25 : decode cX8_heavyNow 25 = .ok (.getfield 13, 3) := by decide +kernel
theorem dX8_heavyNow_28 : decode cX8_heavyNow 28 = .ok (.aload_n 0, 1) := by decide +kernel
theorem dX8_heavyNow_29 : decode cX8_heavyNow 29 = .ok (.getfield 28, 3) := by decide +kernel
theorem dX8_heavyNow_32 : decode cX8_heavyNow 32 = .ok (.iload_n 2, 1) := by decide +kernel
theorem dX8_heavyNow_33 : decode cX8_heavyNow 33 = .ok (.iaload, 1) := by decide +kernel
theorem dX8_heavyNow_34 : decode cX8_heavyNow 34 = .ok (.iaload, 1) := by decide +kernel
theorem dX8_heavyNow_35 : decode cX8_heavyNow 35 = .ok (.iadd, 1) := by decide +kernel
theorem dX8_heavyNow_36 : decode cX8_heavyNow 36 = .ok (.iadd, 1) := by decide +kernel
theorem dX8_heavyNow_37 : decode cX8_heavyNow 37 = .ok (.istore_n 1, 1) := by decide +kernel
theorem dX8_heavyNow_38 : decode cX8_heavyNow 38 = .ok (.iinc 2 1, 3) := by decide +kernel
theorem dX8_heavyNow_41 : decode cX8_heavyNow 41 = .ok (.goto (-37), 3) := by decide +kernel
theorem dX8_heavyNow_44 : decode cX8_heavyNow 44 = .ok (.iload_n 1, 1) := by decide +kernel
theorem dX8_heavyNow_45 : decode cX8_heavyNow 45 = .ok (.ireturn, 1) := by decide +kernel
theorem dX8_heavy_0 : decode cX8_heavy 0 = .ok (.aload_n 0, 1) := by decide +kernel
theorem dX8_heavy_1 : decode cX8_heavy 1 = .ok (.iconst 0, 1) := by decide +kernel
theorem dX8_heavy_2 : decode cX8_heavy 2 = .ok (.iload_n 1, 1) := by decide +kernel
theorem dX8_heavy_3 : decode cX8_heavy 3 = .ok (.invokevirtual 183, 3) := by decide +kernel
theorem dX8_heavy_6 : decode cX8_heavy 6 = .ok (.ifCond .eq 10, 3) := by decide +kernel
theorem dX8_heavy_9 : decode cX8_heavy 9 = .ok (.aload_n 0, 1) := by decide +kernel
theorem dX8_heavy_10 : decode cX8_heavy 10 = .ok (.invokevirtual 189, 3) := by decide +kernel
theorem dX8_heavy_13 : decode cX8_heavy 13 = .ok (.goto 5, 3) := by decide +kernel
theorem dX8_heavy_16 : decode cX8_heavy 16 = .ok (.bipush (-101), 2) := by decide +kernel
theorem dX8_heavy_18 : decode cX8_heavy 18 = .ok (.ireturn, 1) := by decide +kernel
theorem dX8_heaviestNow_0 : decode cX8_heaviestNow 0 = .ok (.iconst (-1), 1) := by decide +kernel
theorem dX8_heaviestNow_1 : decode cX8_heaviestNow 1 = .ok (.istore_n 2, 1) := by decide +kernel
theorem dX8_heaviestNow_2 : decode cX8_heaviestNow 2 = .ok (.iconst 0, 1) := by decide +kernel
theorem dX8_heaviestNow_3 : decode cX8_heaviestNow 3 = .ok (.istore_n 3, 1) := by decide +kernel
theorem dX8_heaviestNow_4 : decode cX8_heaviestNow 4 = .ok (.iconst 0, 1) := by decide +kernel
theorem dX8_heaviestNow_5 : decode cX8_heaviestNow 5 = .ok (.istore 4, 2) := by decide +kernel
theorem dX8_heaviestNow_7 : decode cX8_heaviestNow 7 = .ok (.aload_n 0, 1) := by decide +kernel
theorem dX8_heaviestNow_8 : decode cX8_heaviestNow 8 = .ok (.invokevirtual 171, 3) := by decide +kernel
theorem dX8_heaviestNow_11 : decode cX8_heaviestNow 11 = .ok (.aload_n 0, 1) := by decide +kernel
theorem dX8_heaviestNow_12 : decode cX8_heaviestNow 12 = .ok (.getfield 97, 3) := by decide +kernel
theorem dX8_heaviestNow_15 : decode cX8_heaviestNow 15 = .ok (.ifCond .le 7, 3) := by decide +kernel
theorem dX8_heaviestNow_18 : decode cX8_heaviestNow 18 = .ok (.iconst 1, 1) := by decide +kernel
theorem dX8_heaviestNow_19 : decode cX8_heaviestNow 19 = .ok (.goto 4, 3) := by decide +kernel
theorem dX8_heaviestNow_22 : decode cX8_heaviestNow 22 = .ok (.iconst 0, 1) := by decide +kernel
theorem dX8_heaviestNow_23 : decode cX8_heaviestNow 23 = .ok (.istore 5, 2) := by decide +kernel
theorem dX8_heaviestNow_25 : decode cX8_heaviestNow 25 = .ok (.iload 5, 2) := by decide +kernel
theorem dX8_heaviestNow_27 : decode cX8_heaviestNow 27 = .ok (.ifCond .eq 55, 3) := by decide +kernel
theorem dX8_heaviestNow_30 : decode cX8_heaviestNow 30 = .ok (.aload_n 0, 1) := by decide +kernel
theorem dX8_heaviestNow_31 : decode cX8_heaviestNow 31 = .ok (.iload_n 1, 1) := by decide +kernel
theorem dX8_heaviestNow_32 : decode cX8_heaviestNow 32 = .ok (.invokevirtual 174, 3) := by decide +kernel
theorem dX8_heaviestNow_35 : decode cX8_heaviestNow 35 = .ok (.ifCond .eq 38, 3) := by decide +kernel
theorem dX8_heaviestNow_38 : decode cX8_heaviestNow 38 = .ok (.aload_n 0, 1) := by decide +kernel
theorem dX8_heaviestNow_39 : decode cX8_heaviestNow 39 = .ok (.invokevirtual 189, 3) := by decide +kernel
theorem dX8_heaviestNow_42 : decode cX8_heaviestNow 42 = .ok (.istore 6, 2) := by decide +kernel
theorem dX8_heaviestNow_44 : decode cX8_heaviestNow 44 = .ok (.iload 6, 2) := by decide +kernel
theorem dX8_heaviestNow_46 : decode cX8_heaviestNow 46 = .ok (.iload_n 3, 1) := by decide +kernel
theorem dX8_heaviestNow_47 : decode cX8_heaviestNow 47 = .ok (.if_icmp .le 8, 3) := by decide +kernel
theorem dX8_heaviestNow_50 : decode cX8_heaviestNow 50 = .ok (.iload 4, 2) := by decide +kernel
theorem dX8_heaviestNow_52 : decode cX8_heaviestNow 52 = .ok (.goto 4, 3) := by decide +kernel
theorem dX8_heaviestNow_55 : decode cX8_heaviestNow 55 = .ok (.iload_n 2, 1) := by decide +kernel
theorem dX8_heaviestNow_56 : decode cX8_heaviestNow 56 = .ok (.istore_n 2, 1) := by decide +kernel
theorem dX8_heaviestNow_57 : decode cX8_heaviestNow 57 = .ok (.iload 6, 2) := by decide +kernel
theorem dX8_heaviestNow_59 : decode cX8_heaviestNow 59 = .ok (.iload_n 3, 1) := by decide +kernel
theorem dX8_heaviestNow_60 : decode cX8_heaviestNow 60 = .ok (.if_icmp .le 8, 3) := by decide +kernel
theorem dX8_heaviestNow_63 : decode cX8_heaviestNow 63 = .ok (.iload 6, 2) := by decide +kernel
theorem dX8_heaviestNow_65 : decode cX8_heaviestNow 65 = .ok (.goto 4, 3) := by decide +kernel
theorem dX8_heaviestNow_68 : decode cX8_heaviestNow 68 = .ok (.iload_n 3, 1) := by decide +kernel
theorem dX8_heaviestNow_69 : decode cX8_heaviestNow 69 = .ok (.istore_n 3, 1) := by decide +kernel
theorem dX8_heaviestNow_70 : decode cX8_heaviestNow 70 = .ok (.iinc 4 1, 3) := by decide +kernel
theorem dX8_heaviestNow_73 : decode cX8_heaviestNow 73 = .ok (.aload_n 0, 1) := by decide +kernel
theorem dX8_heaviestNow_74 : decode cX8_heaviestNow 74 = .ok (.invokevirtual 177, 3) := by decide +kernel
theorem dX8_heaviestNow_77 : decode cX8_heaviestNow 77 = .ok (.istore 5, 2) := by decide +kernel
theorem dX8_heaviestNow_79 : decode cX8_heaviestNow 79 = .ok (.goto (-54), 3) := by decide +kernel
theorem dX8_heaviestNow_82 : decode cX8_heaviestNow 82 = .ok (.iload_n 2, 1) := by decide +kernel
theorem dX8_heaviestNow_83 : decode cX8_heaviestNow 83 = .ok (.ireturn, 1) := by decide +kernel
theorem dX8_heaviest_0 : decode cX8_heaviest 0 = .ok (.iload_n 1, 1) := by decide +kernel
theorem dX8_heaviest_1 : decode cX8_heaviest 1 = .ok (.iconst 0, 1) := by decide +kernel
theorem dX8_heaviest_2 : decode cX8_heaviest 2 = .ok (.iconst 2, 1) := by decide +kernel
theorem dX8_heaviest_3 : decode cX8_heaviest 3 = .ok (.invokestatic 65, 3) := by decide +kernel
theorem dX8_heaviest_6 : decode cX8_heaviest 6 = .ok (.ifCond .eq 11, 3) := by decide +kernel
theorem dX8_heaviest_9 : decode cX8_heaviest 9 = .ok (.aload_n 0, 1) := by decide +kernel
theorem dX8_heaviest_10 : decode cX8_heaviest 10 = .ok (.iload_n 1, 1) := by decide +kernel
theorem dX8_heaviest_11 : decode cX8_heaviest 11 = .ok (.invokevirtual 192, 3) := by decide +kernel
theorem dX8_heaviest_14 : decode cX8_heaviest 14 = .ok (.goto 5, 3) := by decide +kernel
theorem dX8_heaviest_17 : decode cX8_heaviest 17 = .ok (.bipush (-102), 2) := by decide +kernel
theorem dX8_heaviest_19 : decode cX8_heaviest 19 = .ok (.ireturn, 1) := by decide +kernel
theorem dX8_countSquare_0 : decode cX8_countSquare 0 = .ok (.iconst 0, 1) := by decide +kernel
theorem dX8_countSquare_1 : decode cX8_countSquare 1 = .ok (.istore_n 1, 1) := by decide +kernel
theorem dX8_countSquare_2 : decode cX8_countSquare 2 = .ok (.iconst 0, 1) := by decide +kernel
theorem dX8_countSquare_3 : decode cX8_countSquare 3 = .ok (.istore_n 2, 1) := by decide +kernel
theorem dX8_countSquare_4 : decode cX8_countSquare 4 = .ok (.iload_n 2, 1) := by decide +kernel
theorem dX8_countSquare_5 : decode cX8_countSquare 5 = .ok (.aload_n 0, 1) := by decide +kernel
theorem dX8_countSquare_6 : decode cX8_countSquare 6 = .ok (.getfield 100, 3) := by decide +kernel
theorem dX8_countSquare_9 : decode cX8_countSquare 9 = .ok (.if_icmp .ge 50, 3) := by decide +kernel
theorem dX8_countSquare_12 : decode cX8_countSquare 12 = .ok (.aload_n 0, 1) := by decide +kernel
theorem dX8_countSquare_13 : decode cX8_countSquare 13 = .ok (.getfield 34, 3) := by decide +kernel
theorem dX8_countSquare_16 : decode cX8_countSquare 16 = .ok (.aload_n 0, 1) := by decide +kernel
theorem dX8_countSquare_17 : decode cX8_countSquare 17 = .ok (.getfield 25, 3) := by decide +kernel
theorem dX8_countSquare_20 : decode cX8_countSquare 20 = .ok (.iload_n 2, 1) := by decide +kernel
theorem dX8_countSquare_21 : decode cX8_countSquare 21 = .ok (.iaload, 1) := by decide +kernel
theorem dX8_countSquare_22 : decode cX8_countSquare 22 = .ok (.dup2, 1) := by decide +kernel
theorem dX8_countSquare_23 : decode cX8_countSquare 23 = .ok (.iaload, 1) := by decide +kernel
theorem dX8_countSquare_24 : decode cX8_countSquare 24 = .ok (.iconst 1, 1) := by decide +kernel
theorem dX8_countSquare_25 : decode cX8_countSquare 25 = .ok (.iadd, 1) := by decide +kernel
theorem dX8_countSquare_26 : decode cX8_countSquare 26 = .ok (.iastore, 1) := by decide +kernel
theorem dX8_countSquare_27 : decode cX8_countSquare 27 = .ok (.aload_n 0, 1) := by decide +kernel
theorem dX8_countSquare_28 : decode cX8_countSquare 28 = .ok (.getfield 37, 3) := by decide +kernel
theorem dX8_countSquare_31 : decode cX8_countSquare 31 = .ok (.aload_n 0, 1) := by decide +kernel
theorem dX8_countSquare_32 : decode cX8_countSquare 32 = .ok (.getfield 28, 3) := by decide +kernel
theorem dX8_countSquare_35 : decode cX8_countSquare 35 = .ok (.iload_n 2, 1) := by decide +kernel
theorem dX8_countSquare_36 : decode cX8_countSquare 36 = .ok (.iaload, 1) := by decide +kernel
theorem dX8_countSquare_37 : decode cX8_countSquare 37 = .ok (.dup2, 1) := by decide +kernel
theorem dX8_countSquare_38 : decode cX8_countSquare 38 = .ok (.iaload, 1) := by decide +kernel
theorem dX8_countSquare_39 : decode cX8_countSquare 39 = .ok (.iconst 1, 1) := by decide +kernel
theorem dX8_countSquare_40 : decode cX8_countSquare 40 = .ok (.iadd, 1) := by decide +kernel
theorem dX8_countSquare_41 : decode cX8_countSquare 41 = .ok (.iastore, 1) := by decide +kernel
theorem dX8_countSquare_42 : decode cX8_countSquare 42 = .ok (.iload_n 1, 1) := by decide +kernel
theorem dX8_countSquare_43 : decode cX8_countSquare 43 = .ok (.iconst 1, 1) := by decide +kernel
theorem dX8_countSquare_44 : decode cX8_countSquare 44 = .ok (.aload_n 0, 1) := by decide +kernel
theorem dX8_countSquare_45 : decode cX8_countSquare 45 = .ok (.getfield 25, 3) := by decide +kernel
theorem dX8_countSquare_48 : decode cX8_countSquare 48 = .ok (.iload_n 2, 1) := by decide +kernel
theorem dX8_countSquare_49 : decode cX8_countSquare 49 = .ok (.iaload, 1) := by decide +kernel
theorem dX8_countSquare_50 : decode cX8_countSquare 50 = .ok (.ishl, 1) := by decide +kernel
theorem dX8_countSquare_51 : decode cX8_countSquare 51 = .ok (.ior, 1) := by decide +kernel
theorem dX8_countSquare_52 : decode cX8_countSquare 52 = .ok (.istore_n 1, 1) := by decide +kernel
theorem dX8_countSquare_53 : decode cX8_countSquare 53 = .ok (.iinc 2 1, 3) := by decide +kernel
theorem dX8_countSquare_56 : decode cX8_countSquare 56 = .ok (.goto (-52), 3) := by decide +kernel
theorem dX8_countSquare_59 : decode cX8_countSquare 59 = .ok (.aload_n 0, 1) := by decide +kernel
theorem dX8_countSquare_60 : decode cX8_countSquare 60 = .ok (.invokevirtual 165, 3) := by decide +kernel
theorem dX8_countSquare_63 : decode cX8_countSquare 63 = .ok (.istore_n 2, 1) := by decide +kernel
theorem dX8_countSquare_64 : decode cX8_countSquare 64 = .ok (.iconst 0, 1) := by decide +kernel
theorem dX8_countSquare_65 : decode cX8_countSquare 65 = .ok (.istore_n 3, 1) := by decide +kernel
theorem dX8_countSquare_66 : decode cX8_countSquare 66 = .ok (.iload_n 3, 1) := by decide +kernel
theorem dX8_countSquare_67 : decode cX8_countSquare 67 = .ok (.aload_n 0, 1) := by decide +kernel
theorem dX8_countSquare_68 : decode cX8_countSquare 68 = .ok (.getfield 97, 3) := by decide +kernel
theorem dX8_countSquare_71 : decode cX8_countSquare 71 = .ok (.if_icmp .ge 36, 3) := by decide +kernel
theorem dX8_countSquare_74 : decode cX8_countSquare 74 = .ok (.aload_n 0, 1) := by decide +kernel
theorem dX8_countSquare_75 : decode cX8_countSquare 75 = .ok (.getfield 40, 3) := by decide +kernel
theorem dX8_countSquare_78 : decode cX8_countSquare 78 = .ok (.iload_n 3, 1) := by decide +kernel
theorem dX8_countSquare_79 : decode cX8_countSquare 79 = .ok (.dup2, 1) := by decide +kernel
theorem dX8_countSquare_80 : decode cX8_countSquare 80 = .ok (.iaload, 1) := by decide +kernel
theorem dX8_countSquare_81 : decode cX8_countSquare 81 = .ok (.iload_n 2, 1) := by decide +kernel
theorem dX8_countSquare_82 : decode cX8_countSquare 82 = .ok (.ifCond .eq 16, 3) := by decide +kernel
theorem dX8_countSquare_85 : decode cX8_countSquare 85 = .ok (.iload_n 1, 1) := by decide +kernel
theorem dX8_countSquare_86 : decode cX8_countSquare 86 = .ok (.iload_n 3, 1) := by decide +kernel
theorem dX8_countSquare_87 : decode cX8_countSquare 87 = .ok (.ishr, 1) := by decide +kernel
theorem dX8_countSquare_88 : decode cX8_countSquare 88 = .ok (.iconst 1, 1) := by decide +kernel
theorem dX8_countSquare_89 : decode cX8_countSquare 89 = .ok (.iand, 1) := by decide +kernel
theorem dX8_countSquare_90 : decode cX8_countSquare 90 = .ok (.iconst 1, 1) := by decide +kernel
theorem dX8_countSquare_91 : decode cX8_countSquare 91 = .ok (.if_icmp .ne 7, 3) := by decide +kernel
theorem dX8_countSquare_94 : decode cX8_countSquare 94 = .ok (.iconst 1, 1) := by decide +kernel
theorem dX8_countSquare_95 : decode cX8_countSquare 95 = .ok (.goto 4, 3) := by decide +kernel
theorem dX8_countSquare_98 : decode cX8_countSquare 98 = .ok (.iconst 0, 1) := by decide +kernel
theorem dX8_countSquare_99 : decode cX8_countSquare 99 = .ok (.iadd, 1) := by decide +kernel
theorem dX8_countSquare_100 : decode cX8_countSquare 100 = .ok (.iastore, 1) := by decide +kernel
theorem dX8_countSquare_101 : decode cX8_countSquare 101 = .ok (.iinc 3 1, 3) := by decide +kernel
theorem dX8_countSquare_104 : decode cX8_countSquare 104 = .ok (.goto (-38), 3) := by decide +kernel
theorem dX8_countSquare_107 : decode cX8_countSquare 107 = .ok (.return_, 1) := by decide +kernel
theorem dX8_layCounts_0 : decode cX8_layCounts 0 = .ok (.iconst 0, 1) := by decide +kernel
theorem dX8_layCounts_1 : decode cX8_layCounts 1 = .ok (.istore_n 1, 1) := by decide +kernel
theorem dX8_layCounts_2 : decode cX8_layCounts 2 = .ok (.iload_n 1, 1) := by decide +kernel
theorem dX8_layCounts_3 : decode cX8_layCounts 3 = .ok (.bipush 12, 2) := by decide +kernel
theorem dX8_layCounts_5 : decode cX8_layCounts 5 = .ok (.if_icmp .ge 30, 3) := by decide +kernel
theorem dX8_layCounts_8 : decode cX8_layCounts 8 = .ok (.aload_n 0, 1) := by decide +kernel
theorem dX8_layCounts_9 : decode cX8_layCounts 9 = .ok (.getfield 34, 3) := by decide +kernel
theorem dX8_layCounts_12 : decode cX8_layCounts 12 = .ok (.iload_n 1, 1) := by decide +kernel
theorem dX8_layCounts_13 : decode cX8_layCounts 13 = .ok (.iconst 0, 1) := by decide +kernel
theorem dX8_layCounts_14 : decode cX8_layCounts 14 = .ok (.iastore, 1) := by decide +kernel
theorem dX8_layCounts_15 : decode cX8_layCounts 15 = .ok (.aload_n 0, 1) := by decide +kernel
theorem dX8_layCounts_16 : decode cX8_layCounts 16 = .ok (.getfield 37, 3) := by decide +kernel
theorem dX8_layCounts_19 : decode cX8_layCounts 19 = .ok (.iload_n 1, 1) := by decide +kernel
theorem dX8_layCounts_20 : decode cX8_layCounts 20 = .ok (.iconst 0, 1) := by decide +kernel
theorem dX8_layCounts_21 : decode cX8_layCounts 21 = .ok (.iastore, 1) := by decide +kernel
theorem dX8_layCounts_22 : decode cX8_layCounts 22 = .ok (.aload_n 0, 1) := by decide +kernel
theorem dX8_layCounts_23 : decode cX8_layCounts 23 = .ok (.getfield 40, 3) := by decide +kernel
theorem dX8_layCounts_26 : decode cX8_layCounts 26 = .ok (.iload_n 1, 1) := by decide +kernel
theorem dX8_layCounts_27 : decode cX8_layCounts 27 = .ok (.iconst 0, 1) := by decide +kernel
theorem dX8_layCounts_28 : decode cX8_layCounts 28 = .ok (.iastore, 1) := by decide +kernel
theorem dX8_layCounts_29 : decode cX8_layCounts 29 = .ok (.iinc 1 1, 3) := by decide +kernel
theorem dX8_layCounts_32 : decode cX8_layCounts 32 = .ok (.goto (-30), 3) := by decide +kernel
theorem dX8_layCounts_35 : decode cX8_layCounts 35 = .ok (.aload_n 0, 1) := by decide +kernel
theorem dX8_layCounts_36 : decode cX8_layCounts 36 = .ok (.invokevirtual 171, 3) := by decide +kernel
theorem dX8_layCounts_39 : decode cX8_layCounts 39 = .ok (.aload_n 0, 1) := by decide +kernel
theorem dX8_layCounts_40 : decode cX8_layCounts 40 = .ok (.getfield 97, 3) := by decide +kernel
theorem dX8_layCounts_43 : decode cX8_layCounts 43 = .ok (.ifCond .le 7, 3) := by decide +kernel
theorem dX8_layCounts_46 : decode cX8_layCounts 46 = .ok (.iconst 1, 1) := by decide +kernel
theorem dX8_layCounts_47 : decode cX8_layCounts 47 = .ok (.goto 4, 3) := by decide +kernel
theorem dX8_layCounts_50 : decode cX8_layCounts 50 = .ok (.iconst 0, 1) := by decide +kernel
theorem dX8_layCounts_51 : decode cX8_layCounts 51 = .ok (.istore_n 1, 1) := by decide +kernel
theorem dX8_layCounts_52 : decode cX8_layCounts 52 = .ok (.iload_n 1, 1) := by decide +kernel
theorem dX8_layCounts_53 : decode cX8_layCounts 53 = .ok (.ifCond .eq 22, 3) := by decide +kernel
theorem dX8_layCounts_56 : decode cX8_layCounts 56 = .ok (.aload_n 0, 1) := by decide +kernel
theorem dX8_layCounts_57 : decode cX8_layCounts 57 = .ok (.invokevirtual 162, 3) := by decide +kernel
theorem dX8_layCounts_60 : decode cX8_layCounts 60 = .ok (.ifCond .eq 7, 3) := by decide +kernel
theorem dX8_layCounts_63 : decode cX8_layCounts 63 = .ok (.aload_n 0, 1) := by decide +kernel
theorem dX8_layCounts_64 : decode cX8_layCounts 64 = .ok (.invokevirtual 195, 3) := by decide +kernel
theorem dX8_layCounts_67 : decode cX8_layCounts 67 = .ok (.aload_n 0, 1) := by decide +kernel
theorem dX8_layCounts_68 : decode cX8_layCounts 68 = .ok (.invokevirtual 177, 3) := by decide +kernel
theorem dX8_layCounts_71 : decode cX8_layCounts 71 = .ok (.istore_n 1, 1) := by decide +kernel
theorem dX8_layCounts_72 : decode cX8_layCounts 72 = .ok (.goto (-20), 3) := by decide +kernel
theorem dX8_layCounts_75 : decode cX8_layCounts 75 = .ok (.return_, 1) := by decide +kernel
theorem dX8_wordNow_0 : decode cX8_wordNow 0 = .ok (.iload_n 2, 1) := by decide +kernel
theorem dX8_wordNow_1 : decode cX8_wordNow 1 = .ok (.tableswitch 58 0 3 #[31, 38, 44, 51], 31) := by decide +kernel
theorem dX8_wordNow_32 : decode cX8_wordNow 32 = .ok (.aload_n 0, 1) := by decide +kernel
theorem dX8_wordNow_33 : decode cX8_wordNow 33 = .ok (.getfield 13, 3) := by decide +kernel
theorem dX8_wordNow_36 : decode cX8_wordNow 36 = .ok (.iload_n 1, 1) := by decide +kernel
theorem dX8_wordNow_37 : decode cX8_wordNow 37 = .ok (.iaload, 1) := by decide +kernel
theorem dX8_wordNow_38 : decode cX8_wordNow 38 = .ok (.ireturn, 1) := by decide +kernel
theorem dX8_wordNow_39 : decode cX8_wordNow 39 = .ok (.aload_n 0, 1) := by decide +kernel
theorem dX8_wordNow_40 : decode cX8_wordNow 40 = .ok (.iload_n 1, 1) := by decide +kernel
theorem dX8_wordNow_41 : decode cX8_wordNow 41 = .ok (.invokevirtual 137, 3) := by decide +kernel
theorem dX8_wordNow_44 : decode cX8_wordNow 44 = .ok (.ireturn, 1) := by decide +kernel
theorem dX8_wordNow_45 : decode cX8_wordNow 45 = .ok (.aload_n 0, 1) := by decide +kernel
theorem dX8_wordNow_46 : decode cX8_wordNow 46 = .ok (.getfield 34, 3) := by decide +kernel
theorem dX8_wordNow_49 : decode cX8_wordNow 49 = .ok (.iload_n 1, 1) := by decide +kernel
theorem dX8_wordNow_50 : decode cX8_wordNow 50 = .ok (.iaload, 1) := by decide +kernel
theorem dX8_wordNow_51 : decode cX8_wordNow 51 = .ok (.ireturn, 1) := by decide +kernel
theorem dX8_wordNow_52 : decode cX8_wordNow 52 = .ok (.aload_n 0, 1) := by decide +kernel
theorem dX8_wordNow_53 : decode cX8_wordNow 53 = .ok (.getfield 37, 3) := by decide +kernel
theorem dX8_wordNow_56 : decode cX8_wordNow 56 = .ok (.iload_n 1, 1) := by decide +kernel
theorem dX8_wordNow_57 : decode cX8_wordNow 57 = .ok (.iaload, 1) := by decide +kernel
theorem dX8_wordNow_58 : decode cX8_wordNow 58 = .ok (.ireturn, 1) := by decide +kernel
theorem dX8_wordNow_59 : decode cX8_wordNow 59 = .ok (.aload_n 0, 1) := by decide +kernel
theorem dX8_wordNow_60 : decode cX8_wordNow 60 = .ok (.getfield 40, 3) := by decide +kernel
theorem dX8_wordNow_63 : decode cX8_wordNow 63 = .ok (.iload_n 1, 1) := by decide +kernel
theorem dX8_wordNow_64 : decode cX8_wordNow 64 = .ok (.iaload, 1) := by decide +kernel
theorem dX8_wordNow_65 : decode cX8_wordNow 65 = .ok (.ireturn, 1) := by decide +kernel
theorem dX8_wordTold_0 : decode cX8_wordTold 0 = .ok (.iload_n 2, 1) := by decide +kernel
theorem dX8_wordTold_1 : decode cX8_wordTold 1 = .ok (.iconst 1, 1) := by decide +kernel
theorem dX8_wordTold_2 : decode cX8_wordTold 2 = .ok (.if_icmp .le 7, 3) := by decide +kernel
theorem dX8_wordTold_5 : decode cX8_wordTold 5 = .ok (.aload_n 0, 1) := by decide +kernel
theorem dX8_wordTold_6 : decode cX8_wordTold 6 = .ok (.invokevirtual 198, 3) := by decide +kernel
theorem dX8_wordTold_9 : decode cX8_wordTold 9 = .ok (.aload_n 0, 1) := by decide +kernel
theorem dX8_wordTold_10 : decode cX8_wordTold 10 = .ok (.iload_n 1, 1) := by decide +kernel
theorem dX8_wordTold_11 : decode cX8_wordTold 11 = .ok (.iload_n 2, 1) := by decide +kernel
theorem dX8_wordTold_12 : decode cX8_wordTold 12 = .ok (.invokevirtual 201, 3) := by decide +kernel
theorem dX8_wordTold_15 : decode cX8_wordTold 15 = .ok (.ireturn, 1) := by decide +kernel
theorem dX8_word_0 : decode cX8_word 0 = .ok (.aload_n 0, 1) := by decide +kernel
theorem dX8_word_1 : decode cX8_word 1 = .ok (.iload_n 1, 1) := by decide +kernel
theorem dX8_word_2 : decode cX8_word 2 = .ok (.invokevirtual 124, 3) := by decide +kernel
theorem dX8_word_5 : decode cX8_word 5 = .ok (.ifCond .ne 8, 3) := by decide +kernel
theorem dX8_word_8 : decode cX8_word 8 = .ok (.bipush (-101), 2) := by decide +kernel
theorem dX8_word_10 : decode cX8_word 10 = .ok (.goto 23, 3) := by decide +kernel
theorem dX8_word_13 : decode cX8_word 13 = .ok (.iload_n 2, 1) := by decide +kernel
theorem dX8_word_14 : decode cX8_word 14 = .ok (.iconst 0, 1) := by decide +kernel
theorem dX8_word_15 : decode cX8_word 15 = .ok (.iconst 4, 1) := by decide +kernel
theorem dX8_word_16 : decode cX8_word 16 = .ok (.invokestatic 65, 3) := by decide +kernel
theorem dX8_word_19 : decode cX8_word 19 = .ok (.ifCond .eq 12, 3) := by decide +kernel
theorem dX8_word_22 : decode cX8_word 22 = .ok (.aload_n 0, 1) := by decide +kernel
theorem dX8_word_23 : decode cX8_word 23 = .ok (.iload_n 1, 1) := by decide +kernel
theorem dX8_word_24 : decode cX8_word 24 = .ok (.iload_n 2, 1) := by decide +kernel
theorem dX8_word_25 : decode cX8_word 25 = .ok (.invokevirtual 204, 3) := by decide +kernel
theorem dX8_word_28 : decode cX8_word 28 = .ok (.goto 5, 3) := by decide +kernel
theorem dX8_word_31 : decode cX8_word 31 = .ok (.bipush (-102), 2) := by decide +kernel
theorem dX8_word_33 : decode cX8_word 33 = .ok (.ireturn, 1) := by decide +kernel
theorem dX8_isRow_0 : decode cX8_isRow 0 = .ok (.iload_n 1, 1) := by decide +kernel
theorem dX8_isRow_1 : decode cX8_isRow 1 = .ok (.iconst 0, 1) := by decide +kernel
theorem dX8_isRow_2 : decode cX8_isRow 2 = .ok (.aload_n 0, 1) := by decide +kernel
theorem dX8_isRow_3 : decode cX8_isRow 3 = .ok (.getfield 100, 3) := by decide +kernel
theorem dX8_isRow_6 : decode cX8_isRow 6 = .ok (.iconst 1, 1) := by decide +kernel
theorem dX8_isRow_7 : decode cX8_isRow 7 = .ok (.isub, 1) := by decide +kernel
theorem dX8_isRow_8 : decode cX8_isRow 8 = .ok (.invokestatic 65, 3) := by decide +kernel
theorem dX8_isRow_11 : decode cX8_isRow 11 = .ok (.ireturn, 1) := by decide +kernel
theorem dX8_put_0 : decode cX8_put 0 = .ok (.aload_n 0, 1) := by decide +kernel
theorem dX8_put_1 : decode cX8_put 1 = .ok (.iload_n 1, 1) := by decide +kernel
theorem dX8_put_2 : decode cX8_put 2 = .ok (.invokevirtual 207, 3) := by decide +kernel
theorem dX8_put_5 : decode cX8_put 5 = .ok (.ifCond .eq 11, 3) := by decide +kernel
theorem dX8_put_8 : decode cX8_put 8 = .ok (.aload_n 0, 1) := by decide +kernel
theorem dX8_put_9 : decode cX8_put 9 = .ok (.iload_n 2, 1) := by decide +kernel
theorem dX8_put_10 : decode cX8_put 10 = .ok (.invokevirtual 124, 3) := by decide +kernel
theorem dX8_put_13 : decode cX8_put 13 = .ok (.ifCond .ne 6, 3) := by decide +kernel
theorem dX8_put_16 : decode cX8_put 16 = .ok (.bipush (-101), 2) := by decide +kernel
theorem dX8_put_18 : decode cX8_put 18 = .ok (.ireturn, 1) := by decide +kernel
theorem dX8_put_19 : decode cX8_put 19 = .ok (.aload_n 0, 1) := by decide +kernel
theorem dX8_put_20 : decode cX8_put 20 = .ok (.getfield 16, 3) := by decide +kernel
theorem dX8_put_23 : decode cX8_put 23 = .ok (.iload_n 1, 1) := by decide +kernel
theorem dX8_put_24 : decode cX8_put 24 = .ok (.iaload, 1) := by decide +kernel
theorem dX8_put_25 : decode cX8_put 25 = .ok (.istore_n 3, 1) := by decide +kernel
theorem dX8_put_26 : decode cX8_put 26 = .ok (.aload_n 0, 1) := by decide +kernel
theorem dX8_put_27 : decode cX8_put 27 = .ok (.getfield 16, 3) := by decide +kernel
theorem dX8_put_30 : decode cX8_put 30 = .ok (.iload_n 1, 1) := by decide +kernel
theorem dX8_put_31 : decode cX8_put 31 = .ok (.iload_n 2, 1) := by decide +kernel
theorem dX8_put_32 : decode cX8_put 32 = .ok (.iastore, 1) := by decide +kernel
theorem dX8_put_33 : decode cX8_put 33 = .ok (.iload_n 3, 1) := by decide +kernel
theorem dX8_put_34 : decode cX8_put 34 = .ok (.ireturn, 1) := by decide +kernel
theorem dX8_lift_0 : decode cX8_lift 0 = .ok (.aload_n 0, 1) := by decide +kernel
theorem dX8_lift_1 : decode cX8_lift 1 = .ok (.iload_n 1, 1) := by decide +kernel
theorem dX8_lift_2 : decode cX8_lift 2 = .ok (.invokevirtual 207, 3) := by decide +kernel
theorem dX8_lift_5 : decode cX8_lift 5 = .ok (.ifCond .ne 6, 3) := by decide +kernel
theorem dX8_lift_8 : decode cX8_lift 8 = .ok (.bipush (-101), 2) := by decide +kernel
theorem dX8_lift_10 : decode cX8_lift 10 = .ok (.ireturn, 1) := by decide +kernel
theorem dX8_lift_11 : decode cX8_lift 11 = .ok (.aload_n 0, 1) := by decide +kernel
theorem dX8_lift_12 : decode cX8_lift 12 = .ok (.getfield 16, 3) := by decide +kernel
theorem dX8_lift_15 : decode cX8_lift 15 = .ok (.iload_n 1, 1) := by decide +kernel
theorem dX8_lift_16 : decode cX8_lift 16 = .ok (.iaload, 1) := by decide +kernel
theorem dX8_lift_17 : decode cX8_lift 17 = .ok (.iconst (-1), 1) := by decide +kernel
theorem dX8_lift_18 : decode cX8_lift 18 = .ok (.if_icmp .ne 6, 3) := by decide +kernel
theorem dX8_lift_21 : decode cX8_lift 21 = .ok (.bipush (-103), 2) := by decide +kernel
theorem dX8_lift_23 : decode cX8_lift 23 = .ok (.ireturn, 1) := by decide +kernel
theorem dX8_lift_24 : decode cX8_lift 24 = .ok (.aload_n 0, 1) := by decide +kernel
theorem dX8_lift_25 : decode cX8_lift 25 = .ok (.getfield 16, 3) := by decide +kernel
theorem dX8_lift_28 : decode cX8_lift 28 = .ok (.iload_n 1, 1) := by decide +kernel
theorem dX8_lift_29 : decode cX8_lift 29 = .ok (.iaload, 1) := by decide +kernel
theorem dX8_lift_30 : decode cX8_lift 30 = .ok (.istore_n 2, 1) := by decide +kernel
theorem dX8_lift_31 : decode cX8_lift 31 = .ok (.aload_n 0, 1) := by decide +kernel
theorem dX8_lift_32 : decode cX8_lift 32 = .ok (.getfield 16, 3) := by decide +kernel
theorem dX8_lift_35 : decode cX8_lift 35 = .ok (.iload_n 1, 1) := by decide +kernel
theorem dX8_lift_36 : decode cX8_lift 36 = .ok (.iconst (-1), 1) := by decide +kernel
theorem dX8_lift_37 : decode cX8_lift 37 = .ok (.iastore, 1) := by decide +kernel
theorem dX8_lift_38 : decode cX8_lift 38 = .ok (.iload_n 2, 1) := by decide +kernel
theorem dX8_lift_39 : decode cX8_lift 39 = .ok (.ireturn, 1) := by decide +kernel
theorem dX8_board_0 : decode cX8_board 0 = .ok (.aload_n 0, 1) := by decide +kernel
theorem dX8_board_1 : decode cX8_board 1 = .ok (.iload_n 1, 1) := by decide +kernel
theorem dX8_board_2 : decode cX8_board 2 = .ok (.invokevirtual 207, 3) := by decide +kernel
theorem dX8_board_5 : decode cX8_board 5 = .ok (.ifCond .eq 12, 3) := by decide +kernel
theorem dX8_board_8 : decode cX8_board 8 = .ok (.aload_n 0, 1) := by decide +kernel
theorem dX8_board_9 : decode cX8_board 9 = .ok (.getfield 16, 3) := by decide +kernel
theorem dX8_board_12 : decode cX8_board 12 = .ok (.iload_n 1, 1) := by decide +kernel
theorem dX8_board_13 : decode cX8_board 13 = .ok (.iaload, 1) := by decide +kernel
theorem dX8_board_14 : decode cX8_board 14 = .ok (.goto 5, 3) := by decide +kernel
theorem dX8_board_17 : decode cX8_board 17 = .ok (.bipush (-101), 2) := by decide +kernel
theorem dX8_board_19 : decode cX8_board 19 = .ok (.ireturn, 1) := by decide +kernel
theorem dX8_isFitting_0 : decode cX8_isFitting 0 = .ok (.iconst 1, 1) := by decide +kernel
theorem dX8_isFitting_1 : decode cX8_isFitting 1 = .ok (.istore_n 1, 1) := by decide +kernel
theorem dX8_isFitting_2 : decode cX8_isFitting 2 = .ok (.iconst 0, 1) := by decide +kernel
theorem dX8_isFitting_3 : decode cX8_isFitting 3 = .ok (.istore_n 2, 1) := by decide +kernel
theorem dX8_isFitting_4 : decode cX8_isFitting 4 = .ok (.iload_n 2, 1) := by decide +kernel
theorem dX8_isFitting_5 : decode cX8_isFitting 5 = .ok (.aload_n 0, 1) := by decide +kernel
theorem dX8_isFitting_6 : decode cX8_isFitting 6 = .ok (.getfield 100, 3) := by decide +kernel
theorem dX8_isFitting_9 : decode cX8_isFitting 9 = .ok (.if_icmp .ge 44, 3) := by decide +kernel
theorem dX8_isFitting_12 : decode cX8_isFitting 12 = .ok (.iload_n 1, 1) := by decide +kernel
theorem dX8_isFitting_13 : decode cX8_isFitting 13 = .ok (.ifCond .eq 32, 3) := by decide +kernel
theorem dX8_isFitting_16 : decode cX8_isFitting 16 = .ok (.aload_n 0, 1) := by decide +kernel
theorem dX8_isFitting_17 : decode cX8_isFitting 17 = .ok (.getfield 16, 3) := by decide +kernel
theorem dX8_isFitting_20 : decode cX8_isFitting 20 = .ok (.iload_n 2, 1) := by decide +kernel
theorem dX8_isFitting_21 : decode cX8_isFitting 21 = .ok (.iaload, 1) := by decide +kernel
theorem dX8_isFitting_22 : decode cX8_isFitting 22 = .ok (.iconst (-1), 1) := by decide +kernel
theorem dX8_isFitting_23 : decode cX8_isFitting 23 = .ok (.if_icmp .eq 18, 3) := by decide +kernel
theorem dX8_isFitting_26 : decode cX8_isFitting 26 = .ok (.aload_n 0, 1) := by decide +kernel
theorem dX8_isFitting_27 : decode cX8_isFitting 27 = .ok (.getfield 16, 3) := by decide +kernel
theorem dX8_isFitting_30 : decode cX8_isFitting 30 = .ok (.iload_n 2, 1) := by decide +kernel
theorem dX8_isFitting_31 : decode cX8_isFitting 31 = .ok (.iaload, 1) := by decide +kernel
theorem dX8_isFitting_32 : decode cX8_isFitting 32 = .ok (.aload_n 0, 1) := by decide +kernel
theorem dX8_isFitting_33 : decode cX8_isFitting 33 = .ok (.getfield 25, 3) := by decide +kernel
theorem dX8_isFitting_36 : decode cX8_isFitting 36 = .ok (.iload_n 2, 1) := by decide +kernel
theorem dX8_isFitting_37 : decode cX8_isFitting 37 = .ok (.iaload, 1) := by decide +kernel
theorem dX8_isFitting_38 : decode cX8_isFitting 38 = .ok (.if_icmp .ne 7, 3) := by decide +kernel
theorem dX8_isFitting_41 : decode cX8_isFitting 41 = .ok (.iconst 1, 1) := by decide +kernel
theorem dX8_isFitting_42 : decode cX8_isFitting 42 = .ok (.goto 4, 3) := by decide +kernel
theorem dX8_isFitting_45 : decode cX8_isFitting 45 = .ok (.iconst 0, 1) := by decide +kernel
theorem dX8_isFitting_46 : decode cX8_isFitting 46 = .ok (.istore_n 1, 1) := by decide +kernel
theorem dX8_isFitting_47 : decode cX8_isFitting 47 = .ok (.iinc 2 1, 3) := by decide +kernel
theorem dX8_isFitting_50 : decode cX8_isFitting 50 = .ok (.goto (-46), 3) := by decide +kernel
theorem dX8_isFitting_53 : decode cX8_isFitting 53 = .ok (.iload_n 1, 1) := by decide +kernel
theorem dX8_isFitting_54 : decode cX8_isFitting 54 = .ok (.ifCond .eq 14, 3) := by decide +kernel
theorem dX8_isFitting_57 : decode cX8_isFitting 57 = .ok (.aload_n 0, 1) := by decide +kernel
theorem dX8_isFitting_58 : decode cX8_isFitting 58 = .ok (.invokevirtual 162, 3) := by decide +kernel
theorem dX8_isFitting_61 : decode cX8_isFitting 61 = .ok (.ifCond .eq 7, 3) := by decide +kernel
theorem dX8_isFitting_64 : decode cX8_isFitting 64 = .ok (.iconst 1, 1) := by decide +kernel
theorem dX8_isFitting_65 : decode cX8_isFitting 65 = .ok (.goto 4, 3) := by decide +kernel
theorem dX8_isFitting_68 : decode cX8_isFitting 68 = .ok (.iconst 0, 1) := by decide +kernel
theorem dX8_isFitting_69 : decode cX8_isFitting 69 = .ok (.ireturn, 1) := by decide +kernel
theorem dX8_countFitting_0 : decode cX8_countFitting 0 = .ok (.iconst 0, 1) := by decide +kernel
theorem dX8_countFitting_1 : decode cX8_countFitting 1 = .ok (.istore_n 1, 1) := by decide +kernel
theorem dX8_countFitting_2 : decode cX8_countFitting 2 = .ok (.iload_n 1, 1) := by decide +kernel
theorem dX8_countFitting_3 : decode cX8_countFitting 3 = .ok (.aload_n 0, 1) := by decide +kernel
theorem dX8_countFitting_4 : decode cX8_countFitting 4 = .ok (.getfield 100, 3) := by decide +kernel
theorem dX8_countFitting_7 : decode cX8_countFitting 7 = .ok (.if_icmp .ge 90, 3) := by decide +kernel
theorem dX8_countFitting_10 : decode cX8_countFitting 10 = .ok (.aload_n 0, 1) := by decide +kernel
theorem dX8_countFitting_11 : decode cX8_countFitting 11 = .ok (.getfield 43, 3) := by decide +kernel
theorem dX8_countFitting_14 : decode cX8_countFitting 14 = .ok (.iload_n 1, 1) := by decide +kernel
theorem dX8_countFitting_15 : decode cX8_countFitting 15 = .ok (.dup2, 1) := by decide +kernel
theorem dX8_countFitting_16 : decode cX8_countFitting 16 = .ok (.iaload, 1) := by decide +kernel
theorem dX8_countFitting_17 : decode cX8_countFitting 17 = .ok (.iconst 1, 1) := by decide +kernel
theorem dX8_countFitting_18 : decode cX8_countFitting 18 = .ok (.aload_n 0, 1) := by decide +kernel
theorem dX8_countFitting_19 : decode cX8_countFitting 19 = .ok (.getfield 25, 3) := by decide +kernel
theorem dX8_countFitting_22 : decode cX8_countFitting 22 = .ok (.iload_n 1, 1) := by decide +kernel
theorem dX8_countFitting_23 : decode cX8_countFitting 23 = .ok (.iaload, 1) := by decide +kernel
theorem dX8_countFitting_24 : decode cX8_countFitting 24 = .ok (.ishl, 1) := by decide +kernel
theorem dX8_countFitting_25 : decode cX8_countFitting 25 = .ok (.ior, 1) := by decide +kernel
theorem dX8_countFitting_26 : decode cX8_countFitting 26 = .ok (.iastore, 1) := by decide +kernel
theorem dX8_countFitting_27 : decode cX8_countFitting 27 = .ok (.iconst 0, 1) := by decide +kernel
theorem dX8_countFitting_28 : decode cX8_countFitting 28 = .ok (.istore_n 2, 1) := by decide +kernel
theorem dX8_countFitting_29 : decode cX8_countFitting 29 = .ok (.iload_n 2, 1) := by decide +kernel
theorem dX8_countFitting_30 : decode cX8_countFitting 30 = .ok (.aload_n 0, 1) := by decide +kernel
theorem dX8_countFitting_31 : decode cX8_countFitting 31 = .ok (.getfield 100, 3) := by decide +kernel
theorem dX8_countFitting_34 : decode cX8_countFitting 34 = .ok (.if_icmp .ge 57, 3) := by decide +kernel
theorem dX8_countFitting_37 : decode cX8_countFitting 37 = .ok (.aload_n 0, 1) := by decide +kernel
theorem dX8_countFitting_38 : decode cX8_countFitting 38 = .ok (.aload_n 0, 1) := by decide +kernel
theorem dX8_countFitting_39 : decode cX8_countFitting 39 = .ok (.getfield 25, 3) := by decide +kernel
theorem dX8_countFitting_42 : decode cX8_countFitting 42 = .ok (.iload_n 1, 1) := by decide +kernel
theorem dX8_countFitting_43 : decode cX8_countFitting 43 = .ok (.iaload, 1) := by decide +kernel
theorem dX8_countFitting_44 : decode cX8_countFitting 44 = .ok (.iload_n 2, 1) := by decide +kernel
theorem dX8_countFitting_45 : decode cX8_countFitting 45 = .ok (.invokevirtual 130, 3) := by decide +kernel
theorem dX8_countFitting_48 : decode cX8_countFitting 48 = .ok (.istore_n 3, 1) := by decide +kernel
theorem dX8_countFitting_49 : decode cX8_countFitting 49 = .ok (.aload_n 0, 1) := by decide +kernel
theorem dX8_countFitting_50 : decode cX8_countFitting 50 = .ok (.getfield 46, 3) := by decide +kernel
theorem dX8_countFitting_53 : decode cX8_countFitting 53 = .ok (.iconst 4, 1) := by decide +kernel
theorem dX8_countFitting_54 : decode cX8_countFitting 54 = .ok (.iload_n 1, 1) := by decide +kernel
theorem dX8_countFitting_55 : decode cX8_countFitting 55 = .ok (.imul, 1) := by decide +kernel
theorem dX8_countFitting_56 : decode cX8_countFitting 56 = .ok (.iload_n 2, 1) := by decide +kernel
theorem dX8_countFitting_57 : decode cX8_countFitting 57 = .ok (.iadd, 1) := by decide +kernel
theorem dX8_countFitting_58 : decode cX8_countFitting 58 = .ok (.aload_n 0, 1) := by decide +kernel
theorem dX8_countFitting_59 : decode cX8_countFitting 59 = .ok (.getfield 210, 3) := by decide +kernel
theorem dX8_countFitting_62 : decode cX8_countFitting 62 = .ok (.ifCond .eq 17, 3) := by decide +kernel
theorem dX8_countFitting_65 : decode cX8_countFitting 65 = .ok (.aload_n 0, 1) := by decide +kernel
theorem dX8_countFitting_66 : decode cX8_countFitting 66 = .ok (.getfield 46, 3) := by decide +kernel
theorem dX8_countFitting_69 : decode cX8_countFitting 69 = .ok (.iconst 4, 1) := by decide +kernel
theorem dX8_countFitting_70 : decode cX8_countFitting 70 = .ok (.iload_n 1, 1) := by decide +kernel
theorem dX8_countFitting_71 : decode cX8_countFitting 71 = .ok (.imul, 1) := by decide +kernel
theorem dX8_countFitting_72 : decode cX8_countFitting 72 = .ok (.iload_n 2, 1) := by decide +kernel
theorem dX8_countFitting_73 : decode cX8_countFitting 73 = .ok (.iadd, 1) := by decide +kernel
theorem dX8_countFitting_74 : decode cX8_countFitting 74 = .ok (.iaload, 1) := by decide +kernel
theorem dX8_countFitting_75 : decode cX8_countFitting 75 = .ok (.iload_n 3, 1) := by decide +kernel
theorem dX8_countFitting_76 : decode cX8_countFitting 76 = .ok (.if_icmp .ne 7, 3) := by decide +kernel
theorem dX8_countFitting_79 : decode cX8_countFitting 79 = .ok (.iload_n 3, 1) := by decide +kernel
theorem dX8_countFitting_80 : decode cX8_countFitting 80 = .ok (.goto 4, 3) := by decide +kernel
theorem dX8_countFitting_83 : decode cX8_countFitting 83 = .ok (.iconst 0, 1) := by decide +kernel
theorem dX8_countFitting_84 : decode cX8_countFitting 84 = .ok (.iastore, 1) := by decide +kernel
theorem dX8_countFitting_85 : decode cX8_countFitting 85 = .ok (.iinc 2 1, 3) := by decide +kernel
theorem dX8_countFitting_88 : decode cX8_countFitting 88 = .ok (.goto (-59), 3) := by decide +kernel
theorem dX8_countFitting_91 : decode cX8_countFitting 91 = .ok (.iinc 1 1, 3) := by decide +kernel
theorem dX8_countFitting_94 : decode cX8_countFitting 94 = .ok (.goto (-92), 3) := by decide +kernel
theorem dX8_countFitting_97 : decode cX8_countFitting 97 = .ok (.aload_n 0, 1) := by decide +kernel
theorem dX8_countFitting_98 : decode cX8_countFitting 98 = .ok (.dup, 1) := by decide +kernel
theorem dX8_countFitting_99 : decode cX8_countFitting 99 = .ok (.getfield 210, 3) := by decide +kernel
theorem dX8_countFitting_102 : decode cX8_countFitting 102 = .ok (.iconst 1, 1) := by decide +kernel
theorem dX8_countFitting_103 : decode cX8_countFitting 103 = .ok (.iadd, 1) := by decide +kernel
theorem dX8_countFitting_104 : decode cX8_countFitting 104 = .ok (.putfield 210, 3) := by decide +kernel
theorem dX8_countFitting_107 : decode cX8_countFitting 107 = .ok (.return_, 1) := by decide +kernel
theorem dX8_layFitting_0 : decode cX8_layFitting 0 = .ok (.aload_n 0, 1) := by decide +kernel
theorem dX8_layFitting_1 : decode cX8_layFitting 1 = .ok (.iconst 0, 1) := by decide +kernel
theorem dX8_layFitting_2 : decode cX8_layFitting 2 = .ok (.putfield 210, 3) := by decide +kernel
theorem dX8_layFitting_5 : decode cX8_layFitting 5 = .ok (.iconst 0, 1) := by decide +kernel
theorem dX8_layFitting_6 : decode cX8_layFitting 6 = .ok (.istore_n 1, 1) := by decide +kernel
theorem dX8_layFitting_7 : decode cX8_layFitting 7 = .ok (.iload_n 1, 1) := by decide +kernel
theorem dX8_layFitting_8 : decode cX8_layFitting 8 = .ok (.iconst 4, 1) := by decide +kernel
theorem dX8_layFitting_9 : decode cX8_layFitting 9 = .ok (.if_icmp .ge 16, 3) := by decide +kernel
theorem dX8_layFitting_12 : decode cX8_layFitting 12 = .ok (.aload_n 0, 1) := by decide +kernel
theorem dX8_layFitting_13 : decode cX8_layFitting 13 = .ok (.getfield 43, 3) := by decide +kernel
theorem dX8_layFitting_16 : decode cX8_layFitting 16 = .ok (.iload_n 1, 1) := by decide +kernel
theorem dX8_layFitting_17 : decode cX8_layFitting 17 = .ok (.iconst 0, 1) := by decide +kernel
theorem dX8_layFitting_18 : decode cX8_layFitting 18 = .ok (.iastore, 1) := by decide +kernel
theorem dX8_layFitting_19 : decode cX8_layFitting 19 = .ok (.iinc 1 1, 3) := by decide +kernel
theorem dX8_layFitting_22 : decode cX8_layFitting 22 = .ok (.goto (-15), 3) := by decide +kernel
theorem dX8_layFitting_25 : decode cX8_layFitting 25 = .ok (.aload_n 0, 1) := by decide +kernel
theorem dX8_layFitting_26 : decode cX8_layFitting 26 = .ok (.invokevirtual 171, 3) := by decide +kernel
theorem dX8_layFitting_29 : decode cX8_layFitting 29 = .ok (.aload_n 0, 1) := by decide +kernel
theorem dX8_layFitting_30 : decode cX8_layFitting 30 = .ok (.getfield 97, 3) := by decide +kernel
theorem dX8_layFitting_33 : decode cX8_layFitting 33 = .ok (.ifCond .le 7, 3) := by decide +kernel
theorem dX8_layFitting_36 : decode cX8_layFitting 36 = .ok (.iconst 1, 1) := by decide +kernel
theorem dX8_layFitting_37 : decode cX8_layFitting 37 = .ok (.goto 4, 3) := by decide +kernel
theorem dX8_layFitting_40 : decode cX8_layFitting 40 = .ok (.iconst 0, 1) := by decide +kernel
theorem dX8_layFitting_41 : decode cX8_layFitting 41 = .ok (.istore_n 1, 1) := by decide +kernel
theorem dX8_layFitting_42 : decode cX8_layFitting 42 = .ok (.iload_n 1, 1) := by decide +kernel
theorem dX8_layFitting_43 : decode cX8_layFitting 43 = .ok (.ifCond .eq 22, 3) := by decide +kernel
theorem dX8_layFitting_46 : decode cX8_layFitting 46 = .ok (.aload_n 0, 1) := by decide +kernel
theorem dX8_layFitting_47 : decode cX8_layFitting 47 = .ok (.invokevirtual 213, 3) := by decide +kernel
theorem dX8_layFitting_50 : decode cX8_layFitting 50 = .ok (.ifCond .eq 7, 3) := by decide +kernel
theorem dX8_layFitting_53 : decode cX8_layFitting 53 = .ok (.aload_n 0, 1) := by decide +kernel
theorem dX8_layFitting_54 : decode cX8_layFitting 54 = .ok (.invokevirtual 216, 3) := by decide +kernel
theorem dX8_layFitting_57 : decode cX8_layFitting 57 = .ok (.aload_n 0, 1) := by decide +kernel
theorem dX8_layFitting_58 : decode cX8_layFitting 58 = .ok (.invokevirtual 177, 3) := by decide +kernel
theorem dX8_layFitting_61 : decode cX8_layFitting 61 = .ok (.istore_n 1, 1) := by decide +kernel
theorem dX8_layFitting_62 : decode cX8_layFitting 62 = .ok (.goto (-20), 3) := by decide +kernel
theorem dX8_layFitting_65 : decode cX8_layFitting 65 = .ok (.return_, 1) := by decide +kernel
theorem dX8_fittingNow_0 : decode cX8_fittingNow 0 = .ok (.aload_n 0, 1) := by decide +kernel
theorem dX8_fittingNow_1 : decode cX8_fittingNow 1 = .ok (.invokevirtual 219, 3) := by decide +kernel
theorem dX8_fittingNow_4 : decode cX8_fittingNow 4 = .ok (.aload_n 0, 1) := by decide +kernel
theorem dX8_fittingNow_5 : decode cX8_fittingNow 5 = .ok (.getfield 210, 3) := by decide +kernel
theorem dX8_fittingNow_8 : decode cX8_fittingNow 8 = .ok (.ireturn, 1) := by decide +kernel
theorem dX8_fitting_0 : decode cX8_fitting 0 = .ok (.aload_n 0, 1) := by decide +kernel
theorem dX8_fitting_1 : decode cX8_fitting 1 = .ok (.invokevirtual 222, 3) := by decide +kernel
theorem dX8_fitting_4 : decode cX8_fitting 4 = .ok (.ireturn, 1) := by decide +kernel
theorem dX8_mayNow_0 : decode cX8_mayNow 0 = .ok (.aload_n 0, 1) := by decide +kernel
theorem dX8_mayNow_1 : decode cX8_mayNow 1 = .ok (.invokevirtual 219, 3) := by decide +kernel
theorem dX8_mayNow_4 : decode cX8_mayNow 4 = .ok (.aload_n 0, 1) := by decide +kernel
theorem dX8_mayNow_5 : decode cX8_mayNow 5 = .ok (.getfield 43, 3) := by decide +kernel
theorem dX8_mayNow_8 : decode cX8_mayNow 8 = .ok (.iload_n 1, 1) := by decide +kernel
theorem dX8_mayNow_9 : decode cX8_mayNow 9 = .ok (.iaload, 1) := by decide +kernel
theorem dX8_mayNow_10 : decode cX8_mayNow 10 = .ok (.ireturn, 1) := by decide +kernel
theorem dX8_may_0 : decode cX8_may 0 = .ok (.aload_n 0, 1) := by decide +kernel
theorem dX8_may_1 : decode cX8_may 1 = .ok (.iload_n 1, 1) := by decide +kernel
theorem dX8_may_2 : decode cX8_may 2 = .ok (.invokevirtual 207, 3) := by decide +kernel
theorem dX8_may_5 : decode cX8_may 5 = .ok (.ifCond .eq 11, 3) := by decide +kernel
theorem dX8_may_8 : decode cX8_may 8 = .ok (.aload_n 0, 1) := by decide +kernel
theorem dX8_may_9 : decode cX8_may 9 = .ok (.iload_n 1, 1) := by decide +kernel
theorem dX8_may_10 : decode cX8_may 10 = .ok (.invokevirtual 225, 3) := by decide +kernel
theorem dX8_may_13 : decode cX8_may 13 = .ok (.goto 5, 3) := by decide +kernel
theorem dX8_may_16 : decode cX8_may 16 = .ok (.bipush (-101), 2) := by decide +kernel
theorem dX8_may_18 : decode cX8_may 18 = .ok (.ireturn, 1) := by decide +kernel
theorem dX8_sureNow_0 : decode cX8_sureNow 0 = .ok (.aload_n 0, 1) := by decide +kernel
theorem dX8_sureNow_1 : decode cX8_sureNow 1 = .ok (.getfield 46, 3) := by decide +kernel
theorem dX8_sureNow_4 : decode cX8_sureNow 4 = .ok (.iconst 4, 1) := by decide +kernel
theorem dX8_sureNow_5 : decode cX8_sureNow 5 = .ok (.iload_n 1, 1) := by decide +kernel
theorem dX8_sureNow_6 : decode cX8_sureNow 6 = .ok (.imul, 1) := by decide +kernel
theorem dX8_sureNow_7 : decode cX8_sureNow 7 = .ok (.iload_n 2, 1) := by decide +kernel
theorem dX8_sureNow_8 : decode cX8_sureNow 8 = .ok (.iadd, 1) := by decide +kernel
theorem dX8_sureNow_9 : decode cX8_sureNow 9 = .ok (.iaload, 1) := by decide +kernel
theorem dX8_sureNow_10 : decode cX8_sureNow 10 = .ok (.istore_n 3, 1) := by decide +kernel
theorem dX8_sureNow_11 : decode cX8_sureNow 11 = .ok (.iload_n 3, 1) := by decide +kernel
theorem dX8_sureNow_12 : decode cX8_sureNow 12 = .ok (.ifCond .ne 7, 3) := by decide +kernel
theorem dX8_sureNow_15 : decode cX8_sureNow 15 = .ok (.iconst (-1), 1) := by decide +kernel
theorem dX8_sureNow_16 : decode cX8_sureNow 16 = .ok (.goto 4, 3) := by decide +kernel
theorem dX8_sureNow_19 : decode cX8_sureNow 19 = .ok (.iload_n 3, 1) := by decide +kernel
theorem dX8_sureNow_20 : decode cX8_sureNow 20 = .ok (.ireturn, 1) := by decide +kernel
theorem dX8_sure_0 : decode cX8_sure 0 = .ok (.aload_n 0, 1) := by decide +kernel
theorem dX8_sure_1 : decode cX8_sure 1 = .ok (.iload_n 1, 1) := by decide +kernel
theorem dX8_sure_2 : decode cX8_sure 2 = .ok (.invokevirtual 207, 3) := by decide +kernel
theorem dX8_sure_5 : decode cX8_sure 5 = .ok (.ifCond .eq 11, 3) := by decide +kernel
theorem dX8_sure_8 : decode cX8_sure 8 = .ok (.aload_n 0, 1) := by decide +kernel
theorem dX8_sure_9 : decode cX8_sure 9 = .ok (.iload_n 2, 1) := by decide +kernel
theorem dX8_sure_10 : decode cX8_sure 10 = .ok (.invokevirtual 207, 3) := by decide +kernel
theorem dX8_sure_13 : decode cX8_sure 13 = .ok (.ifCond .ne 6, 3) := by decide +kernel
theorem dX8_sure_16 : decode cX8_sure 16 = .ok (.bipush (-101), 2) := by decide +kernel
theorem dX8_sure_18 : decode cX8_sure 18 = .ok (.ireturn, 1) := by decide +kernel
theorem dX8_sure_19 : decode cX8_sure 19 = .ok (.aload_n 0, 1) := by decide +kernel
theorem dX8_sure_20 : decode cX8_sure 20 = .ok (.invokevirtual 219, 3) := by decide +kernel
theorem dX8_sure_23 : decode cX8_sure 23 = .ok (.aload_n 0, 1) := by decide +kernel
theorem dX8_sure_24 : decode cX8_sure 24 = .ok (.getfield 210, 3) := by decide +kernel
theorem dX8_sure_27 : decode cX8_sure 27 = .ok (.ifCond .ne 8, 3) := by decide +kernel
theorem dX8_sure_30 : decode cX8_sure 30 = .ok (.bipush (-103), 2) := by decide +kernel
theorem dX8_sure_32 : decode cX8_sure 32 = .ok (.goto 9, 3) := by decide +kernel
theorem dX8_sure_35 : decode cX8_sure 35 = .ok (.aload_n 0, 1) := by decide +kernel
theorem dX8_sure_36 : decode cX8_sure 36 = .ok (.iload_n 1, 1) := by decide +kernel
theorem dX8_sure_37 : decode cX8_sure 37 = .ok (.iload_n 2, 1) := by decide +kernel
theorem dX8_sure_38 : decode cX8_sure 38 = .ok (.invokevirtual 228, 3) := by decide +kernel
theorem dX8_sure_41 : decode cX8_sure 41 = .ok (.ireturn, 1) := by decide +kernel
theorem dX8_beginOfColumn_0 : decode cX8_beginOfColumn 0 = .ok (.iconst 0, 1) := by decide +kernel
theorem dX8_beginOfColumn_1 : decode cX8_beginOfColumn 1 = .ok (.istore_n 3, 1) := by decide +kernel
theorem dX8_beginOfColumn_2 : decode cX8_beginOfColumn 2 = .ok (.iload_n 3, 1) := by decide +kernel
theorem dX8_beginOfColumn_3 : decode cX8_beginOfColumn 3 = .ok (.aload_n 0, 1) := by decide +kernel
theorem dX8_beginOfColumn_4 : decode cX8_beginOfColumn 4 = .ok (.getfield 97, 3) := by decide +kernel
theorem dX8_beginOfColumn_7 : decode cX8_beginOfColumn 7 = .ok (.if_icmp .ge 68, 3) := by decide +kernel
theorem dX8_beginOfColumn_10 : decode cX8_beginOfColumn 10 = .ok (.iconst 1, 1) := by decide +kernel
theorem dX8_beginOfColumn_11 : decode cX8_beginOfColumn 11 = .ok (.istore 4, 2) := by decide +kernel
theorem dX8_beginOfColumn_13 : decode cX8_beginOfColumn 13 = .ok (.iconst 0, 1) := by decide +kernel
theorem dX8_beginOfColumn_14 : decode cX8_beginOfColumn 14 = .ok (.istore 5, 2) := by decide +kernel
theorem dX8_beginOfColumn_16 : decode cX8_beginOfColumn 16 = .ok (.iload 5, 2) := by decide +kernel
theorem dX8_beginOfColumn_18 : decode cX8_beginOfColumn 18 = .ok (.iload_n 2, 1) := by decide +kernel
theorem dX8_beginOfColumn_19 : decode cX8_beginOfColumn 19 = .ok (.if_icmp .ge 43, 3) := by decide +kernel
theorem dX8_beginOfColumn_22 : decode cX8_beginOfColumn 22 = .ok (.iload 4, 2) := by decide +kernel
theorem dX8_beginOfColumn_24 : decode cX8_beginOfColumn 24 = .ok (.ifCond .eq 38, 3) := by decide +kernel
theorem dX8_beginOfColumn_27 : decode cX8_beginOfColumn 27 = .ok (.aload_n 0, 1) := by decide +kernel
theorem dX8_beginOfColumn_28 : decode cX8_beginOfColumn 28 = .ok (.aload_n 0, 1) := by decide +kernel
theorem dX8_beginOfColumn_29 : decode cX8_beginOfColumn 29 = .ok (.getfield 25, 3) := by decide +kernel
theorem dX8_beginOfColumn_32 : decode cX8_beginOfColumn 32 = .ok (.iload 5, 2) := by decide +kernel
theorem dX8_beginOfColumn_34 : decode cX8_beginOfColumn 34 = .ok (.iaload, 1) := by decide +kernel
theorem dX8_beginOfColumn_35 : decode cX8_beginOfColumn 35 = .ok (.iload_n 1, 1) := by decide +kernel
theorem dX8_beginOfColumn_36 : decode cX8_beginOfColumn 36 = .ok (.invokevirtual 130, 3) := by decide +kernel
theorem dX8_beginOfColumn_39 : decode cX8_beginOfColumn 39 = .ok (.aload_n 0, 1) := by decide +kernel
theorem dX8_beginOfColumn_40 : decode cX8_beginOfColumn 40 = .ok (.iload_n 3, 1) := by decide +kernel
theorem dX8_beginOfColumn_41 : decode cX8_beginOfColumn 41 = .ok (.iload 5, 2) := by decide +kernel
theorem dX8_beginOfColumn_43 : decode cX8_beginOfColumn 43 = .ok (.invokevirtual 130, 3) := by decide +kernel
theorem dX8_beginOfColumn_46 : decode cX8_beginOfColumn 46 = .ok (.if_icmp .ne 7, 3) := by decide +kernel
theorem dX8_beginOfColumn_49 : decode cX8_beginOfColumn 49 = .ok (.iconst 1, 1) := by decide +kernel
theorem dX8_beginOfColumn_50 : decode cX8_beginOfColumn 50 = .ok (.goto 4, 3) := by decide +kernel
theorem dX8_beginOfColumn_53 : decode cX8_beginOfColumn 53 = .ok (.iconst 0, 1) := by decide +kernel
theorem dX8_beginOfColumn_54 : decode cX8_beginOfColumn 54 = .ok (.istore 4, 2) := by decide +kernel
theorem dX8_beginOfColumn_56 : decode cX8_beginOfColumn 56 = .ok (.iinc 5 1, 3) := by decide +kernel
theorem dX8_beginOfColumn_59 : decode cX8_beginOfColumn 59 = .ok (.goto (-43), 3) := by decide +kernel
theorem dX8_beginOfColumn_62 : decode cX8_beginOfColumn 62 = .ok (.iload 4, 2) := by decide +kernel
theorem dX8_beginOfColumn_64 : decode cX8_beginOfColumn 64 = .ok (.ifCond .eq 5, 3) := by decide +kernel
theorem dX8_beginOfColumn_67 : decode cX8_beginOfColumn 67 = .ok (.iload_n 3, 1) := by decide +kernel
theorem dX8_beginOfColumn_68 : decode cX8_beginOfColumn 68 = .ok (.ireturn, 1) := by decide +kernel
theorem dX8_beginOfColumn_69 : decode cX8_beginOfColumn 69 = .ok (.iinc 3 1, 3) := by decide +kernel
theorem dX8_beginOfColumn_72 : decode cX8_beginOfColumn 72 = .ok (.goto (-70), 3) := by decide +kernel
theorem dX8_beginOfColumn_75 : decode cX8_beginOfColumn 75 = .ok (.iconst (-1), 1) := by decide +kernel
theorem dX8_beginOfColumn_76 : decode cX8_beginOfColumn 76 = .ok (.ireturn, 1) := by decide +kernel
theorem dX8_isState_0 : decode cX8_isState 0 = .ok (.iconst 1, 1) := by decide +kernel
theorem dX8_isState_1 : decode cX8_isState 1 = .ok (.istore_n 2, 1) := by decide +kernel
theorem dX8_isState_2 : decode cX8_isState 2 = .ok (.iconst 0, 1) := by decide +kernel
theorem dX8_isState_3 : decode cX8_isState 3 = .ok (.istore_n 3, 1) := by decide +kernel
theorem dX8_isState_4 : decode cX8_isState 4 = .ok (.iload_n 3, 1) := by decide +kernel
theorem dX8_isState_5 : decode cX8_isState 5 = .ok (.aload_n 0, 1) := by decide +kernel
theorem dX8_isState_6 : decode cX8_isState 6 = .ok (.getfield 100, 3) := by decide +kernel
theorem dX8_isState_9 : decode cX8_isState 9 = .ok (.if_icmp .ge 41, 3) := by decide +kernel
theorem dX8_isState_12 : decode cX8_isState 12 = .ok (.iload_n 2, 1) := by decide +kernel
theorem dX8_isState_13 : decode cX8_isState 13 = .ok (.ifCond .eq 37, 3) := by decide +kernel
theorem dX8_isState_16 : decode cX8_isState 16 = .ok (.aload_n 0, 1) := by decide +kernel
theorem dX8_isState_17 : decode cX8_isState 17 = .ok (.getfield 56, 3) := by decide +kernel
theorem dX8_isState_20 : decode cX8_isState 20 = .ok (.iload_n 3, 1) := by decide +kernel
theorem dX8_isState_21 : decode cX8_isState 21 = .ok (.aload_n 0, 1) := by decide +kernel
theorem dX8_isState_22 : decode cX8_isState 22 = .ok (.iload_n 3, 1) := by decide +kernel
theorem dX8_isState_23 : decode cX8_isState 23 = .ok (.iload_n 1, 1) := by decide +kernel
theorem dX8_isState_24 : decode cX8_isState 24 = .ok (.invokevirtual 231, 3) := by decide +kernel
theorem dX8_isState_27 : decode cX8_isState 27 = .ok (.iastore, 1) := by decide +kernel
theorem dX8_isState_28 : decode cX8_isState 28 = .ok (.aload_n 0, 1) := by decide +kernel
theorem dX8_isState_29 : decode cX8_isState 29 = .ok (.getfield 56, 3) := by decide +kernel
theorem dX8_isState_32 : decode cX8_isState 32 = .ok (.iload_n 3, 1) := by decide +kernel
theorem dX8_isState_33 : decode cX8_isState 33 = .ok (.iaload, 1) := by decide +kernel
theorem dX8_isState_34 : decode cX8_isState 34 = .ok (.iconst (-1), 1) := by decide +kernel
theorem dX8_isState_35 : decode cX8_isState 35 = .ok (.if_icmp .eq 7, 3) := by decide +kernel
theorem dX8_isState_38 : decode cX8_isState 38 = .ok (.iconst 1, 1) := by decide +kernel
theorem dX8_isState_39 : decode cX8_isState 39 = .ok (.goto 4, 3) := by decide +kernel
theorem dX8_isState_42 : decode cX8_isState 42 = .ok (.iconst 0, 1) := by decide +kernel
theorem dX8_isState_43 : decode cX8_isState 43 = .ok (.istore_n 2, 1) := by decide +kernel
theorem dX8_isState_44 : decode cX8_isState 44 = .ok (.iinc 3 1, 3) := by decide +kernel
theorem dX8_isState_47 : decode cX8_isState 47 = .ok (.goto (-43), 3) := by decide +kernel
theorem dX8_isState_50 : decode cX8_isState 50 = .ok (.iload_n 2, 1) := by decide +kernel
theorem dX8_isState_51 : decode cX8_isState 51 = .ok (.ireturn, 1) := by decide +kernel
theorem dX8_hasRest_0 : decode cX8_hasRest 0 = .ok (.iconst 0, 1) := by decide +kernel
theorem dX8_hasRest_1 : decode cX8_hasRest 1 = .ok (.istore 4, 2) := by decide +kernel
theorem dX8_hasRest_3 : decode cX8_hasRest 3 = .ok (.iconst 0, 1) := by decide +kernel
theorem dX8_hasRest_4 : decode cX8_hasRest 4 = .ok (.istore 5, 2) := by decide +kernel
theorem dX8_hasRest_6 : decode cX8_hasRest 6 = .ok (.iload 5, 2) := by decide +kernel
theorem dX8_hasRest_8 : decode cX8_hasRest 8 = .ok (.aload_n 0, 1) := by decide +kernel
theorem dX8_hasRest_9 : decode cX8_hasRest 9 = .ok (.getfield 97, 3) := by decide +kernel
theorem dX8_hasRest_12 : decode cX8_hasRest 12 = .ok (.if_icmp .ge 92, 3) := by decide +kernel
theorem dX8_hasRest_15 : decode cX8_hasRest 15 = .ok (.aload_n 0, 1) := by decide +kernel
theorem dX8_hasRest_16 : decode cX8_hasRest 16 = .ok (.iload_n 1, 1) := by decide +kernel
theorem dX8_hasRest_17 : decode cX8_hasRest 17 = .ok (.iload 5, 2) := by decide +kernel
theorem dX8_hasRest_19 : decode cX8_hasRest 19 = .ok (.invokevirtual 134, 3) := by decide +kernel
theorem dX8_hasRest_22 : decode cX8_hasRest 22 = .ok (.iload_n 2, 1) := by decide +kernel
theorem dX8_hasRest_23 : decode cX8_hasRest 23 = .ok (.if_icmp .lt 7, 3) := by decide +kernel
theorem dX8_hasRest_26 : decode cX8_hasRest 26 = .ok (.iconst 1, 1) := by decide +kernel
theorem dX8_hasRest_27 : decode cX8_hasRest 27 = .ok (.goto 4, 3) := by decide +kernel
theorem dX8_hasRest_30 : decode cX8_hasRest 30 = .ok (.iconst 0, 1) := by decide +kernel
theorem dX8_hasRest_31 : decode cX8_hasRest 31 = .ok (.istore 6, 2) := by decide +kernel
theorem dX8_hasRest_33 : decode cX8_hasRest 33 = .ok (.iload_n 2, 1) := by decide +kernel
theorem dX8_hasRest_34 : decode cX8_hasRest 34 = .ok (.istore 7, 2) := by decide +kernel
theorem dX8_hasRest_36 : decode cX8_hasRest 36 = .ok (.iload 7, 2) := by decide +kernel
theorem dX8_hasRest_38 : decode cX8_hasRest 38 = .ok (.aload_n 0, 1) := by decide +kernel
theorem dX8_hasRest_39 : decode cX8_hasRest 39 = .ok (.getfield 100, 3) := by decide +kernel
theorem dX8_hasRest_42 : decode cX8_hasRest 42 = .ok (.if_icmp .ge 39, 3) := by decide +kernel
theorem dX8_hasRest_45 : decode cX8_hasRest 45 = .ok (.iload 6, 2) := by decide +kernel
theorem dX8_hasRest_47 : decode cX8_hasRest 47 = .ok (.ifCond .eq 25, 3) := by decide +kernel
theorem dX8_hasRest_50 : decode cX8_hasRest 50 = .ok (.aload_n 0, 1) := by decide +kernel
theorem dX8_hasRest_51 : decode cX8_hasRest 51 = .ok (.iload 5, 2) := by decide +kernel
theorem dX8_hasRest_53 : decode cX8_hasRest 53 = .ok (.iload 7, 2) := by decide +kernel
theorem dX8_hasRest_55 : decode cX8_hasRest 55 = .ok (.invokevirtual 130, 3) := by decide +kernel
theorem dX8_hasRest_58 : decode cX8_hasRest 58 = .ok (.aload_n 0, 1) := by decide +kernel
theorem dX8_hasRest_59 : decode cX8_hasRest 59 = .ok (.iload_n 3, 1) := by decide +kernel
theorem dX8_hasRest_60 : decode cX8_hasRest 60 = .ok (.iload 7, 2) := by decide +kernel
theorem dX8_hasRest_62 : decode cX8_hasRest 62 = .ok (.invokevirtual 130, 3) := by decide +kernel
theorem dX8_hasRest_65 : decode cX8_hasRest 65 = .ok (.if_icmp .ne 7, 3) := by decide +kernel
theorem dX8_hasRest_68 : decode cX8_hasRest 68 = .ok (.iconst 1, 1) := by decide +kernel
theorem dX8_hasRest_69 : decode cX8_hasRest 69 = .ok (.goto 4, 3) := by decide +kernel
theorem dX8_hasRest_72 : decode cX8_hasRest 72 = .ok (.iconst 0, 1) := by decide +kernel
theorem dX8_hasRest_73 : decode cX8_hasRest 73 = .ok (.istore 6, 2) := by decide +kernel
theorem dX8_hasRest_75 : decode cX8_hasRest 75 = .ok (.iinc 7 1, 3) := by decide +kernel
theorem dX8_hasRest_78 : decode cX8_hasRest 78 = .ok (.goto (-42), 3) := by decide +kernel
theorem dX8_hasRest_81 : decode cX8_hasRest 81 = .ok (.iload 4, 2) := by decide +kernel
theorem dX8_hasRest_83 : decode cX8_hasRest 83 = .ok (.ifCond .ne 8, 3) := by decide +kernel
theorem dX8_hasRest_86 : decode cX8_hasRest 86 = .ok (.iload 6, 2) := by decide +kernel
theorem dX8_hasRest_88 : decode cX8_hasRest 88 = .ok (.ifCond .eq 7, 3) := by decide +kernel
theorem dX8_hasRest_91 : decode cX8_hasRest 91 = .ok (.iconst 1, 1) := by decide +kernel
theorem dX8_hasRest_92 : decode cX8_hasRest 92 = .ok (.goto 4, 3) := by decide +kernel
theorem dX8_hasRest_95 : decode cX8_hasRest 95 = .ok (.iconst 0, 1) := by decide +kernel
theorem dX8_hasRest_96 : decode cX8_hasRest 96 = .ok (.istore 4, 2) := by decide +kernel
theorem dX8_hasRest_98 : decode cX8_hasRest 98 = .ok (.iinc 5 1, 3) := by decide +kernel
theorem dX8_hasRest_101 : decode cX8_hasRest 101 = .ok (.goto (-95), 3) := by decide +kernel
theorem dX8_hasRest_104 : decode cX8_hasRest 104 = .ok (.iload 4, 2) := by decide +kernel
theorem dX8_hasRest_106 : decode cX8_hasRest 106 = .ok (.ireturn, 1) := by decide +kernel
theorem dX8_hasAllRests_0 : decode cX8_hasAllRests 0 = .ok (.iconst 1, 1) := by decide +kernel
theorem dX8_hasAllRests_1 : decode cX8_hasAllRests 1 = .ok (.istore 4, 2) := by decide +kernel
theorem dX8_hasAllRests_3 : decode cX8_hasAllRests 3 = .ok (.iconst 0, 1) := by decide +kernel
theorem dX8_hasAllRests_4 : decode cX8_hasAllRests 4 = .ok (.istore 5, 2) := by decide +kernel
theorem dX8_hasAllRests_6 : decode cX8_hasAllRests 6 = .ok (.iload 5, 2) := by decide +kernel
theorem dX8_hasAllRests_8 : decode cX8_hasAllRests 8 = .ok (.aload_n 0, 1) := by decide +kernel
theorem dX8_hasAllRests_9 : decode cX8_hasAllRests 9 = .ok (.getfield 97, 3) := by decide +kernel
theorem dX8_hasAllRests_12 : decode cX8_hasAllRests 12 = .ok (.if_icmp .ge 43, 3) := by decide +kernel
theorem dX8_hasAllRests_15 : decode cX8_hasAllRests 15 = .ok (.iload 4, 2) := by decide +kernel
theorem dX8_hasAllRests_17 : decode cX8_hasAllRests 17 = .ok (.ifCond .eq 29, 3) := by decide +kernel
theorem dX8_hasAllRests_20 : decode cX8_hasAllRests 20 = .ok (.aload_n 0, 1) := by decide +kernel
theorem dX8_hasAllRests_21 : decode cX8_hasAllRests 21 = .ok (.iload_n 2, 1) := by decide +kernel
theorem dX8_hasAllRests_22 : decode cX8_hasAllRests 22 = .ok (.iload 5, 2) := by decide +kernel
theorem dX8_hasAllRests_24 : decode cX8_hasAllRests 24 = .ok (.invokevirtual 134, 3) := by decide +kernel
theorem dX8_hasAllRests_27 : decode cX8_hasAllRests 27 = .ok (.iload_n 3, 1) := by decide +kernel
theorem dX8_hasAllRests_28 : decode cX8_hasAllRests 28 = .ok (.if_icmp .lt 14, 3) := by decide +kernel
theorem dX8_hasAllRests_31 : decode cX8_hasAllRests 31 = .ok (.aload_n 0, 1) := by decide +kernel
theorem dX8_hasAllRests_32 : decode cX8_hasAllRests 32 = .ok (.iload_n 1, 1) := by decide +kernel
theorem dX8_hasAllRests_33 : decode cX8_hasAllRests 33 = .ok (.iload_n 3, 1) := by decide +kernel
theorem dX8_hasAllRests_34 : decode cX8_hasAllRests 34 = .ok (.iload 5, 2) := by decide +kernel
theorem dX8_hasAllRests_36 : decode cX8_hasAllRests 36 = .ok (.invokevirtual 234, 3) := by decide +kernel
theorem dX8_hasAllRests_39 : decode cX8_hasAllRests 39 = .ok (.ifCond .eq 7, 3) := by decide +kernel
theorem dX8_hasAllRests_42 : decode cX8_hasAllRests 42 = .ok (.iconst 1, 1) := by decide +kernel
theorem dX8_hasAllRests_43 : decode cX8_hasAllRests 43 = .ok (.goto 4, 3) := by decide +kernel
theorem dX8_hasAllRests_46 : decode cX8_hasAllRests 46 = .ok (.iconst 0, 1) := by decide +kernel
theorem dX8_hasAllRests_47 : decode cX8_hasAllRests 47 = .ok (.istore 4, 2) := by decide +kernel
theorem dX8_hasAllRests_49 : decode cX8_hasAllRests 49 = .ok (.iinc 5 1, 3) := by decide +kernel
theorem dX8_hasAllRests_52 : decode cX8_hasAllRests 52 = .ok (.goto (-46), 3) := by decide +kernel
theorem dX8_hasAllRests_55 : decode cX8_hasAllRests 55 = .ok (.iload 4, 2) := by decide +kernel
theorem dX8_hasAllRests_57 : decode cX8_hasAllRests 57 = .ok (.ireturn, 1) := by decide +kernel
theorem dX8_likeOf_0 : decode cX8_likeOf 0 = .ok (.iconst 0, 1) := by decide +kernel
theorem dX8_likeOf_1 : decode cX8_likeOf 1 = .ok (.istore_n 3, 1) := by decide +kernel
theorem dX8_likeOf_2 : decode cX8_likeOf 2 = .ok (.aload_n 0, 1) := by decide +kernel
theorem dX8_likeOf_3 : decode cX8_likeOf 3 = .ok (.iload_n 3, 1) := by decide +kernel
theorem dX8_likeOf_4 : decode cX8_likeOf 4 = .ok (.iload_n 1, 1) := by decide +kernel
theorem dX8_likeOf_5 : decode cX8_likeOf 5 = .ok (.iload_n 2, 1) := by decide +kernel
theorem dX8_likeOf_6 : decode cX8_likeOf 6 = .ok (.invokevirtual 237, 3) := by decide +kernel
theorem dX8_likeOf_9 : decode cX8_likeOf 9 = .ok (.ifCond .eq 13, 3) := by decide +kernel
theorem dX8_likeOf_12 : decode cX8_likeOf 12 = .ok (.aload_n 0, 1) := by decide +kernel
theorem dX8_likeOf_13 : decode cX8_likeOf 13 = .ok (.iload_n 1, 1) := by decide +kernel
theorem dX8_likeOf_14 : decode cX8_likeOf 14 = .ok (.iload_n 3, 1) := by decide +kernel
theorem dX8_likeOf_15 : decode cX8_likeOf 15 = .ok (.iload_n 2, 1) := by decide +kernel
theorem dX8_likeOf_16 : decode cX8_likeOf 16 = .ok (.invokevirtual 237, 3) := by decide +kernel
theorem dX8_likeOf_19 : decode cX8_likeOf 19 = .ok (.ifCond .ne 9, 3) := by decide +kernel
theorem dX8_likeOf_22 : decode cX8_likeOf 22 = .ok (.iinc 3 1, 3) := by decide +kernel
theorem dX8_likeOf_25 : decode cX8_likeOf 25 = .ok (.goto (-23), 3) := by decide +kernel
theorem dX8_likeOf_28 : decode cX8_likeOf 28 = .ok (.iload_n 3, 1) := by decide +kernel
theorem dX8_likeOf_29 : decode cX8_likeOf 29 = .ok (.ireturn, 1) := by decide +kernel
theorem dX8_keyOf_0 : decode cX8_keyOf 0 = .ok (.iload_n 1, 1) := by decide +kernel
theorem dX8_keyOf_1 : decode cX8_keyOf 1 = .ok (.istore_n 2, 1) := by decide +kernel
theorem dX8_keyOf_2 : decode cX8_keyOf 2 = .ok (.iconst 0, 1) := by decide +kernel
theorem dX8_keyOf_3 : decode cX8_keyOf 3 = .ok (.istore_n 3, 1) := by decide +kernel
theorem dX8_keyOf_4 : decode cX8_keyOf 4 = .ok (.iload_n 3, 1) := by decide +kernel
theorem dX8_keyOf_5 : decode cX8_keyOf 5 = .ok (.aload_n 0, 1) := by decide +kernel
theorem dX8_keyOf_6 : decode cX8_keyOf 6 = .ok (.getfield 100, 3) := by decide +kernel
theorem dX8_keyOf_9 : decode cX8_keyOf 9 = .ok (.if_icmp .ge 34, 3) := by decide +kernel
theorem dX8_keyOf_12 : decode cX8_keyOf 12 = .ok (.bipush 16, 2) := by decide +kernel
theorem dX8_keyOf_14 : decode cX8_keyOf 14 = .ok (.iload_n 2, 1) := by decide +kernel
theorem dX8_keyOf_15 : decode cX8_keyOf 15 = .ok (.imul, 1) := by decide +kernel
theorem dX8_keyOf_16 : decode cX8_keyOf 16 = .ok (.iload_n 1, 1) := by decide +kernel
theorem dX8_keyOf_17 : decode cX8_keyOf 17 = .ok (.ifCond .ne 7, 3) := by decide +kernel
theorem dX8_keyOf_20 : decode cX8_keyOf 20 = .ok (.iconst 0, 1) := by decide +kernel
theorem dX8_keyOf_21 : decode cX8_keyOf 21 = .ok (.goto 14, 3) := by decide +kernel
theorem dX8_keyOf_24 : decode cX8_keyOf 24 = .ok (.aload_n 0, 1) := by decide +kernel
theorem dX8_keyOf_25 : decode cX8_keyOf 25 = .ok (.aload_n 0, 1) := by decide +kernel
theorem dX8_keyOf_26 : decode cX8_keyOf 26 = .ok (.getfield 56, 3) := by decide +kernel
theorem dX8_keyOf_29 : decode cX8_keyOf 29 = .ok (.iload_n 3, 1) := by decide +kernel
theorem dX8_keyOf_30 : decode cX8_keyOf 30 = .ok (.iaload, 1) := by decide +kernel
theorem dX8_keyOf_31 : decode cX8_keyOf 31 = .ok (.iload_n 1, 1) := by decide +kernel
theorem dX8_keyOf_32 : decode cX8_keyOf 32 = .ok (.invokevirtual 240, 3) := by decide +kernel
theorem dX8_keyOf_35 : decode cX8_keyOf 35 = .ok (.iadd, 1) := by decide +kernel
theorem dX8_keyOf_36 : decode cX8_keyOf 36 = .ok (.istore_n 2, 1) := by decide +kernel
theorem dX8_keyOf_37 : decode cX8_keyOf 37 = .ok (.iinc 3 1, 3) := by decide +kernel
theorem dX8_keyOf_40 : decode cX8_keyOf 40 = .ok (.goto (-36), 3) := by decide +kernel
theorem dX8_keyOf_43 : decode cX8_keyOf 43 = .ok (.iload_n 2, 1) := by decide +kernel
theorem dX8_keyOf_44 : decode cX8_keyOf 44 = .ok (.ireturn, 1) := by decide +kernel
theorem dX8_isKept_0 : decode cX8_isKept 0 = .ok (.iconst 0, 1) := by decide +kernel
theorem dX8_isKept_1 : decode cX8_isKept 1 = .ok (.istore_n 2, 1) := by decide +kernel
theorem dX8_isKept_2 : decode cX8_isKept 2 = .ok (.iconst 0, 1) := by decide +kernel
theorem dX8_isKept_3 : decode cX8_isKept 3 = .ok (.istore_n 3, 1) := by decide +kernel
theorem dX8_isKept_4 : decode cX8_isKept 4 = .ok (.iload_n 3, 1) := by decide +kernel
theorem dX8_isKept_5 : decode cX8_isKept 5 = .ok (.aload_n 0, 1) := by decide +kernel
theorem dX8_isKept_6 : decode cX8_isKept 6 = .ok (.getfield 243, 3) := by decide +kernel
theorem dX8_isKept_9 : decode cX8_isKept 9 = .ok (.if_icmp .ge 29, 3) := by decide +kernel
theorem dX8_isKept_12 : decode cX8_isKept 12 = .ok (.iload_n 2, 1) := by decide +kernel
theorem dX8_isKept_13 : decode cX8_isKept 13 = .ok (.ifCond .ne 13, 3) := by decide +kernel
theorem dX8_isKept_16 : decode cX8_isKept 16 = .ok (.aload_n 0, 1) := by decide +kernel
theorem dX8_isKept_17 : decode cX8_isKept 17 = .ok (.getfield 59, 3) := by decide +kernel
theorem dX8_isKept_20 : decode cX8_isKept 20 = .ok (.iload_n 3, 1) := by decide +kernel
theorem dX8_isKept_21 : decode cX8_isKept 21 = .ok (.iaload, 1) := by decide +kernel
theorem dX8_isKept_22 : decode cX8_isKept 22 = .ok (.iload_n 1, 1) := by decide +kernel
theorem dX8_isKept_23 : decode cX8_isKept 23 = .ok (.if_icmp .ne 7, 3) := by decide +kernel
theorem dX8_isKept_26 : decode cX8_isKept 26 = .ok (.iconst 1, 1) := by decide +kernel
theorem dX8_isKept_27 : decode cX8_isKept 27 = .ok (.goto 4, 3) := by decide +kernel
theorem dX8_isKept_30 : decode cX8_isKept 30 = .ok (.iconst 0, 1) := by decide +kernel
theorem dX8_isKept_31 : decode cX8_isKept 31 = .ok (.istore_n 2, 1) := by decide +kernel
theorem dX8_isKept_32 : decode cX8_isKept 32 = .ok (.iinc 3 1, 3) := by decide +kernel
theorem dX8_isKept_35 : decode cX8_isKept 35 = .ok (.goto (-31), 3) := by decide +kernel
theorem dX8_isKept_38 : decode cX8_isKept 38 = .ok (.iload_n 2, 1) := by decide +kernel
theorem dX8_isKept_39 : decode cX8_isKept 39 = .ok (.ireturn, 1) := by decide +kernel
theorem dX8_leave_0 : decode cX8_leave 0 = .ok (.aload_n 0, 1) := by decide +kernel
theorem dX8_leave_1 : decode cX8_leave 1 = .ok (.getfield 52, 3) := by decide +kernel
theorem dX8_leave_4 : decode cX8_leave 4 = .ok (.iload_n 1, 1) := by decide +kernel
theorem dX8_leave_5 : decode cX8_leave 5 = .ok (.baload, 1) := by decide +kernel
theorem dX8_leave_6 : decode cX8_leave 6 = .ok (.ifCond .eq 17, 3) := by decide +kernel
theorem dX8_leave_9 : decode cX8_leave 9 = .ok (.iload_n 1, 1) := by decide +kernel
theorem dX8_leave_10 : decode cX8_leave 10 = .ok (.ifCond .le 12, 3) := by decide +kernel
theorem dX8_leave_13 : decode cX8_leave 13 = .ok (.aload_n 0, 1) := by decide +kernel
theorem dX8_leave_14 : decode cX8_leave 14 = .ok (.getfield 52, 3) := by decide +kernel
theorem dX8_leave_17 : decode cX8_leave 17 = .ok (.iload_n 1, 1) := by decide +kernel
theorem dX8_leave_18 : decode cX8_leave 18 = .ok (.iconst 1, 1) := by decide +kernel
theorem dX8_leave_19 : decode cX8_leave 19 = .ok (.isub, 1) := by decide +kernel
theorem dX8_leave_20 : decode cX8_leave 20 = .ok (.iconst 1, 1) := by decide +kernel
theorem dX8_leave_21 : decode cX8_leave 21 = .ok (.bastore, 1) := by decide +kernel
theorem dX8_leave_22 : decode cX8_leave 22 = .ok (.return_, 1) := by decide +kernel
theorem dX8_leave_23 : decode cX8_leave 23 = .ok (.aload_n 0, 1) := by decide +kernel
theorem dX8_leave_24 : decode cX8_leave 24 = .ok (.dup, 1) := by decide +kernel
theorem dX8_leave_25 : decode cX8_leave 25 = .ok (.getfield 246, 3) := by decide +kernel
theorem dX8_leave_28 : decode cX8_leave 28 = .ok (.iconst 1, 1) := by decide +kernel
theorem dX8_leave_29 : decode cX8_leave 29 = .ok (.iadd, 1) := by decide +kernel
theorem dX8_leave_30 : decode cX8_leave 30 = .ok (.putfield 246, 3) := by decide +kernel
theorem dX8_leave_33 : decode cX8_leave 33 = .ok (.iload_n 2, 1) := by decide +kernel
theorem dX8_leave_34 : decode cX8_leave 34 = .ok (.ifCond .eq 43, 3) := by decide +kernel
theorem dX8_leave_37 : decode cX8_leave 37 = .ok (.aload_n 0, 1) := by decide +kernel
theorem dX8_leave_38 : decode cX8_leave 38 = .ok (.iload_n 1, 1) := by decide +kernel
theorem dX8_leave_39 : decode cX8_leave 39 = .ok (.invokevirtual 249, 3) := by decide +kernel
theorem dX8_leave_42 : decode cX8_leave 42 = .ok (.pop, 1) := by decide +kernel
theorem dX8_leave_43 : decode cX8_leave 43 = .ok (.aload_n 0, 1) := by decide +kernel
theorem dX8_leave_44 : decode cX8_leave 44 = .ok (.iload_n 1, 1) := by decide +kernel
theorem dX8_leave_45 : decode cX8_leave 45 = .ok (.invokevirtual 252, 3) := by decide +kernel
theorem dX8_leave_48 : decode cX8_leave 48 = .ok (.istore_n 3, 1) := by decide +kernel
theorem dX8_leave_49 : decode cX8_leave 49 = .ok (.aload_n 0, 1) := by decide +kernel
theorem dX8_leave_50 : decode cX8_leave 50 = .ok (.iload_n 3, 1) := by decide +kernel
theorem dX8_leave_51 : decode cX8_leave 51 = .ok (.invokevirtual 255, 3) := by decide +kernel
theorem dX8_leave_54 : decode cX8_leave 54 = .ok (.ifCond .ne 23, 3) := by decide +kernel
theorem dX8_leave_57 : decode cX8_leave 57 = .ok (.aload_n 0, 1) := by decide +kernel
theorem dX8_leave_58 : decode cX8_leave 58 = .ok (.getfield 59, 3) := by decide +kernel
theorem dX8_leave_61 : decode cX8_leave 61 = .ok (.aload_n 0, 1) := by decide +kernel
theorem dX8_leave_62 : decode cX8_leave 62 = .ok (.getfield 243, 3) := by decide +kernel
theorem dX8_leave_65 : decode cX8_leave 65 = .ok (.iload_n 3, 1) := by decide +kernel
theorem dX8_leave_66 : decode cX8_leave 66 = .ok (.iastore, 1) := by decide +kernel
theorem dX8_leave_67 : decode cX8_leave 67 = .ok (.aload_n 0, 1) := by decide +kernel
theorem dX8_leave_68 : decode cX8_leave 68 = .ok (.dup, 1) := by decide +kernel
theorem dX8_leave_69 : decode cX8_leave 69 = .ok (.getfield 243, 3) := by decide +kernel
theorem dX8_leave_72 : decode cX8_leave 72 = .ok (.iconst 1, 1) := by decide +kernel
theorem dX8_leave_73 : decode cX8_leave 73 = .ok (.iadd, 1) := by decide +kernel
theorem dX8_leave_74 : decode cX8_leave 74 = .ok (.putfield 243, 3) := by decide +kernel
theorem dX8_leave_77 : decode cX8_leave 77 = .ok (.return_, 1) := by decide +kernel
theorem dX8_visit_0 : decode cX8_visit 0 = .ok (.aload_n 0, 1) := by decide +kernel
theorem dX8_visit_1 : decode cX8_visit 1 = .ok (.dup, 1) := by decide +kernel
theorem dX8_visit_2 : decode cX8_visit 2 = .ok (.getfield 258, 3) := by decide +kernel
theorem dX8_visit_5 : decode cX8_visit 5 = .ok (.iconst 1, 1) := by decide +kernel
theorem dX8_visit_6 : decode cX8_visit 6 = .ok (.iadd, 1) := by decide +kernel
theorem dX8_visit_7 : decode cX8_visit 7 = .ok (.putfield 258, 3) := by decide +kernel
theorem dX8_visit_10 : decode cX8_visit 10 = .ok (.iload_n 1, 1) := by decide +kernel
theorem dX8_visit_11 : decode cX8_visit 11 = .ok (.aload_n 0, 1) := by decide +kernel
theorem dX8_visit_12 : decode cX8_visit 12 = .ok (.getfield 100, 3) := by decide +kernel
theorem dX8_visit_15 : decode cX8_visit 15 = .ok (.if_icmp .ne 16, 3) := by decide +kernel
theorem dX8_visit_18 : decode cX8_visit 18 = .ok (.aload_n 0, 1) := by decide +kernel
theorem dX8_visit_19 : decode cX8_visit 19 = .ok (.getfield 52, 3) := by decide +kernel
theorem dX8_visit_22 : decode cX8_visit 22 = .ok (.iload_n 1, 1) := by decide +kernel
theorem dX8_visit_23 : decode cX8_visit 23 = .ok (.iconst 1, 1) := by decide +kernel
theorem dX8_visit_24 : decode cX8_visit 24 = .ok (.isub, 1) := by decide +kernel
theorem dX8_visit_25 : decode cX8_visit 25 = .ok (.iconst 1, 1) := by decide +kernel
theorem dX8_visit_26 : decode cX8_visit 26 = .ok (.bastore, 1) := by decide +kernel
theorem dX8_visit_27 : decode cX8_visit 27 = .ok (.iload_n 1, 1) := by decide +kernel
theorem dX8_visit_28 : decode cX8_visit 28 = .ok (.iconst 1, 1) := by decide +kernel
theorem dX8_visit_29 : decode cX8_visit 29 = .ok (.isub, 1) := by decide +kernel
theorem dX8_visit_30 : decode cX8_visit 30 = .ok (.ireturn, 1) := by decide +kernel
theorem dX8_visit_31 : decode cX8_visit 31 = .ok (.iload_n 2, 1) := by decide +kernel
theorem dX8_visit_32 : decode cX8_visit 32 = .ok (.ifCond .eq 29, 3) := by decide +kernel
theorem dX8_visit_35 : decode cX8_visit 35 = .ok (.aload_n 0, 1) := by decide +kernel
theorem dX8_visit_36 : decode cX8_visit 36 = .ok (.aload_n 0, 1) := by decide +kernel
theorem dX8_visit_37 : decode cX8_visit 37 = .ok (.iload_n 1, 1) := by decide +kernel
theorem dX8_visit_38 : decode cX8_visit 38 = .ok (.invokevirtual 252, 3) := by decide +kernel
theorem dX8_visit_41 : decode cX8_visit 41 = .ok (.invokevirtual 255, 3) := by decide +kernel
theorem dX8_visit_44 : decode cX8_visit 44 = .ok (.ifCond .eq 17, 3) := by decide +kernel
theorem dX8_visit_47 : decode cX8_visit 47 = .ok (.aload_n 0, 1) := by decide +kernel
theorem dX8_visit_48 : decode cX8_visit 48 = .ok (.dup, 1) := by decide +kernel
theorem dX8_visit_49 : decode cX8_visit 49 = .ok (.getfield 261, 3) := by decide +kernel
theorem dX8_visit_52 : decode cX8_visit 52 = .ok (.iconst 1, 1) := by decide +kernel
theorem dX8_visit_53 : decode cX8_visit 53 = .ok (.iadd, 1) := by decide +kernel
theorem dX8_visit_54 : decode cX8_visit 54 = .ok (.putfield 261, 3) := by decide +kernel
theorem dX8_visit_57 : decode cX8_visit 57 = .ok (.iload_n 1, 1) := by decide +kernel
theorem dX8_visit_58 : decode cX8_visit 58 = .ok (.iconst 1, 1) := by decide +kernel
theorem dX8_visit_59 : decode cX8_visit 59 = .ok (.isub, 1) := by decide +kernel
theorem dX8_visit_60 : decode cX8_visit 60 = .ok (.ireturn, 1) := by decide +kernel
theorem dX8_visit_61 : decode cX8_visit 61 = .ok (.aload_n 0, 1) := by decide +kernel
theorem dX8_visit_62 : decode cX8_visit 62 = .ok (.getfield 49, 3) := by decide +kernel
theorem dX8_visit_65 : decode cX8_visit 65 = .ok (.iload_n 1, 1) := by decide +kernel
theorem dX8_visit_66 : decode cX8_visit 66 = .ok (.iconst 0, 1) := by decide +kernel
theorem dX8_visit_67 : decode cX8_visit 67 = .ok (.iastore, 1) := by decide +kernel
theorem dX8_visit_68 : decode cX8_visit 68 = .ok (.aload_n 0, 1) := by decide +kernel
theorem dX8_visit_69 : decode cX8_visit 69 = .ok (.getfield 52, 3) := by decide +kernel
theorem dX8_visit_72 : decode cX8_visit 72 = .ok (.iload_n 1, 1) := by decide +kernel
theorem dX8_visit_73 : decode cX8_visit 73 = .ok (.iconst 0, 1) := by decide +kernel
theorem dX8_visit_74 : decode cX8_visit 74 = .ok (.bastore, 1) := by decide +kernel
theorem dX8_visit_75 : decode cX8_visit 75 = .ok (.iload_n 1, 1) := by decide +kernel
theorem dX8_visit_76 : decode cX8_visit 76 = .ok (.ireturn, 1) := by decide +kernel
theorem dX8_goes_0 : decode cX8_goes 0 = .ok (.aload_n 0, 1) := by decide +kernel
theorem dX8_goes_1 : decode cX8_goes 1 = .ok (.iconst 1, 1) := by decide +kernel
theorem dX8_goes_2 : decode cX8_goes 2 = .ok (.putfield 258, 3) := by decide +kernel
theorem dX8_goes_5 : decode cX8_goes 5 = .ok (.aload_n 0, 1) := by decide +kernel
theorem dX8_goes_6 : decode cX8_goes 6 = .ok (.iconst 0, 1) := by decide +kernel
theorem dX8_goes_7 : decode cX8_goes 7 = .ok (.putfield 246, 3) := by decide +kernel
theorem dX8_goes_10 : decode cX8_goes 10 = .ok (.aload_n 0, 1) := by decide +kernel
theorem dX8_goes_11 : decode cX8_goes 11 = .ok (.iconst 0, 1) := by decide +kernel
theorem dX8_goes_12 : decode cX8_goes 12 = .ok (.putfield 261, 3) := by decide +kernel
theorem dX8_goes_15 : decode cX8_goes 15 = .ok (.aload_n 0, 1) := by decide +kernel
theorem dX8_goes_16 : decode cX8_goes 16 = .ok (.iconst 0, 1) := by decide +kernel
theorem dX8_goes_17 : decode cX8_goes 17 = .ok (.putfield 243, 3) := by decide +kernel
theorem dX8_goes_20 : decode cX8_goes 20 = .ok (.aload_n 0, 1) := by decide +kernel
theorem dX8_goes_21 : decode cX8_goes 21 = .ok (.getfield 49, 3) := by decide +kernel
theorem dX8_goes_24 : decode cX8_goes 24 = .ok (.iconst 0, 1) := by decide +kernel
theorem dX8_goes_25 : decode cX8_goes 25 = .ok (.iconst 0, 1) := by decide +kernel
theorem dX8_goes_26 : decode cX8_goes 26 = .ok (.iastore, 1) := by decide +kernel
theorem dX8_goes_27 : decode cX8_goes 27 = .ok (.aload_n 0, 1) := by decide +kernel
theorem dX8_goes_28 : decode cX8_goes 28 = .ok (.getfield 52, 3) := by decide +kernel
theorem dX8_goes_31 : decode cX8_goes 31 = .ok (.iconst 0, 1) := by decide +kernel
theorem dX8_goes_32 : decode cX8_goes 32 = .ok (.iconst 0, 1) := by decide +kernel
theorem dX8_goes_33 : decode cX8_goes 33 = .ok (.bastore, 1) := by decide +kernel
theorem dX8_goes_34 : decode cX8_goes 34 = .ok (.iconst 0, 1) := by decide +kernel
theorem dX8_goes_35 : decode cX8_goes 35 = .ok (.istore_n 2, 1) := by decide +kernel
theorem dX8_goes_36 : decode cX8_goes 36 = .ok (.iload_n 2, 1) := by decide +kernel
theorem dX8_goes_37 : decode cX8_goes 37 = .ok (.ifCond .lt 76, 3) := by decide +kernel
theorem dX8_goes_40 : decode cX8_goes 40 = .ok (.aload_n 0, 1) := by decide +kernel
theorem dX8_goes_41 : decode cX8_goes 41 = .ok (.getfield 49, 3) := by decide +kernel
theorem dX8_goes_44 : decode cX8_goes 44 = .ok (.iload_n 2, 1) := by decide +kernel
theorem dX8_goes_45 : decode cX8_goes 45 = .ok (.iaload, 1) := by decide +kernel
theorem dX8_goes_46 : decode cX8_goes 46 = .ok (.aload_n 0, 1) := by decide +kernel
theorem dX8_goes_47 : decode cX8_goes 47 = .ok (.getfield 97, 3) := by decide +kernel
theorem dX8_goes_50 : decode cX8_goes 50 = .ok (.if_icmp .ne 15, 3) := by decide +kernel
theorem dX8_goes_53 : decode cX8_goes 53 = .ok (.aload_n 0, 1) := by decide +kernel
theorem dX8_goes_54 : decode cX8_goes 54 = .ok (.iload_n 2, 1) := by decide +kernel
theorem dX8_goes_55 : decode cX8_goes 55 = .ok (.iload_n 1, 1) := by decide +kernel
theorem dX8_goes_56 : decode cX8_goes 56 = .ok (.invokevirtual 264, 3) := by decide +kernel
theorem dX8_goes_59 : decode cX8_goes 59 = .ok (.iinc 2 (-1), 3) := by decide +kernel
theorem dX8_goes_62 : decode cX8_goes 62 = .ok (.goto (-26), 3) := by decide +kernel
theorem dX8_goes_65 : decode cX8_goes 65 = .ok (.aload_n 0, 1) := by decide +kernel
theorem dX8_goes_66 : decode cX8_goes 66 = .ok (.getfield 25, 3) := by decide +kernel
theorem dX8_goes_69 : decode cX8_goes 69 = .ok (.iload_n 2, 1) := by decide +kernel
theorem dX8_goes_70 : decode cX8_goes 70 = .ok (.aload_n 0, 1) := by decide +kernel
theorem dX8_goes_71 : decode cX8_goes 71 = .ok (.getfield 49, 3) := by decide +kernel
theorem dX8_goes_74 : decode cX8_goes 74 = .ok (.iload_n 2, 1) := by decide +kernel
theorem dX8_goes_75 : decode cX8_goes 75 = .ok (.iaload, 1) := by decide +kernel
theorem dX8_goes_76 : decode cX8_goes 76 = .ok (.iastore, 1) := by decide +kernel
theorem dX8_goes_77 : decode cX8_goes 77 = .ok (.aload_n 0, 1) := by decide +kernel
theorem dX8_goes_78 : decode cX8_goes 78 = .ok (.getfield 49, 3) := by decide +kernel
theorem dX8_goes_81 : decode cX8_goes 81 = .ok (.iload_n 2, 1) := by decide +kernel
theorem dX8_goes_82 : decode cX8_goes 82 = .ok (.dup2, 1) := by decide +kernel
theorem dX8_goes_83 : decode cX8_goes 83 = .ok (.iaload, 1) := by decide +kernel
theorem dX8_goes_84 : decode cX8_goes 84 = .ok (.iconst 1, 1) := by decide +kernel
theorem dX8_goes_85 : decode cX8_goes 85 = .ok (.iadd, 1) := by decide +kernel
theorem dX8_goes_86 : decode cX8_goes 86 = .ok (.iastore, 1) := by decide +kernel
theorem dX8_goes_87 : decode cX8_goes 87 = .ok (.aload_n 0, 1) := by decide +kernel
theorem dX8_goes_88 : decode cX8_goes 88 = .ok (.iload_n 2, 1) := by decide +kernel
theorem dX8_goes_89 : decode cX8_goes 89 = .ok (.iconst 1, 1) := by decide +kernel
theorem dX8_goes_90 : decode cX8_goes 90 = .ok (.iadd, 1) := by decide +kernel
theorem dX8_goes_91 : decode cX8_goes 91 = .ok (.invokevirtual 249, 3) := by decide +kernel
theorem dX8_goes_94 : decode cX8_goes 94 = .ok (.ifCond .eq 14, 3) := by decide +kernel
theorem dX8_goes_97 : decode cX8_goes 97 = .ok (.aload_n 0, 1) := by decide +kernel
theorem dX8_goes_98 : decode cX8_goes 98 = .ok (.iload_n 2, 1) := by decide +kernel
theorem dX8_goes_99 : decode cX8_goes 99 = .ok (.iconst 1, 1) := by decide +kernel
theorem dX8_goes_100 : decode cX8_goes 100 = .ok (.iadd, 1) := by decide +kernel
theorem dX8_goes_101 : decode cX8_goes 101 = .ok (.iload_n 1, 1) := by decide +kernel
theorem dX8_goes_102 : decode cX8_goes 102 = .ok (.invokevirtual 268, 3) := by decide +kernel
theorem dX8_goes_105 : decode cX8_goes 105 = .ok (.goto 4, 3) := by decide +kernel
theorem dX8_goes_108 : decode cX8_goes 108 = .ok (.iload_n 2, 1) := by decide +kernel
theorem dX8_goes_109 : decode cX8_goes 109 = .ok (.istore_n 2, 1) := by decide +kernel
theorem dX8_goes_110 : decode cX8_goes 110 = .ok (.goto (-74), 3) := by decide +kernel
theorem dX8_goes_113 : decode cX8_goes 113 = .ok (.return_, 1) := by decide +kernel
theorem dX8_searchNow_0 : decode cX8_searchNow 0 = .ok (.aload_n 0, 1) := by decide +kernel
theorem dX8_searchNow_1 : decode cX8_searchNow 1 = .ok (.iload_n 1, 1) := by decide +kernel
theorem dX8_searchNow_2 : decode cX8_searchNow 2 = .ok (.iconst 1, 1) := by decide +kernel
theorem dX8_searchNow_3 : decode cX8_searchNow 3 = .ok (.if_icmp .le 7, 3) := by decide +kernel
theorem dX8_searchNow_6 : decode cX8_searchNow 6 = .ok (.iconst 1, 1) := by decide +kernel
theorem dX8_searchNow_7 : decode cX8_searchNow 7 = .ok (.goto 4, 3) := by decide +kernel
theorem dX8_searchNow_10 : decode cX8_searchNow 10 = .ok (.iconst 0, 1) := by decide +kernel
theorem dX8_searchNow_11 : decode cX8_searchNow 11 = .ok (.invokevirtual 272, 3) := by decide +kernel
theorem dX8_searchNow_14 : decode cX8_searchNow 14 = .ok (.iload_n 1, 1) := by decide +kernel
theorem dX8_searchNow_15 : decode cX8_searchNow 15 = .ok (.ifCond .eq 8, 3) := by decide +kernel
theorem dX8_searchNow_18 : decode cX8_searchNow 18 = .ok (.iload_n 1, 1) := by decide +kernel
theorem dX8_searchNow_19 : decode cX8_searchNow 19 = .ok (.iconst 2, 1) := by decide +kernel
theorem dX8_searchNow_20 : decode cX8_searchNow 20 = .ok (.if_icmp .ne 10, 3) := by decide +kernel
theorem dX8_searchNow_23 : decode cX8_searchNow 23 = .ok (.aload_n 0, 1) := by decide +kernel
theorem dX8_searchNow_24 : decode cX8_searchNow 24 = .ok (.getfield 258, 3) := by decide +kernel
theorem dX8_searchNow_27 : decode cX8_searchNow 27 = .ok (.goto 31, 3) := by decide +kernel
theorem dX8_searchNow_30 : decode cX8_searchNow 30 = .ok (.iload_n 1, 1) := by decide +kernel
theorem dX8_searchNow_31 : decode cX8_searchNow 31 = .ok (.iconst 1, 1) := by decide +kernel
theorem dX8_searchNow_32 : decode cX8_searchNow 32 = .ok (.if_icmp .ne 10, 3) := by decide +kernel
theorem dX8_searchNow_35 : decode cX8_searchNow 35 = .ok (.aload_n 0, 1) := by decide +kernel
theorem dX8_searchNow_36 : decode cX8_searchNow 36 = .ok (.getfield 246, 3) := by decide +kernel
theorem dX8_searchNow_39 : decode cX8_searchNow 39 = .ok (.goto 19, 3) := by decide +kernel
theorem dX8_searchNow_42 : decode cX8_searchNow 42 = .ok (.iload_n 1, 1) := by decide +kernel
theorem dX8_searchNow_43 : decode cX8_searchNow 43 = .ok (.iconst 3, 1) := by decide +kernel
theorem dX8_searchNow_44 : decode cX8_searchNow 44 = .ok (.if_icmp .ne 10, 3) := by decide +kernel
theorem dX8_searchNow_47 : decode cX8_searchNow 47 = .ok (.aload_n 0, 1) := by decide +kernel
theorem dX8_searchNow_48 : decode cX8_searchNow 48 = .ok (.getfield 261, 3) := by decide +kernel
theorem dX8_searchNow_51 : decode cX8_searchNow 51 = .ok (.goto 7, 3) := by decide +kernel
theorem dX8_searchNow_54 : decode cX8_searchNow 54 = .ok (.aload_n 0, 1) := by decide +kernel
theorem dX8_searchNow_55 : decode cX8_searchNow 55 = .ok (.getfield 243, 3) := by decide +kernel
theorem dX8_searchNow_58 : decode cX8_searchNow 58 = .ok (.ireturn, 1) := by decide +kernel
theorem dX8_search_0 : decode cX8_search 0 = .ok (.iload_n 1, 1) := by decide +kernel
theorem dX8_search_1 : decode cX8_search 1 = .ok (.iconst 0, 1) := by decide +kernel
theorem dX8_search_2 : decode cX8_search 2 = .ok (.iconst 4, 1) := by decide +kernel
theorem dX8_search_3 : decode cX8_search 3 = .ok (.invokestatic 65, 3) := by decide +kernel
theorem dX8_search_6 : decode cX8_search 6 = .ok (.ifCond .ne 6, 3) := by decide +kernel
theorem dX8_search_9 : decode cX8_search 9 = .ok (.bipush (-102), 2) := by decide +kernel
theorem dX8_search_11 : decode cX8_search 11 = .ok (.ireturn, 1) := by decide +kernel
theorem dX8_search_12 : decode cX8_search 12 = .ok (.aload_n 0, 1) := by decide +kernel
theorem dX8_search_13 : decode cX8_search 13 = .ok (.getfield 97, 3) := by decide +kernel
theorem dX8_search_16 : decode cX8_search 16 = .ok (.ifCond .le 11, 3) := by decide +kernel
theorem dX8_search_19 : decode cX8_search 19 = .ok (.aload_n 0, 1) := by decide +kernel
theorem dX8_search_20 : decode cX8_search 20 = .ok (.iload_n 1, 1) := by decide +kernel
theorem dX8_search_21 : decode cX8_search 21 = .ok (.invokevirtual 276, 3) := by decide +kernel
theorem dX8_search_24 : decode cX8_search 24 = .ok (.goto 5, 3) := by decide +kernel
theorem dX8_search_27 : decode cX8_search 27 = .ok (.bipush (-103), 2) := by decide +kernel
theorem dX8_search_29 : decode cX8_search 29 = .ok (.ireturn, 1) := by decide +kernel
theorem dX8_laidMany_0 : decode cX8_laidMany 0 = .ok (.iconst 0, 1) := by decide +kernel
theorem dX8_laidMany_1 : decode cX8_laidMany 1 = .ok (.istore_n 1, 1) := by decide +kernel
theorem dX8_laidMany_2 : decode cX8_laidMany 2 = .ok (.iconst 0, 1) := by decide +kernel
theorem dX8_laidMany_3 : decode cX8_laidMany 3 = .ok (.istore_n 2, 1) := by decide +kernel
theorem dX8_laidMany_4 : decode cX8_laidMany 4 = .ok (.iload_n 2, 1) := by decide +kernel
theorem dX8_laidMany_5 : decode cX8_laidMany 5 = .ok (.aload_n 0, 1) := by decide +kernel
theorem dX8_laidMany_6 : decode cX8_laidMany 6 = .ok (.getfield 100, 3) := by decide +kernel
theorem dX8_laidMany_9 : decode cX8_laidMany 9 = .ok (.if_icmp .ge 27, 3) := by decide +kernel
theorem dX8_laidMany_12 : decode cX8_laidMany 12 = .ok (.iload_n 1, 1) := by decide +kernel
theorem dX8_laidMany_13 : decode cX8_laidMany 13 = .ok (.aload_n 0, 1) := by decide +kernel
theorem dX8_laidMany_14 : decode cX8_laidMany 14 = .ok (.getfield 16, 3) := by decide +kernel
theorem dX8_laidMany_17 : decode cX8_laidMany 17 = .ok (.iload_n 2, 1) := by decide +kernel
theorem dX8_laidMany_18 : decode cX8_laidMany 18 = .ok (.iaload, 1) := by decide +kernel
theorem dX8_laidMany_19 : decode cX8_laidMany 19 = .ok (.iconst (-1), 1) := by decide +kernel
theorem dX8_laidMany_20 : decode cX8_laidMany 20 = .ok (.if_icmp .ne 7, 3) := by decide +kernel
theorem dX8_laidMany_23 : decode cX8_laidMany 23 = .ok (.iconst 0, 1) := by decide +kernel
theorem dX8_laidMany_24 : decode cX8_laidMany 24 = .ok (.goto 4, 3) := by decide +kernel
theorem dX8_laidMany_27 : decode cX8_laidMany 27 = .ok (.iconst 1, 1) := by decide +kernel
theorem dX8_laidMany_28 : decode cX8_laidMany 28 = .ok (.iadd, 1) := by decide +kernel
theorem dX8_laidMany_29 : decode cX8_laidMany 29 = .ok (.istore_n 1, 1) := by decide +kernel
theorem dX8_laidMany_30 : decode cX8_laidMany 30 = .ok (.iinc 2 1, 3) := by decide +kernel
theorem dX8_laidMany_33 : decode cX8_laidMany 33 = .ok (.goto (-29), 3) := by decide +kernel
theorem dX8_laidMany_36 : decode cX8_laidMany 36 = .ok (.iload_n 1, 1) := by decide +kernel
theorem dX8_laidMany_37 : decode cX8_laidMany 37 = .ok (.ireturn, 1) := by decide +kernel
theorem dX8_howMany_0 : decode cX8_howMany 0 = .ok (.iload_n 1, 1) := by decide +kernel
theorem dX8_howMany_1 : decode cX8_howMany 1 = .ok (.tableswitch 60 0 4 #[35, 40, 45, 50, 55], 35) := by decide +kernel
theorem dX8_howMany_36 : decode cX8_howMany 36 = .ok (.aload_n 0, 1) := by decide +kernel
theorem dX8_howMany_37 : decode cX8_howMany 37 = .ok (.getfield 97, 3) := by decide +kernel
theorem dX8_howMany_40 : decode cX8_howMany 40 = .ok (.ireturn, 1) := by decide +kernel
theorem dX8_howMany_41 : decode cX8_howMany 41 = .ok (.aload_n 0, 1) := by decide +kernel
theorem dX8_howMany_42 : decode cX8_howMany 42 = .ok (.getfield 69, 3) := by decide +kernel
theorem dX8_howMany_45 : decode cX8_howMany 45 = .ok (.ireturn, 1) := by decide +kernel
theorem dX8_howMany_46 : decode cX8_howMany 46 = .ok (.aload_n 0, 1) := by decide +kernel
theorem dX8_howMany_47 : decode cX8_howMany 47 = .ok (.invokevirtual 279, 3) := by decide +kernel
theorem dX8_howMany_50 : decode cX8_howMany 50 = .ok (.ireturn, 1) := by decide +kernel
theorem dX8_howMany_51 : decode cX8_howMany 51 = .ok (.aload_n 0, 1) := by decide +kernel
theorem dX8_howMany_52 : decode cX8_howMany 52 = .ok (.getfield 121, 3) := by decide +kernel
theorem dX8_howMany_55 : decode cX8_howMany 55 = .ok (.ireturn, 1) := by decide +kernel
theorem dX8_howMany_56 : decode cX8_howMany 56 = .ok (.aload_n 0, 1) := by decide +kernel
theorem dX8_howMany_57 : decode cX8_howMany 57 = .ok (.getfield 127, 3) := by decide +kernel
theorem dX8_howMany_60 : decode cX8_howMany 60 = .ok (.ireturn, 1) := by decide +kernel
theorem dX8_howMany_61 : decode cX8_howMany 61 = .ok (.bipush (-102), 2) := by decide +kernel
theorem dX8_howMany_63 : decode cX8_howMany 63 = .ok (.ireturn, 1) := by decide +kernel
theorem dX8_count_0 : decode cX8_count 0 = .ok (.aload_n 0, 1) := by decide +kernel
theorem dX8_count_1 : decode cX8_count 1 = .ok (.iload_n 1, 1) := by decide +kernel
theorem dX8_count_2 : decode cX8_count 2 = .ok (.invokevirtual 282, 3) := by decide +kernel
theorem dX8_count_5 : decode cX8_count 5 = .ok (.ireturn, 1) := by decide +kernel
theorem dX8_mix_0 : decode cX8_mix 0 = .ok (.aload_n 0, 1) := by decide +kernel
theorem dX8_mix_1 : decode cX8_mix 1 = .ok (.ldc2_w 285, 3) := by decide +kernel
theorem dX8_mix_4 : decode cX8_mix 4 = .ok (.aload_n 0, 1) := by decide +kernel
theorem dX8_mix_5 : decode cX8_mix 5 = .ok (.getfield 287, 3) := by decide +kernel
theorem dX8_mix_8 : decode cX8_mix 8 = .ok (.lmul, 1) := by decide +kernel
theorem dX8_mix_9 : decode cX8_mix 9 = .ok (.lload_n 1, 1) := by decide +kernel
theorem dX8_mix_10 : decode cX8_mix 10 = .ok (.ladd, 1) := by decide +kernel
theorem dX8_mix_11 : decode cX8_mix 11 = .ok (.putfield 287, 3) := by decide +kernel
theorem dX8_mix_14 : decode cX8_mix 14 = .ok (.return_, 1) := by decide +kernel
theorem dX8_mixWords_0 : decode cX8_mixWords 0 = .ok (.iconst 0, 1) := by decide +kernel
theorem dX8_mixWords_1 : decode cX8_mixWords 1 = .ok (.istore_n 1, 1) := by decide +kernel
theorem dX8_mixWords_2 : decode cX8_mixWords 2 = .ok (.iload_n 1, 1) := by decide +kernel
theorem dX8_mixWords_3 : decode cX8_mixWords 3 = .ok (.bipush 6, 2) := by decide +kernel
theorem dX8_mixWords_5 : decode cX8_mixWords 5 = .ok (.if_icmp .ge 19, 3) := by decide +kernel
theorem dX8_mixWords_8 : decode cX8_mixWords 8 = .ok (.aload_n 0, 1) := by decide +kernel
theorem dX8_mixWords_9 : decode cX8_mixWords 9 = .ok (.aload_n 0, 1) := by decide +kernel
theorem dX8_mixWords_10 : decode cX8_mixWords 10 = .ok (.iload_n 1, 1) := by decide +kernel
theorem dX8_mixWords_11 : decode cX8_mixWords 11 = .ok (.invokevirtual 153, 3) := by decide +kernel
theorem dX8_mixWords_14 : decode cX8_mixWords 14 = .ok (.i2l, 1) := by decide +kernel
theorem dX8_mixWords_15 : decode cX8_mixWords 15 = .ok (.invokevirtual 291, 3) := by decide +kernel
theorem dX8_mixWords_18 : decode cX8_mixWords 18 = .ok (.iinc 1 1, 3) := by decide +kernel
theorem dX8_mixWords_21 : decode cX8_mixWords 21 = .ok (.goto (-19), 3) := by decide +kernel
theorem dX8_mixWords_24 : decode cX8_mixWords 24 = .ok (.aload_n 0, 1) := by decide +kernel
theorem dX8_mixWords_25 : decode cX8_mixWords 25 = .ok (.invokevirtual 198, 3) := by decide +kernel
theorem dX8_mixWords_28 : decode cX8_mixWords 28 = .ok (.iconst 0, 1) := by decide +kernel
theorem dX8_mixWords_29 : decode cX8_mixWords 29 = .ok (.istore_n 1, 1) := by decide +kernel
theorem dX8_mixWords_30 : decode cX8_mixWords 30 = .ok (.iload_n 1, 1) := by decide +kernel
theorem dX8_mixWords_31 : decode cX8_mixWords 31 = .ok (.aload_n 0, 1) := by decide +kernel
theorem dX8_mixWords_32 : decode cX8_mixWords 32 = .ok (.getfield 97, 3) := by decide +kernel
theorem dX8_mixWords_35 : decode cX8_mixWords 35 = .ok (.if_icmp .ge 60, 3) := by decide +kernel
theorem dX8_mixWords_38 : decode cX8_mixWords 38 = .ok (.iconst 0, 1) := by decide +kernel
theorem dX8_mixWords_39 : decode cX8_mixWords 39 = .ok (.istore_n 2, 1) := by decide +kernel
theorem dX8_mixWords_40 : decode cX8_mixWords 40 = .ok (.iload_n 2, 1) := by decide +kernel
theorem dX8_mixWords_41 : decode cX8_mixWords 41 = .ok (.aload_n 0, 1) := by decide +kernel
theorem dX8_mixWords_42 : decode cX8_mixWords 42 = .ok (.getfield 100, 3) := by decide +kernel
theorem dX8_mixWords_45 : decode cX8_mixWords 45 = .ok (.if_icmp .ge 20, 3) := by decide +kernel
theorem dX8_mixWords_48 : decode cX8_mixWords 48 = .ok (.aload_n 0, 1) := by decide +kernel
theorem dX8_mixWords_49 : decode cX8_mixWords 49 = .ok (.aload_n 0, 1) := by decide +kernel
theorem dX8_mixWords_50 : decode cX8_mixWords 50 = .ok (.iload_n 1, 1) := by decide +kernel
theorem dX8_mixWords_51 : decode cX8_mixWords 51 = .ok (.iload_n 2, 1) := by decide +kernel
theorem dX8_mixWords_52 : decode cX8_mixWords 52 = .ok (.invokevirtual 130, 3) := by decide +kernel
theorem dX8_mixWords_55 : decode cX8_mixWords 55 = .ok (.i2l, 1) := by decide +kernel
theorem dX8_mixWords_56 : decode cX8_mixWords 56 = .ok (.invokevirtual 291, 3) := by decide +kernel
theorem dX8_mixWords_59 : decode cX8_mixWords 59 = .ok (.iinc 2 1, 3) := by decide +kernel
theorem dX8_mixWords_62 : decode cX8_mixWords 62 = .ok (.goto (-22), 3) := by decide +kernel
theorem dX8_mixWords_65 : decode cX8_mixWords 65 = .ok (.iconst 0, 1) := by decide +kernel
theorem dX8_mixWords_66 : decode cX8_mixWords 66 = .ok (.istore_n 2, 1) := by decide +kernel
theorem dX8_mixWords_67 : decode cX8_mixWords 67 = .ok (.iload_n 2, 1) := by decide +kernel
theorem dX8_mixWords_68 : decode cX8_mixWords 68 = .ok (.iconst 5, 1) := by decide +kernel
theorem dX8_mixWords_69 : decode cX8_mixWords 69 = .ok (.if_icmp .ge 20, 3) := by decide +kernel
theorem dX8_mixWords_72 : decode cX8_mixWords 72 = .ok (.aload_n 0, 1) := by decide +kernel
theorem dX8_mixWords_73 : decode cX8_mixWords 73 = .ok (.aload_n 0, 1) := by decide +kernel
theorem dX8_mixWords_74 : decode cX8_mixWords 74 = .ok (.iload_n 1, 1) := by decide +kernel
theorem dX8_mixWords_75 : decode cX8_mixWords 75 = .ok (.iload_n 2, 1) := by decide +kernel
theorem dX8_mixWords_76 : decode cX8_mixWords 76 = .ok (.invokevirtual 201, 3) := by decide +kernel
theorem dX8_mixWords_79 : decode cX8_mixWords 79 = .ok (.i2l, 1) := by decide +kernel
theorem dX8_mixWords_80 : decode cX8_mixWords 80 = .ok (.invokevirtual 291, 3) := by decide +kernel
theorem dX8_mixWords_83 : decode cX8_mixWords 83 = .ok (.iinc 2 1, 3) := by decide +kernel
theorem dX8_mixWords_86 : decode cX8_mixWords 86 = .ok (.goto (-19), 3) := by decide +kernel
theorem dX8_mixWords_89 : decode cX8_mixWords 89 = .ok (.iinc 1 1, 3) := by decide +kernel
theorem dX8_mixWords_92 : decode cX8_mixWords 92 = .ok (.goto (-62), 3) := by decide +kernel
theorem dX8_mixWords_95 : decode cX8_mixWords 95 = .ok (.return_, 1) := by decide +kernel
theorem dX8_mixSquares_0 : decode cX8_mixSquares 0 = .ok (.iconst 0, 1) := by decide +kernel
theorem dX8_mixSquares_1 : decode cX8_mixSquares 1 = .ok (.istore_n 1, 1) := by decide +kernel
theorem dX8_mixSquares_2 : decode cX8_mixSquares 2 = .ok (.iload_n 1, 1) := by decide +kernel
theorem dX8_mixSquares_3 : decode cX8_mixSquares 3 = .ok (.iconst 3, 1) := by decide +kernel
theorem dX8_mixSquares_4 : decode cX8_mixSquares 4 = .ok (.if_icmp .ge 19, 3) := by decide +kernel
theorem dX8_mixSquares_7 : decode cX8_mixSquares 7 = .ok (.aload_n 0, 1) := by decide +kernel
theorem dX8_mixSquares_8 : decode cX8_mixSquares 8 = .ok (.aload_n 0, 1) := by decide +kernel
theorem dX8_mixSquares_9 : decode cX8_mixSquares 9 = .ok (.iload_n 1, 1) := by decide +kernel
theorem dX8_mixSquares_10 : decode cX8_mixSquares 10 = .ok (.invokevirtual 180, 3) := by decide +kernel
theorem dX8_mixSquares_13 : decode cX8_mixSquares 13 = .ok (.i2l, 1) := by decide +kernel
theorem dX8_mixSquares_14 : decode cX8_mixSquares 14 = .ok (.invokevirtual 291, 3) := by decide +kernel
theorem dX8_mixSquares_17 : decode cX8_mixSquares 17 = .ok (.iinc 1 1, 3) := by decide +kernel
theorem dX8_mixSquares_20 : decode cX8_mixSquares 20 = .ok (.goto (-18), 3) := by decide +kernel
theorem dX8_mixSquares_23 : decode cX8_mixSquares 23 = .ok (.iconst 0, 1) := by decide +kernel
theorem dX8_mixSquares_24 : decode cX8_mixSquares 24 = .ok (.istore_n 1, 1) := by decide +kernel
theorem dX8_mixSquares_25 : decode cX8_mixSquares 25 = .ok (.aload_n 0, 1) := by decide +kernel
theorem dX8_mixSquares_26 : decode cX8_mixSquares 26 = .ok (.invokevirtual 171, 3) := by decide +kernel
theorem dX8_mixSquares_29 : decode cX8_mixSquares 29 = .ok (.aload_n 0, 1) := by decide +kernel
theorem dX8_mixSquares_30 : decode cX8_mixSquares 30 = .ok (.getfield 97, 3) := by decide +kernel
theorem dX8_mixSquares_33 : decode cX8_mixSquares 33 = .ok (.ifCond .le 7, 3) := by decide +kernel
theorem dX8_mixSquares_36 : decode cX8_mixSquares 36 = .ok (.iconst 1, 1) := by decide +kernel
theorem dX8_mixSquares_37 : decode cX8_mixSquares 37 = .ok (.goto 4, 3) := by decide +kernel
theorem dX8_mixSquares_40 : decode cX8_mixSquares 40 = .ok (.iconst 0, 1) := by decide +kernel
theorem dX8_mixSquares_41 : decode cX8_mixSquares 41 = .ok (.istore_n 2, 1) := by decide +kernel
theorem dX8_mixSquares_42 : decode cX8_mixSquares 42 = .ok (.iload_n 2, 1) := by decide +kernel
theorem dX8_mixSquares_43 : decode cX8_mixSquares 43 = .ok (.ifCond .eq 68, 3) := by decide +kernel
theorem dX8_mixSquares_46 : decode cX8_mixSquares 46 = .ok (.aload_n 0, 1) := by decide +kernel
theorem dX8_mixSquares_47 : decode cX8_mixSquares 47 = .ok (.invokevirtual 162, 3) := by decide +kernel
theorem dX8_mixSquares_50 : decode cX8_mixSquares 50 = .ok (.ifCond .eq 39, 3) := by decide +kernel
theorem dX8_mixSquares_53 : decode cX8_mixSquares 53 = .ok (.iconst 0, 1) := by decide +kernel
theorem dX8_mixSquares_54 : decode cX8_mixSquares 54 = .ok (.istore_n 3, 1) := by decide +kernel
theorem dX8_mixSquares_55 : decode cX8_mixSquares 55 = .ok (.iload_n 3, 1) := by decide +kernel
theorem dX8_mixSquares_56 : decode cX8_mixSquares 56 = .ok (.aload_n 0, 1) := by decide +kernel
theorem dX8_mixSquares_57 : decode cX8_mixSquares 57 = .ok (.getfield 100, 3) := by decide +kernel
theorem dX8_mixSquares_60 : decode cX8_mixSquares 60 = .ok (.if_icmp .ge 26, 3) := by decide +kernel
theorem dX8_mixSquares_63 : decode cX8_mixSquares 63 = .ok (.iload_n 1, 1) := by decide +kernel
theorem dX8_mixSquares_64 : decode cX8_mixSquares 64 = .ok (.bipush 40, 2) := by decide +kernel
theorem dX8_mixSquares_66 : decode cX8_mixSquares 66 = .ok (.if_icmp .ge 20, 3) := by decide +kernel
theorem dX8_mixSquares_69 : decode cX8_mixSquares 69 = .ok (.aload_n 0, 1) := by decide +kernel
theorem dX8_mixSquares_70 : decode cX8_mixSquares 70 = .ok (.aload_n 0, 1) := by decide +kernel
theorem dX8_mixSquares_71 : decode cX8_mixSquares 71 = .ok (.getfield 25, 3) := by decide +kernel
theorem dX8_mixSquares_74 : decode cX8_mixSquares 74 = .ok (.iload_n 3, 1) := by decide +kernel
theorem dX8_mixSquares_75 : decode cX8_mixSquares 75 = .ok (.iaload, 1) := by decide +kernel
theorem dX8_mixSquares_76 : decode cX8_mixSquares 76 = .ok (.i2l, 1) := by decide +kernel
theorem dX8_mixSquares_77 : decode cX8_mixSquares 77 = .ok (.invokevirtual 291, 3) := by decide +kernel
theorem dX8_mixSquares_80 : decode cX8_mixSquares 80 = .ok (.iinc 3 1, 3) := by decide +kernel
theorem dX8_mixSquares_83 : decode cX8_mixSquares 83 = .ok (.goto (-28), 3) := by decide +kernel
theorem dX8_mixSquares_86 : decode cX8_mixSquares 86 = .ok (.iinc 1 1, 3) := by decide +kernel
theorem dX8_mixSquares_89 : decode cX8_mixSquares 89 = .ok (.iload_n 1, 1) := by decide +kernel
theorem dX8_mixSquares_90 : decode cX8_mixSquares 90 = .ok (.bipush 40, 2) := by decide +kernel
theorem dX8_mixSquares_92 : decode cX8_mixSquares 92 = .ok (.if_icmp .ge 14, 3) := by decide +kernel
theorem dX8_mixSquares_95 : decode cX8_mixSquares 95 = .ok (.aload_n 0, 1) := by decide +kernel
theorem dX8_mixSquares_96 : decode cX8_mixSquares 96 = .ok (.invokevirtual 177, 3) := by decide +kernel
theorem dX8_mixSquares_99 : decode cX8_mixSquares 99 = .ok (.ifCond .eq 7, 3) := by decide +kernel
theorem dX8_mixSquares_102 : decode cX8_mixSquares 102 = .ok (.iconst 1, 1) := by decide +kernel
theorem dX8_mixSquares_103 : decode cX8_mixSquares 103 = .ok (.goto 4, 3) := by decide +kernel
theorem dX8_mixSquares_106 : decode cX8_mixSquares 106 = .ok (.iconst 0, 1) := by decide +kernel
theorem dX8_mixSquares_107 : decode cX8_mixSquares 107 = .ok (.istore_n 2, 1) := by decide +kernel
theorem dX8_mixSquares_108 : decode cX8_mixSquares 108 = .ok (.goto (-66), 3) := by decide +kernel
theorem dX8_mixSquares_111 : decode cX8_mixSquares 111 = .ok (.iconst 0, 1) := by decide +kernel
theorem dX8_mixSquares_112 : decode cX8_mixSquares 112 = .ok (.istore_n 3, 1) := by decide +kernel
theorem dX8_mixSquares_113 : decode cX8_mixSquares 113 = .ok (.iload_n 3, 1) := by decide +kernel
theorem dX8_mixSquares_114 : decode cX8_mixSquares 114 = .ok (.iconst 3, 1) := by decide +kernel
theorem dX8_mixSquares_115 : decode cX8_mixSquares 115 = .ok (.if_icmp .ge 19, 3) := by decide +kernel
theorem dX8_mixSquares_118 : decode cX8_mixSquares 118 = .ok (.aload_n 0, 1) := by decide +kernel
theorem dX8_mixSquares_119 : decode cX8_mixSquares 119 = .ok (.aload_n 0, 1) := by decide +kernel
theorem dX8_mixSquares_120 : decode cX8_mixSquares 120 = .ok (.iload_n 3, 1) := by decide +kernel
theorem dX8_mixSquares_121 : decode cX8_mixSquares 121 = .ok (.invokevirtual 192, 3) := by decide +kernel
theorem dX8_mixSquares_124 : decode cX8_mixSquares 124 = .ok (.i2l, 1) := by decide +kernel
theorem dX8_mixSquares_125 : decode cX8_mixSquares 125 = .ok (.invokevirtual 291, 3) := by decide +kernel
theorem dX8_mixSquares_128 : decode cX8_mixSquares 128 = .ok (.iinc 3 1, 3) := by decide +kernel
theorem dX8_mixSquares_131 : decode cX8_mixSquares 131 = .ok (.goto (-18), 3) := by decide +kernel
theorem dX8_mixSquares_134 : decode cX8_mixSquares 134 = .ok (.return_, 1) := by decide +kernel
theorem dX8_mixBoard_0 : decode cX8_mixBoard 0 = .ok (.aload_n 0, 1) := by decide +kernel
theorem dX8_mixBoard_1 : decode cX8_mixBoard 1 = .ok (.invokevirtual 219, 3) := by decide +kernel
theorem dX8_mixBoard_4 : decode cX8_mixBoard 4 = .ok (.iconst 0, 1) := by decide +kernel
theorem dX8_mixBoard_5 : decode cX8_mixBoard 5 = .ok (.istore_n 1, 1) := by decide +kernel
theorem dX8_mixBoard_6 : decode cX8_mixBoard 6 = .ok (.iload_n 1, 1) := by decide +kernel
theorem dX8_mixBoard_7 : decode cX8_mixBoard 7 = .ok (.aload_n 0, 1) := by decide +kernel
theorem dX8_mixBoard_8 : decode cX8_mixBoard 8 = .ok (.getfield 100, 3) := by decide +kernel
theorem dX8_mixBoard_11 : decode cX8_mixBoard 11 = .ok (.if_icmp .ge 65, 3) := by decide +kernel
theorem dX8_mixBoard_14 : decode cX8_mixBoard 14 = .ok (.aload_n 0, 1) := by decide +kernel
theorem dX8_mixBoard_15 : decode cX8_mixBoard 15 = .ok (.aload_n 0, 1) := by decide +kernel
theorem dX8_mixBoard_16 : decode cX8_mixBoard 16 = .ok (.getfield 16, 3) := by decide +kernel
theorem dX8_mixBoard_19 : decode cX8_mixBoard 19 = .ok (.iload_n 1, 1) := by decide +kernel
theorem dX8_mixBoard_20 : decode cX8_mixBoard 20 = .ok (.iaload, 1) := by decide +kernel
theorem dX8_mixBoard_21 : decode cX8_mixBoard 21 = .ok (.i2l, 1) := by decide +kernel
theorem dX8_mixBoard_22 : decode cX8_mixBoard 22 = .ok (.invokevirtual 291, 3) := by decide +kernel
theorem dX8_mixBoard_25 : decode cX8_mixBoard 25 = .ok (.aload_n 0, 1) := by decide +kernel
theorem dX8_mixBoard_26 : decode cX8_mixBoard 26 = .ok (.aload_n 0, 1) := by decide +kernel
theorem dX8_mixBoard_27 : decode cX8_mixBoard 27 = .ok (.getfield 43, 3) := by decide +kernel
theorem dX8_mixBoard_30 : decode cX8_mixBoard 30 = .ok (.iload_n 1, 1) := by decide +kernel
theorem dX8_mixBoard_31 : decode cX8_mixBoard 31 = .ok (.iaload, 1) := by decide +kernel
theorem dX8_mixBoard_32 : decode cX8_mixBoard 32 = .ok (.i2l, 1) := by decide +kernel
theorem dX8_mixBoard_33 : decode cX8_mixBoard 33 = .ok (.invokevirtual 291, 3) := by decide +kernel
theorem dX8_mixBoard_36 : decode cX8_mixBoard 36 = .ok (.iconst 0, 1) := by decide +kernel
theorem dX8_mixBoard_37 : decode cX8_mixBoard 37 = .ok (.istore_n 2, 1) := by decide +kernel
theorem dX8_mixBoard_38 : decode cX8_mixBoard 38 = .ok (.iload_n 2, 1) := by decide +kernel
theorem dX8_mixBoard_39 : decode cX8_mixBoard 39 = .ok (.aload_n 0, 1) := by decide +kernel
theorem dX8_mixBoard_40 : decode cX8_mixBoard 40 = .ok (.getfield 100, 3) := by decide +kernel
theorem dX8_mixBoard_43 : decode cX8_mixBoard 43 = .ok (.if_icmp .ge 27, 3) := by decide +kernel
theorem dX8_mixBoard_46 : decode cX8_mixBoard 46 = .ok (.aload_n 0, 1) := by decide +kernel
theorem dX8_mixBoard_47 : decode cX8_mixBoard 47 = .ok (.getfield 210, 3) := by decide +kernel
theorem dX8_mixBoard_50 : decode cX8_mixBoard 50 = .ok (.ifCond .le 20, 3) := by decide +kernel
theorem dX8_mixBoard_53 : decode cX8_mixBoard 53 = .ok (.aload_n 0, 1) := by decide +kernel
theorem dX8_mixBoard_54 : decode cX8_mixBoard 54 = .ok (.aload_n 0, 1) := by decide +kernel
theorem dX8_mixBoard_55 : decode cX8_mixBoard 55 = .ok (.iload_n 1, 1) := by decide +kernel
theorem dX8_mixBoard_56 : decode cX8_mixBoard 56 = .ok (.iload_n 2, 1) := by decide +kernel
theorem dX8_mixBoard_57 : decode cX8_mixBoard 57 = .ok (.invokevirtual 228, 3) := by decide +kernel
theorem dX8_mixBoard_60 : decode cX8_mixBoard 60 = .ok (.i2l, 1) := by decide +kernel
theorem dX8_mixBoard_61 : decode cX8_mixBoard 61 = .ok (.invokevirtual 291, 3) := by decide +kernel
theorem dX8_mixBoard_64 : decode cX8_mixBoard 64 = .ok (.iinc 2 1, 3) := by decide +kernel
theorem dX8_mixBoard_67 : decode cX8_mixBoard 67 = .ok (.goto (-29), 3) := by decide +kernel
theorem dX8_mixBoard_70 : decode cX8_mixBoard 70 = .ok (.iinc 1 1, 3) := by decide +kernel
theorem dX8_mixBoard_73 : decode cX8_mixBoard 73 = .ok (.goto (-67), 3) := by decide +kernel
theorem dX8_mixBoard_76 : decode cX8_mixBoard 76 = .ok (.aload_n 0, 1) := by decide +kernel
theorem dX8_mixBoard_77 : decode cX8_mixBoard 77 = .ok (.aload_n 0, 1) := by decide +kernel
theorem dX8_mixBoard_78 : decode cX8_mixBoard 78 = .ok (.getfield 210, 3) := by decide +kernel
theorem dX8_mixBoard_81 : decode cX8_mixBoard 81 = .ok (.i2l, 1) := by decide +kernel
theorem dX8_mixBoard_82 : decode cX8_mixBoard 82 = .ok (.invokevirtual 291, 3) := by decide +kernel
theorem dX8_mixBoard_85 : decode cX8_mixBoard 85 = .ok (.return_, 1) := by decide +kernel
theorem dX8_digest_0 : decode cX8_digest 0 = .ok (.aload_n 0, 1) := by decide +kernel
theorem dX8_digest_1 : decode cX8_digest 1 = .ok (.ldc2_w 295, 3) := by decide +kernel
theorem dX8_digest_4 : decode cX8_digest 4 = .ok (.putfield 287, 3) := by decide +kernel
theorem dX8_digest_7 : decode cX8_digest 7 = .ok (.aload_n 0, 1) := by decide +kernel
theorem dX8_digest_8 : decode cX8_digest 8 = .ok (.invokevirtual 297, 3) := by decide +kernel
theorem dX8_digest_11 : decode cX8_digest 11 = .ok (.aload_n 0, 1) := by decide +kernel
theorem dX8_digest_12 : decode cX8_digest 12 = .ok (.invokevirtual 300, 3) := by decide +kernel
theorem dX8_digest_15 : decode cX8_digest 15 = .ok (.aload_n 0, 1) := by decide +kernel
theorem dX8_digest_16 : decode cX8_digest 16 = .ok (.invokevirtual 303, 3) := by decide +kernel
theorem dX8_digest_19 : decode cX8_digest 19 = .ok (.iconst 0, 1) := by decide +kernel
theorem dX8_digest_20 : decode cX8_digest 20 = .ok (.istore_n 1, 1) := by decide +kernel
theorem dX8_digest_21 : decode cX8_digest 21 = .ok (.iload_n 1, 1) := by decide +kernel
theorem dX8_digest_22 : decode cX8_digest 22 = .ok (.iconst 5, 1) := by decide +kernel
theorem dX8_digest_23 : decode cX8_digest 23 = .ok (.if_icmp .ge 26, 3) := by decide +kernel
theorem dX8_digest_26 : decode cX8_digest 26 = .ok (.aload_n 0, 1) := by decide +kernel
theorem dX8_digest_27 : decode cX8_digest 27 = .ok (.getfield 97, 3) := by decide +kernel
theorem dX8_digest_30 : decode cX8_digest 30 = .ok (.ifCond .le 19, 3) := by decide +kernel
theorem dX8_digest_33 : decode cX8_digest 33 = .ok (.aload_n 0, 1) := by decide +kernel
theorem dX8_digest_34 : decode cX8_digest 34 = .ok (.aload_n 0, 1) := by decide +kernel
theorem dX8_digest_35 : decode cX8_digest 35 = .ok (.iload_n 1, 1) := by decide +kernel
theorem dX8_digest_36 : decode cX8_digest 36 = .ok (.invokevirtual 276, 3) := by decide +kernel
theorem dX8_digest_39 : decode cX8_digest 39 = .ok (.i2l, 1) := by decide +kernel
theorem dX8_digest_40 : decode cX8_digest 40 = .ok (.invokevirtual 291, 3) := by decide +kernel
theorem dX8_digest_43 : decode cX8_digest 43 = .ok (.iinc 1 1, 3) := by decide +kernel
theorem dX8_digest_46 : decode cX8_digest 46 = .ok (.goto (-25), 3) := by decide +kernel
theorem dX8_digest_49 : decode cX8_digest 49 = .ok (.iconst 0, 1) := by decide +kernel
theorem dX8_digest_50 : decode cX8_digest 50 = .ok (.istore_n 1, 1) := by decide +kernel
theorem dX8_digest_51 : decode cX8_digest 51 = .ok (.iload_n 1, 1) := by decide +kernel
theorem dX8_digest_52 : decode cX8_digest 52 = .ok (.aload_n 0, 1) := by decide +kernel
theorem dX8_digest_53 : decode cX8_digest 53 = .ok (.getfield 69, 3) := by decide +kernel
theorem dX8_digest_56 : decode cX8_digest 56 = .ok (.if_icmp .ge 20, 3) := by decide +kernel
theorem dX8_digest_59 : decode cX8_digest 59 = .ok (.aload_n 0, 1) := by decide +kernel
theorem dX8_digest_60 : decode cX8_digest 60 = .ok (.aload_n 0, 1) := by decide +kernel
theorem dX8_digest_61 : decode cX8_digest 61 = .ok (.getfield 19, 3) := by decide +kernel
theorem dX8_digest_64 : decode cX8_digest 64 = .ok (.iload_n 1, 1) := by decide +kernel
theorem dX8_digest_65 : decode cX8_digest 65 = .ok (.iaload, 1) := by decide +kernel
theorem dX8_digest_66 : decode cX8_digest 66 = .ok (.i2l, 1) := by decide +kernel
theorem dX8_digest_67 : decode cX8_digest 67 = .ok (.invokevirtual 291, 3) := by decide +kernel
theorem dX8_digest_70 : decode cX8_digest 70 = .ok (.iinc 1 1, 3) := by decide +kernel
theorem dX8_digest_73 : decode cX8_digest 73 = .ok (.goto (-22), 3) := by decide +kernel
theorem dX8_digest_76 : decode cX8_digest 76 = .ok (.iconst 0, 1) := by decide +kernel
theorem dX8_digest_77 : decode cX8_digest 77 = .ok (.istore_n 1, 1) := by decide +kernel
theorem dX8_digest_78 : decode cX8_digest 78 = .ok (.iload_n 1, 1) := by decide +kernel
theorem dX8_digest_79 : decode cX8_digest 79 = .ok (.iconst 5, 1) := by decide +kernel
theorem dX8_digest_80 : decode cX8_digest 80 = .ok (.if_icmp .ge 19, 3) := by decide +kernel
theorem dX8_digest_83 : decode cX8_digest 83 = .ok (.aload_n 0, 1) := by decide +kernel
theorem dX8_digest_84 : decode cX8_digest 84 = .ok (.aload_n 0, 1) := by decide +kernel
theorem dX8_digest_85 : decode cX8_digest 85 = .ok (.iload_n 1, 1) := by decide +kernel
theorem dX8_digest_86 : decode cX8_digest 86 = .ok (.invokevirtual 282, 3) := by decide +kernel
theorem dX8_digest_89 : decode cX8_digest 89 = .ok (.i2l, 1) := by decide +kernel
theorem dX8_digest_90 : decode cX8_digest 90 = .ok (.invokevirtual 291, 3) := by decide +kernel
theorem dX8_digest_93 : decode cX8_digest 93 = .ok (.iinc 1 1, 3) := by decide +kernel
theorem dX8_digest_96 : decode cX8_digest 96 = .ok (.goto (-18), 3) := by decide +kernel
theorem dX8_digest_99 : decode cX8_digest 99 = .ok (.aload_n 0, 1) := by decide +kernel
theorem dX8_digest_100 : decode cX8_digest 100 = .ok (.getfield 287, 3) := by decide +kernel
theorem dX8_digest_103 : decode cX8_digest 103 = .ok (.lreturn, 1) := by decide +kernel
