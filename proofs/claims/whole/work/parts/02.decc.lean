theorem dX0_init_0 : decode cX0_init 0 = .ok (.aload_n 0, 1) := by decide +kernel
theorem dX0_init_1 : decode cX0_init 1 = .ok (.invokespecial 3, 3) := by decide +kernel
theorem dX0_init_4 : decode cX0_init 4 = .ok (.aload_n 0, 1) := by decide +kernel
theorem dX0_init_5 : decode cX0_init 5 = .ok (.iconst 4, 1) := by decide +kernel
theorem dX0_init_6 : decode cX0_init 6 = .ok (.newarray .int, 2) := by decide +kernel
theorem dX0_init_8 : decode cX0_init 8 = .ok (.dup, 1) := by decide +kernel
theorem dX0_init_9 : decode cX0_init 9 = .ok (.iconst 0, 1) := by decide +kernel
theorem dX0_init_10 : decode cX0_init 10 = .ok (.iconst (-1), 1) := by decide +kernel
theorem dX0_init_11 : decode cX0_init 11 = .ok (.iastore, 1) := by decide +kernel
theorem dX0_init_12 : decode cX0_init 12 = .ok (.dup, 1) := by decide +kernel
theorem dX0_init_13 : decode cX0_init 13 = .ok (.iconst 1, 1) := by decide +kernel
theorem dX0_init_14 : decode cX0_init 14 = .ok (.iconst (-1), 1) := by decide +kernel
theorem dX0_init_15 : decode cX0_init 15 = .ok (.iastore, 1) := by decide +kernel
theorem dX0_init_16 : decode cX0_init 16 = .ok (.dup, 1) := by decide +kernel
theorem dX0_init_17 : decode cX0_init 17 = .ok (.iconst 2, 1) := by decide +kernel
theorem dX0_init_18 : decode cX0_init 18 = .ok (.iconst (-1), 1) := by decide +kernel
theorem dX0_init_19 : decode cX0_init 19 = .ok (.iastore, 1) := by decide +kernel
theorem dX0_init_20 : decode cX0_init 20 = .ok (.dup, 1) := by decide +kernel
theorem dX0_init_21 : decode cX0_init 21 = .ok (.iconst 3, 1) := by decide +kernel
theorem dX0_init_22 : decode cX0_init 22 = .ok (.iconst (-1), 1) := by decide +kernel
theorem dX0_init_23 : decode cX0_init 23 = .ok (.iastore, 1) := by decide +kernel
theorem dX0_init_24 : decode cX0_init 24 = .ok (.putfield 9, 3) := by decide +kernel
theorem dX0_init_27 : decode cX0_init 27 = .ok (.aload_n 0, 1) := by decide +kernel
theorem dX0_init_28 : decode cX0_init 28 = .ok (.iconst 4, 1) := by decide +kernel
theorem dX0_init_29 : decode cX0_init 29 = .ok (.newarray .int, 2) := by decide +kernel
theorem dX0_init_31 : decode cX0_init 31 = .ok (.putfield 15, 3) := by decide +kernel
theorem dX0_init_34 : decode cX0_init 34 = .ok (.aload_n 0, 1) := by decide +kernel
theorem dX0_init_35 : decode cX0_init 35 = .ok (.iconst 0, 1) := by decide +kernel
theorem dX0_init_36 : decode cX0_init 36 = .ok (.putfield 18, 3) := by decide +kernel
theorem dX0_init_39 : decode cX0_init 39 = .ok (.return_, 1) := by decide +kernel
theorem dX0_clear_0 : decode cX0_clear 0 = .ok (.aload_n 0, 1) := by decide +kernel
theorem dX0_clear_1 : decode cX0_clear 1 = .ok (.getfield 9, 3) := by decide +kernel
theorem dX0_clear_4 : decode cX0_clear 4 = .ok (.iconst (-1), 1) := by decide +kernel
theorem dX0_clear_5 : decode cX0_clear 5 = .ok (.invokestatic 22, 3) := by decide +kernel
theorem dX0_clear_8 : decode cX0_clear 8 = .ok (.return_, 1) := by decide +kernel
theorem dX0_given_0 : decode cX0_given 0 = .ok (.iload_n 1, 1) := by decide +kernel
theorem dX0_given_1 : decode cX0_given 1 = .ok (.ifCond .lt 17, 3) := by decide +kernel
theorem dX0_given_4 : decode cX0_given 4 = .ok (.iload_n 1, 1) := by decide +kernel
theorem dX0_given_5 : decode cX0_given 5 = .ok (.iconst 4, 1) := by decide +kernel
theorem dX0_given_6 : decode cX0_given 6 = .ok (.if_icmp .ge 12, 3) := by decide +kernel
theorem dX0_given_9 : decode cX0_given 9 = .ok (.aload_n 0, 1) := by decide +kernel
theorem dX0_given_10 : decode cX0_given 10 = .ok (.getfield 9, 3) := by decide +kernel
theorem dX0_given_13 : decode cX0_given 13 = .ok (.iload_n 1, 1) := by decide +kernel
theorem dX0_given_14 : decode cX0_given 14 = .ok (.iaload, 1) := by decide +kernel
theorem dX0_given_15 : decode cX0_given 15 = .ok (.goto 4, 3) := by decide +kernel
theorem dX0_given_18 : decode cX0_given 18 = .ok (.iconst (-1), 1) := by decide +kernel
theorem dX0_given_19 : decode cX0_given 19 = .ok (.ireturn, 1) := by decide +kernel
theorem dX0_give_0 : decode cX0_give 0 = .ok (.iload_n 1, 1) := by decide +kernel
theorem dX0_give_1 : decode cX0_give 1 = .ok (.ifCond .lt 15, 3) := by decide +kernel
theorem dX0_give_4 : decode cX0_give 4 = .ok (.iload_n 1, 1) := by decide +kernel
theorem dX0_give_5 : decode cX0_give 5 = .ok (.iconst 4, 1) := by decide +kernel
theorem dX0_give_6 : decode cX0_give 6 = .ok (.if_icmp .ge 10, 3) := by decide +kernel
theorem dX0_give_9 : decode cX0_give 9 = .ok (.aload_n 0, 1) := by decide +kernel
theorem dX0_give_10 : decode cX0_give 10 = .ok (.getfield 9, 3) := by decide +kernel
theorem dX0_give_13 : decode cX0_give 13 = .ok (.iload_n 1, 1) := by decide +kernel
theorem dX0_give_14 : decode cX0_give 14 = .ok (.iload_n 2, 1) := by decide +kernel
theorem dX0_give_15 : decode cX0_give 15 = .ok (.iastore, 1) := by decide +kernel
theorem dX0_give_16 : decode cX0_give 16 = .ok (.return_, 1) := by decide +kernel
theorem dX0_numberOfGiven_0 : decode cX0_numberOfGiven 0 = .ok (.iconst 0, 1) := by decide +kernel
theorem dX0_numberOfGiven_1 : decode cX0_numberOfGiven 1 = .ok (.istore_n 1, 1) := by decide +kernel
theorem dX0_numberOfGiven_2 : decode cX0_numberOfGiven 2 = .ok (.iconst 0, 1) := by decide +kernel
theorem dX0_numberOfGiven_3 : decode cX0_numberOfGiven 3 = .ok (.istore_n 2, 1) := by decide +kernel
theorem dX0_numberOfGiven_4 : decode cX0_numberOfGiven 4 = .ok (.iload_n 2, 1) := by decide +kernel
theorem dX0_numberOfGiven_5 : decode cX0_numberOfGiven 5 = .ok (.iconst 4, 1) := by decide +kernel
theorem dX0_numberOfGiven_6 : decode cX0_numberOfGiven 6 = .ok (.if_icmp .ge 22, 3) := by decide +kernel
theorem dX0_numberOfGiven_9 : decode cX0_numberOfGiven 9 = .ok (.aload_n 0, 1) := by decide +kernel
theorem dX0_numberOfGiven_10 : decode cX0_numberOfGiven 10 = .ok (.getfield 9, 3) := by decide +kernel
theorem dX0_numberOfGiven_13 : decode cX0_numberOfGiven 13 = .ok (.iload_n 2, 1) := by decide +kernel
theorem dX0_numberOfGiven_14 : decode cX0_numberOfGiven 14 = .ok (.iaload, 1) := by decide +kernel
theorem dX0_numberOfGiven_15 : decode cX0_numberOfGiven 15 = .ok (.iconst (-1), 1) := by decide +kernel
theorem dX0_numberOfGiven_16 : decode cX0_numberOfGiven 16 = .ok (.if_icmp .eq 6, 3) := by decide +kernel
theorem dX0_numberOfGiven_19 : decode cX0_numberOfGiven 19 = .ok (.iinc 1 1, 3) := by decide +kernel
theorem dX0_numberOfGiven_22 : decode cX0_numberOfGiven 22 = .ok (.iinc 2 1, 3) := by decide +kernel
theorem dX0_numberOfGiven_25 : decode cX0_numberOfGiven 25 = .ok (.goto (-21), 3) := by decide +kernel
theorem dX0_numberOfGiven_28 : decode cX0_numberOfGiven 28 = .ok (.iload_n 1, 1) := by decide +kernel
theorem dX0_numberOfGiven_29 : decode cX0_numberOfGiven 29 = .ok (.ireturn, 1) := by decide +kernel
theorem dX0_numberOfFitting_0 : decode cX0_numberOfFitting 0 = .ok (.aload_n 0, 1) := by decide +kernel
theorem dX0_numberOfFitting_1 : decode cX0_numberOfFitting 1 = .ok (.getfield 18, 3) := by decide +kernel
theorem dX0_numberOfFitting_4 : decode cX0_numberOfFitting 4 = .ok (.ireturn, 1) := by decide +kernel
theorem dX0_possible_0 : decode cX0_possible 0 = .ok (.iload_n 1, 1) := by decide +kernel
theorem dX0_possible_1 : decode cX0_possible 1 = .ok (.ifCond .lt 17, 3) := by decide +kernel
theorem dX0_possible_4 : decode cX0_possible 4 = .ok (.iload_n 1, 1) := by decide +kernel
theorem dX0_possible_5 : decode cX0_possible 5 = .ok (.iconst 4, 1) := by decide +kernel
theorem dX0_possible_6 : decode cX0_possible 6 = .ok (.if_icmp .ge 12, 3) := by decide +kernel
theorem dX0_possible_9 : decode cX0_possible 9 = .ok (.aload_n 0, 1) := by decide +kernel
theorem dX0_possible_10 : decode cX0_possible 10 = .ok (.getfield 15, 3) := by decide +kernel
theorem dX0_possible_13 : decode cX0_possible 13 = .ok (.iload_n 1, 1) := by decide +kernel
theorem dX0_possible_14 : decode cX0_possible 14 = .ok (.iaload, 1) := by decide +kernel
theorem dX0_possible_15 : decode cX0_possible 15 = .ok (.goto 4, 3) := by decide +kernel
theorem dX0_possible_18 : decode cX0_possible 18 = .ok (.iconst 0, 1) := by decide +kernel
theorem dX0_possible_19 : decode cX0_possible 19 = .ok (.ireturn, 1) := by decide +kernel
theorem dX0_look_0 : decode cX0_look 0 = .ok (.iconst 0, 1) := by decide +kernel
theorem dX0_look_1 : decode cX0_look 1 = .ok (.istore_n 3, 1) := by decide +kernel
theorem dX0_look_2 : decode cX0_look 2 = .ok (.iconst 0, 1) := by decide +kernel
theorem dX0_look_3 : decode cX0_look 3 = .ok (.istore 4, 2) := by decide +kernel
theorem dX0_look_5 : decode cX0_look 5 = .ok (.iconst 0, 1) := by decide +kernel
theorem dX0_look_6 : decode cX0_look 6 = .ok (.istore 5, 2) := by decide +kernel
theorem dX0_look_8 : decode cX0_look 8 = .ok (.iload 5, 2) := by decide +kernel
theorem dX0_look_10 : decode cX0_look 10 = .ok (.iload_n 2, 1) := by decide +kernel
theorem dX0_look_11 : decode cX0_look 11 = .ok (.if_icmp .ge 72, 3) := by decide +kernel
theorem dX0_look_14 : decode cX0_look 14 = .ok (.iload 5, 2) := by decide +kernel
theorem dX0_look_16 : decode cX0_look 16 = .ok (.iconst 4, 1) := by decide +kernel
theorem dX0_look_17 : decode cX0_look 17 = .ok (.if_icmp .ge 66, 3) := by decide +kernel
theorem dX0_look_20 : decode cX0_look 20 = .ok (.aload_n 0, 1) := by decide +kernel
theorem dX0_look_21 : decode cX0_look 21 = .ok (.getfield 9, 3) := by decide +kernel
theorem dX0_look_24 : decode cX0_look 24 = .ok (.iload 5, 2) := by decide +kernel
theorem dX0_look_26 : decode cX0_look 26 = .ok (.iaload, 1) := by decide +kernel
theorem dX0_look_27 : decode cX0_look 27 = .ok (.iconst (-1), 1) := by decide +kernel
theorem dX0_look_28 : decode cX0_look 28 = .ok (.if_icmp .ne 7, 3) := by decide +kernel
theorem dX0_look_31 : decode cX0_look 31 = .ok (.iconst 1, 1) := by decide +kernel
theorem dX0_look_32 : decode cX0_look 32 = .ok (.goto 4, 3) := by decide +kernel
theorem dX0_look_35 : decode cX0_look 35 = .ok (.iconst 0, 1) := by decide +kernel
theorem dX0_look_36 : decode cX0_look 36 = .ok (.istore 6, 2) := by decide +kernel
theorem dX0_look_38 : decode cX0_look 38 = .ok (.iload_n 3, 1) := by decide +kernel
theorem dX0_look_39 : decode cX0_look 39 = .ok (.iconst 4, 1) := by decide +kernel
theorem dX0_look_40 : decode cX0_look 40 = .ok (.ishl, 1) := by decide +kernel
theorem dX0_look_41 : decode cX0_look 41 = .ok (.iload 6, 2) := by decide +kernel
theorem dX0_look_43 : decode cX0_look 43 = .ok (.ifCond .eq 7, 3) := by decide +kernel
theorem dX0_look_46 : decode cX0_look 46 = .ok (.iconst 0, 1) := by decide +kernel
theorem dX0_look_47 : decode cX0_look 47 = .ok (.goto 5, 3) := by decide +kernel
theorem dX0_look_50 : decode cX0_look 50 = .ok (.bipush 15, 2) := by decide +kernel
theorem dX0_look_52 : decode cX0_look 52 = .ok (.ior, 1) := by decide +kernel
theorem dX0_look_53 : decode cX0_look 53 = .ok (.istore_n 3, 1) := by decide +kernel
theorem dX0_look_54 : decode cX0_look 54 = .ok (.iload 4, 2) := by decide +kernel
theorem dX0_look_56 : decode cX0_look 56 = .ok (.iconst 4, 1) := by decide +kernel
theorem dX0_look_57 : decode cX0_look 57 = .ok (.ishl, 1) := by decide +kernel
theorem dX0_look_58 : decode cX0_look 58 = .ok (.iload 6, 2) := by decide +kernel
theorem dX0_look_60 : decode cX0_look 60 = .ok (.ifCond .eq 7, 3) := by decide +kernel
theorem dX0_look_63 : decode cX0_look 63 = .ok (.iconst 0, 1) := by decide +kernel
theorem dX0_look_64 : decode cX0_look 64 = .ok (.goto 10, 3) := by decide +kernel
theorem dX0_look_67 : decode cX0_look 67 = .ok (.aload_n 0, 1) := by decide +kernel
theorem dX0_look_68 : decode cX0_look 68 = .ok (.getfield 9, 3) := by decide +kernel
theorem dX0_look_71 : decode cX0_look 71 = .ok (.iload 5, 2) := by decide +kernel
theorem dX0_look_73 : decode cX0_look 73 = .ok (.iaload, 1) := by decide +kernel
theorem dX0_look_74 : decode cX0_look 74 = .ok (.ior, 1) := by decide +kernel
theorem dX0_look_75 : decode cX0_look 75 = .ok (.istore 4, 2) := by decide +kernel
theorem dX0_look_77 : decode cX0_look 77 = .ok (.iinc 5 1, 3) := by decide +kernel
theorem dX0_look_80 : decode cX0_look 80 = .ok (.goto (-72), 3) := by decide +kernel
theorem dX0_look_83 : decode cX0_look 83 = .ok (.aload_n 0, 1) := by decide +kernel
theorem dX0_look_84 : decode cX0_look 84 = .ok (.iconst 0, 1) := by decide +kernel
theorem dX0_look_85 : decode cX0_look 85 = .ok (.putfield 18, 3) := by decide +kernel
theorem dX0_look_88 : decode cX0_look 88 = .ok (.aload_n 0, 1) := by decide +kernel
theorem dX0_look_89 : decode cX0_look 89 = .ok (.getfield 15, 3) := by decide +kernel
theorem dX0_look_92 : decode cX0_look 92 = .ok (.iconst 0, 1) := by decide +kernel
theorem dX0_look_93 : decode cX0_look 93 = .ok (.invokestatic 22, 3) := by decide +kernel
theorem dX0_look_96 : decode cX0_look 96 = .ok (.iconst 0, 1) := by decide +kernel
theorem dX0_look_97 : decode cX0_look 97 = .ok (.istore 5, 2) := by decide +kernel
theorem dX0_look_99 : decode cX0_look 99 = .ok (.iload 5, 2) := by decide +kernel
theorem dX0_look_101 : decode cX0_look 101 = .ok (.aload_n 1, 1) := by decide +kernel
theorem dX0_look_102 : decode cX0_look 102 = .ok (.invokevirtual 28, 3) := by decide +kernel
theorem dX0_look_105 : decode cX0_look 105 = .ok (.if_icmp .ge 43, 3) := by decide +kernel
theorem dX0_look_108 : decode cX0_look 108 = .ok (.aload_n 1, 1) := by decide +kernel
theorem dX0_look_109 : decode cX0_look 109 = .ok (.iload 5, 2) := by decide +kernel
theorem dX0_look_111 : decode cX0_look 111 = .ok (.invokevirtual 34, 3) := by decide +kernel
theorem dX0_look_114 : decode cX0_look 114 = .ok (.istore 6, 2) := by decide +kernel
theorem dX0_look_116 : decode cX0_look 116 = .ok (.iload 6, 2) := by decide +kernel
theorem dX0_look_118 : decode cX0_look 118 = .ok (.iload_n 3, 1) := by decide +kernel
theorem dX0_look_119 : decode cX0_look 119 = .ok (.iand, 1) := by decide +kernel
theorem dX0_look_120 : decode cX0_look 120 = .ok (.iload 4, 2) := by decide +kernel
theorem dX0_look_122 : decode cX0_look 122 = .ok (.if_icmp .ne 20, 3) := by decide +kernel
theorem dX0_look_125 : decode cX0_look 125 = .ok (.aload_n 0, 1) := by decide +kernel
theorem dX0_look_126 : decode cX0_look 126 = .ok (.dup, 1) := by decide +kernel
theorem dX0_look_127 : decode cX0_look 127 = .ok (.getfield 18, 3) := by decide +kernel
theorem dX0_look_130 : decode cX0_look 130 = .ok (.iconst 1, 1) := by decide +kernel
theorem dX0_look_131 : decode cX0_look 131 = .ok (.iadd, 1) := by decide +kernel
theorem dX0_look_132 : decode cX0_look 132 = .ok (.putfield 18, 3) := by decide +kernel
theorem dX0_look_135 : decode cX0_look 135 = .ok (.aload_n 0, 1) := by decide +kernel
theorem dX0_look_136 : decode cX0_look 136 = .ok (.iload 6, 2) := by decide +kernel
theorem dX0_look_138 : decode cX0_look 138 = .ok (.iload_n 2, 1) := by decide +kernel
theorem dX0_look_139 : decode cX0_look 139 = .ok (.invokevirtual 38, 3) := by decide +kernel
theorem dX0_look_142 : decode cX0_look 142 = .ok (.iinc 5 1, 3) := by decide +kernel
theorem dX0_look_145 : decode cX0_look 145 = .ok (.goto (-46), 3) := by decide +kernel
theorem dX0_look_148 : decode cX0_look 148 = .ok (.return_, 1) := by decide +kernel
theorem dX0_addRows_0 : decode cX0_addRows 0 = .ok (.iconst 0, 1) := by decide +kernel
theorem dX0_addRows_1 : decode cX0_addRows 1 = .ok (.istore_n 3, 1) := by decide +kernel
theorem dX0_addRows_2 : decode cX0_addRows 2 = .ok (.iload_n 3, 1) := by decide +kernel
theorem dX0_addRows_3 : decode cX0_addRows 3 = .ok (.iload_n 2, 1) := by decide +kernel
theorem dX0_addRows_4 : decode cX0_addRows 4 = .ok (.if_icmp .ge 31, 3) := by decide +kernel
theorem dX0_addRows_7 : decode cX0_addRows 7 = .ok (.iload_n 3, 1) := by decide +kernel
theorem dX0_addRows_8 : decode cX0_addRows 8 = .ok (.iconst 4, 1) := by decide +kernel
theorem dX0_addRows_9 : decode cX0_addRows 9 = .ok (.if_icmp .ge 26, 3) := by decide +kernel
theorem dX0_addRows_12 : decode cX0_addRows 12 = .ok (.aload_n 0, 1) := by decide +kernel
theorem dX0_addRows_13 : decode cX0_addRows 13 = .ok (.getfield 15, 3) := by decide +kernel
theorem dX0_addRows_16 : decode cX0_addRows 16 = .ok (.iload_n 3, 1) := by decide +kernel
theorem dX0_addRows_17 : decode cX0_addRows 17 = .ok (.dup2, 1) := by decide +kernel
theorem dX0_addRows_18 : decode cX0_addRows 18 = .ok (.iaload, 1) := by decide +kernel
theorem dX0_addRows_19 : decode cX0_addRows 19 = .ok (.iconst 1, 1) := by decide +kernel
theorem dX0_addRows_20 : decode cX0_addRows 20 = .ok (.iload_n 1, 1) := by decide +kernel
theorem dX0_addRows_21 : decode cX0_addRows 21 = .ok (.iload_n 3, 1) := by decide +kernel
theorem dX0_addRows_22 : decode cX0_addRows 22 = .ok (.iload_n 2, 1) := by decide +kernel
theorem dX0_addRows_23 : decode cX0_addRows 23 = .ok (.invokestatic 42, 3) := by decide +kernel
theorem dX0_addRows_26 : decode cX0_addRows 26 = .ok (.ishl, 1) := by decide +kernel
theorem dX0_addRows_27 : decode cX0_addRows 27 = .ok (.ior, 1) := by decide +kernel
theorem dX0_addRows_28 : decode cX0_addRows 28 = .ok (.iastore, 1) := by decide +kernel
theorem dX0_addRows_29 : decode cX0_addRows 29 = .ok (.iinc 3 1, 3) := by decide +kernel
theorem dX0_addRows_32 : decode cX0_addRows 32 = .ok (.goto (-30), 3) := by decide +kernel
theorem dX0_addRows_35 : decode cX0_addRows 35 = .ok (.return_, 1) := by decide +kernel
theorem dX1_init_0 : decode cX1_init 0 = .ok (.aload_n 0, 1) := by decide +kernel
theorem dX1_init_1 : decode cX1_init 1 = .ok (.invokespecial 1, 3) := by decide +kernel
theorem dX1_init_4 : decode cX1_init 4 = .ok (.aload_n 0, 1) := by decide +kernel
theorem dX1_init_5 : decode cX1_init 5 = .ok (.sipush 1296, 3) := by decide +kernel
theorem dX1_init_8 : decode cX1_init 8 = .ok (.newarray .long, 2) := by decide +kernel
theorem dX1_init_10 : decode cX1_init 10 = .ok (.putfield 9, 3) := by decide +kernel
theorem dX1_init_13 : decode cX1_init 13 = .ok (.aload_n 0, 1) := by decide +kernel
theorem dX1_init_14 : decode cX1_init 14 = .ok (.iconst 0, 1) := by decide +kernel
theorem dX1_init_15 : decode cX1_init 15 = .ok (.putfield 13, 3) := by decide +kernel
theorem dX1_init_18 : decode cX1_init 18 = .ok (.return_, 1) := by decide +kernel
theorem dX1_size_0 : decode cX1_size 0 = .ok (.aload_n 0, 1) := by decide +kernel
theorem dX1_size_1 : decode cX1_size 1 = .ok (.getfield 13, 3) := by decide +kernel
theorem dX1_size_4 : decode cX1_size 4 = .ok (.ireturn, 1) := by decide +kernel
theorem dX1_clear_0 : decode cX1_clear 0 = .ok (.aload_n 0, 1) := by decide +kernel
theorem dX1_clear_1 : decode cX1_clear 1 = .ok (.getfield 9, 3) := by decide +kernel
theorem dX1_clear_4 : decode cX1_clear 4 = .ok (.lconst 0, 1) := by decide +kernel
theorem dX1_clear_5 : decode cX1_clear 5 = .ok (.invokestatic 17, 3) := by decide +kernel
theorem dX1_clear_8 : decode cX1_clear 8 = .ok (.aload_n 0, 1) := by decide +kernel
theorem dX1_clear_9 : decode cX1_clear 9 = .ok (.iconst 0, 1) := by decide +kernel
theorem dX1_clear_10 : decode cX1_clear 10 = .ok (.putfield 13, 3) := by decide +kernel
theorem dX1_clear_13 : decode cX1_clear 13 = .ok (.return_, 1) := by decide +kernel
theorem dX1_has_0 : decode cX1_has 0 = .ok (.iload_n 1, 1) := by decide +kernel
theorem dX1_has_1 : decode cX1_has 1 = .ok (.ifCond .lt 34, 3) := by decide +kernel
theorem dX1_has_4 : decode cX1_has 4 = .ok (.iload_n 1, 1) := by decide +kernel
theorem dX1_has_5 : decode cX1_has 5 = .ok (.ldc 23, 2) := by decide +kernel
theorem dX1_has_7 : decode cX1_has 7 = .ok (.if_icmp .ge 28, 3) := by decide +kernel
theorem dX1_has_10 : decode cX1_has 10 = .ok (.aload_n 0, 1) := by decide +kernel
theorem dX1_has_11 : decode cX1_has 11 = .ok (.getfield 9, 3) := by decide +kernel
theorem dX1_has_14 : decode cX1_has 14 = .ok (.iload_n 1, 1) := by decide +kernel
theorem dX1_has_15 : decode cX1_has 15 = .ok (.bipush 64, 2) := by decide +kernel
theorem dX1_has_17 : decode cX1_has 17 = .ok (.idiv, 1) := by decide +kernel
theorem dX1_has_18 : decode cX1_has 18 = .ok (.laload, 1) := by decide +kernel
theorem dX1_has_19 : decode cX1_has 19 = .ok (.iload_n 1, 1) := by decide +kernel
theorem dX1_has_20 : decode cX1_has 20 = .ok (.bipush 64, 2) := by decide +kernel
theorem dX1_has_22 : decode cX1_has 22 = .ok (.irem, 1) := by decide +kernel
theorem dX1_has_23 : decode cX1_has 23 = .ok (.lushr, 1) := by decide +kernel
theorem dX1_has_24 : decode cX1_has 24 = .ok (.lconst 1, 1) := by decide +kernel
theorem dX1_has_25 : decode cX1_has 25 = .ok (.land, 1) := by decide +kernel
theorem dX1_has_26 : decode cX1_has 26 = .ok (.lconst 0, 1) := by decide +kernel
theorem dX1_has_27 : decode cX1_has 27 = .ok (.lcmp, 1) := by decide +kernel
theorem dX1_has_28 : decode cX1_has 28 = .ok (.ifCond .eq 7, 3) := by decide +kernel
theorem dX1_has_31 : decode cX1_has 31 = .ok (.iconst 1, 1) := by decide +kernel
theorem dX1_has_32 : decode cX1_has 32 = .ok (.goto 4, 3) := by decide +kernel
theorem dX1_has_35 : decode cX1_has 35 = .ok (.iconst 0, 1) := by decide +kernel
theorem dX1_has_36 : decode cX1_has 36 = .ok (.ireturn, 1) := by decide +kernel
theorem dX1_add_0 : decode cX1_add 0 = .ok (.iload_n 1, 1) := by decide +kernel
theorem dX1_add_1 : decode cX1_add 1 = .ok (.ifCond .lt 45, 3) := by decide +kernel
theorem dX1_add_4 : decode cX1_add 4 = .ok (.iload_n 1, 1) := by decide +kernel
theorem dX1_add_5 : decode cX1_add 5 = .ok (.ldc 23, 2) := by decide +kernel
theorem dX1_add_7 : decode cX1_add 7 = .ok (.if_icmp .ge 39, 3) := by decide +kernel
theorem dX1_add_10 : decode cX1_add 10 = .ok (.aload_n 0, 1) := by decide +kernel
theorem dX1_add_11 : decode cX1_add 11 = .ok (.iload_n 1, 1) := by decide +kernel
theorem dX1_add_12 : decode cX1_add 12 = .ok (.invokevirtual 24, 3) := by decide +kernel
theorem dX1_add_15 : decode cX1_add 15 = .ok (.ifCond .ne 31, 3) := by decide +kernel
theorem dX1_add_18 : decode cX1_add 18 = .ok (.aload_n 0, 1) := by decide +kernel
theorem dX1_add_19 : decode cX1_add 19 = .ok (.getfield 9, 3) := by decide +kernel
theorem dX1_add_22 : decode cX1_add 22 = .ok (.iload_n 1, 1) := by decide +kernel
theorem dX1_add_23 : decode cX1_add 23 = .ok (.bipush 64, 2) := by decide +kernel
theorem dX1_add_25 : decode cX1_add 25 = .ok (.idiv, 1) := by decide +kernel
theorem dX1_add_26 : decode cX1_add 26 = .ok (.dup2, 1) := by decide +kernel
theorem dX1_add_27 : decode cX1_add 27 = .ok (.laload, 1) := by decide +kernel
theorem dX1_add_28 : decode cX1_add 28 = .ok (.lconst 1, 1) := by decide +kernel
theorem dX1_add_29 : decode cX1_add 29 = .ok (.iload_n 1, 1) := by decide +kernel
theorem dX1_add_30 : decode cX1_add 30 = .ok (.bipush 64, 2) := by decide +kernel
theorem dX1_add_32 : decode cX1_add 32 = .ok (.irem, 1) := by decide +kernel
theorem dX1_add_33 : decode cX1_add 33 = .ok (.lshl, 1) := by decide +kernel
theorem dX1_add_34 : decode cX1_add 34 = .ok (.lor, 1) := by decide +kernel
theorem dX1_add_35 : decode cX1_add 35 = .ok (.lastore, 1) := by decide +kernel
theorem dX1_add_36 : decode cX1_add 36 = .ok (.aload_n 0, 1) := by decide +kernel
theorem dX1_add_37 : decode cX1_add 37 = .ok (.dup, 1) := by decide +kernel
theorem dX1_add_38 : decode cX1_add 38 = .ok (.getfield 13, 3) := by decide +kernel
theorem dX1_add_41 : decode cX1_add 41 = .ok (.iconst 1, 1) := by decide +kernel
theorem dX1_add_42 : decode cX1_add 42 = .ok (.iadd, 1) := by decide +kernel
theorem dX1_add_43 : decode cX1_add 43 = .ok (.putfield 13, 3) := by decide +kernel
theorem dX1_add_46 : decode cX1_add 46 = .ok (.return_, 1) := by decide +kernel
theorem dX2_init_0 : decode cX2_init 0 = .ok (.aload_n 0, 1) := by decide +kernel
theorem dX2_init_1 : decode cX2_init 1 = .ok (.invokespecial 3, 3) := by decide +kernel
theorem dX2_init_4 : decode cX2_init 4 = .ok (.aload_n 0, 1) := by decide +kernel
theorem dX2_init_5 : decode cX2_init 5 = .ok (.new 9, 3) := by decide +kernel
theorem dX2_init_8 : decode cX2_init 8 = .ok (.dup, 1) := by decide +kernel
theorem dX2_init_9 : decode cX2_init 9 = .ok (.invokespecial 11, 3) := by decide +kernel
theorem dX2_init_12 : decode cX2_init 12 = .ok (.putfield 12, 3) := by decide +kernel
theorem dX2_init_15 : decode cX2_init 15 = .ok (.aload_n 0, 1) := by decide +kernel
theorem dX2_init_16 : decode cX2_init 16 = .ok (.new 18, 3) := by decide +kernel
theorem dX2_init_19 : decode cX2_init 19 = .ok (.dup, 1) := by decide +kernel
theorem dX2_init_20 : decode cX2_init 20 = .ok (.invokespecial 20, 3) := by decide +kernel
theorem dX2_init_23 : decode cX2_init 23 = .ok (.putfield 21, 3) := by decide +kernel
theorem dX2_init_26 : decode cX2_init 26 = .ok (.aload_n 0, 1) := by decide +kernel
theorem dX2_init_27 : decode cX2_init 27 = .ok (.new 18, 3) := by decide +kernel
theorem dX2_init_30 : decode cX2_init 30 = .ok (.dup, 1) := by decide +kernel
theorem dX2_init_31 : decode cX2_init 31 = .ok (.invokespecial 20, 3) := by decide +kernel
theorem dX2_init_34 : decode cX2_init 34 = .ok (.putfield 25, 3) := by decide +kernel
theorem dX2_init_37 : decode cX2_init 37 = .ok (.aload_n 0, 1) := by decide +kernel
theorem dX2_init_38 : decode cX2_init 38 = .ok (.new 18, 3) := by decide +kernel
theorem dX2_init_41 : decode cX2_init 41 = .ok (.dup, 1) := by decide +kernel
theorem dX2_init_42 : decode cX2_init 42 = .ok (.invokespecial 20, 3) := by decide +kernel
theorem dX2_init_45 : decode cX2_init 45 = .ok (.putfield 28, 3) := by decide +kernel
theorem dX2_init_48 : decode cX2_init 48 = .ok (.aload_n 0, 1) := by decide +kernel
theorem dX2_init_49 : decode cX2_init 49 = .ok (.bipush 16, 2) := by decide +kernel
theorem dX2_init_51 : decode cX2_init 51 = .ok (.newarray .int, 2) := by decide +kernel
theorem dX2_init_53 : decode cX2_init 53 = .ok (.putfield 31, 3) := by decide +kernel
theorem dX2_init_56 : decode cX2_init 56 = .ok (.aload_n 0, 1) := by decide +kernel
theorem dX2_init_57 : decode cX2_init 57 = .ok (.bipush 16, 2) := by decide +kernel
theorem dX2_init_59 : decode cX2_init 59 = .ok (.newarray .int, 2) := by decide +kernel
theorem dX2_init_61 : decode cX2_init 61 = .ok (.putfield 35, 3) := by decide +kernel
theorem dX2_init_64 : decode cX2_init 64 = .ok (.aload_n 0, 1) := by decide +kernel
theorem dX2_init_65 : decode cX2_init 65 = .ok (.bipush 16, 2) := by decide +kernel
theorem dX2_init_67 : decode cX2_init 67 = .ok (.newarray .int, 2) := by decide +kernel
theorem dX2_init_69 : decode cX2_init 69 = .ok (.putfield 38, 3) := by decide +kernel
theorem dX2_init_72 : decode cX2_init 72 = .ok (.aload_n 0, 1) := by decide +kernel
theorem dX2_init_73 : decode cX2_init 73 = .ok (.iconst 0, 1) := by decide +kernel
theorem dX2_init_74 : decode cX2_init 74 = .ok (.putfield 41, 3) := by decide +kernel
theorem dX2_init_77 : decode cX2_init 77 = .ok (.aload_n 0, 1) := by decide +kernel
theorem dX2_init_78 : decode cX2_init 78 = .ok (.iconst 0, 1) := by decide +kernel
theorem dX2_init_79 : decode cX2_init 79 = .ok (.putfield 45, 3) := by decide +kernel
theorem dX2_init_82 : decode cX2_init 82 = .ok (.aload_n 0, 1) := by decide +kernel
theorem dX2_init_83 : decode cX2_init 83 = .ok (.iconst 0, 1) := by decide +kernel
theorem dX2_init_84 : decode cX2_init 84 = .ok (.putfield 48, 3) := by decide +kernel
theorem dX2_init_87 : decode cX2_init 87 = .ok (.aload_n 0, 1) := by decide +kernel
theorem dX2_init_88 : decode cX2_init 88 = .ok (.iconst 0, 1) := by decide +kernel
theorem dX2_init_89 : decode cX2_init 89 = .ok (.putfield 51, 3) := by decide +kernel
theorem dX2_init_92 : decode cX2_init 92 = .ok (.aload_n 0, 1) := by decide +kernel
theorem dX2_init_93 : decode cX2_init 93 = .ok (.aload_n 1, 1) := by decide +kernel
theorem dX2_init_94 : decode cX2_init 94 = .ok (.putfield 54, 3) := by decide +kernel
theorem dX2_init_97 : decode cX2_init 97 = .ok (.aload_n 0, 1) := by decide +kernel
theorem dX2_init_98 : decode cX2_init 98 = .ok (.new 58, 3) := by decide +kernel
theorem dX2_init_101 : decode cX2_init 101 = .ok (.dup, 1) := by decide +kernel
theorem dX2_init_102 : decode cX2_init 102 = .ok (.aload_n 1, 1) := by decide +kernel
theorem dX2_init_103 : decode cX2_init 103 = .ok (.invokespecial 60, 3) := by decide +kernel
theorem dX2_init_106 : decode cX2_init 106 = .ok (.putfield 63, 3) := by decide +kernel
theorem dX2_init_109 : decode cX2_init 109 = .ok (.return_, 1) := by decide +kernel
theorem dX2_ofKind_0 : decode cX2_ofKind 0 = .ok (.iload_n 1, 1) := by decide +kernel
theorem dX2_ofKind_1 : decode cX2_ofKind 1 = .ok (.lookupswitch 37 #[(1, 27), (2, 32)], 27) := by decide +kernel
theorem dX2_ofKind_28 : decode cX2_ofKind 28 = .ok (.aload_n 0, 1) := by decide +kernel
theorem dX2_ofKind_29 : decode cX2_ofKind 29 = .ok (.getfield 25, 3) := by decide +kernel
theorem dX2_ofKind_32 : decode cX2_ofKind 32 = .ok (.areturn, 1) := by decide +kernel
theorem dX2_ofKind_33 : decode cX2_ofKind 33 = .ok (.aload_n 0, 1) := by decide +kernel
theorem dX2_ofKind_34 : decode cX2_ofKind 34 = .ok (.getfield 28, 3) := by decide +kernel
theorem dX2_ofKind_37 : decode cX2_ofKind 37 = .ok (.areturn, 1) := by decide +kernel
theorem dX2_ofKind_38 : decode cX2_ofKind 38 = .ok (.aload_n 0, 1) := by decide +kernel
theorem dX2_ofKind_39 : decode cX2_ofKind 39 = .ok (.getfield 21, 3) := by decide +kernel
theorem dX2_ofKind_42 : decode cX2_ofKind 42 = .ok (.areturn, 1) := by decide +kernel
theorem dX2_timesInRows_0 : decode cX2_timesInRows 0 = .ok (.aload_n 0, 1) := by decide +kernel
theorem dX2_timesInRows_1 : decode cX2_timesInRows 1 = .ok (.getfield 31, 3) := by decide +kernel
theorem dX2_timesInRows_4 : decode cX2_timesInRows 4 = .ok (.iload_n 1, 1) := by decide +kernel
theorem dX2_timesInRows_5 : decode cX2_timesInRows 5 = .ok (.bipush 15, 2) := by decide +kernel
theorem dX2_timesInRows_7 : decode cX2_timesInRows 7 = .ok (.iand, 1) := by decide +kernel
theorem dX2_timesInRows_8 : decode cX2_timesInRows 8 = .ok (.iaload, 1) := by decide +kernel
theorem dX2_timesInRows_9 : decode cX2_timesInRows 9 = .ok (.ireturn, 1) := by decide +kernel
theorem dX2_timesInColumns_0 : decode cX2_timesInColumns 0 = .ok (.aload_n 0, 1) := by decide +kernel
theorem dX2_timesInColumns_1 : decode cX2_timesInColumns 1 = .ok (.getfield 35, 3) := by decide +kernel
theorem dX2_timesInColumns_4 : decode cX2_timesInColumns 4 = .ok (.iload_n 1, 1) := by decide +kernel
theorem dX2_timesInColumns_5 : decode cX2_timesInColumns 5 = .ok (.bipush 15, 2) := by decide +kernel
theorem dX2_timesInColumns_7 : decode cX2_timesInColumns 7 = .ok (.iand, 1) := by decide +kernel
theorem dX2_timesInColumns_8 : decode cX2_timesInColumns 8 = .ok (.iaload, 1) := by decide +kernel
theorem dX2_timesInColumns_9 : decode cX2_timesInColumns 9 = .ok (.ireturn, 1) := by decide +kernel
theorem dX2_timesInSymmetric_0 : decode cX2_timesInSymmetric 0 = .ok (.aload_n 0, 1) := by decide +kernel
theorem dX2_timesInSymmetric_1 : decode cX2_timesInSymmetric 1 = .ok (.getfield 38, 3) := by decide +kernel
theorem dX2_timesInSymmetric_4 : decode cX2_timesInSymmetric 4 = .ok (.iload_n 1, 1) := by decide +kernel
theorem dX2_timesInSymmetric_5 : decode cX2_timesInSymmetric 5 = .ok (.bipush 15, 2) := by decide +kernel
theorem dX2_timesInSymmetric_7 : decode cX2_timesInSymmetric 7 = .ok (.iand, 1) := by decide +kernel
theorem dX2_timesInSymmetric_8 : decode cX2_timesInSymmetric 8 = .ok (.iaload, 1) := by decide +kernel
theorem dX2_timesInSymmetric_9 : decode cX2_timesInSymmetric 9 = .ok (.ireturn, 1) := by decide +kernel
theorem dX2_plainVisits_0 : decode cX2_plainVisits 0 = .ok (.aload_n 0, 1) := by decide +kernel
theorem dX2_plainVisits_1 : decode cX2_plainVisits 1 = .ok (.getfield 41, 3) := by decide +kernel
theorem dX2_plainVisits_4 : decode cX2_plainVisits 4 = .ok (.ireturn, 1) := by decide +kernel
theorem dX2_plainDead_0 : decode cX2_plainDead 0 = .ok (.aload_n 0, 1) := by decide +kernel
theorem dX2_plainDead_1 : decode cX2_plainDead 1 = .ok (.getfield 45, 3) := by decide +kernel
theorem dX2_plainDead_4 : decode cX2_plainDead 4 = .ok (.ireturn, 1) := by decide +kernel
theorem dX2_memoryVisits_0 : decode cX2_memoryVisits 0 = .ok (.aload_n 0, 1) := by decide +kernel
theorem dX2_memoryVisits_1 : decode cX2_memoryVisits 1 = .ok (.getfield 48, 3) := by decide +kernel
theorem dX2_memoryVisits_4 : decode cX2_memoryVisits 4 = .ok (.ireturn, 1) := by decide +kernel
theorem dX2_memoryCuts_0 : decode cX2_memoryCuts 0 = .ok (.aload_n 0, 1) := by decide +kernel
theorem dX2_memoryCuts_1 : decode cX2_memoryCuts 1 = .ok (.getfield 51, 3) := by decide +kernel
theorem dX2_memoryCuts_4 : decode cX2_memoryCuts 4 = .ok (.ireturn, 1) := by decide +kernel
theorem dX2_memorySize_0 : decode cX2_memorySize 0 = .ok (.aload_n 0, 1) := by decide +kernel
theorem dX2_memorySize_1 : decode cX2_memorySize 1 = .ok (.getfield 12, 3) := by decide +kernel
theorem dX2_memorySize_4 : decode cX2_memorySize 4 = .ok (.invokevirtual 67, 3) := by decide +kernel
theorem dX2_memorySize_7 : decode cX2_memorySize 7 = .ok (.ireturn, 1) := by decide +kernel
theorem dX2_run_0 : decode cX2_run 0 = .ok (.aload_n 0, 1) := by decide +kernel
theorem dX2_run_1 : decode cX2_run 1 = .ok (.invokevirtual 71, 3) := by decide +kernel
theorem dX2_run_4 : decode cX2_run 4 = .ok (.aload_n 0, 1) := by decide +kernel
theorem dX2_run_5 : decode cX2_run 5 = .ok (.getfield 54, 3) := by decide +kernel
theorem dX2_run_8 : decode cX2_run 8 = .ok (.invokevirtual 74, 3) := by decide +kernel
theorem dX2_run_11 : decode cX2_run 11 = .ok (.ifCond .le 25, 3) := by decide +kernel
theorem dX2_run_14 : decode cX2_run 14 = .ok (.aload_n 0, 1) := by decide +kernel
theorem dX2_run_15 : decode cX2_run 15 = .ok (.getfield 63, 3) := by decide +kernel
theorem dX2_run_18 : decode cX2_run 18 = .ok (.invokevirtual 77, 3) := by decide +kernel
theorem dX2_run_21 : decode cX2_run 21 = .ok (.aload_n 0, 1) := by decide +kernel
theorem dX2_run_22 : decode cX2_run 22 = .ok (.iconst 0, 1) := by decide +kernel
theorem dX2_run_23 : decode cX2_run 23 = .ok (.iconst 0, 1) := by decide +kernel
theorem dX2_run_24 : decode cX2_run 24 = .ok (.iconst 0, 1) := by decide +kernel
theorem dX2_run_25 : decode cX2_run 25 = .ok (.invokevirtual 80, 3) := by decide +kernel
theorem dX2_run_28 : decode cX2_run 28 = .ok (.pop, 1) := by decide +kernel
theorem dX2_run_29 : decode cX2_run 29 = .ok (.aload_n 0, 1) := by decide +kernel
theorem dX2_run_30 : decode cX2_run 30 = .ok (.iconst 0, 1) := by decide +kernel
theorem dX2_run_31 : decode cX2_run 31 = .ok (.iconst 0, 1) := by decide +kernel
theorem dX2_run_32 : decode cX2_run 32 = .ok (.invokevirtual 84, 3) := by decide +kernel
theorem dX2_run_35 : decode cX2_run 35 = .ok (.pop, 1) := by decide +kernel
theorem dX2_run_36 : decode cX2_run 36 = .ok (.return_, 1) := by decide +kernel
theorem dX2_clear_0 : decode cX2_clear 0 = .ok (.aload_n 0, 1) := by decide +kernel
theorem dX2_clear_1 : decode cX2_clear 1 = .ok (.getfield 12, 3) := by decide +kernel
theorem dX2_clear_4 : decode cX2_clear 4 = .ok (.invokevirtual 88, 3) := by decide +kernel
theorem dX2_clear_7 : decode cX2_clear 7 = .ok (.aload_n 0, 1) := by decide +kernel
theorem dX2_clear_8 : decode cX2_clear 8 = .ok (.getfield 21, 3) := by decide +kernel
theorem dX2_clear_11 : decode cX2_clear 11 = .ok (.invokevirtual 89, 3) := by decide +kernel
theorem dX2_clear_14 : decode cX2_clear 14 = .ok (.aload_n 0, 1) := by decide +kernel
theorem dX2_clear_15 : decode cX2_clear 15 = .ok (.getfield 25, 3) := by decide +kernel
theorem dX2_clear_18 : decode cX2_clear 18 = .ok (.invokevirtual 89, 3) := by decide +kernel
theorem dX2_clear_21 : decode cX2_clear 21 = .ok (.aload_n 0, 1) := by decide +kernel
theorem dX2_clear_22 : decode cX2_clear 22 = .ok (.getfield 28, 3) := by decide +kernel
theorem dX2_clear_25 : decode cX2_clear 25 = .ok (.invokevirtual 89, 3) := by decide +kernel
theorem dX2_clear_28 : decode cX2_clear 28 = .ok (.aload_n 0, 1) := by decide +kernel
theorem dX2_clear_29 : decode cX2_clear 29 = .ok (.getfield 31, 3) := by decide +kernel
theorem dX2_clear_32 : decode cX2_clear 32 = .ok (.iconst 0, 1) := by decide +kernel
theorem dX2_clear_33 : decode cX2_clear 33 = .ok (.invokestatic 90, 3) := by decide +kernel
theorem dX2_clear_36 : decode cX2_clear 36 = .ok (.aload_n 0, 1) := by decide +kernel
theorem dX2_clear_37 : decode cX2_clear 37 = .ok (.getfield 35, 3) := by decide +kernel
theorem dX2_clear_40 : decode cX2_clear 40 = .ok (.iconst 0, 1) := by decide +kernel
theorem dX2_clear_41 : decode cX2_clear 41 = .ok (.invokestatic 90, 3) := by decide +kernel
theorem dX2_clear_44 : decode cX2_clear 44 = .ok (.aload_n 0, 1) := by decide +kernel
theorem dX2_clear_45 : decode cX2_clear 45 = .ok (.getfield 38, 3) := by decide +kernel
theorem dX2_clear_48 : decode cX2_clear 48 = .ok (.iconst 0, 1) := by decide +kernel
theorem dX2_clear_49 : decode cX2_clear 49 = .ok (.invokestatic 90, 3) := by decide +kernel
theorem dX2_clear_52 : decode cX2_clear 52 = .ok (.aload_n 0, 1) := by decide +kernel
theorem dX2_clear_53 : decode cX2_clear 53 = .ok (.iconst 0, 1) := by decide +kernel
theorem dX2_clear_54 : decode cX2_clear 54 = .ok (.putfield 41, 3) := by decide +kernel
theorem dX2_clear_57 : decode cX2_clear 57 = .ok (.aload_n 0, 1) := by decide +kernel
theorem dX2_clear_58 : decode cX2_clear 58 = .ok (.iconst 0, 1) := by decide +kernel
theorem dX2_clear_59 : decode cX2_clear 59 = .ok (.putfield 45, 3) := by decide +kernel
theorem dX2_clear_62 : decode cX2_clear 62 = .ok (.aload_n 0, 1) := by decide +kernel
theorem dX2_clear_63 : decode cX2_clear 63 = .ok (.iconst 0, 1) := by decide +kernel
theorem dX2_clear_64 : decode cX2_clear 64 = .ok (.putfield 48, 3) := by decide +kernel
theorem dX2_clear_67 : decode cX2_clear 67 = .ok (.aload_n 0, 1) := by decide +kernel
theorem dX2_clear_68 : decode cX2_clear 68 = .ok (.iconst 0, 1) := by decide +kernel
theorem dX2_clear_69 : decode cX2_clear 69 = .ok (.putfield 51, 3) := by decide +kernel
theorem dX2_clear_72 : decode cX2_clear 72 = .ok (.return_, 1) := by decide +kernel
theorem dX2_explore_0 : decode cX2_explore 0 = .ok (.aload_n 0, 1) := by decide +kernel
theorem dX2_explore_1 : decode cX2_explore 1 = .ok (.dup, 1) := by decide +kernel
theorem dX2_explore_2 : decode cX2_explore 2 = .ok (.getfield 41, 3) := by decide +kernel
theorem dX2_explore_5 : decode cX2_explore 5 = .ok (.iconst 1, 1) := by decide +kernel
theorem dX2_explore_6 : decode cX2_explore 6 = .ok (.iadd, 1) := by decide +kernel
theorem dX2_explore_7 : decode cX2_explore 7 = .ok (.putfield 41, 3) := by decide +kernel
theorem dX2_explore_10 : decode cX2_explore 10 = .ok (.iload_n 1, 1) := by decide +kernel
theorem dX2_explore_11 : decode cX2_explore 11 = .ok (.aload_n 0, 1) := by decide +kernel
theorem dX2_explore_12 : decode cX2_explore 12 = .ok (.getfield 54, 3) := by decide +kernel
theorem dX2_explore_15 : decode cX2_explore 15 = .ok (.invokevirtual 96, 3) := by decide +kernel
theorem dX2_explore_18 : decode cX2_explore 18 = .ok (.if_icmp .lt 11, 3) := by decide +kernel
theorem dX2_explore_21 : decode cX2_explore 21 = .ok (.aload_n 0, 1) := by decide +kernel
theorem dX2_explore_22 : decode cX2_explore 22 = .ok (.iload_n 2, 1) := by decide +kernel
theorem dX2_explore_23 : decode cX2_explore 23 = .ok (.iload_n 3, 1) := by decide +kernel
theorem dX2_explore_24 : decode cX2_explore 24 = .ok (.invokevirtual 99, 3) := by decide +kernel
theorem dX2_explore_27 : decode cX2_explore 27 = .ok (.iconst 1, 1) := by decide +kernel
theorem dX2_explore_28 : decode cX2_explore 28 = .ok (.ireturn, 1) := by decide +kernel
theorem dX2_explore_29 : decode cX2_explore 29 = .ok (.aload_n 0, 1) := by decide +kernel
theorem dX2_explore_30 : decode cX2_explore 30 = .ok (.getfield 63, 3) := by decide +kernel
theorem dX2_explore_33 : decode cX2_explore 33 = .ok (.iload_n 1, 1) := by decide +kernel
theorem dX2_explore_34 : decode cX2_explore 34 = .ok (.iload_n 3, 1) := by decide +kernel
theorem dX2_explore_35 : decode cX2_explore 35 = .ok (.invokevirtual 103, 3) := by decide +kernel
theorem dX2_explore_38 : decode cX2_explore 38 = .ok (.istore 4, 2) := by decide +kernel
theorem dX2_explore_40 : decode cX2_explore 40 = .ok (.iconst 0, 1) := by decide +kernel
theorem dX2_explore_41 : decode cX2_explore 41 = .ok (.istore 5, 2) := by decide +kernel
theorem dX2_explore_43 : decode cX2_explore 43 = .ok (.iconst 0, 1) := by decide +kernel
theorem dX2_explore_44 : decode cX2_explore 44 = .ok (.istore 6, 2) := by decide +kernel
theorem dX2_explore_46 : decode cX2_explore 46 = .ok (.iload 6, 2) := by decide +kernel
theorem dX2_explore_48 : decode cX2_explore 48 = .ok (.aload_n 0, 1) := by decide +kernel
theorem dX2_explore_49 : decode cX2_explore 49 = .ok (.getfield 54, 3) := by decide +kernel
theorem dX2_explore_52 : decode cX2_explore 52 = .ok (.invokevirtual 74, 3) := by decide +kernel
theorem dX2_explore_55 : decode cX2_explore 55 = .ok (.if_icmp .ge 49, 3) := by decide +kernel
theorem dX2_explore_58 : decode cX2_explore 58 = .ok (.iload 4, 2) := by decide +kernel
theorem dX2_explore_60 : decode cX2_explore 60 = .ok (.iload 6, 2) := by decide +kernel
theorem dX2_explore_62 : decode cX2_explore 62 = .ok (.ishr, 1) := by decide +kernel
theorem dX2_explore_63 : decode cX2_explore 63 = .ok (.iconst 1, 1) := by decide +kernel
theorem dX2_explore_64 : decode cX2_explore 64 = .ok (.iand, 1) := by decide +kernel
theorem dX2_explore_65 : decode cX2_explore 65 = .ok (.ifCond .eq 33, 3) := by decide +kernel
theorem dX2_explore_68 : decode cX2_explore 68 = .ok (.aload_n 0, 1) := by decide +kernel
theorem dX2_explore_69 : decode cX2_explore 69 = .ok (.iload_n 1, 1) := by decide +kernel
theorem dX2_explore_70 : decode cX2_explore 70 = .ok (.iconst 1, 1) := by decide +kernel
theorem dX2_explore_71 : decode cX2_explore 71 = .ok (.iadd, 1) := by decide +kernel
theorem dX2_explore_72 : decode cX2_explore 72 = .ok (.iload_n 2, 1) := by decide +kernel
theorem dX2_explore_73 : decode cX2_explore 73 = .ok (.iconst 4, 1) := by decide +kernel
theorem dX2_explore_74 : decode cX2_explore 74 = .ok (.ishl, 1) := by decide +kernel
theorem dX2_explore_75 : decode cX2_explore 75 = .ok (.iload 6, 2) := by decide +kernel
theorem dX2_explore_77 : decode cX2_explore 77 = .ok (.ior, 1) := by decide +kernel
theorem dX2_explore_78 : decode cX2_explore 78 = .ok (.aload_n 0, 1) := by decide +kernel
theorem dX2_explore_79 : decode cX2_explore 79 = .ok (.getfield 63, 3) := by decide +kernel
theorem dX2_explore_82 : decode cX2_explore 82 = .ok (.iload_n 1, 1) := by decide +kernel
theorem dX2_explore_83 : decode cX2_explore 83 = .ok (.iload_n 3, 1) := by decide +kernel
theorem dX2_explore_84 : decode cX2_explore 84 = .ok (.iload 6, 2) := by decide +kernel
theorem dX2_explore_86 : decode cX2_explore 86 = .ok (.invokevirtual 107, 3) := by decide +kernel
theorem dX2_explore_89 : decode cX2_explore 89 = .ok (.invokevirtual 80, 3) := by decide +kernel
theorem dX2_explore_92 : decode cX2_explore 92 = .ok (.ifCond .eq 6, 3) := by decide +kernel
theorem dX2_explore_95 : decode cX2_explore 95 = .ok (.iconst 1, 1) := by decide +kernel
theorem dX2_explore_96 : decode cX2_explore 96 = .ok (.istore 5, 2) := by decide +kernel
theorem dX2_explore_98 : decode cX2_explore 98 = .ok (.iinc 6 1, 3) := by decide +kernel
theorem dX2_explore_101 : decode cX2_explore 101 = .ok (.goto (-55), 3) := by decide +kernel
theorem dX2_explore_104 : decode cX2_explore 104 = .ok (.iload 5, 2) := by decide +kernel
theorem dX2_explore_106 : decode cX2_explore 106 = .ok (.ifCond .ne 13, 3) := by decide +kernel
theorem dX2_explore_109 : decode cX2_explore 109 = .ok (.aload_n 0, 1) := by decide +kernel
theorem dX2_explore_110 : decode cX2_explore 110 = .ok (.dup, 1) := by decide +kernel
theorem dX2_explore_111 : decode cX2_explore 111 = .ok (.getfield 45, 3) := by decide +kernel
theorem dX2_explore_114 : decode cX2_explore 114 = .ok (.iconst 1, 1) := by decide +kernel
theorem dX2_explore_115 : decode cX2_explore 115 = .ok (.iadd, 1) := by decide +kernel
theorem dX2_explore_116 : decode cX2_explore 116 = .ok (.putfield 45, 3) := by decide +kernel
theorem dX2_explore_119 : decode cX2_explore 119 = .ok (.iload 5, 2) := by decide +kernel
theorem dX2_explore_121 : decode cX2_explore 121 = .ok (.ireturn, 1) := by decide +kernel
theorem dX2_exploreWithMemory_0 : decode cX2_exploreWithMemory 0 = .ok (.aload_n 0, 1) := by decide +kernel
theorem dX2_exploreWithMemory_1 : decode cX2_exploreWithMemory 1 = .ok (.dup, 1) := by decide +kernel
theorem dX2_exploreWithMemory_2 : decode cX2_exploreWithMemory 2 = .ok (.getfield 48, 3) := by decide +kernel
theorem dX2_exploreWithMemory_5 : decode cX2_exploreWithMemory 5 = .ok (.iconst 1, 1) := by decide +kernel
theorem dX2_exploreWithMemory_6 : decode cX2_exploreWithMemory 6 = .ok (.iadd, 1) := by decide +kernel
theorem dX2_exploreWithMemory_7 : decode cX2_exploreWithMemory 7 = .ok (.putfield 48, 3) := by decide +kernel
theorem dX2_exploreWithMemory_10 : decode cX2_exploreWithMemory 10 = .ok (.iload_n 1, 1) := by decide +kernel
theorem dX2_exploreWithMemory_11 : decode cX2_exploreWithMemory 11 = .ok (.aload_n 0, 1) := by decide +kernel
theorem dX2_exploreWithMemory_12 : decode cX2_exploreWithMemory 12 = .ok (.getfield 54, 3) := by decide +kernel
theorem dX2_exploreWithMemory_15 : decode cX2_exploreWithMemory 15 = .ok (.invokevirtual 96, 3) := by decide +kernel
theorem dX2_exploreWithMemory_18 : decode cX2_exploreWithMemory 18 = .ok (.if_icmp .lt 5, 3) := by decide +kernel
theorem dX2_exploreWithMemory_21 : decode cX2_exploreWithMemory 21 = .ok (.iconst 1, 1) := by decide +kernel
theorem dX2_exploreWithMemory_22 : decode cX2_exploreWithMemory 22 = .ok (.ireturn, 1) := by decide +kernel
theorem dX2_exploreWithMemory_23 : decode cX2_exploreWithMemory 23 = .ok (.aload_n 0, 1) := by decide +kernel
theorem dX2_exploreWithMemory_24 : decode cX2_exploreWithMemory 24 = .ok (.getfield 63, 3) := by decide +kernel
theorem dX2_exploreWithMemory_27 : decode cX2_exploreWithMemory 27 = .ok (.iload_n 1, 1) := by decide +kernel
theorem dX2_exploreWithMemory_28 : decode cX2_exploreWithMemory 28 = .ok (.iload_n 2, 1) := by decide +kernel
theorem dX2_exploreWithMemory_29 : decode cX2_exploreWithMemory 29 = .ok (.invokevirtual 111, 3) := by decide +kernel
theorem dX2_exploreWithMemory_32 : decode cX2_exploreWithMemory 32 = .ok (.istore_n 3, 1) := by decide +kernel
theorem dX2_exploreWithMemory_33 : decode cX2_exploreWithMemory 33 = .ok (.aload_n 0, 1) := by decide +kernel
theorem dX2_exploreWithMemory_34 : decode cX2_exploreWithMemory 34 = .ok (.getfield 12, 3) := by decide +kernel
theorem dX2_exploreWithMemory_37 : decode cX2_exploreWithMemory 37 = .ok (.iload_n 3, 1) := by decide +kernel
theorem dX2_exploreWithMemory_38 : decode cX2_exploreWithMemory 38 = .ok (.invokevirtual 114, 3) := by decide +kernel
theorem dX2_exploreWithMemory_41 : decode cX2_exploreWithMemory 41 = .ok (.ifCond .eq 15, 3) := by decide +kernel
theorem dX2_exploreWithMemory_44 : decode cX2_exploreWithMemory 44 = .ok (.aload_n 0, 1) := by decide +kernel
theorem dX2_exploreWithMemory_45 : decode cX2_exploreWithMemory 45 = .ok (.dup, 1) := by decide +kernel
theorem dX2_exploreWithMemory_46 : decode cX2_exploreWithMemory 46 = .ok (.getfield 51, 3) := by decide +kernel
theorem dX2_exploreWithMemory_49 : decode cX2_exploreWithMemory 49 = .ok (.iconst 1, 1) := by decide +kernel
theorem dX2_exploreWithMemory_50 : decode cX2_exploreWithMemory 50 = .ok (.iadd, 1) := by decide +kernel
theorem dX2_exploreWithMemory_51 : decode cX2_exploreWithMemory 51 = .ok (.putfield 51, 3) := by decide +kernel
theorem dX2_exploreWithMemory_54 : decode cX2_exploreWithMemory 54 = .ok (.iconst 0, 1) := by decide +kernel
theorem dX2_exploreWithMemory_55 : decode cX2_exploreWithMemory 55 = .ok (.ireturn, 1) := by decide +kernel
theorem dX2_exploreWithMemory_56 : decode cX2_exploreWithMemory 56 = .ok (.aload_n 0, 1) := by decide +kernel
theorem dX2_exploreWithMemory_57 : decode cX2_exploreWithMemory 57 = .ok (.getfield 63, 3) := by decide +kernel
theorem dX2_exploreWithMemory_60 : decode cX2_exploreWithMemory 60 = .ok (.iload_n 1, 1) := by decide +kernel
theorem dX2_exploreWithMemory_61 : decode cX2_exploreWithMemory 61 = .ok (.iload_n 2, 1) := by decide +kernel
theorem dX2_exploreWithMemory_62 : decode cX2_exploreWithMemory 62 = .ok (.invokevirtual 103, 3) := by decide +kernel
theorem dX2_exploreWithMemory_65 : decode cX2_exploreWithMemory 65 = .ok (.istore 4, 2) := by decide +kernel
theorem dX2_exploreWithMemory_67 : decode cX2_exploreWithMemory 67 = .ok (.iconst 0, 1) := by decide +kernel
theorem dX2_exploreWithMemory_68 : decode cX2_exploreWithMemory 68 = .ok (.istore 5, 2) := by decide +kernel
theorem dX2_exploreWithMemory_70 : decode cX2_exploreWithMemory 70 = .ok (.iconst 0, 1) := by decide +kernel
theorem dX2_exploreWithMemory_71 : decode cX2_exploreWithMemory 71 = .ok (.istore 6, 2) := by decide +kernel
theorem dX2_exploreWithMemory_73 : decode cX2_exploreWithMemory 73 = .ok (.iload 6, 2) := by decide +kernel
theorem dX2_exploreWithMemory_75 : decode cX2_exploreWithMemory 75 = .ok (.aload_n 0, 1) := by decide +kernel
theorem dX2_exploreWithMemory_76 : decode cX2_exploreWithMemory 76 = .ok (.getfield 54, 3) := by decide +kernel
theorem dX2_exploreWithMemory_79 : decode cX2_exploreWithMemory 79 = .ok (.invokevirtual 74, 3) := by decide +kernel
theorem dX2_exploreWithMemory_82 : decode cX2_exploreWithMemory 82 = .ok (.if_icmp .ge 43, 3) := by decide +kernel
theorem dX2_exploreWithMemory_85 : decode cX2_exploreWithMemory 85 = .ok (.iload 4, 2) := by decide +kernel
theorem dX2_exploreWithMemory_87 : decode cX2_exploreWithMemory 87 = .ok (.iload 6, 2) := by decide +kernel
theorem dX2_exploreWithMemory_89 : decode cX2_exploreWithMemory 89 = .ok (.ishr, 1) := by decide +kernel
theorem dX2_exploreWithMemory_90 : decode cX2_exploreWithMemory 90 = .ok (.iconst 1, 1) := by decide +kernel
theorem dX2_exploreWithMemory_91 : decode cX2_exploreWithMemory 91 = .ok (.iand, 1) := by decide +kernel
theorem dX2_exploreWithMemory_92 : decode cX2_exploreWithMemory 92 = .ok (.ifCond .eq 27, 3) := by decide +kernel
theorem dX2_exploreWithMemory_95 : decode cX2_exploreWithMemory 95 = .ok (.aload_n 0, 1) := by decide +kernel
theorem dX2_exploreWithMemory_96 : decode cX2_exploreWithMemory 96 = .ok (.iload_n 1, 1) := by decide +kernel
theorem dX2_exploreWithMemory_97 : decode cX2_exploreWithMemory 97 = .ok (.iconst 1, 1) := by decide +kernel
theorem dX2_exploreWithMemory_98 : decode cX2_exploreWithMemory 98 = .ok (.iadd, 1) := by decide +kernel
theorem dX2_exploreWithMemory_99 : decode cX2_exploreWithMemory 99 = .ok (.aload_n 0, 1) := by decide +kernel
theorem dX2_exploreWithMemory_100 : decode cX2_exploreWithMemory 100 = .ok (.getfield 63, 3) := by decide +kernel
theorem dX2_exploreWithMemory_103 : decode cX2_exploreWithMemory 103 = .ok (.iload_n 1, 1) := by decide +kernel
theorem dX2_exploreWithMemory_104 : decode cX2_exploreWithMemory 104 = .ok (.iload_n 2, 1) := by decide +kernel
theorem dX2_exploreWithMemory_105 : decode cX2_exploreWithMemory 105 = .ok (.iload 6, 2) := by decide +kernel
theorem dX2_exploreWithMemory_107 : decode cX2_exploreWithMemory 107 = .ok (.invokevirtual 107, 3) := by decide +kernel
theorem dX2_exploreWithMemory_110 : decode cX2_exploreWithMemory 110 = .ok (.invokevirtual 84, 3) := by decide +kernel
theorem dX2_exploreWithMemory_113 : decode cX2_exploreWithMemory 113 = .ok (.ifCond .eq 6, 3) := by decide +kernel
theorem dX2_exploreWithMemory_116 : decode cX2_exploreWithMemory 116 = .ok (.iconst 1, 1) := by decide +kernel
theorem dX2_exploreWithMemory_117 : decode cX2_exploreWithMemory 117 = .ok (.istore 5, 2) := by decide +kernel
theorem dX2_exploreWithMemory_119 : decode cX2_exploreWithMemory 119 = .ok (.iinc 6 1, 3) := by decide +kernel
theorem dX2_exploreWithMemory_122 : decode cX2_exploreWithMemory 122 = .ok (.goto (-49), 3) := by decide +kernel
theorem dX2_exploreWithMemory_125 : decode cX2_exploreWithMemory 125 = .ok (.iload 5, 2) := by decide +kernel
theorem dX2_exploreWithMemory_127 : decode cX2_exploreWithMemory 127 = .ok (.ifCond .ne 11, 3) := by decide +kernel
theorem dX2_exploreWithMemory_130 : decode cX2_exploreWithMemory 130 = .ok (.aload_n 0, 1) := by decide +kernel
theorem dX2_exploreWithMemory_131 : decode cX2_exploreWithMemory 131 = .ok (.getfield 12, 3) := by decide +kernel
theorem dX2_exploreWithMemory_134 : decode cX2_exploreWithMemory 134 = .ok (.iload_n 3, 1) := by decide +kernel
theorem dX2_exploreWithMemory_135 : decode cX2_exploreWithMemory 135 = .ok (.invokevirtual 118, 3) := by decide +kernel
theorem dX2_exploreWithMemory_138 : decode cX2_exploreWithMemory 138 = .ok (.iload 5, 2) := by decide +kernel
theorem dX2_exploreWithMemory_140 : decode cX2_exploreWithMemory 140 = .ok (.ireturn, 1) := by decide +kernel
theorem dX2_keep_0 : decode cX2_keep 0 = .ok (.aload_n 0, 1) := by decide +kernel
theorem dX2_keep_1 : decode cX2_keep 1 = .ok (.getfield 21, 3) := by decide +kernel
theorem dX2_keep_4 : decode cX2_keep 4 = .ok (.iload_n 1, 1) := by decide +kernel
theorem dX2_keep_5 : decode cX2_keep 5 = .ok (.iload_n 2, 1) := by decide +kernel
theorem dX2_keep_6 : decode cX2_keep 6 = .ok (.invokevirtual 122, 3) := by decide +kernel
theorem dX2_keep_9 : decode cX2_keep 9 = .ok (.iconst 0, 1) := by decide +kernel
theorem dX2_keep_10 : decode cX2_keep 10 = .ok (.istore_n 3, 1) := by decide +kernel
theorem dX2_keep_11 : decode cX2_keep 11 = .ok (.iconst 0, 1) := by decide +kernel
theorem dX2_keep_12 : decode cX2_keep 12 = .ok (.istore 4, 2) := by decide +kernel
theorem dX2_keep_14 : decode cX2_keep 14 = .ok (.iconst 0, 1) := by decide +kernel
theorem dX2_keep_15 : decode cX2_keep 15 = .ok (.istore 5, 2) := by decide +kernel
theorem dX2_keep_17 : decode cX2_keep 17 = .ok (.iload 5, 2) := by decide +kernel
theorem dX2_keep_19 : decode cX2_keep 19 = .ok (.aload_n 0, 1) := by decide +kernel
theorem dX2_keep_20 : decode cX2_keep 20 = .ok (.getfield 54, 3) := by decide +kernel
theorem dX2_keep_23 : decode cX2_keep 23 = .ok (.invokevirtual 96, 3) := by decide +kernel
theorem dX2_keep_26 : decode cX2_keep 26 = .ok (.if_icmp .ge 77, 3) := by decide +kernel
theorem dX2_keep_29 : decode cX2_keep 29 = .ok (.iload_n 1, 1) := by decide +kernel
theorem dX2_keep_30 : decode cX2_keep 30 = .ok (.iload 5, 2) := by decide +kernel
theorem dX2_keep_32 : decode cX2_keep 32 = .ok (.aload_n 0, 1) := by decide +kernel
theorem dX2_keep_33 : decode cX2_keep 33 = .ok (.getfield 54, 3) := by decide +kernel
theorem dX2_keep_36 : decode cX2_keep 36 = .ok (.invokevirtual 96, 3) := by decide +kernel
theorem dX2_keep_39 : decode cX2_keep 39 = .ok (.invokestatic 125, 3) := by decide +kernel
theorem dX2_keep_42 : decode cX2_keep 42 = .ok (.istore 6, 2) := by decide +kernel
theorem dX2_keep_44 : decode cX2_keep 44 = .ok (.iload_n 2, 1) := by decide +kernel
theorem dX2_keep_45 : decode cX2_keep 45 = .ok (.iload 5, 2) := by decide +kernel
theorem dX2_keep_47 : decode cX2_keep 47 = .ok (.aload_n 0, 1) := by decide +kernel
theorem dX2_keep_48 : decode cX2_keep 48 = .ok (.getfield 54, 3) := by decide +kernel
theorem dX2_keep_51 : decode cX2_keep 51 = .ok (.invokevirtual 96, 3) := by decide +kernel
theorem dX2_keep_54 : decode cX2_keep 54 = .ok (.invokestatic 125, 3) := by decide +kernel
theorem dX2_keep_57 : decode cX2_keep 57 = .ok (.istore 7, 2) := by decide +kernel
theorem dX2_keep_59 : decode cX2_keep 59 = .ok (.aload_n 0, 1) := by decide +kernel
theorem dX2_keep_60 : decode cX2_keep 60 = .ok (.getfield 31, 3) := by decide +kernel
theorem dX2_keep_63 : decode cX2_keep 63 = .ok (.iload 6, 2) := by decide +kernel
theorem dX2_keep_65 : decode cX2_keep 65 = .ok (.dup2, 1) := by decide +kernel
theorem dX2_keep_66 : decode cX2_keep 66 = .ok (.iaload, 1) := by decide +kernel
theorem dX2_keep_67 : decode cX2_keep 67 = .ok (.iconst 1, 1) := by decide +kernel
theorem dX2_keep_68 : decode cX2_keep 68 = .ok (.iadd, 1) := by decide +kernel
theorem dX2_keep_69 : decode cX2_keep 69 = .ok (.iastore, 1) := by decide +kernel
theorem dX2_keep_70 : decode cX2_keep 70 = .ok (.aload_n 0, 1) := by decide +kernel
theorem dX2_keep_71 : decode cX2_keep 71 = .ok (.getfield 35, 3) := by decide +kernel
theorem dX2_keep_74 : decode cX2_keep 74 = .ok (.iload 7, 2) := by decide +kernel
theorem dX2_keep_76 : decode cX2_keep 76 = .ok (.dup2, 1) := by decide +kernel
theorem dX2_keep_77 : decode cX2_keep 77 = .ok (.iaload, 1) := by decide +kernel
theorem dX2_keep_78 : decode cX2_keep 78 = .ok (.iconst 1, 1) := by decide +kernel
theorem dX2_keep_79 : decode cX2_keep 79 = .ok (.iadd, 1) := by decide +kernel
theorem dX2_keep_80 : decode cX2_keep 80 = .ok (.iastore, 1) := by decide +kernel
theorem dX2_keep_81 : decode cX2_keep 81 = .ok (.iload_n 3, 1) := by decide +kernel
theorem dX2_keep_82 : decode cX2_keep 82 = .ok (.iconst 1, 1) := by decide +kernel
theorem dX2_keep_83 : decode cX2_keep 83 = .ok (.iload 6, 2) := by decide +kernel
theorem dX2_keep_85 : decode cX2_keep 85 = .ok (.ishl, 1) := by decide +kernel
theorem dX2_keep_86 : decode cX2_keep 86 = .ok (.ior, 1) := by decide +kernel
theorem dX2_keep_87 : decode cX2_keep 87 = .ok (.istore_n 3, 1) := by decide +kernel
theorem dX2_keep_88 : decode cX2_keep 88 = .ok (.iload 4, 2) := by decide +kernel
theorem dX2_keep_90 : decode cX2_keep 90 = .ok (.iconst 1, 1) := by decide +kernel
theorem dX2_keep_91 : decode cX2_keep 91 = .ok (.iload 7, 2) := by decide +kernel
theorem dX2_keep_93 : decode cX2_keep 93 = .ok (.ishl, 1) := by decide +kernel
theorem dX2_keep_94 : decode cX2_keep 94 = .ok (.ior, 1) := by decide +kernel
theorem dX2_keep_95 : decode cX2_keep 95 = .ok (.istore 4, 2) := by decide +kernel
theorem dX2_keep_97 : decode cX2_keep 97 = .ok (.iinc 5 1, 3) := by decide +kernel
theorem dX2_keep_100 : decode cX2_keep 100 = .ok (.goto (-83), 3) := by decide +kernel
theorem dX2_keep_103 : decode cX2_keep 103 = .ok (.iload_n 1, 1) := by decide +kernel
theorem dX2_keep_104 : decode cX2_keep 104 = .ok (.iload_n 2, 1) := by decide +kernel
theorem dX2_keep_105 : decode cX2_keep 105 = .ok (.if_icmp .ne 17, 3) := by decide +kernel
theorem dX2_keep_108 : decode cX2_keep 108 = .ok (.aload_n 0, 1) := by decide +kernel
theorem dX2_keep_109 : decode cX2_keep 109 = .ok (.getfield 25, 3) := by decide +kernel
theorem dX2_keep_112 : decode cX2_keep 112 = .ok (.iload_n 1, 1) := by decide +kernel
theorem dX2_keep_113 : decode cX2_keep 113 = .ok (.iload_n 2, 1) := by decide +kernel
theorem dX2_keep_114 : decode cX2_keep 114 = .ok (.invokevirtual 122, 3) := by decide +kernel
theorem dX2_keep_117 : decode cX2_keep 117 = .ok (.aload_n 0, 1) := by decide +kernel
theorem dX2_keep_118 : decode cX2_keep 118 = .ok (.iload_n 3, 1) := by decide +kernel
theorem dX2_keep_119 : decode cX2_keep 119 = .ok (.invokevirtual 128, 3) := by decide +kernel
theorem dX2_keep_122 : decode cX2_keep 122 = .ok (.iload_n 3, 1) := by decide +kernel
theorem dX2_keep_123 : decode cX2_keep 123 = .ok (.invokestatic 131, 3) := by decide +kernel
theorem dX2_keep_126 : decode cX2_keep 126 = .ok (.iload 4, 2) := by decide +kernel
theorem dX2_keep_128 : decode cX2_keep 128 = .ok (.invokestatic 131, 3) := by decide +kernel
theorem dX2_keep_131 : decode cX2_keep 131 = .ok (.iadd, 1) := by decide +kernel
theorem dX2_keep_132 : decode cX2_keep 132 = .ok (.iconst 2, 1) := by decide +kernel
theorem dX2_keep_133 : decode cX2_keep 133 = .ok (.aload_n 0, 1) := by decide +kernel
theorem dX2_keep_134 : decode cX2_keep 134 = .ok (.getfield 54, 3) := by decide +kernel
theorem dX2_keep_137 : decode cX2_keep 137 = .ok (.invokevirtual 96, 3) := by decide +kernel
theorem dX2_keep_140 : decode cX2_keep 140 = .ok (.imul, 1) := by decide +kernel
theorem dX2_keep_141 : decode cX2_keep 141 = .ok (.if_icmp .ne 19, 3) := by decide +kernel
theorem dX2_keep_144 : decode cX2_keep 144 = .ok (.iload_n 3, 1) := by decide +kernel
theorem dX2_keep_145 : decode cX2_keep 145 = .ok (.iload 4, 2) := by decide +kernel
theorem dX2_keep_147 : decode cX2_keep 147 = .ok (.iand, 1) := by decide +kernel
theorem dX2_keep_148 : decode cX2_keep 148 = .ok (.ifCond .ne 12, 3) := by decide +kernel
theorem dX2_keep_151 : decode cX2_keep 151 = .ok (.aload_n 0, 1) := by decide +kernel
theorem dX2_keep_152 : decode cX2_keep 152 = .ok (.getfield 28, 3) := by decide +kernel
theorem dX2_keep_155 : decode cX2_keep 155 = .ok (.iload_n 1, 1) := by decide +kernel
theorem dX2_keep_156 : decode cX2_keep 156 = .ok (.iload_n 2, 1) := by decide +kernel
theorem dX2_keep_157 : decode cX2_keep 157 = .ok (.invokevirtual 122, 3) := by decide +kernel
theorem dX2_keep_160 : decode cX2_keep 160 = .ok (.return_, 1) := by decide +kernel
theorem dX2_countSymmetric_0 : decode cX2_countSymmetric 0 = .ok (.iconst 0, 1) := by decide +kernel
theorem dX2_countSymmetric_1 : decode cX2_countSymmetric 1 = .ok (.istore_n 2, 1) := by decide +kernel
theorem dX2_countSymmetric_2 : decode cX2_countSymmetric 2 = .ok (.iload_n 2, 1) := by decide +kernel
theorem dX2_countSymmetric_3 : decode cX2_countSymmetric 3 = .ok (.bipush 16, 2) := by decide +kernel
theorem dX2_countSymmetric_5 : decode cX2_countSymmetric 5 = .ok (.if_icmp .ge 23, 3) := by decide +kernel
theorem dX2_countSymmetric_8 : decode cX2_countSymmetric 8 = .ok (.aload_n 0, 1) := by decide +kernel
theorem dX2_countSymmetric_9 : decode cX2_countSymmetric 9 = .ok (.getfield 38, 3) := by decide +kernel
theorem dX2_countSymmetric_12 : decode cX2_countSymmetric 12 = .ok (.iload_n 2, 1) := by decide +kernel
theorem dX2_countSymmetric_13 : decode cX2_countSymmetric 13 = .ok (.dup2, 1) := by decide +kernel
theorem dX2_countSymmetric_14 : decode cX2_countSymmetric 14 = .ok (.iaload, 1) := by decide +kernel
theorem dX2_countSymmetric_15 : decode cX2_countSymmetric 15 = .ok (.iload_n 1, 1) := by decide +kernel
theorem dX2_countSymmetric_16 : decode cX2_countSymmetric 16 = .ok (.iload_n 2, 1) := by decide +kernel
theorem dX2_countSymmetric_17 : decode cX2_countSymmetric 17 = .ok (.ishr, 1) := by decide +kernel
theorem dX2_countSymmetric_18 : decode cX2_countSymmetric 18 = .ok (.iconst 1, 1) := by decide +kernel
theorem dX2_countSymmetric_19 : decode cX2_countSymmetric 19 = .ok (.iand, 1) := by decide +kernel
theorem dX2_countSymmetric_20 : decode cX2_countSymmetric 20 = .ok (.iadd, 1) := by decide +kernel
theorem dX2_countSymmetric_21 : decode cX2_countSymmetric 21 = .ok (.iastore, 1) := by decide +kernel
theorem dX2_countSymmetric_22 : decode cX2_countSymmetric 22 = .ok (.iinc 2 1, 3) := by decide +kernel
theorem dX2_countSymmetric_25 : decode cX2_countSymmetric 25 = .ok (.goto (-23), 3) := by decide +kernel
theorem dX2_countSymmetric_28 : decode cX2_countSymmetric 28 = .ok (.return_, 1) := by decide +kernel
theorem dX3_init_0 : decode cX3_init 0 = .ok (.aload_n 0, 1) := by decide +kernel
theorem dX3_init_1 : decode cX3_init 1 = .ok (.invokespecial 3, 3) := by decide +kernel
theorem dX3_init_4 : decode cX3_init 4 = .ok (.aload_n 0, 1) := by decide +kernel
theorem dX3_init_5 : decode cX3_init 5 = .ok (.iconst 4, 1) := by decide +kernel
theorem dX3_init_6 : decode cX3_init 6 = .ok (.sipush 512, 3) := by decide +kernel
theorem dX3_init_9 : decode cX3_init 9 = .ok (.multianewarray 9 2, 4) := by decide +kernel
theorem dX3_init_13 : decode cX3_init 13 = .ok (.putfield 11, 3) := by decide +kernel
theorem dX3_init_16 : decode cX3_init 16 = .ok (.aload_n 0, 1) := by decide +kernel
theorem dX3_init_17 : decode cX3_init 17 = .ok (.iconst 4, 1) := by decide +kernel
theorem dX3_init_18 : decode cX3_init 18 = .ok (.bipush 64, 2) := by decide +kernel
theorem dX3_init_20 : decode cX3_init 20 = .ok (.multianewarray 9 2, 4) := by decide +kernel
theorem dX3_init_24 : decode cX3_init 24 = .ok (.putfield 16, 3) := by decide +kernel
theorem dX3_init_27 : decode cX3_init 27 = .ok (.aload_n 0, 1) := by decide +kernel
theorem dX3_init_28 : decode cX3_init 28 = .ok (.iconst 4, 1) := by decide +kernel
theorem dX3_init_29 : decode cX3_init 29 = .ok (.bipush 16, 2) := by decide +kernel
theorem dX3_init_31 : decode cX3_init 31 = .ok (.multianewarray 9 2, 4) := by decide +kernel
theorem dX3_init_35 : decode cX3_init 35 = .ok (.putfield 19, 3) := by decide +kernel
theorem dX3_init_38 : decode cX3_init 38 = .ok (.aload_n 0, 1) := by decide +kernel
theorem dX3_init_39 : decode cX3_init 39 = .ok (.aload_n 1, 1) := by decide +kernel
theorem dX3_init_40 : decode cX3_init 40 = .ok (.putfield 22, 3) := by decide +kernel
theorem dX3_init_43 : decode cX3_init 43 = .ok (.return_, 1) := by decide +kernel
theorem dX3_build_0 : decode cX3_build 0 = .ok (.iconst 0, 1) := by decide +kernel
theorem dX3_build_1 : decode cX3_build 1 = .ok (.istore_n 1, 1) := by decide +kernel
theorem dX3_build_2 : decode cX3_build 2 = .ok (.iload_n 1, 1) := by decide +kernel
theorem dX3_build_3 : decode cX3_build 3 = .ok (.aload_n 0, 1) := by decide +kernel
theorem dX3_build_4 : decode cX3_build 4 = .ok (.getfield 22, 3) := by decide +kernel
theorem dX3_build_7 : decode cX3_build 7 = .ok (.invokevirtual 26, 3) := by decide +kernel
theorem dX3_build_10 : decode cX3_build 10 = .ok (.if_icmp .ge 70, 3) := by decide +kernel
theorem dX3_build_13 : decode cX3_build 13 = .ok (.iload_n 1, 1) := by decide +kernel
theorem dX3_build_14 : decode cX3_build 14 = .ok (.iconst 4, 1) := by decide +kernel
theorem dX3_build_15 : decode cX3_build 15 = .ok (.if_icmp .ge 65, 3) := by decide +kernel
theorem dX3_build_18 : decode cX3_build 18 = .ok (.aload_n 0, 1) := by decide +kernel
theorem dX3_build_19 : decode cX3_build 19 = .ok (.iload_n 1, 1) := by decide +kernel
theorem dX3_build_20 : decode cX3_build 20 = .ok (.invokevirtual 32, 3) := by decide +kernel
theorem dX3_build_23 : decode cX3_build 23 = .ok (.iconst 0, 1) := by decide +kernel
theorem dX3_build_24 : decode cX3_build 24 = .ok (.istore_n 2, 1) := by decide +kernel
theorem dX3_build_25 : decode cX3_build 25 = .ok (.iload_n 2, 1) := by decide +kernel
theorem dX3_build_26 : decode cX3_build 26 = .ok (.aload_n 0, 1) := by decide +kernel
theorem dX3_build_27 : decode cX3_build 27 = .ok (.getfield 22, 3) := by decide +kernel
theorem dX3_build_30 : decode cX3_build 30 = .ok (.invokevirtual 36, 3) := by decide +kernel
theorem dX3_build_33 : decode cX3_build 33 = .ok (.if_icmp .ge 41, 3) := by decide +kernel
theorem dX3_build_36 : decode cX3_build 36 = .ok (.aload_n 0, 1) := by decide +kernel
theorem dX3_build_37 : decode cX3_build 37 = .ok (.iload_n 2, 1) := by decide +kernel
theorem dX3_build_38 : decode cX3_build 38 = .ok (.iload_n 1, 1) := by decide +kernel
theorem dX3_build_39 : decode cX3_build 39 = .ok (.invokevirtual 39, 3) := by decide +kernel
theorem dX3_build_42 : decode cX3_build 42 = .ok (.ifCond .eq 26, 3) := by decide +kernel
theorem dX3_build_45 : decode cX3_build 45 = .ok (.aload_n 0, 1) := by decide +kernel
theorem dX3_build_46 : decode cX3_build 46 = .ok (.iload_n 1, 1) := by decide +kernel
theorem dX3_build_47 : decode cX3_build 47 = .ok (.iload_n 2, 1) := by decide +kernel
theorem dX3_build_48 : decode cX3_build 48 = .ok (.invokevirtual 43, 3) := by decide +kernel
theorem dX3_build_51 : decode cX3_build 51 = .ok (.aload_n 0, 1) := by decide +kernel
theorem dX3_build_52 : decode cX3_build 52 = .ok (.getfield 19, 3) := by decide +kernel
theorem dX3_build_55 : decode cX3_build 55 = .ok (.iload_n 1, 1) := by decide +kernel
theorem dX3_build_56 : decode cX3_build 56 = .ok (.aaload, 1) := by decide +kernel
theorem dX3_build_57 : decode cX3_build 57 = .ok (.iload_n 2, 1) := by decide +kernel
theorem dX3_build_58 : decode cX3_build 58 = .ok (.bipush 15, 2) := by decide +kernel
theorem dX3_build_60 : decode cX3_build 60 = .ok (.iand, 1) := by decide +kernel
theorem dX3_build_61 : decode cX3_build 61 = .ok (.aload_n 0, 1) := by decide +kernel
theorem dX3_build_62 : decode cX3_build 62 = .ok (.iload_n 1, 1) := by decide +kernel
theorem dX3_build_63 : decode cX3_build 63 = .ok (.iload_n 2, 1) := by decide +kernel
theorem dX3_build_64 : decode cX3_build 64 = .ok (.invokevirtual 47, 3) := by decide +kernel
theorem dX3_build_67 : decode cX3_build 67 = .ok (.iastore, 1) := by decide +kernel
theorem dX3_build_68 : decode cX3_build 68 = .ok (.iinc 2 1, 3) := by decide +kernel
theorem dX3_build_71 : decode cX3_build 71 = .ok (.goto (-46), 3) := by decide +kernel
theorem dX3_build_74 : decode cX3_build 74 = .ok (.iinc 1 1, 3) := by decide +kernel
theorem dX3_build_77 : decode cX3_build 77 = .ok (.goto (-75), 3) := by decide +kernel
theorem dX3_build_80 : decode cX3_build 80 = .ok (.return_, 1) := by decide +kernel
theorem dX3_isHead_0 : decode cX3_isHead 0 = .ok (.iload_n 1, 1) := by decide +kernel
theorem dX3_isHead_1 : decode cX3_isHead 1 = .ok (.ifCond .eq 18, 3) := by decide +kernel
theorem dX3_isHead_4 : decode cX3_isHead 4 = .ok (.aload_n 0, 1) := by decide +kernel
theorem dX3_isHead_5 : decode cX3_isHead 5 = .ok (.getfield 22, 3) := by decide +kernel
theorem dX3_isHead_8 : decode cX3_isHead 8 = .ok (.iload_n 1, 1) := by decide +kernel
theorem dX3_isHead_9 : decode cX3_isHead 9 = .ok (.iconst 1, 1) := by decide +kernel
theorem dX3_isHead_10 : decode cX3_isHead 10 = .ok (.isub, 1) := by decide +kernel
theorem dX3_isHead_11 : decode cX3_isHead 11 = .ok (.iload_n 1, 1) := by decide +kernel
theorem dX3_isHead_12 : decode cX3_isHead 12 = .ok (.iload_n 2, 1) := by decide +kernel
theorem dX3_isHead_13 : decode cX3_isHead 13 = .ok (.invokevirtual 51, 3) := by decide +kernel
theorem dX3_isHead_16 : decode cX3_isHead 16 = .ok (.ifCond .ne 7, 3) := by decide +kernel
theorem dX3_isHead_19 : decode cX3_isHead 19 = .ok (.iconst 1, 1) := by decide +kernel
theorem dX3_isHead_20 : decode cX3_isHead 20 = .ok (.goto 4, 3) := by decide +kernel
theorem dX3_isHead_23 : decode cX3_isHead 23 = .ok (.iconst 0, 1) := by decide +kernel
theorem dX3_isHead_24 : decode cX3_isHead 24 = .ok (.ireturn, 1) := by decide +kernel
theorem dX3_buildLonger_0 : decode cX3_buildLonger 0 = .ok (.aload_n 0, 1) := by decide +kernel
theorem dX3_buildLonger_1 : decode cX3_buildLonger 1 = .ok (.getfield 11, 3) := by decide +kernel
theorem dX3_buildLonger_4 : decode cX3_buildLonger 4 = .ok (.iload_n 1, 1) := by decide +kernel
theorem dX3_buildLonger_5 : decode cX3_buildLonger 5 = .ok (.aaload, 1) := by decide +kernel
theorem dX3_buildLonger_6 : decode cX3_buildLonger 6 = .ok (.iconst (-1), 1) := by decide +kernel
theorem dX3_buildLonger_7 : decode cX3_buildLonger 7 = .ok (.invokestatic 55, 3) := by decide +kernel
theorem dX3_buildLonger_10 : decode cX3_buildLonger 10 = .ok (.iconst 0, 1) := by decide +kernel
theorem dX3_buildLonger_11 : decode cX3_buildLonger 11 = .ok (.istore_n 2, 1) := by decide +kernel
theorem dX3_buildLonger_12 : decode cX3_buildLonger 12 = .ok (.iconst 0, 1) := by decide +kernel
theorem dX3_buildLonger_13 : decode cX3_buildLonger 13 = .ok (.istore_n 3, 1) := by decide +kernel
theorem dX3_buildLonger_14 : decode cX3_buildLonger 14 = .ok (.iload_n 3, 1) := by decide +kernel
theorem dX3_buildLonger_15 : decode cX3_buildLonger 15 = .ok (.aload_n 0, 1) := by decide +kernel
theorem dX3_buildLonger_16 : decode cX3_buildLonger 16 = .ok (.getfield 22, 3) := by decide +kernel
theorem dX3_buildLonger_19 : decode cX3_buildLonger 19 = .ok (.invokevirtual 36, 3) := by decide +kernel
theorem dX3_buildLonger_22 : decode cX3_buildLonger 22 = .ok (.if_icmp .ge 58, 3) := by decide +kernel
theorem dX3_buildLonger_25 : decode cX3_buildLonger 25 = .ok (.aload_n 0, 1) := by decide +kernel
theorem dX3_buildLonger_26 : decode cX3_buildLonger 26 = .ok (.iload_n 3, 1) := by decide +kernel
theorem dX3_buildLonger_27 : decode cX3_buildLonger 27 = .ok (.iload_n 1, 1) := by decide +kernel
theorem dX3_buildLonger_28 : decode cX3_buildLonger 28 = .ok (.invokevirtual 39, 3) := by decide +kernel
theorem dX3_buildLonger_31 : decode cX3_buildLonger 31 = .ok (.ifCond .eq 5, 3) := by decide +kernel
theorem dX3_buildLonger_34 : decode cX3_buildLonger 34 = .ok (.iload_n 3, 1) := by decide +kernel
theorem dX3_buildLonger_35 : decode cX3_buildLonger 35 = .ok (.istore_n 2, 1) := by decide +kernel
theorem dX3_buildLonger_36 : decode cX3_buildLonger 36 = .ok (.iload_n 2, 1) := by decide +kernel
theorem dX3_buildLonger_37 : decode cX3_buildLonger 37 = .ok (.aload_n 0, 1) := by decide +kernel
theorem dX3_buildLonger_38 : decode cX3_buildLonger 38 = .ok (.getfield 22, 3) := by decide +kernel
theorem dX3_buildLonger_41 : decode cX3_buildLonger 41 = .ok (.iload_n 3, 1) := by decide +kernel
theorem dX3_buildLonger_42 : decode cX3_buildLonger 42 = .ok (.iload_n 1, 1) := by decide +kernel
theorem dX3_buildLonger_43 : decode cX3_buildLonger 43 = .ok (.invokevirtual 61, 3) := by decide +kernel
theorem dX3_buildLonger_46 : decode cX3_buildLonger 46 = .ok (.invokestatic 64, 3) := by decide +kernel
theorem dX3_buildLonger_49 : decode cX3_buildLonger 49 = .ok (.istore 4, 2) := by decide +kernel
theorem dX3_buildLonger_51 : decode cX3_buildLonger 51 = .ok (.aload_n 0, 1) := by decide +kernel
theorem dX3_buildLonger_52 : decode cX3_buildLonger 52 = .ok (.getfield 11, 3) := by decide +kernel
theorem dX3_buildLonger_55 : decode cX3_buildLonger 55 = .ok (.iload_n 1, 1) := by decide +kernel
theorem dX3_buildLonger_56 : decode cX3_buildLonger 56 = .ok (.aaload, 1) := by decide +kernel
theorem dX3_buildLonger_57 : decode cX3_buildLonger 57 = .ok (.iload 4, 2) := by decide +kernel
theorem dX3_buildLonger_59 : decode cX3_buildLonger 59 = .ok (.iaload, 1) := by decide +kernel
theorem dX3_buildLonger_60 : decode cX3_buildLonger 60 = .ok (.iconst (-1), 1) := by decide +kernel
theorem dX3_buildLonger_61 : decode cX3_buildLonger 61 = .ok (.if_icmp .ne 13, 3) := by decide +kernel
theorem dX3_buildLonger_64 : decode cX3_buildLonger 64 = .ok (.aload_n 0, 1) := by decide +kernel
theorem dX3_buildLonger_65 : decode cX3_buildLonger 65 = .ok (.getfield 11, 3) := by decide +kernel
theorem dX3_buildLonger_68 : decode cX3_buildLonger 68 = .ok (.iload_n 1, 1) := by decide +kernel
theorem dX3_buildLonger_69 : decode cX3_buildLonger 69 = .ok (.aaload, 1) := by decide +kernel
theorem dX3_buildLonger_70 : decode cX3_buildLonger 70 = .ok (.iload 4, 2) := by decide +kernel
theorem dX3_buildLonger_72 : decode cX3_buildLonger 72 = .ok (.iload_n 3, 1) := by decide +kernel
theorem dX3_buildLonger_73 : decode cX3_buildLonger 73 = .ok (.iastore, 1) := by decide +kernel
theorem dX3_buildLonger_74 : decode cX3_buildLonger 74 = .ok (.iinc 3 1, 3) := by decide +kernel
theorem dX3_buildLonger_77 : decode cX3_buildLonger 77 = .ok (.goto (-63), 3) := by decide +kernel
theorem dX3_buildLonger_80 : decode cX3_buildLonger 80 = .ok (.return_, 1) := by decide +kernel
theorem dX3_buildTakers_0 : decode cX3_buildTakers 0 = .ok (.iconst 0, 1) := by decide +kernel
theorem dX3_buildTakers_1 : decode cX3_buildTakers 1 = .ok (.istore_n 3, 1) := by decide +kernel
theorem dX3_buildTakers_2 : decode cX3_buildTakers 2 = .ok (.iload_n 3, 1) := by decide +kernel
theorem dX3_buildTakers_3 : decode cX3_buildTakers 3 = .ok (.iconst 4, 1) := by decide +kernel
theorem dX3_buildTakers_4 : decode cX3_buildTakers 4 = .ok (.if_icmp .ge 95, 3) := by decide +kernel
theorem dX3_buildTakers_7 : decode cX3_buildTakers 7 = .ok (.iconst 0, 1) := by decide +kernel
theorem dX3_buildTakers_8 : decode cX3_buildTakers 8 = .ok (.istore 4, 2) := by decide +kernel
theorem dX3_buildTakers_10 : decode cX3_buildTakers 10 = .ok (.iconst 0, 1) := by decide +kernel
theorem dX3_buildTakers_11 : decode cX3_buildTakers 11 = .ok (.istore 5, 2) := by decide +kernel
theorem dX3_buildTakers_13 : decode cX3_buildTakers 13 = .ok (.iload 5, 2) := by decide +kernel
theorem dX3_buildTakers_15 : decode cX3_buildTakers 15 = .ok (.aload_n 0, 1) := by decide +kernel
theorem dX3_buildTakers_16 : decode cX3_buildTakers 16 = .ok (.getfield 22, 3) := by decide +kernel
theorem dX3_buildTakers_19 : decode cX3_buildTakers 19 = .ok (.invokevirtual 36, 3) := by decide +kernel
theorem dX3_buildTakers_22 : decode cX3_buildTakers 22 = .ok (.if_icmp .ge 54, 3) := by decide +kernel
theorem dX3_buildTakers_25 : decode cX3_buildTakers 25 = .ok (.iload_n 3, 1) := by decide +kernel
theorem dX3_buildTakers_26 : decode cX3_buildTakers 26 = .ok (.aload_n 0, 1) := by decide +kernel
theorem dX3_buildTakers_27 : decode cX3_buildTakers 27 = .ok (.getfield 22, 3) := by decide +kernel
theorem dX3_buildTakers_30 : decode cX3_buildTakers 30 = .ok (.invokevirtual 26, 3) := by decide +kernel
theorem dX3_buildTakers_33 : decode cX3_buildTakers 33 = .ok (.if_icmp .ge 43, 3) := by decide +kernel
theorem dX3_buildTakers_36 : decode cX3_buildTakers 36 = .ok (.aload_n 0, 1) := by decide +kernel
theorem dX3_buildTakers_37 : decode cX3_buildTakers 37 = .ok (.getfield 11, 3) := by decide +kernel
theorem dX3_buildTakers_40 : decode cX3_buildTakers 40 = .ok (.iload_n 1, 1) := by decide +kernel
theorem dX3_buildTakers_41 : decode cX3_buildTakers 41 = .ok (.aaload, 1) := by decide +kernel
theorem dX3_buildTakers_42 : decode cX3_buildTakers 42 = .ok (.iload_n 2, 1) := by decide +kernel
theorem dX3_buildTakers_43 : decode cX3_buildTakers 43 = .ok (.aload_n 0, 1) := by decide +kernel
theorem dX3_buildTakers_44 : decode cX3_buildTakers 44 = .ok (.getfield 22, 3) := by decide +kernel
theorem dX3_buildTakers_47 : decode cX3_buildTakers 47 = .ok (.iload 5, 2) := by decide +kernel
theorem dX3_buildTakers_49 : decode cX3_buildTakers 49 = .ok (.iload_n 3, 1) := by decide +kernel
theorem dX3_buildTakers_50 : decode cX3_buildTakers 50 = .ok (.invokevirtual 61, 3) := by decide +kernel
theorem dX3_buildTakers_53 : decode cX3_buildTakers 53 = .ok (.invokestatic 64, 3) := by decide +kernel
theorem dX3_buildTakers_56 : decode cX3_buildTakers 56 = .ok (.iaload, 1) := by decide +kernel
theorem dX3_buildTakers_57 : decode cX3_buildTakers 57 = .ok (.iconst (-1), 1) := by decide +kernel
theorem dX3_buildTakers_58 : decode cX3_buildTakers 58 = .ok (.if_icmp .eq 12, 3) := by decide +kernel
theorem dX3_buildTakers_61 : decode cX3_buildTakers 61 = .ok (.iload 4, 2) := by decide +kernel
theorem dX3_buildTakers_63 : decode cX3_buildTakers 63 = .ok (.iconst 1, 1) := by decide +kernel
theorem dX3_buildTakers_64 : decode cX3_buildTakers 64 = .ok (.iload 5, 2) := by decide +kernel
theorem dX3_buildTakers_66 : decode cX3_buildTakers 66 = .ok (.ishl, 1) := by decide +kernel
theorem dX3_buildTakers_67 : decode cX3_buildTakers 67 = .ok (.ior, 1) := by decide +kernel
theorem dX3_buildTakers_68 : decode cX3_buildTakers 68 = .ok (.istore 4, 2) := by decide +kernel
theorem dX3_buildTakers_70 : decode cX3_buildTakers 70 = .ok (.iinc 5 1, 3) := by decide +kernel
theorem dX3_buildTakers_73 : decode cX3_buildTakers 73 = .ok (.goto (-60), 3) := by decide +kernel
theorem dX3_buildTakers_76 : decode cX3_buildTakers 76 = .ok (.aload_n 0, 1) := by decide +kernel
theorem dX3_buildTakers_77 : decode cX3_buildTakers 77 = .ok (.getfield 16, 3) := by decide +kernel
theorem dX3_buildTakers_80 : decode cX3_buildTakers 80 = .ok (.iload_n 1, 1) := by decide +kernel
theorem dX3_buildTakers_81 : decode cX3_buildTakers 81 = .ok (.aaload, 1) := by decide +kernel
theorem dX3_buildTakers_82 : decode cX3_buildTakers 82 = .ok (.iload_n 2, 1) := by decide +kernel
theorem dX3_buildTakers_83 : decode cX3_buildTakers 83 = .ok (.bipush 15, 2) := by decide +kernel
theorem dX3_buildTakers_85 : decode cX3_buildTakers 85 = .ok (.iand, 1) := by decide +kernel
theorem dX3_buildTakers_86 : decode cX3_buildTakers 86 = .ok (.iconst 4, 1) := by decide +kernel
theorem dX3_buildTakers_87 : decode cX3_buildTakers 87 = .ok (.imul, 1) := by decide +kernel
theorem dX3_buildTakers_88 : decode cX3_buildTakers 88 = .ok (.iload_n 3, 1) := by decide +kernel
theorem dX3_buildTakers_89 : decode cX3_buildTakers 89 = .ok (.iadd, 1) := by decide +kernel
theorem dX3_buildTakers_90 : decode cX3_buildTakers 90 = .ok (.iload 4, 2) := by decide +kernel
theorem dX3_buildTakers_92 : decode cX3_buildTakers 92 = .ok (.iastore, 1) := by decide +kernel
theorem dX3_buildTakers_93 : decode cX3_buildTakers 93 = .ok (.iinc 3 1, 3) := by decide +kernel
theorem dX3_buildTakers_96 : decode cX3_buildTakers 96 = .ok (.goto (-94), 3) := by decide +kernel
theorem dX3_buildTakers_99 : decode cX3_buildTakers 99 = .ok (.return_, 1) := by decide +kernel
theorem dX3_firstAlike_0 : decode cX3_firstAlike 0 = .ok (.iconst 0, 1) := by decide +kernel
theorem dX3_firstAlike_1 : decode cX3_firstAlike 1 = .ok (.istore_n 3, 1) := by decide +kernel
theorem dX3_firstAlike_2 : decode cX3_firstAlike 2 = .ok (.iload_n 3, 1) := by decide +kernel
theorem dX3_firstAlike_3 : decode cX3_firstAlike 3 = .ok (.iload_n 2, 1) := by decide +kernel
theorem dX3_firstAlike_4 : decode cX3_firstAlike 4 = .ok (.if_icmp .ge 30, 3) := by decide +kernel
theorem dX3_firstAlike_7 : decode cX3_firstAlike 7 = .ok (.aload_n 0, 1) := by decide +kernel
theorem dX3_firstAlike_8 : decode cX3_firstAlike 8 = .ok (.iload_n 3, 1) := by decide +kernel
theorem dX3_firstAlike_9 : decode cX3_firstAlike 9 = .ok (.iload_n 1, 1) := by decide +kernel
theorem dX3_firstAlike_10 : decode cX3_firstAlike 10 = .ok (.invokevirtual 39, 3) := by decide +kernel
theorem dX3_firstAlike_13 : decode cX3_firstAlike 13 = .ok (.ifCond .eq 15, 3) := by decide +kernel
theorem dX3_firstAlike_16 : decode cX3_firstAlike 16 = .ok (.aload_n 0, 1) := by decide +kernel
theorem dX3_firstAlike_17 : decode cX3_firstAlike 17 = .ok (.iload_n 1, 1) := by decide +kernel
theorem dX3_firstAlike_18 : decode cX3_firstAlike 18 = .ok (.iload_n 3, 1) := by decide +kernel
theorem dX3_firstAlike_19 : decode cX3_firstAlike 19 = .ok (.iload_n 2, 1) := by decide +kernel
theorem dX3_firstAlike_20 : decode cX3_firstAlike 20 = .ok (.invokevirtual 67, 3) := by decide +kernel
theorem dX3_firstAlike_23 : decode cX3_firstAlike 23 = .ok (.ifCond .eq 5, 3) := by decide +kernel
theorem dX3_firstAlike_26 : decode cX3_firstAlike 26 = .ok (.iload_n 3, 1) := by decide +kernel
theorem dX3_firstAlike_27 : decode cX3_firstAlike 27 = .ok (.ireturn, 1) := by decide +kernel
theorem dX3_firstAlike_28 : decode cX3_firstAlike 28 = .ok (.iinc 3 1, 3) := by decide +kernel
theorem dX3_firstAlike_31 : decode cX3_firstAlike 31 = .ok (.goto (-29), 3) := by decide +kernel
theorem dX3_firstAlike_34 : decode cX3_firstAlike 34 = .ok (.iload_n 2, 1) := by decide +kernel
theorem dX3_firstAlike_35 : decode cX3_firstAlike 35 = .ok (.ireturn, 1) := by decide +kernel
theorem dX3_sameRests_0 : decode cX3_sameRests 0 = .ok (.iconst 0, 1) := by decide +kernel
theorem dX3_sameRests_1 : decode cX3_sameRests 1 = .ok (.istore 4, 2) := by decide +kernel
theorem dX3_sameRests_3 : decode cX3_sameRests 3 = .ok (.iload 4, 2) := by decide +kernel
theorem dX3_sameRests_5 : decode cX3_sameRests 5 = .ok (.aload_n 0, 1) := by decide +kernel
theorem dX3_sameRests_6 : decode cX3_sameRests 6 = .ok (.getfield 22, 3) := by decide +kernel
theorem dX3_sameRests_9 : decode cX3_sameRests 9 = .ok (.invokevirtual 36, 3) := by decide +kernel
theorem dX3_sameRests_12 : decode cX3_sameRests 12 = .ok (.if_icmp .gt 135, 3) := by decide +kernel
theorem dX3_sameRests_15 : decode cX3_sameRests 15 = .ok (.aload_n 0, 1) := by decide +kernel
theorem dX3_sameRests_16 : decode cX3_sameRests 16 = .ok (.getfield 22, 3) := by decide +kernel
theorem dX3_sameRests_19 : decode cX3_sameRests 19 = .ok (.iload_n 2, 1) := by decide +kernel
theorem dX3_sameRests_20 : decode cX3_sameRests 20 = .ok (.iload 4, 2) := by decide +kernel
theorem dX3_sameRests_22 : decode cX3_sameRests 22 = .ok (.iadd, 1) := by decide +kernel
theorem dX3_sameRests_23 : decode cX3_sameRests 23 = .ok (.invokevirtual 70, 3) := by decide +kernel
theorem dX3_sameRests_26 : decode cX3_sameRests 26 = .ok (.ifCond .eq 23, 3) := by decide +kernel
theorem dX3_sameRests_29 : decode cX3_sameRests 29 = .ok (.aload_n 0, 1) := by decide +kernel
theorem dX3_sameRests_30 : decode cX3_sameRests 30 = .ok (.getfield 22, 3) := by decide +kernel
theorem dX3_sameRests_33 : decode cX3_sameRests 33 = .ok (.iload_n 2, 1) := by decide +kernel
theorem dX3_sameRests_34 : decode cX3_sameRests 34 = .ok (.iload_n 2, 1) := by decide +kernel
theorem dX3_sameRests_35 : decode cX3_sameRests 35 = .ok (.iload 4, 2) := by decide +kernel
theorem dX3_sameRests_37 : decode cX3_sameRests 37 = .ok (.iadd, 1) := by decide +kernel
theorem dX3_sameRests_38 : decode cX3_sameRests 38 = .ok (.iload_n 1, 1) := by decide +kernel
theorem dX3_sameRests_39 : decode cX3_sameRests 39 = .ok (.invokevirtual 51, 3) := by decide +kernel
theorem dX3_sameRests_42 : decode cX3_sameRests 42 = .ok (.ifCond .eq 7, 3) := by decide +kernel
theorem dX3_sameRests_45 : decode cX3_sameRests 45 = .ok (.iconst 1, 1) := by decide +kernel
theorem dX3_sameRests_46 : decode cX3_sameRests 46 = .ok (.goto 4, 3) := by decide +kernel
theorem dX3_sameRests_49 : decode cX3_sameRests 49 = .ok (.iconst 0, 1) := by decide +kernel
theorem dX3_sameRests_50 : decode cX3_sameRests 50 = .ok (.istore 5, 2) := by decide +kernel
theorem dX3_sameRests_52 : decode cX3_sameRests 52 = .ok (.aload_n 0, 1) := by decide +kernel
theorem dX3_sameRests_53 : decode cX3_sameRests 53 = .ok (.getfield 22, 3) := by decide +kernel
theorem dX3_sameRests_56 : decode cX3_sameRests 56 = .ok (.iload_n 3, 1) := by decide +kernel
theorem dX3_sameRests_57 : decode cX3_sameRests 57 = .ok (.iload 4, 2) := by decide +kernel
theorem dX3_sameRests_59 : decode cX3_sameRests 59 = .ok (.iadd, 1) := by decide +kernel
theorem dX3_sameRests_60 : decode cX3_sameRests 60 = .ok (.invokevirtual 70, 3) := by decide +kernel
theorem dX3_sameRests_63 : decode cX3_sameRests 63 = .ok (.ifCond .eq 23, 3) := by decide +kernel
theorem dX3_sameRests_66 : decode cX3_sameRests 66 = .ok (.aload_n 0, 1) := by decide +kernel
theorem dX3_sameRests_67 : decode cX3_sameRests 67 = .ok (.getfield 22, 3) := by decide +kernel
theorem dX3_sameRests_70 : decode cX3_sameRests 70 = .ok (.iload_n 3, 1) := by decide +kernel
theorem dX3_sameRests_71 : decode cX3_sameRests 71 = .ok (.iload_n 3, 1) := by decide +kernel
theorem dX3_sameRests_72 : decode cX3_sameRests 72 = .ok (.iload 4, 2) := by decide +kernel
theorem dX3_sameRests_74 : decode cX3_sameRests 74 = .ok (.iadd, 1) := by decide +kernel
theorem dX3_sameRests_75 : decode cX3_sameRests 75 = .ok (.iload_n 1, 1) := by decide +kernel
theorem dX3_sameRests_76 : decode cX3_sameRests 76 = .ok (.invokevirtual 51, 3) := by decide +kernel
theorem dX3_sameRests_79 : decode cX3_sameRests 79 = .ok (.ifCond .eq 7, 3) := by decide +kernel
theorem dX3_sameRests_82 : decode cX3_sameRests 82 = .ok (.iconst 1, 1) := by decide +kernel
theorem dX3_sameRests_83 : decode cX3_sameRests 83 = .ok (.goto 4, 3) := by decide +kernel
theorem dX3_sameRests_86 : decode cX3_sameRests 86 = .ok (.iconst 0, 1) := by decide +kernel
theorem dX3_sameRests_87 : decode cX3_sameRests 87 = .ok (.istore 6, 2) := by decide +kernel
theorem dX3_sameRests_89 : decode cX3_sameRests 89 = .ok (.iload 5, 2) := by decide +kernel
theorem dX3_sameRests_91 : decode cX3_sameRests 91 = .ok (.ifCond .eq 8, 3) := by decide +kernel
theorem dX3_sameRests_94 : decode cX3_sameRests 94 = .ok (.iload 6, 2) := by decide +kernel
theorem dX3_sameRests_96 : decode cX3_sameRests 96 = .ok (.ifCond .ne 16, 3) := by decide +kernel
theorem dX3_sameRests_99 : decode cX3_sameRests 99 = .ok (.iload 5, 2) := by decide +kernel
theorem dX3_sameRests_101 : decode cX3_sameRests 101 = .ok (.iload 6, 2) := by decide +kernel
theorem dX3_sameRests_103 : decode cX3_sameRests 103 = .ok (.if_icmp .ne 7, 3) := by decide +kernel
theorem dX3_sameRests_106 : decode cX3_sameRests 106 = .ok (.iconst 1, 1) := by decide +kernel
theorem dX3_sameRests_107 : decode cX3_sameRests 107 = .ok (.goto 4, 3) := by decide +kernel
theorem dX3_sameRests_110 : decode cX3_sameRests 110 = .ok (.iconst 0, 1) := by decide +kernel
theorem dX3_sameRests_111 : decode cX3_sameRests 111 = .ok (.ireturn, 1) := by decide +kernel
theorem dX3_sameRests_112 : decode cX3_sameRests 112 = .ok (.aload_n 0, 1) := by decide +kernel
theorem dX3_sameRests_113 : decode cX3_sameRests 113 = .ok (.getfield 22, 3) := by decide +kernel
theorem dX3_sameRests_116 : decode cX3_sameRests 116 = .ok (.iload_n 2, 1) := by decide +kernel
theorem dX3_sameRests_117 : decode cX3_sameRests 117 = .ok (.iload 4, 2) := by decide +kernel
theorem dX3_sameRests_119 : decode cX3_sameRests 119 = .ok (.iadd, 1) := by decide +kernel
theorem dX3_sameRests_120 : decode cX3_sameRests 120 = .ok (.iload_n 1, 1) := by decide +kernel
theorem dX3_sameRests_121 : decode cX3_sameRests 121 = .ok (.invokevirtual 74, 3) := by decide +kernel
theorem dX3_sameRests_124 : decode cX3_sameRests 124 = .ok (.aload_n 0, 1) := by decide +kernel
theorem dX3_sameRests_125 : decode cX3_sameRests 125 = .ok (.getfield 22, 3) := by decide +kernel
theorem dX3_sameRests_128 : decode cX3_sameRests 128 = .ok (.iload_n 3, 1) := by decide +kernel
theorem dX3_sameRests_129 : decode cX3_sameRests 129 = .ok (.iload 4, 2) := by decide +kernel
theorem dX3_sameRests_131 : decode cX3_sameRests 131 = .ok (.iadd, 1) := by decide +kernel
theorem dX3_sameRests_132 : decode cX3_sameRests 132 = .ok (.iload_n 1, 1) := by decide +kernel
theorem dX3_sameRests_133 : decode cX3_sameRests 133 = .ok (.invokevirtual 74, 3) := by decide +kernel
theorem dX3_sameRests_136 : decode cX3_sameRests 136 = .ok (.if_icmp .eq 5, 3) := by decide +kernel
theorem dX3_sameRests_139 : decode cX3_sameRests 139 = .ok (.iconst 0, 1) := by decide +kernel
theorem dX3_sameRests_140 : decode cX3_sameRests 140 = .ok (.ireturn, 1) := by decide +kernel
theorem dX3_sameRests_141 : decode cX3_sameRests 141 = .ok (.iinc 4 1, 3) := by decide +kernel
theorem dX3_sameRests_144 : decode cX3_sameRests 144 = .ok (.goto (-141), 3) := by decide +kernel
theorem dX3_sameRests_147 : decode cX3_sameRests 147 = .ok (.iconst 1, 1) := by decide +kernel
theorem dX3_sameRests_148 : decode cX3_sameRests 148 = .ok (.ireturn, 1) := by decide +kernel
theorem dX3_placeOf_0 : decode cX3_placeOf 0 = .ok (.iload_n 0, 1) := by decide +kernel
theorem dX3_placeOf_1 : decode cX3_placeOf 1 = .ok (.bipush 15, 2) := by decide +kernel
theorem dX3_placeOf_3 : decode cX3_placeOf 3 = .ok (.iand, 1) := by decide +kernel
theorem dX3_placeOf_4 : decode cX3_placeOf 4 = .ok (.bipush 32, 2) := by decide +kernel
theorem dX3_placeOf_6 : decode cX3_placeOf 6 = .ok (.imul, 1) := by decide +kernel
theorem dX3_placeOf_7 : decode cX3_placeOf 7 = .ok (.iload_n 1, 1) := by decide +kernel
theorem dX3_placeOf_8 : decode cX3_placeOf 8 = .ok (.bipush 31, 2) := by decide +kernel
theorem dX3_placeOf_10 : decode cX3_placeOf 10 = .ok (.iand, 1) := by decide +kernel
theorem dX3_placeOf_11 : decode cX3_placeOf 11 = .ok (.iadd, 1) := by decide +kernel
theorem dX3_placeOf_12 : decode cX3_placeOf 12 = .ok (.ireturn, 1) := by decide +kernel
theorem dX3_nextRows_0 : decode cX3_nextRows 0 = .ok (.iconst 1, 1) := by decide +kernel
theorem dX3_nextRows_1 : decode cX3_nextRows 1 = .ok (.aload_n 0, 1) := by decide +kernel
theorem dX3_nextRows_2 : decode cX3_nextRows 2 = .ok (.getfield 22, 3) := by decide +kernel
theorem dX3_nextRows_5 : decode cX3_nextRows 5 = .ok (.invokevirtual 36, 3) := by decide +kernel
theorem dX3_nextRows_8 : decode cX3_nextRows 8 = .ok (.ishl, 1) := by decide +kernel
theorem dX3_nextRows_9 : decode cX3_nextRows 9 = .ok (.iconst 1, 1) := by decide +kernel
theorem dX3_nextRows_10 : decode cX3_nextRows 10 = .ok (.isub, 1) := by decide +kernel
theorem dX3_nextRows_11 : decode cX3_nextRows 11 = .ok (.istore_n 3, 1) := by decide +kernel
theorem dX3_nextRows_12 : decode cX3_nextRows 12 = .ok (.iconst 0, 1) := by decide +kernel
theorem dX3_nextRows_13 : decode cX3_nextRows 13 = .ok (.istore 4, 2) := by decide +kernel
theorem dX3_nextRows_15 : decode cX3_nextRows 15 = .ok (.iload 4, 2) := by decide +kernel
theorem dX3_nextRows_17 : decode cX3_nextRows 17 = .ok (.aload_n 0, 1) := by decide +kernel
theorem dX3_nextRows_18 : decode cX3_nextRows 18 = .ok (.getfield 22, 3) := by decide +kernel
theorem dX3_nextRows_21 : decode cX3_nextRows 21 = .ok (.invokevirtual 26, 3) := by decide +kernel
theorem dX3_nextRows_24 : decode cX3_nextRows 24 = .ok (.if_icmp .ge 49, 3) := by decide +kernel
theorem dX3_nextRows_27 : decode cX3_nextRows 27 = .ok (.iload 4, 2) := by decide +kernel
theorem dX3_nextRows_29 : decode cX3_nextRows 29 = .ok (.iconst 4, 1) := by decide +kernel
theorem dX3_nextRows_30 : decode cX3_nextRows 30 = .ok (.if_icmp .ge 43, 3) := by decide +kernel
theorem dX3_nextRows_33 : decode cX3_nextRows 33 = .ok (.iload_n 2, 1) := by decide +kernel
theorem dX3_nextRows_34 : decode cX3_nextRows 34 = .ok (.iload 4, 2) := by decide +kernel
theorem dX3_nextRows_36 : decode cX3_nextRows 36 = .ok (.aload_n 0, 1) := by decide +kernel
theorem dX3_nextRows_37 : decode cX3_nextRows 37 = .ok (.getfield 22, 3) := by decide +kernel
theorem dX3_nextRows_40 : decode cX3_nextRows 40 = .ok (.invokevirtual 26, 3) := by decide +kernel
theorem dX3_nextRows_43 : decode cX3_nextRows 43 = .ok (.invokestatic 77, 3) := by decide +kernel
theorem dX3_nextRows_46 : decode cX3_nextRows 46 = .ok (.istore 5, 2) := by decide +kernel
theorem dX3_nextRows_48 : decode cX3_nextRows 48 = .ok (.iload_n 3, 1) := by decide +kernel
theorem dX3_nextRows_49 : decode cX3_nextRows 49 = .ok (.aload_n 0, 1) := by decide +kernel
theorem dX3_nextRows_50 : decode cX3_nextRows 50 = .ok (.getfield 16, 3) := by decide +kernel
theorem dX3_nextRows_53 : decode cX3_nextRows 53 = .ok (.iload_n 1, 1) := by decide +kernel
theorem dX3_nextRows_54 : decode cX3_nextRows 54 = .ok (.iconst 3, 1) := by decide +kernel
theorem dX3_nextRows_55 : decode cX3_nextRows 55 = .ok (.iand, 1) := by decide +kernel
theorem dX3_nextRows_56 : decode cX3_nextRows 56 = .ok (.aaload, 1) := by decide +kernel
theorem dX3_nextRows_57 : decode cX3_nextRows 57 = .ok (.iload 5, 2) := by decide +kernel
theorem dX3_nextRows_59 : decode cX3_nextRows 59 = .ok (.iconst 4, 1) := by decide +kernel
theorem dX3_nextRows_60 : decode cX3_nextRows 60 = .ok (.imul, 1) := by decide +kernel
theorem dX3_nextRows_61 : decode cX3_nextRows 61 = .ok (.iload 4, 2) := by decide +kernel
theorem dX3_nextRows_63 : decode cX3_nextRows 63 = .ok (.iadd, 1) := by decide +kernel
theorem dX3_nextRows_64 : decode cX3_nextRows 64 = .ok (.iaload, 1) := by decide +kernel
theorem dX3_nextRows_65 : decode cX3_nextRows 65 = .ok (.iand, 1) := by decide +kernel
theorem dX3_nextRows_66 : decode cX3_nextRows 66 = .ok (.istore_n 3, 1) := by decide +kernel
theorem dX3_nextRows_67 : decode cX3_nextRows 67 = .ok (.iinc 4 1, 3) := by decide +kernel
theorem dX3_nextRows_70 : decode cX3_nextRows 70 = .ok (.goto (-55), 3) := by decide +kernel
theorem dX3_nextRows_73 : decode cX3_nextRows 73 = .ok (.iload_n 3, 1) := by decide +kernel
theorem dX3_nextRows_74 : decode cX3_nextRows 74 = .ok (.ireturn, 1) := by decide +kernel
theorem dX3_headsWith_0 : decode cX3_headsWith 0 = .ok (.iconst 0, 1) := by decide +kernel
theorem dX3_headsWith_1 : decode cX3_headsWith 1 = .ok (.istore 4, 2) := by decide +kernel
theorem dX3_headsWith_3 : decode cX3_headsWith 3 = .ok (.iconst 0, 1) := by decide +kernel
theorem dX3_headsWith_4 : decode cX3_headsWith 4 = .ok (.istore 5, 2) := by decide +kernel
theorem dX3_headsWith_6 : decode cX3_headsWith 6 = .ok (.iload 5, 2) := by decide +kernel
theorem dX3_headsWith_8 : decode cX3_headsWith 8 = .ok (.aload_n 0, 1) := by decide +kernel
theorem dX3_headsWith_9 : decode cX3_headsWith 9 = .ok (.getfield 22, 3) := by decide +kernel
theorem dX3_headsWith_12 : decode cX3_headsWith 12 = .ok (.invokevirtual 26, 3) := by decide +kernel
theorem dX3_headsWith_15 : decode cX3_headsWith 15 = .ok (.if_icmp .ge 62, 3) := by decide +kernel
theorem dX3_headsWith_18 : decode cX3_headsWith 18 = .ok (.iload_n 2, 1) := by decide +kernel
theorem dX3_headsWith_19 : decode cX3_headsWith 19 = .ok (.iload 5, 2) := by decide +kernel
theorem dX3_headsWith_21 : decode cX3_headsWith 21 = .ok (.aload_n 0, 1) := by decide +kernel
theorem dX3_headsWith_22 : decode cX3_headsWith 22 = .ok (.getfield 22, 3) := by decide +kernel
theorem dX3_headsWith_25 : decode cX3_headsWith 25 = .ok (.invokevirtual 26, 3) := by decide +kernel
theorem dX3_headsWith_28 : decode cX3_headsWith 28 = .ok (.invokestatic 77, 3) := by decide +kernel
theorem dX3_headsWith_31 : decode cX3_headsWith 31 = .ok (.istore 6, 2) := by decide +kernel
theorem dX3_headsWith_33 : decode cX3_headsWith 33 = .ok (.aload_n 0, 1) := by decide +kernel
theorem dX3_headsWith_34 : decode cX3_headsWith 34 = .ok (.getfield 11, 3) := by decide +kernel
theorem dX3_headsWith_37 : decode cX3_headsWith 37 = .ok (.iload_n 1, 1) := by decide +kernel
theorem dX3_headsWith_38 : decode cX3_headsWith 38 = .ok (.iconst 3, 1) := by decide +kernel
theorem dX3_headsWith_39 : decode cX3_headsWith 39 = .ok (.iand, 1) := by decide +kernel
theorem dX3_headsWith_40 : decode cX3_headsWith 40 = .ok (.aaload, 1) := by decide +kernel
theorem dX3_headsWith_41 : decode cX3_headsWith 41 = .ok (.iload 6, 2) := by decide +kernel
theorem dX3_headsWith_43 : decode cX3_headsWith 43 = .ok (.aload_n 0, 1) := by decide +kernel
theorem dX3_headsWith_44 : decode cX3_headsWith 44 = .ok (.getfield 22, 3) := by decide +kernel
theorem dX3_headsWith_47 : decode cX3_headsWith 47 = .ok (.iload_n 3, 1) := by decide +kernel
theorem dX3_headsWith_48 : decode cX3_headsWith 48 = .ok (.iload 5, 2) := by decide +kernel
theorem dX3_headsWith_50 : decode cX3_headsWith 50 = .ok (.invokevirtual 61, 3) := by decide +kernel
theorem dX3_headsWith_53 : decode cX3_headsWith 53 = .ok (.invokestatic 64, 3) := by decide +kernel
theorem dX3_headsWith_56 : decode cX3_headsWith 56 = .ok (.iaload, 1) := by decide +kernel
theorem dX3_headsWith_57 : decode cX3_headsWith 57 = .ok (.istore 7, 2) := by decide +kernel
theorem dX3_headsWith_59 : decode cX3_headsWith 59 = .ok (.iload 4, 2) := by decide +kernel
theorem dX3_headsWith_61 : decode cX3_headsWith 61 = .ok (.iconst 4, 1) := by decide +kernel
theorem dX3_headsWith_62 : decode cX3_headsWith 62 = .ok (.ishl, 1) := by decide +kernel
theorem dX3_headsWith_63 : decode cX3_headsWith 63 = .ok (.iload 7, 2) := by decide +kernel
theorem dX3_headsWith_65 : decode cX3_headsWith 65 = .ok (.bipush 15, 2) := by decide +kernel
theorem dX3_headsWith_67 : decode cX3_headsWith 67 = .ok (.iand, 1) := by decide +kernel
theorem dX3_headsWith_68 : decode cX3_headsWith 68 = .ok (.ior, 1) := by decide +kernel
theorem dX3_headsWith_69 : decode cX3_headsWith 69 = .ok (.istore 4, 2) := by decide +kernel
theorem dX3_headsWith_71 : decode cX3_headsWith 71 = .ok (.iinc 5 1, 3) := by decide +kernel
theorem dX3_headsWith_74 : decode cX3_headsWith 74 = .ok (.goto (-68), 3) := by decide +kernel
theorem dX3_headsWith_77 : decode cX3_headsWith 77 = .ok (.iload 4, 2) := by decide +kernel
theorem dX3_headsWith_79 : decode cX3_headsWith 79 = .ok (.ireturn, 1) := by decide +kernel
theorem dX3_likeness_0 : decode cX3_likeness 0 = .ok (.iload_n 1, 1) := by decide +kernel
theorem dX3_likeness_1 : decode cX3_likeness 1 = .ok (.istore_n 3, 1) := by decide +kernel
theorem dX3_likeness_2 : decode cX3_likeness 2 = .ok (.iconst 0, 1) := by decide +kernel
theorem dX3_likeness_3 : decode cX3_likeness 3 = .ok (.istore 4, 2) := by decide +kernel
theorem dX3_likeness_5 : decode cX3_likeness 5 = .ok (.iload 4, 2) := by decide +kernel
theorem dX3_likeness_7 : decode cX3_likeness 7 = .ok (.iconst 4, 1) := by decide +kernel
theorem dX3_likeness_8 : decode cX3_likeness 8 = .ok (.if_icmp .ge 56, 3) := by decide +kernel
theorem dX3_likeness_11 : decode cX3_likeness 11 = .ok (.iconst 0, 1) := by decide +kernel
theorem dX3_likeness_12 : decode cX3_likeness 12 = .ok (.istore 5, 2) := by decide +kernel
theorem dX3_likeness_14 : decode cX3_likeness 14 = .ok (.iload 4, 2) := by decide +kernel
theorem dX3_likeness_16 : decode cX3_likeness 16 = .ok (.aload_n 0, 1) := by decide +kernel
theorem dX3_likeness_17 : decode cX3_likeness 17 = .ok (.getfield 22, 3) := by decide +kernel
theorem dX3_likeness_20 : decode cX3_likeness 20 = .ok (.invokevirtual 26, 3) := by decide +kernel
theorem dX3_likeness_23 : decode cX3_likeness 23 = .ok (.if_icmp .ge 27, 3) := by decide +kernel
theorem dX3_likeness_26 : decode cX3_likeness 26 = .ok (.aload_n 0, 1) := by decide +kernel
theorem dX3_likeness_27 : decode cX3_likeness 27 = .ok (.getfield 19, 3) := by decide +kernel
theorem dX3_likeness_30 : decode cX3_likeness 30 = .ok (.iload_n 1, 1) := by decide +kernel
theorem dX3_likeness_31 : decode cX3_likeness 31 = .ok (.iconst 3, 1) := by decide +kernel
theorem dX3_likeness_32 : decode cX3_likeness 32 = .ok (.iand, 1) := by decide +kernel
theorem dX3_likeness_33 : decode cX3_likeness 33 = .ok (.aaload, 1) := by decide +kernel
theorem dX3_likeness_34 : decode cX3_likeness 34 = .ok (.iload_n 2, 1) := by decide +kernel
theorem dX3_likeness_35 : decode cX3_likeness 35 = .ok (.iload 4, 2) := by decide +kernel
theorem dX3_likeness_37 : decode cX3_likeness 37 = .ok (.aload_n 0, 1) := by decide +kernel
theorem dX3_likeness_38 : decode cX3_likeness 38 = .ok (.getfield 22, 3) := by decide +kernel
theorem dX3_likeness_41 : decode cX3_likeness 41 = .ok (.invokevirtual 26, 3) := by decide +kernel
theorem dX3_likeness_44 : decode cX3_likeness 44 = .ok (.invokestatic 77, 3) := by decide +kernel
theorem dX3_likeness_47 : decode cX3_likeness 47 = .ok (.iaload, 1) := by decide +kernel
theorem dX3_likeness_48 : decode cX3_likeness 48 = .ok (.istore 5, 2) := by decide +kernel
theorem dX3_likeness_50 : decode cX3_likeness 50 = .ok (.iload_n 3, 1) := by decide +kernel
theorem dX3_likeness_51 : decode cX3_likeness 51 = .ok (.bipush 12, 2) := by decide +kernel
theorem dX3_likeness_53 : decode cX3_likeness 53 = .ok (.imul, 1) := by decide +kernel
theorem dX3_likeness_54 : decode cX3_likeness 54 = .ok (.iload 5, 2) := by decide +kernel
theorem dX3_likeness_56 : decode cX3_likeness 56 = .ok (.iadd, 1) := by decide +kernel
theorem dX3_likeness_57 : decode cX3_likeness 57 = .ok (.istore_n 3, 1) := by decide +kernel
theorem dX3_likeness_58 : decode cX3_likeness 58 = .ok (.iinc 4 1, 3) := by decide +kernel
theorem dX3_likeness_61 : decode cX3_likeness 61 = .ok (.goto (-56), 3) := by decide +kernel
theorem dX3_likeness_64 : decode cX3_likeness 64 = .ok (.iload_n 3, 1) := by decide +kernel
theorem dX3_likeness_65 : decode cX3_likeness 65 = .ok (.ireturn, 1) := by decide +kernel
theorem dX4_init_0 : decode cX4_init 0 = .ok (.aload_n 0, 1) := by decide +kernel
theorem dX4_init_1 : decode cX4_init 1 = .ok (.invokespecial 1, 3) := by decide +kernel
theorem dX4_init_4 : decode cX4_init 4 = .ok (.aload_n 0, 1) := by decide +kernel
theorem dX4_init_5 : decode cX4_init 5 = .ok (.bipush 64, 2) := by decide +kernel
theorem dX4_init_7 : decode cX4_init 7 = .ok (.newarray .int, 2) := by decide +kernel
theorem dX4_init_9 : decode cX4_init 9 = .ok (.putfield 9, 3) := by decide +kernel
theorem dX4_init_12 : decode cX4_init 12 = .ok (.aload_n 0, 1) := by decide +kernel
theorem dX4_init_13 : decode cX4_init 13 = .ok (.iconst 0, 1) := by decide +kernel
theorem dX4_init_14 : decode cX4_init 14 = .ok (.putfield 13, 3) := by decide +kernel
theorem dX4_init_17 : decode cX4_init 17 = .ok (.return_, 1) := by decide +kernel
theorem dX4_size_0 : decode cX4_size 0 = .ok (.aload_n 0, 1) := by decide +kernel
theorem dX4_size_1 : decode cX4_size 1 = .ok (.getfield 13, 3) := by decide +kernel
theorem dX4_size_4 : decode cX4_size 4 = .ok (.ireturn, 1) := by decide +kernel
theorem dX4_clear_0 : decode cX4_clear 0 = .ok (.aload_n 0, 1) := by decide +kernel
theorem dX4_clear_1 : decode cX4_clear 1 = .ok (.iconst 0, 1) := by decide +kernel
theorem dX4_clear_2 : decode cX4_clear 2 = .ok (.putfield 13, 3) := by decide +kernel
theorem dX4_clear_5 : decode cX4_clear 5 = .ok (.return_, 1) := by decide +kernel
theorem dX4_append_0 : decode cX4_append 0 = .ok (.aload_n 0, 1) := by decide +kernel
theorem dX4_append_1 : decode cX4_append 1 = .ok (.getfield 13, 3) := by decide +kernel
theorem dX4_append_4 : decode cX4_append 4 = .ok (.sipush 20736, 3) := by decide +kernel
theorem dX4_append_7 : decode cX4_append 7 = .ok (.if_icmp .lt 4, 3) := by decide +kernel
theorem dX4_append_10 : decode cX4_append 10 = .ok (.return_, 1) := by decide +kernel
theorem dX4_append_11 : decode cX4_append 11 = .ok (.aload_n 0, 1) := by decide +kernel
theorem dX4_append_12 : decode cX4_append 12 = .ok (.getfield 13, 3) := by decide +kernel
theorem dX4_append_15 : decode cX4_append 15 = .ok (.aload_n 0, 1) := by decide +kernel
theorem dX4_append_16 : decode cX4_append 16 = .ok (.getfield 9, 3) := by decide +kernel
theorem dX4_append_19 : decode cX4_append 19 = .ok (.arraylength, 1) := by decide +kernel
theorem dX4_append_20 : decode cX4_append 20 = .ok (.if_icmp .lt 20, 3) := by decide +kernel
theorem dX4_append_23 : decode cX4_append 23 = .ok (.aload_n 0, 1) := by decide +kernel
theorem dX4_append_24 : decode cX4_append 24 = .ok (.aload_n 0, 1) := by decide +kernel
theorem dX4_append_25 : decode cX4_append 25 = .ok (.getfield 9, 3) := by decide +kernel
theorem dX4_append_28 : decode cX4_append 28 = .ok (.iconst 2, 1) := by decide +kernel
theorem dX4_append_29 : decode cX4_append 29 = .ok (.aload_n 0, 1) := by decide +kernel
theorem dX4_append_30 : decode cX4_append 30 = .ok (.getfield 13, 3) := by decide +kernel
theorem dX4_append_33 : decode cX4_append 33 = .ok (.imul, 1) := by decide +kernel
theorem dX4_append_34 : decode cX4_append 34 = .ok (.invokestatic 17, 3) := by decide +kernel
theorem dX4_append_37 : decode cX4_append 37 = .ok (.putfield 9, 3) := by decide +kernel
theorem dX4_append_40 : decode cX4_append 40 = .ok (.aload_n 0, 1) := by decide +kernel
theorem dX4_append_41 : decode cX4_append 41 = .ok (.getfield 9, 3) := by decide +kernel
theorem dX4_append_44 : decode cX4_append 44 = .ok (.aload_n 0, 1) := by decide +kernel
theorem dX4_append_45 : decode cX4_append 45 = .ok (.getfield 13, 3) := by decide +kernel
theorem dX4_append_48 : decode cX4_append 48 = .ok (.iload_n 2, 1) := by decide +kernel
theorem dX4_append_49 : decode cX4_append 49 = .ok (.bipush 16, 2) := by decide +kernel
theorem dX4_append_51 : decode cX4_append 51 = .ok (.ishl, 1) := by decide +kernel
theorem dX4_append_52 : decode cX4_append 52 = .ok (.iload_n 1, 1) := by decide +kernel
theorem dX4_append_53 : decode cX4_append 53 = .ok (.ior, 1) := by decide +kernel
theorem dX4_append_54 : decode cX4_append 54 = .ok (.iastore, 1) := by decide +kernel
theorem dX4_append_55 : decode cX4_append 55 = .ok (.aload_n 0, 1) := by decide +kernel
theorem dX4_append_56 : decode cX4_append 56 = .ok (.dup, 1) := by decide +kernel
theorem dX4_append_57 : decode cX4_append 57 = .ok (.getfield 13, 3) := by decide +kernel
theorem dX4_append_60 : decode cX4_append 60 = .ok (.iconst 1, 1) := by decide +kernel
theorem dX4_append_61 : decode cX4_append 61 = .ok (.iadd, 1) := by decide +kernel
theorem dX4_append_62 : decode cX4_append 62 = .ok (.putfield 13, 3) := by decide +kernel
theorem dX4_append_65 : decode cX4_append 65 = .ok (.return_, 1) := by decide +kernel
theorem dX4_has_0 : decode cX4_has 0 = .ok (.iload_n 1, 1) := by decide +kernel
theorem dX4_has_1 : decode cX4_has 1 = .ok (.ifCond .lt 15, 3) := by decide +kernel
theorem dX4_has_4 : decode cX4_has 4 = .ok (.iload_n 1, 1) := by decide +kernel
theorem dX4_has_5 : decode cX4_has 5 = .ok (.aload_n 0, 1) := by decide +kernel
theorem dX4_has_6 : decode cX4_has 6 = .ok (.getfield 13, 3) := by decide +kernel
theorem dX4_has_9 : decode cX4_has 9 = .ok (.if_icmp .ge 7, 3) := by decide +kernel
theorem dX4_has_12 : decode cX4_has 12 = .ok (.iconst 1, 1) := by decide +kernel
theorem dX4_has_13 : decode cX4_has 13 = .ok (.goto 4, 3) := by decide +kernel
theorem dX4_has_16 : decode cX4_has 16 = .ok (.iconst 0, 1) := by decide +kernel
theorem dX4_has_17 : decode cX4_has 17 = .ok (.ireturn, 1) := by decide +kernel
theorem dX4_rowsOf_0 : decode cX4_rowsOf 0 = .ok (.aload_n 0, 1) := by decide +kernel
theorem dX4_rowsOf_1 : decode cX4_rowsOf 1 = .ok (.iload_n 1, 1) := by decide +kernel
theorem dX4_rowsOf_2 : decode cX4_rowsOf 2 = .ok (.invokevirtual 23, 3) := by decide +kernel
theorem dX4_rowsOf_5 : decode cX4_rowsOf 5 = .ok (.ifCond .eq 15, 3) := by decide +kernel
theorem dX4_rowsOf_8 : decode cX4_rowsOf 8 = .ok (.aload_n 0, 1) := by decide +kernel
theorem dX4_rowsOf_9 : decode cX4_rowsOf 9 = .ok (.getfield 9, 3) := by decide +kernel
theorem dX4_rowsOf_12 : decode cX4_rowsOf 12 = .ok (.iload_n 1, 1) := by decide +kernel
theorem dX4_rowsOf_13 : decode cX4_rowsOf 13 = .ok (.iaload, 1) := by decide +kernel
theorem dX4_rowsOf_14 : decode cX4_rowsOf 14 = .ok (.ldc 27, 2) := by decide +kernel
theorem dX4_rowsOf_16 : decode cX4_rowsOf 16 = .ok (.iand, 1) := by decide +kernel
theorem dX4_rowsOf_17 : decode cX4_rowsOf 17 = .ok (.goto 4, 3) := by decide +kernel
theorem dX4_rowsOf_20 : decode cX4_rowsOf 20 = .ok (.iconst 0, 1) := by decide +kernel
theorem dX4_rowsOf_21 : decode cX4_rowsOf 21 = .ok (.ireturn, 1) := by decide +kernel
theorem dX4_columnsOf_0 : decode cX4_columnsOf 0 = .ok (.aload_n 0, 1) := by decide +kernel
theorem dX4_columnsOf_1 : decode cX4_columnsOf 1 = .ok (.iload_n 1, 1) := by decide +kernel
theorem dX4_columnsOf_2 : decode cX4_columnsOf 2 = .ok (.invokevirtual 23, 3) := by decide +kernel
theorem dX4_columnsOf_5 : decode cX4_columnsOf 5 = .ok (.ifCond .eq 15, 3) := by decide +kernel
theorem dX4_columnsOf_8 : decode cX4_columnsOf 8 = .ok (.aload_n 0, 1) := by decide +kernel
theorem dX4_columnsOf_9 : decode cX4_columnsOf 9 = .ok (.getfield 9, 3) := by decide +kernel
theorem dX4_columnsOf_12 : decode cX4_columnsOf 12 = .ok (.iload_n 1, 1) := by decide +kernel
theorem dX4_columnsOf_13 : decode cX4_columnsOf 13 = .ok (.iaload, 1) := by decide +kernel
theorem dX4_columnsOf_14 : decode cX4_columnsOf 14 = .ok (.bipush 16, 2) := by decide +kernel
theorem dX4_columnsOf_16 : decode cX4_columnsOf 16 = .ok (.iushr, 1) := by decide +kernel
theorem dX4_columnsOf_17 : decode cX4_columnsOf 17 = .ok (.goto 4, 3) := by decide +kernel
theorem dX4_columnsOf_20 : decode cX4_columnsOf 20 = .ok (.iconst 0, 1) := by decide +kernel
theorem dX4_columnsOf_21 : decode cX4_columnsOf 21 = .ok (.ireturn, 1) := by decide +kernel
theorem dX4_withRows_0 : decode cX4_withRows 0 = .ok (.iconst 0, 1) := by decide +kernel
theorem dX4_withRows_1 : decode cX4_withRows 1 = .ok (.istore_n 2, 1) := by decide +kernel
theorem dX4_withRows_2 : decode cX4_withRows 2 = .ok (.sipush 16384, 3) := by decide +kernel
theorem dX4_withRows_5 : decode cX4_withRows 5 = .ok (.istore_n 3, 1) := by decide +kernel
theorem dX4_withRows_6 : decode cX4_withRows 6 = .ok (.iload_n 3, 1) := by decide +kernel
theorem dX4_withRows_7 : decode cX4_withRows 7 = .ok (.ifCond .le 35, 3) := by decide +kernel
theorem dX4_withRows_10 : decode cX4_withRows 10 = .ok (.iload_n 2, 1) := by decide +kernel
theorem dX4_withRows_11 : decode cX4_withRows 11 = .ok (.iload_n 3, 1) := by decide +kernel
theorem dX4_withRows_12 : decode cX4_withRows 12 = .ok (.iadd, 1) := by decide +kernel
theorem dX4_withRows_13 : decode cX4_withRows 13 = .ok (.aload_n 0, 1) := by decide +kernel
theorem dX4_withRows_14 : decode cX4_withRows 14 = .ok (.getfield 13, 3) := by decide +kernel
theorem dX4_withRows_17 : decode cX4_withRows 17 = .ok (.if_icmp .ge 18, 3) := by decide +kernel
theorem dX4_withRows_20 : decode cX4_withRows 20 = .ok (.aload_n 0, 1) := by decide +kernel
theorem dX4_withRows_21 : decode cX4_withRows 21 = .ok (.iload_n 2, 1) := by decide +kernel
theorem dX4_withRows_22 : decode cX4_withRows 22 = .ok (.iload_n 3, 1) := by decide +kernel
theorem dX4_withRows_23 : decode cX4_withRows 23 = .ok (.iadd, 1) := by decide +kernel
theorem dX4_withRows_24 : decode cX4_withRows 24 = .ok (.invokevirtual 28, 3) := by decide +kernel
theorem dX4_withRows_27 : decode cX4_withRows 27 = .ok (.iload_n 1, 1) := by decide +kernel
theorem dX4_withRows_28 : decode cX4_withRows 28 = .ok (.if_icmp .gt 7, 3) := by decide +kernel
theorem dX4_withRows_31 : decode cX4_withRows 31 = .ok (.iload_n 2, 1) := by decide +kernel
theorem dX4_withRows_32 : decode cX4_withRows 32 = .ok (.iload_n 3, 1) := by decide +kernel
theorem dX4_withRows_33 : decode cX4_withRows 33 = .ok (.iadd, 1) := by decide +kernel
theorem dX4_withRows_34 : decode cX4_withRows 34 = .ok (.istore_n 2, 1) := by decide +kernel
theorem dX4_withRows_35 : decode cX4_withRows 35 = .ok (.iload_n 3, 1) := by decide +kernel
theorem dX4_withRows_36 : decode cX4_withRows 36 = .ok (.iconst 2, 1) := by decide +kernel
theorem dX4_withRows_37 : decode cX4_withRows 37 = .ok (.idiv, 1) := by decide +kernel
theorem dX4_withRows_38 : decode cX4_withRows 38 = .ok (.istore_n 3, 1) := by decide +kernel
theorem dX4_withRows_39 : decode cX4_withRows 39 = .ok (.goto (-33), 3) := by decide +kernel
theorem dX4_withRows_42 : decode cX4_withRows 42 = .ok (.iload_n 2, 1) := by decide +kernel
theorem dX4_withRows_43 : decode cX4_withRows 43 = .ok (.ireturn, 1) := by decide +kernel
theorem dX5_init_0 : decode cX5_init 0 = .ok (.aload_n 0, 1) := by decide +kernel
theorem dX5_init_1 : decode cX5_init 1 = .ok (.invokespecial 3, 3) := by decide +kernel
theorem dX5_init_4 : decode cX5_init 4 = .ok (.aload_n 0, 1) := by decide +kernel
theorem dX5_init_5 : decode cX5_init 5 = .ok (.bipush 60, 2) := by decide +kernel
theorem dX5_init_7 : decode cX5_init 7 = .ok (.newarray .int, 2) := by decide +kernel
theorem dX5_init_9 : decode cX5_init 9 = .ok (.putfield 9, 3) := by decide +kernel
theorem dX5_init_12 : decode cX5_init 12 = .ok (.aload_n 0, 1) := by decide +kernel
theorem dX5_init_13 : decode cX5_init 13 = .ok (.iconst 0, 1) := by decide +kernel
theorem dX5_init_14 : decode cX5_init 14 = .ok (.putfield 15, 3) := by decide +kernel
theorem dX5_init_17 : decode cX5_init 17 = .ok (.return_, 1) := by decide +kernel
theorem dX5_size_0 : decode cX5_size 0 = .ok (.aload_n 0, 1) := by decide +kernel
theorem dX5_size_1 : decode cX5_size 1 = .ok (.getfield 15, 3) := by decide +kernel
theorem dX5_size_4 : decode cX5_size 4 = .ok (.ireturn, 1) := by decide +kernel
theorem dX5_append_0 : decode cX5_append 0 = .ok (.aload_n 0, 1) := by decide +kernel
theorem dX5_append_1 : decode cX5_append 1 = .ok (.getfield 15, 3) := by decide +kernel
theorem dX5_append_4 : decode cX5_append 4 = .ok (.bipush 60, 2) := by decide +kernel
theorem dX5_append_6 : decode cX5_append 6 = .ok (.if_icmp .ge 23, 3) := by decide +kernel
theorem dX5_append_9 : decode cX5_append 9 = .ok (.aload_n 0, 1) := by decide +kernel
theorem dX5_append_10 : decode cX5_append 10 = .ok (.getfield 9, 3) := by decide +kernel
theorem dX5_append_13 : decode cX5_append 13 = .ok (.aload_n 0, 1) := by decide +kernel
theorem dX5_append_14 : decode cX5_append 14 = .ok (.getfield 15, 3) := by decide +kernel
theorem dX5_append_17 : decode cX5_append 17 = .ok (.iload_n 1, 1) := by decide +kernel
theorem dX5_append_18 : decode cX5_append 18 = .ok (.iastore, 1) := by decide +kernel
theorem dX5_append_19 : decode cX5_append 19 = .ok (.aload_n 0, 1) := by decide +kernel
theorem dX5_append_20 : decode cX5_append 20 = .ok (.dup, 1) := by decide +kernel
theorem dX5_append_21 : decode cX5_append 21 = .ok (.getfield 15, 3) := by decide +kernel
theorem dX5_append_24 : decode cX5_append 24 = .ok (.iconst 1, 1) := by decide +kernel
theorem dX5_append_25 : decode cX5_append 25 = .ok (.iadd, 1) := by decide +kernel
theorem dX5_append_26 : decode cX5_append 26 = .ok (.putfield 15, 3) := by decide +kernel
theorem dX5_append_29 : decode cX5_append 29 = .ok (.return_, 1) := by decide +kernel
theorem dX5_clear_0 : decode cX5_clear 0 = .ok (.aload_n 0, 1) := by decide +kernel
theorem dX5_clear_1 : decode cX5_clear 1 = .ok (.iconst 0, 1) := by decide +kernel
theorem dX5_clear_2 : decode cX5_clear 2 = .ok (.putfield 15, 3) := by decide +kernel
theorem dX5_clear_5 : decode cX5_clear 5 = .ok (.return_, 1) := by decide +kernel
theorem dX5_codeAt_0 : decode cX5_codeAt 0 = .ok (.iload_n 1, 1) := by decide +kernel
theorem dX5_codeAt_1 : decode cX5_codeAt 1 = .ok (.ifCond .lt 20, 3) := by decide +kernel
theorem dX5_codeAt_4 : decode cX5_codeAt 4 = .ok (.iload_n 1, 1) := by decide +kernel
theorem dX5_codeAt_5 : decode cX5_codeAt 5 = .ok (.aload_n 0, 1) := by decide +kernel
theorem dX5_codeAt_6 : decode cX5_codeAt 6 = .ok (.getfield 15, 3) := by decide +kernel
theorem dX5_codeAt_9 : decode cX5_codeAt 9 = .ok (.if_icmp .ge 12, 3) := by decide +kernel
theorem dX5_codeAt_12 : decode cX5_codeAt 12 = .ok (.aload_n 0, 1) := by decide +kernel
theorem dX5_codeAt_13 : decode cX5_codeAt 13 = .ok (.getfield 9, 3) := by decide +kernel
theorem dX5_codeAt_16 : decode cX5_codeAt 16 = .ok (.iload_n 1, 1) := by decide +kernel
theorem dX5_codeAt_17 : decode cX5_codeAt 17 = .ok (.iaload, 1) := by decide +kernel
theorem dX5_codeAt_18 : decode cX5_codeAt 18 = .ok (.goto 4, 3) := by decide +kernel
theorem dX5_codeAt_21 : decode cX5_codeAt 21 = .ok (.iconst 0, 1) := by decide +kernel
theorem dX5_codeAt_22 : decode cX5_codeAt 22 = .ok (.ireturn, 1) := by decide +kernel
theorem dX5_firstFault_0 : decode cX5_firstFault 0 = .ok (.iconst 0, 1) := by decide +kernel
theorem dX5_firstFault_1 : decode cX5_firstFault 1 = .ok (.istore_n 1, 1) := by decide +kernel
theorem dX5_firstFault_2 : decode cX5_firstFault 2 = .ok (.iconst 0, 1) := by decide +kernel
theorem dX5_firstFault_3 : decode cX5_firstFault 3 = .ok (.istore_n 2, 1) := by decide +kernel
theorem dX5_firstFault_4 : decode cX5_firstFault 4 = .ok (.iconst 1, 1) := by decide +kernel
theorem dX5_firstFault_5 : decode cX5_firstFault 5 = .ok (.istore_n 3, 1) := by decide +kernel
theorem dX5_firstFault_6 : decode cX5_firstFault 6 = .ok (.iconst 0, 1) := by decide +kernel
theorem dX5_firstFault_7 : decode cX5_firstFault 7 = .ok (.istore 4, 2) := by decide +kernel
theorem dX5_firstFault_9 : decode cX5_firstFault 9 = .ok (.iload 4, 2) := by decide +kernel
theorem dX5_firstFault_11 : decode cX5_firstFault 11 = .ok (.aload_n 0, 1) := by decide +kernel
theorem dX5_firstFault_12 : decode cX5_firstFault 12 = .ok (.getfield 15, 3) := by decide +kernel
theorem dX5_firstFault_15 : decode cX5_firstFault 15 = .ok (.if_icmp .ge 136, 3) := by decide +kernel
theorem dX5_firstFault_18 : decode cX5_firstFault 18 = .ok (.iload 4, 2) := by decide +kernel
theorem dX5_firstFault_20 : decode cX5_firstFault 20 = .ok (.iload_n 2, 1) := by decide +kernel
theorem dX5_firstFault_21 : decode cX5_firstFault 21 = .ok (.isub, 1) := by decide +kernel
theorem dX5_firstFault_22 : decode cX5_firstFault 22 = .ok (.istore 5, 2) := by decide +kernel
theorem dX5_firstFault_24 : decode cX5_firstFault 24 = .ok (.aload_n 0, 1) := by decide +kernel
theorem dX5_firstFault_25 : decode cX5_firstFault 25 = .ok (.getfield 9, 3) := by decide +kernel
theorem dX5_firstFault_28 : decode cX5_firstFault 28 = .ok (.iload 4, 2) := by decide +kernel
theorem dX5_firstFault_30 : decode cX5_firstFault 30 = .ok (.iaload, 1) := by decide +kernel
theorem dX5_firstFault_31 : decode cX5_firstFault 31 = .ok (.bipush 44, 2) := by decide +kernel
theorem dX5_firstFault_33 : decode cX5_firstFault 33 = .ok (.if_icmp .ne 62, 3) := by decide +kernel
theorem dX5_firstFault_36 : decode cX5_firstFault 36 = .ok (.iload_n 1, 1) := by decide +kernel
theorem dX5_firstFault_37 : decode cX5_firstFault 37 = .ok (.ifCond .ne 17, 3) := by decide +kernel
theorem dX5_firstFault_40 : decode cX5_firstFault 40 = .ok (.iload 5, 2) := by decide +kernel
theorem dX5_firstFault_42 : decode cX5_firstFault 42 = .ok (.iconst 2, 1) := by decide +kernel
theorem dX5_firstFault_43 : decode cX5_firstFault 43 = .ok (.if_icmp .lt 7, 3) := by decide +kernel
theorem dX5_firstFault_46 : decode cX5_firstFault 46 = .ok (.iconst 1, 1) := by decide +kernel
theorem dX5_firstFault_47 : decode cX5_firstFault 47 = .ok (.goto 18, 3) := by decide +kernel
theorem dX5_firstFault_50 : decode cX5_firstFault 50 = .ok (.iconst 0, 1) := by decide +kernel
theorem dX5_firstFault_51 : decode cX5_firstFault 51 = .ok (.goto 14, 3) := by decide +kernel
theorem dX5_firstFault_54 : decode cX5_firstFault 54 = .ok (.iload 5, 2) := by decide +kernel
theorem dX5_firstFault_56 : decode cX5_firstFault 56 = .ok (.iload_n 1, 1) := by decide +kernel
theorem dX5_firstFault_57 : decode cX5_firstFault 57 = .ok (.if_icmp .ne 7, 3) := by decide +kernel
theorem dX5_firstFault_60 : decode cX5_firstFault 60 = .ok (.iconst 1, 1) := by decide +kernel
theorem dX5_firstFault_61 : decode cX5_firstFault 61 = .ok (.goto 4, 3) := by decide +kernel
theorem dX5_firstFault_64 : decode cX5_firstFault 64 = .ok (.iconst 0, 1) := by decide +kernel
theorem dX5_firstFault_65 : decode cX5_firstFault 65 = .ok (.istore 6, 2) := by decide +kernel
theorem dX5_firstFault_67 : decode cX5_firstFault 67 = .ok (.iload 6, 2) := by decide +kernel
theorem dX5_firstFault_69 : decode cX5_firstFault 69 = .ok (.ifCond .eq 9, 3) := by decide +kernel
theorem dX5_firstFault_72 : decode cX5_firstFault 72 = .ok (.iload_n 3, 1) := by decide +kernel
theorem dX5_firstFault_73 : decode cX5_firstFault 73 = .ok (.bipush 12, 2) := by decide +kernel
theorem dX5_firstFault_75 : decode cX5_firstFault 75 = .ok (.if_icmp .ne 6, 3) := by decide +kernel
theorem dX5_firstFault_78 : decode cX5_firstFault 78 = .ok (.iload 4, 2) := by decide +kernel
theorem dX5_firstFault_80 : decode cX5_firstFault 80 = .ok (.ireturn, 1) := by decide +kernel
theorem dX5_firstFault_81 : decode cX5_firstFault 81 = .ok (.iload 5, 2) := by decide +kernel
theorem dX5_firstFault_83 : decode cX5_firstFault 83 = .ok (.istore_n 1, 1) := by decide +kernel
theorem dX5_firstFault_84 : decode cX5_firstFault 84 = .ok (.iload 4, 2) := by decide +kernel
theorem dX5_firstFault_86 : decode cX5_firstFault 86 = .ok (.iconst 1, 1) := by decide +kernel
theorem dX5_firstFault_87 : decode cX5_firstFault 87 = .ok (.iadd, 1) := by decide +kernel
theorem dX5_firstFault_88 : decode cX5_firstFault 88 = .ok (.istore_n 2, 1) := by decide +kernel
theorem dX5_firstFault_89 : decode cX5_firstFault 89 = .ok (.iinc 3 1, 3) := by decide +kernel
theorem dX5_firstFault_92 : decode cX5_firstFault 92 = .ok (.goto 53, 3) := by decide +kernel
theorem dX5_firstFault_95 : decode cX5_firstFault 95 = .ok (.aload_n 0, 1) := by decide +kernel
theorem dX5_firstFault_96 : decode cX5_firstFault 96 = .ok (.getfield 9, 3) := by decide +kernel
theorem dX5_firstFault_99 : decode cX5_firstFault 99 = .ok (.iload 4, 2) := by decide +kernel
theorem dX5_firstFault_101 : decode cX5_firstFault 101 = .ok (.iaload, 1) := by decide +kernel
theorem dX5_firstFault_102 : decode cX5_firstFault 102 = .ok (.invokestatic 19, 3) := by decide +kernel
theorem dX5_firstFault_105 : decode cX5_firstFault 105 = .ok (.ifCond .eq 17, 3) := by decide +kernel
theorem dX5_firstFault_108 : decode cX5_firstFault 108 = .ok (.iload 5, 2) := by decide +kernel
theorem dX5_firstFault_110 : decode cX5_firstFault 110 = .ok (.iload_n 1, 1) := by decide +kernel
theorem dX5_firstFault_111 : decode cX5_firstFault 111 = .ok (.ifCond .ne 7, 3) := by decide +kernel
theorem dX5_firstFault_114 : decode cX5_firstFault 114 = .ok (.iconst 4, 1) := by decide +kernel
theorem dX5_firstFault_115 : decode cX5_firstFault 115 = .ok (.goto 4, 3) := by decide +kernel
theorem dX5_firstFault_118 : decode cX5_firstFault 118 = .ok (.iload_n 1, 1) := by decide +kernel
theorem dX5_firstFault_119 : decode cX5_firstFault 119 = .ok (.if_icmp .lt 6, 3) := by decide +kernel
theorem dX5_firstFault_122 : decode cX5_firstFault 122 = .ok (.iload 4, 2) := by decide +kernel
theorem dX5_firstFault_124 : decode cX5_firstFault 124 = .ok (.ireturn, 1) := by decide +kernel
theorem dX5_firstFault_125 : decode cX5_firstFault 125 = .ok (.iload 5, 2) := by decide +kernel
theorem dX5_firstFault_127 : decode cX5_firstFault 127 = .ok (.iload_n 1, 1) := by decide +kernel
theorem dX5_firstFault_128 : decode cX5_firstFault 128 = .ok (.iconst 1, 1) := by decide +kernel
theorem dX5_firstFault_129 : decode cX5_firstFault 129 = .ok (.isub, 1) := by decide +kernel
theorem dX5_firstFault_130 : decode cX5_firstFault 130 = .ok (.if_icmp .ne 15, 3) := by decide +kernel
theorem dX5_firstFault_133 : decode cX5_firstFault 133 = .ok (.aload_n 0, 1) := by decide +kernel
theorem dX5_firstFault_134 : decode cX5_firstFault 134 = .ok (.iload_n 2, 1) := by decide +kernel
theorem dX5_firstFault_135 : decode cX5_firstFault 135 = .ok (.iload_n 1, 1) := by decide +kernel
theorem dX5_firstFault_136 : decode cX5_firstFault 136 = .ok (.invokevirtual 23, 3) := by decide +kernel
theorem dX5_firstFault_139 : decode cX5_firstFault 139 = .ok (.ifCond .eq 6, 3) := by decide +kernel
theorem dX5_firstFault_142 : decode cX5_firstFault 142 = .ok (.iload 4, 2) := by decide +kernel
theorem dX5_firstFault_144 : decode cX5_firstFault 144 = .ok (.ireturn, 1) := by decide +kernel
theorem dX5_firstFault_145 : decode cX5_firstFault 145 = .ok (.iinc 4 1, 3) := by decide +kernel
theorem dX5_firstFault_148 : decode cX5_firstFault 148 = .ok (.goto (-139), 3) := by decide +kernel
theorem dX5_firstFault_151 : decode cX5_firstFault 151 = .ok (.aload_n 0, 1) := by decide +kernel
theorem dX5_firstFault_152 : decode cX5_firstFault 152 = .ok (.getfield 15, 3) := by decide +kernel
theorem dX5_firstFault_155 : decode cX5_firstFault 155 = .ok (.ireturn, 1) := by decide +kernel
theorem dX5_isLetter_0 : decode cX5_isLetter 0 = .ok (.iload_n 0, 1) := by decide +kernel
theorem dX5_isLetter_1 : decode cX5_isLetter 1 = .ok (.bipush 97, 2) := by decide +kernel
theorem dX5_isLetter_3 : decode cX5_isLetter 3 = .ok (.if_icmp .lt 13, 3) := by decide +kernel
theorem dX5_isLetter_6 : decode cX5_isLetter 6 = .ok (.iload_n 0, 1) := by decide +kernel
theorem dX5_isLetter_7 : decode cX5_isLetter 7 = .ok (.bipush 122, 2) := by decide +kernel
theorem dX5_isLetter_9 : decode cX5_isLetter 9 = .ok (.if_icmp .gt 7, 3) := by decide +kernel
theorem dX5_isLetter_12 : decode cX5_isLetter 12 = .ok (.iconst 1, 1) := by decide +kernel
theorem dX5_isLetter_13 : decode cX5_isLetter 13 = .ok (.goto 4, 3) := by decide +kernel
theorem dX5_isLetter_16 : decode cX5_isLetter 16 = .ok (.iconst 0, 1) := by decide +kernel
theorem dX5_isLetter_17 : decode cX5_isLetter 17 = .ok (.ireturn, 1) := by decide +kernel
theorem dX5_repeats_0 : decode cX5_repeats 0 = .ok (.iconst 0, 1) := by decide +kernel
theorem dX5_repeats_1 : decode cX5_repeats 1 = .ok (.istore_n 3, 1) := by decide +kernel
theorem dX5_repeats_2 : decode cX5_repeats 2 = .ok (.iload_n 3, 1) := by decide +kernel
theorem dX5_repeats_3 : decode cX5_repeats 3 = .ok (.iload_n 1, 1) := by decide +kernel
theorem dX5_repeats_4 : decode cX5_repeats 4 = .ok (.if_icmp .ge 24, 3) := by decide +kernel
theorem dX5_repeats_7 : decode cX5_repeats 7 = .ok (.aload_n 0, 1) := by decide +kernel
theorem dX5_repeats_8 : decode cX5_repeats 8 = .ok (.iload_n 3, 1) := by decide +kernel
theorem dX5_repeats_9 : decode cX5_repeats 9 = .ok (.iload_n 1, 1) := by decide +kernel
theorem dX5_repeats_10 : decode cX5_repeats 10 = .ok (.iload_n 2, 1) := by decide +kernel
theorem dX5_repeats_11 : decode cX5_repeats 11 = .ok (.invokevirtual 27, 3) := by decide +kernel
theorem dX5_repeats_14 : decode cX5_repeats 14 = .ok (.ifCond .eq 5, 3) := by decide +kernel
theorem dX5_repeats_17 : decode cX5_repeats 17 = .ok (.iconst 1, 1) := by decide +kernel
theorem dX5_repeats_18 : decode cX5_repeats 18 = .ok (.ireturn, 1) := by decide +kernel
theorem dX5_repeats_19 : decode cX5_repeats 19 = .ok (.iload_n 3, 1) := by decide +kernel
theorem dX5_repeats_20 : decode cX5_repeats 20 = .ok (.iload_n 2, 1) := by decide +kernel
theorem dX5_repeats_21 : decode cX5_repeats 21 = .ok (.iconst 1, 1) := by decide +kernel
theorem dX5_repeats_22 : decode cX5_repeats 22 = .ok (.iadd, 1) := by decide +kernel
theorem dX5_repeats_23 : decode cX5_repeats 23 = .ok (.iadd, 1) := by decide +kernel
theorem dX5_repeats_24 : decode cX5_repeats 24 = .ok (.istore_n 3, 1) := by decide +kernel
theorem dX5_repeats_25 : decode cX5_repeats 25 = .ok (.goto (-23), 3) := by decide +kernel
theorem dX5_repeats_28 : decode cX5_repeats 28 = .ok (.iconst 0, 1) := by decide +kernel
theorem dX5_repeats_29 : decode cX5_repeats 29 = .ok (.ireturn, 1) := by decide +kernel
theorem dX5_sameWord_0 : decode cX5_sameWord 0 = .ok (.iconst 0, 1) := by decide +kernel
theorem dX5_sameWord_1 : decode cX5_sameWord 1 = .ok (.istore 4, 2) := by decide +kernel
theorem dX5_sameWord_3 : decode cX5_sameWord 3 = .ok (.iload 4, 2) := by decide +kernel
theorem dX5_sameWord_5 : decode cX5_sameWord 5 = .ok (.iload_n 3, 1) := by decide +kernel
theorem dX5_sameWord_6 : decode cX5_sameWord 6 = .ok (.if_icmp .ge 30, 3) := by decide +kernel
theorem dX5_sameWord_9 : decode cX5_sameWord 9 = .ok (.aload_n 0, 1) := by decide +kernel
theorem dX5_sameWord_10 : decode cX5_sameWord 10 = .ok (.iload_n 1, 1) := by decide +kernel
theorem dX5_sameWord_11 : decode cX5_sameWord 11 = .ok (.iload 4, 2) := by decide +kernel
theorem dX5_sameWord_13 : decode cX5_sameWord 13 = .ok (.iadd, 1) := by decide +kernel
theorem dX5_sameWord_14 : decode cX5_sameWord 14 = .ok (.invokevirtual 31, 3) := by decide +kernel
theorem dX5_sameWord_17 : decode cX5_sameWord 17 = .ok (.aload_n 0, 1) := by decide +kernel
theorem dX5_sameWord_18 : decode cX5_sameWord 18 = .ok (.iload_n 2, 1) := by decide +kernel
theorem dX5_sameWord_19 : decode cX5_sameWord 19 = .ok (.iload 4, 2) := by decide +kernel
theorem dX5_sameWord_21 : decode cX5_sameWord 21 = .ok (.iadd, 1) := by decide +kernel
theorem dX5_sameWord_22 : decode cX5_sameWord 22 = .ok (.invokevirtual 31, 3) := by decide +kernel
theorem dX5_sameWord_25 : decode cX5_sameWord 25 = .ok (.if_icmp .eq 5, 3) := by decide +kernel
theorem dX5_sameWord_28 : decode cX5_sameWord 28 = .ok (.iconst 0, 1) := by decide +kernel
theorem dX5_sameWord_29 : decode cX5_sameWord 29 = .ok (.ireturn, 1) := by decide +kernel
theorem dX5_sameWord_30 : decode cX5_sameWord 30 = .ok (.iinc 4 1, 3) := by decide +kernel
theorem dX5_sameWord_33 : decode cX5_sameWord 33 = .ok (.goto (-30), 3) := by decide +kernel
theorem dX5_sameWord_36 : decode cX5_sameWord 36 = .ok (.iconst 1, 1) := by decide +kernel
theorem dX5_sameWord_37 : decode cX5_sameWord 37 = .ok (.ireturn, 1) := by decide +kernel
theorem dX5_lengthOfWords_0 : decode cX5_lengthOfWords 0 = .ok (.aload_n 0, 1) := by decide +kernel
theorem dX5_lengthOfWords_1 : decode cX5_lengthOfWords 1 = .ok (.invokevirtual 35, 3) := by decide +kernel
theorem dX5_lengthOfWords_4 : decode cX5_lengthOfWords 4 = .ok (.aload_n 0, 1) := by decide +kernel
theorem dX5_lengthOfWords_5 : decode cX5_lengthOfWords 5 = .ok (.getfield 15, 3) := by decide +kernel
theorem dX5_lengthOfWords_8 : decode cX5_lengthOfWords 8 = .ok (.if_icmp .ge 5, 3) := by decide +kernel
theorem dX5_lengthOfWords_11 : decode cX5_lengthOfWords 11 = .ok (.iconst 0, 1) := by decide +kernel
theorem dX5_lengthOfWords_12 : decode cX5_lengthOfWords 12 = .ok (.ireturn, 1) := by decide +kernel
theorem dX5_lengthOfWords_13 : decode cX5_lengthOfWords 13 = .ok (.aload_n 0, 1) := by decide +kernel
theorem dX5_lengthOfWords_14 : decode cX5_lengthOfWords 14 = .ok (.invokevirtual 39, 3) := by decide +kernel
theorem dX5_lengthOfWords_17 : decode cX5_lengthOfWords 17 = .ok (.istore_n 1, 1) := by decide +kernel
theorem dX5_lengthOfWords_18 : decode cX5_lengthOfWords 18 = .ok (.iload_n 1, 1) := by decide +kernel
theorem dX5_lengthOfWords_19 : decode cX5_lengthOfWords 19 = .ok (.iconst 2, 1) := by decide +kernel
theorem dX5_lengthOfWords_20 : decode cX5_lengthOfWords 20 = .ok (.if_icmp .lt 16, 3) := by decide +kernel
theorem dX5_lengthOfWords_23 : decode cX5_lengthOfWords 23 = .ok (.aload_n 0, 1) := by decide +kernel
theorem dX5_lengthOfWords_24 : decode cX5_lengthOfWords 24 = .ok (.getfield 15, 3) := by decide +kernel
theorem dX5_lengthOfWords_27 : decode cX5_lengthOfWords 27 = .ok (.iconst 1, 1) := by decide +kernel
theorem dX5_lengthOfWords_28 : decode cX5_lengthOfWords 28 = .ok (.iadd, 1) := by decide +kernel
theorem dX5_lengthOfWords_29 : decode cX5_lengthOfWords 29 = .ok (.iload_n 1, 1) := by decide +kernel
theorem dX5_lengthOfWords_30 : decode cX5_lengthOfWords 30 = .ok (.iconst 1, 1) := by decide +kernel
theorem dX5_lengthOfWords_31 : decode cX5_lengthOfWords 31 = .ok (.iadd, 1) := by decide +kernel
theorem dX5_lengthOfWords_32 : decode cX5_lengthOfWords 32 = .ok (.irem, 1) := by decide +kernel
theorem dX5_lengthOfWords_33 : decode cX5_lengthOfWords 33 = .ok (.ifCond .eq 5, 3) := by decide +kernel
theorem dX5_lengthOfWords_36 : decode cX5_lengthOfWords 36 = .ok (.iconst 0, 1) := by decide +kernel
theorem dX5_lengthOfWords_37 : decode cX5_lengthOfWords 37 = .ok (.ireturn, 1) := by decide +kernel
theorem dX5_lengthOfWords_38 : decode cX5_lengthOfWords 38 = .ok (.iload_n 1, 1) := by decide +kernel
theorem dX5_lengthOfWords_39 : decode cX5_lengthOfWords 39 = .ok (.ireturn, 1) := by decide +kernel
theorem dX5_firstComma_0 : decode cX5_firstComma 0 = .ok (.iconst 0, 1) := by decide +kernel
theorem dX5_firstComma_1 : decode cX5_firstComma 1 = .ok (.istore_n 1, 1) := by decide +kernel
theorem dX5_firstComma_2 : decode cX5_firstComma 2 = .ok (.iload_n 1, 1) := by decide +kernel
theorem dX5_firstComma_3 : decode cX5_firstComma 3 = .ok (.aload_n 0, 1) := by decide +kernel
theorem dX5_firstComma_4 : decode cX5_firstComma 4 = .ok (.getfield 15, 3) := by decide +kernel
theorem dX5_firstComma_7 : decode cX5_firstComma 7 = .ok (.if_icmp .ge 22, 3) := by decide +kernel
theorem dX5_firstComma_10 : decode cX5_firstComma 10 = .ok (.aload_n 0, 1) := by decide +kernel
theorem dX5_firstComma_11 : decode cX5_firstComma 11 = .ok (.getfield 9, 3) := by decide +kernel
theorem dX5_firstComma_14 : decode cX5_firstComma 14 = .ok (.iload_n 1, 1) := by decide +kernel
theorem dX5_firstComma_15 : decode cX5_firstComma 15 = .ok (.iaload, 1) := by decide +kernel
theorem dX5_firstComma_16 : decode cX5_firstComma 16 = .ok (.bipush 44, 2) := by decide +kernel
theorem dX5_firstComma_18 : decode cX5_firstComma 18 = .ok (.if_icmp .ne 5, 3) := by decide +kernel
theorem dX5_firstComma_21 : decode cX5_firstComma 21 = .ok (.iload_n 1, 1) := by decide +kernel
theorem dX5_firstComma_22 : decode cX5_firstComma 22 = .ok (.ireturn, 1) := by decide +kernel
theorem dX5_firstComma_23 : decode cX5_firstComma 23 = .ok (.iinc 1 1, 3) := by decide +kernel
theorem dX5_firstComma_26 : decode cX5_firstComma 26 = .ok (.goto (-24), 3) := by decide +kernel
theorem dX5_firstComma_29 : decode cX5_firstComma 29 = .ok (.aload_n 0, 1) := by decide +kernel
theorem dX5_firstComma_30 : decode cX5_firstComma 30 = .ok (.getfield 15, 3) := by decide +kernel
theorem dX5_firstComma_33 : decode cX5_firstComma 33 = .ok (.ireturn, 1) := by decide +kernel
theorem dX5_numberOfWords_0 : decode cX5_numberOfWords 0 = .ok (.iload_n 1, 1) := by decide +kernel
theorem dX5_numberOfWords_1 : decode cX5_numberOfWords 1 = .ok (.iconst 2, 1) := by decide +kernel
theorem dX5_numberOfWords_2 : decode cX5_numberOfWords 2 = .ok (.if_icmp .ge 7, 3) := by decide +kernel
theorem dX5_numberOfWords_5 : decode cX5_numberOfWords 5 = .ok (.iconst 0, 1) := by decide +kernel
theorem dX5_numberOfWords_6 : decode cX5_numberOfWords 6 = .ok (.goto 13, 3) := by decide +kernel
theorem dX5_numberOfWords_9 : decode cX5_numberOfWords 9 = .ok (.aload_n 0, 1) := by decide +kernel
theorem dX5_numberOfWords_10 : decode cX5_numberOfWords 10 = .ok (.getfield 15, 3) := by decide +kernel
theorem dX5_numberOfWords_13 : decode cX5_numberOfWords 13 = .ok (.iconst 1, 1) := by decide +kernel
theorem dX5_numberOfWords_14 : decode cX5_numberOfWords 14 = .ok (.iadd, 1) := by decide +kernel
theorem dX5_numberOfWords_15 : decode cX5_numberOfWords 15 = .ok (.iload_n 1, 1) := by decide +kernel
theorem dX5_numberOfWords_16 : decode cX5_numberOfWords 16 = .ok (.iconst 1, 1) := by decide +kernel
theorem dX5_numberOfWords_17 : decode cX5_numberOfWords 17 = .ok (.iadd, 1) := by decide +kernel
theorem dX5_numberOfWords_18 : decode cX5_numberOfWords 18 = .ok (.idiv, 1) := by decide +kernel
theorem dX5_numberOfWords_19 : decode cX5_numberOfWords 19 = .ok (.ireturn, 1) := by decide +kernel
theorem dX5_codeOf_0 : decode cX5_codeOf 0 = .ok (.iload_n 1, 1) := by decide +kernel
theorem dX5_codeOf_1 : decode cX5_codeOf 1 = .ok (.iload_n 2, 1) := by decide +kernel
theorem dX5_codeOf_2 : decode cX5_codeOf 2 = .ok (.iconst 1, 1) := by decide +kernel
theorem dX5_codeOf_3 : decode cX5_codeOf 3 = .ok (.iadd, 1) := by decide +kernel
theorem dX5_codeOf_4 : decode cX5_codeOf 4 = .ok (.imul, 1) := by decide +kernel
theorem dX5_codeOf_5 : decode cX5_codeOf 5 = .ok (.istore_n 3, 1) := by decide +kernel
theorem dX5_codeOf_6 : decode cX5_codeOf 6 = .ok (.iconst 0, 1) := by decide +kernel
theorem dX5_codeOf_7 : decode cX5_codeOf 7 = .ok (.istore 4, 2) := by decide +kernel
theorem dX5_codeOf_9 : decode cX5_codeOf 9 = .ok (.iconst 0, 1) := by decide +kernel
theorem dX5_codeOf_10 : decode cX5_codeOf 10 = .ok (.istore 5, 2) := by decide +kernel
theorem dX5_codeOf_12 : decode cX5_codeOf 12 = .ok (.iload 5, 2) := by decide +kernel
theorem dX5_codeOf_14 : decode cX5_codeOf 14 = .ok (.iload_n 2, 1) := by decide +kernel
theorem dX5_codeOf_15 : decode cX5_codeOf 15 = .ok (.if_icmp .ge 30, 3) := by decide +kernel
theorem dX5_codeOf_18 : decode cX5_codeOf 18 = .ok (.iload 4, 2) := by decide +kernel
theorem dX5_codeOf_20 : decode cX5_codeOf 20 = .ok (.iconst 5, 1) := by decide +kernel
theorem dX5_codeOf_21 : decode cX5_codeOf 21 = .ok (.ishl, 1) := by decide +kernel
theorem dX5_codeOf_22 : decode cX5_codeOf 22 = .ok (.aload_n 0, 1) := by decide +kernel
theorem dX5_codeOf_23 : decode cX5_codeOf 23 = .ok (.iload_n 3, 1) := by decide +kernel
theorem dX5_codeOf_24 : decode cX5_codeOf 24 = .ok (.iload 5, 2) := by decide +kernel
theorem dX5_codeOf_26 : decode cX5_codeOf 26 = .ok (.iadd, 1) := by decide +kernel
theorem dX5_codeOf_27 : decode cX5_codeOf 27 = .ok (.invokevirtual 31, 3) := by decide +kernel
theorem dX5_codeOf_30 : decode cX5_codeOf 30 = .ok (.bipush 97, 2) := by decide +kernel
theorem dX5_codeOf_32 : decode cX5_codeOf 32 = .ok (.isub, 1) := by decide +kernel
theorem dX5_codeOf_33 : decode cX5_codeOf 33 = .ok (.bipush 31, 2) := by decide +kernel
theorem dX5_codeOf_35 : decode cX5_codeOf 35 = .ok (.iand, 1) := by decide +kernel
theorem dX5_codeOf_36 : decode cX5_codeOf 36 = .ok (.ior, 1) := by decide +kernel
theorem dX5_codeOf_37 : decode cX5_codeOf 37 = .ok (.istore 4, 2) := by decide +kernel
theorem dX5_codeOf_39 : decode cX5_codeOf 39 = .ok (.iinc 5 1, 3) := by decide +kernel
theorem dX5_codeOf_42 : decode cX5_codeOf 42 = .ok (.goto (-30), 3) := by decide +kernel
theorem dX5_codeOf_45 : decode cX5_codeOf 45 = .ok (.iload 4, 2) := by decide +kernel
theorem dX5_codeOf_47 : decode cX5_codeOf 47 = .ok (.ireturn, 1) := by decide +kernel
theorem dX6_init_0 : decode cX6_init 0 = .ok (.aload_n 0, 1) := by decide +kernel
theorem dX6_init_1 : decode cX6_init 1 = .ok (.invokespecial 3, 3) := by decide +kernel
theorem dX6_init_4 : decode cX6_init 4 = .ok (.aload_n 0, 1) := by decide +kernel
theorem dX6_init_5 : decode cX6_init 5 = .ok (.bipush 16, 2) := by decide +kernel
theorem dX6_init_7 : decode cX6_init 7 = .ok (.newarray .int, 2) := by decide +kernel
theorem dX6_init_9 : decode cX6_init 9 = .ok (.putfield 9, 3) := by decide +kernel
theorem dX6_init_12 : decode cX6_init 12 = .ok (.aload_n 0, 1) := by decide +kernel
theorem dX6_init_13 : decode cX6_init 13 = .ok (.bipush 16, 2) := by decide +kernel
theorem dX6_init_15 : decode cX6_init 15 = .ok (.newarray .int, 2) := by decide +kernel
theorem dX6_init_17 : decode cX6_init 17 = .ok (.putfield 15, 3) := by decide +kernel
theorem dX6_init_20 : decode cX6_init 20 = .ok (.aload_n 0, 1) := by decide +kernel
theorem dX6_init_21 : decode cX6_init 21 = .ok (.iconst 0, 1) := by decide +kernel
theorem dX6_init_22 : decode cX6_init 22 = .ok (.putfield 18, 3) := by decide +kernel
theorem dX6_init_25 : decode cX6_init 25 = .ok (.aload_n 0, 1) := by decide +kernel
theorem dX6_init_26 : decode cX6_init 26 = .ok (.iconst 0, 1) := by decide +kernel
theorem dX6_init_27 : decode cX6_init 27 = .ok (.putfield 22, 3) := by decide +kernel
theorem dX6_init_30 : decode cX6_init 30 = .ok (.return_, 1) := by decide +kernel
theorem dX6_size_0 : decode cX6_size 0 = .ok (.aload_n 0, 1) := by decide +kernel
theorem dX6_size_1 : decode cX6_size 1 = .ok (.getfield 18, 3) := by decide +kernel
theorem dX6_size_4 : decode cX6_size 4 = .ok (.ireturn, 1) := by decide +kernel
theorem dX6_length_0 : decode cX6_length 0 = .ok (.aload_n 0, 1) := by decide +kernel
theorem dX6_length_1 : decode cX6_length 1 = .ok (.getfield 22, 3) := by decide +kernel
theorem dX6_length_4 : decode cX6_length 4 = .ok (.ireturn, 1) := by decide +kernel
theorem dX6_has_0 : decode cX6_has 0 = .ok (.iload_n 1, 1) := by decide +kernel
theorem dX6_has_1 : decode cX6_has 1 = .ok (.ifCond .lt 15, 3) := by decide +kernel
theorem dX6_has_4 : decode cX6_has 4 = .ok (.iload_n 1, 1) := by decide +kernel
theorem dX6_has_5 : decode cX6_has 5 = .ok (.aload_n 0, 1) := by decide +kernel
theorem dX6_has_6 : decode cX6_has 6 = .ok (.getfield 18, 3) := by decide +kernel
theorem dX6_has_9 : decode cX6_has 9 = .ok (.if_icmp .ge 7, 3) := by decide +kernel
theorem dX6_has_12 : decode cX6_has 12 = .ok (.iconst 1, 1) := by decide +kernel
theorem dX6_has_13 : decode cX6_has 13 = .ok (.goto 4, 3) := by decide +kernel
theorem dX6_has_16 : decode cX6_has 16 = .ok (.iconst 0, 1) := by decide +kernel
theorem dX6_has_17 : decode cX6_has 17 = .ok (.ireturn, 1) := by decide +kernel
theorem dX6_hasPlace_0 : decode cX6_hasPlace 0 = .ok (.iload_n 1, 1) := by decide +kernel
theorem dX6_hasPlace_1 : decode cX6_hasPlace 1 = .ok (.ifCond .lt 15, 3) := by decide +kernel
theorem dX6_hasPlace_4 : decode cX6_hasPlace 4 = .ok (.iload_n 1, 1) := by decide +kernel
theorem dX6_hasPlace_5 : decode cX6_hasPlace 5 = .ok (.aload_n 0, 1) := by decide +kernel
theorem dX6_hasPlace_6 : decode cX6_hasPlace 6 = .ok (.getfield 22, 3) := by decide +kernel
theorem dX6_hasPlace_9 : decode cX6_hasPlace 9 = .ok (.if_icmp .ge 7, 3) := by decide +kernel
theorem dX6_hasPlace_12 : decode cX6_hasPlace 12 = .ok (.iconst 1, 1) := by decide +kernel
theorem dX6_hasPlace_13 : decode cX6_hasPlace 13 = .ok (.goto 4, 3) := by decide +kernel
theorem dX6_hasPlace_16 : decode cX6_hasPlace 16 = .ok (.iconst 0, 1) := by decide +kernel
theorem dX6_hasPlace_17 : decode cX6_hasPlace 17 = .ok (.ireturn, 1) := by decide +kernel
theorem dX6_takesLength_0 : decode cX6_takesLength 0 = .ok (.aload_n 0, 1) := by decide +kernel
theorem dX6_takesLength_1 : decode cX6_takesLength 1 = .ok (.getfield 18, 3) := by decide +kernel
theorem dX6_takesLength_4 : decode cX6_takesLength 4 = .ok (.ifCond .eq 11, 3) := by decide +kernel
theorem dX6_takesLength_7 : decode cX6_takesLength 7 = .ok (.iload_n 1, 1) := by decide +kernel
theorem dX6_takesLength_8 : decode cX6_takesLength 8 = .ok (.aload_n 0, 1) := by decide +kernel
theorem dX6_takesLength_9 : decode cX6_takesLength 9 = .ok (.getfield 22, 3) := by decide +kernel
theorem dX6_takesLength_12 : decode cX6_takesLength 12 = .ok (.if_icmp .ne 7, 3) := by decide +kernel
theorem dX6_takesLength_15 : decode cX6_takesLength 15 = .ok (.iconst 1, 1) := by decide +kernel
theorem dX6_takesLength_16 : decode cX6_takesLength 16 = .ok (.goto 4, 3) := by decide +kernel
theorem dX6_takesLength_19 : decode cX6_takesLength 19 = .ok (.iconst 0, 1) := by decide +kernel
theorem dX6_takesLength_20 : decode cX6_takesLength 20 = .ok (.ireturn, 1) := by decide +kernel
theorem dX6_find_0 : decode cX6_find 0 = .ok (.iconst 0, 1) := by decide +kernel
theorem dX6_find_1 : decode cX6_find 1 = .ok (.istore_n 2, 1) := by decide +kernel
theorem dX6_find_2 : decode cX6_find 2 = .ok (.iload_n 2, 1) := by decide +kernel
theorem dX6_find_3 : decode cX6_find 3 = .ok (.aload_n 0, 1) := by decide +kernel
theorem dX6_find_4 : decode cX6_find 4 = .ok (.getfield 18, 3) := by decide +kernel
theorem dX6_find_7 : decode cX6_find 7 = .ok (.if_icmp .ge 21, 3) := by decide +kernel
theorem dX6_find_10 : decode cX6_find 10 = .ok (.aload_n 0, 1) := by decide +kernel
theorem dX6_find_11 : decode cX6_find 11 = .ok (.getfield 9, 3) := by decide +kernel
theorem dX6_find_14 : decode cX6_find 14 = .ok (.iload_n 2, 1) := by decide +kernel
theorem dX6_find_15 : decode cX6_find 15 = .ok (.iaload, 1) := by decide +kernel
theorem dX6_find_16 : decode cX6_find 16 = .ok (.iload_n 1, 1) := by decide +kernel
theorem dX6_find_17 : decode cX6_find 17 = .ok (.if_icmp .ne 5, 3) := by decide +kernel
theorem dX6_find_20 : decode cX6_find 20 = .ok (.iload_n 2, 1) := by decide +kernel
theorem dX6_find_21 : decode cX6_find 21 = .ok (.ireturn, 1) := by decide +kernel
theorem dX6_find_22 : decode cX6_find 22 = .ok (.iinc 2 1, 3) := by decide +kernel
theorem dX6_find_25 : decode cX6_find 25 = .ok (.goto (-23), 3) := by decide +kernel
theorem dX6_find_28 : decode cX6_find 28 = .ok (.iconst (-1), 1) := by decide +kernel
theorem dX6_find_29 : decode cX6_find 29 = .ok (.ireturn, 1) := by decide +kernel
theorem dX6_insert_0 : decode cX6_insert 0 = .ok (.aload_n 0, 1) := by decide +kernel
theorem dX6_insert_1 : decode cX6_insert 1 = .ok (.getfield 18, 3) := by decide +kernel
theorem dX6_insert_4 : decode cX6_insert 4 = .ok (.bipush 12, 2) := by decide +kernel
theorem dX6_insert_6 : decode cX6_insert 6 = .ok (.if_icmp .lt 4, 3) := by decide +kernel
theorem dX6_insert_9 : decode cX6_insert 9 = .ok (.return_, 1) := by decide +kernel
theorem dX6_insert_10 : decode cX6_insert 10 = .ok (.aload_n 0, 1) := by decide +kernel
theorem dX6_insert_11 : decode cX6_insert 11 = .ok (.getfield 18, 3) := by decide +kernel
theorem dX6_insert_14 : decode cX6_insert 14 = .ok (.istore_n 3, 1) := by decide +kernel
theorem dX6_insert_15 : decode cX6_insert 15 = .ok (.iload_n 3, 1) := by decide +kernel
theorem dX6_insert_16 : decode cX6_insert 16 = .ok (.ifCond .le 49, 3) := by decide +kernel
theorem dX6_insert_19 : decode cX6_insert 19 = .ok (.aload_n 0, 1) := by decide +kernel
theorem dX6_insert_20 : decode cX6_insert 20 = .ok (.getfield 9, 3) := by decide +kernel
theorem dX6_insert_23 : decode cX6_insert 23 = .ok (.iload_n 3, 1) := by decide +kernel
theorem dX6_insert_24 : decode cX6_insert 24 = .ok (.iconst 1, 1) := by decide +kernel
theorem dX6_insert_25 : decode cX6_insert 25 = .ok (.isub, 1) := by decide +kernel
theorem dX6_insert_26 : decode cX6_insert 26 = .ok (.iaload, 1) := by decide +kernel
theorem dX6_insert_27 : decode cX6_insert 27 = .ok (.iload_n 1, 1) := by decide +kernel
theorem dX6_insert_28 : decode cX6_insert 28 = .ok (.if_icmp .le 37, 3) := by decide +kernel
theorem dX6_insert_31 : decode cX6_insert 31 = .ok (.aload_n 0, 1) := by decide +kernel
theorem dX6_insert_32 : decode cX6_insert 32 = .ok (.getfield 9, 3) := by decide +kernel
theorem dX6_insert_35 : decode cX6_insert 35 = .ok (.iload_n 3, 1) := by decide +kernel
theorem dX6_insert_36 : decode cX6_insert 36 = .ok (.aload_n 0, 1) := by decide +kernel
theorem dX6_insert_37 : decode cX6_insert 37 = .ok (.getfield 9, 3) := by decide +kernel
theorem dX6_insert_40 : decode cX6_insert 40 = .ok (.iload_n 3, 1) := by decide +kernel
theorem dX6_insert_41 : decode cX6_insert 41 = .ok (.iconst 1, 1) := by decide +kernel
theorem dX6_insert_42 : decode cX6_insert 42 = .ok (.isub, 1) := by decide +kernel
theorem dX6_insert_43 : decode cX6_insert 43 = .ok (.iaload, 1) := by decide +kernel
theorem dX6_insert_44 : decode cX6_insert 44 = .ok (.iastore, 1) := by decide +kernel
theorem dX6_insert_45 : decode cX6_insert 45 = .ok (.aload_n 0, 1) := by decide +kernel
theorem dX6_insert_46 : decode cX6_insert 46 = .ok (.getfield 15, 3) := by decide +kernel
theorem dX6_insert_49 : decode cX6_insert 49 = .ok (.iload_n 3, 1) := by decide +kernel
theorem dX6_insert_50 : decode cX6_insert 50 = .ok (.aload_n 0, 1) := by decide +kernel
theorem dX6_insert_51 : decode cX6_insert 51 = .ok (.getfield 15, 3) := by decide +kernel
theorem dX6_insert_54 : decode cX6_insert 54 = .ok (.iload_n 3, 1) := by decide +kernel
theorem dX6_insert_55 : decode cX6_insert 55 = .ok (.iconst 1, 1) := by decide +kernel
theorem dX6_insert_56 : decode cX6_insert 56 = .ok (.isub, 1) := by decide +kernel
theorem dX6_insert_57 : decode cX6_insert 57 = .ok (.iaload, 1) := by decide +kernel
theorem dX6_insert_58 : decode cX6_insert 58 = .ok (.iastore, 1) := by decide +kernel
theorem dX6_insert_59 : decode cX6_insert 59 = .ok (.iinc 3 (-1), 3) := by decide +kernel
theorem dX6_insert_62 : decode cX6_insert 62 = .ok (.goto (-47), 3) := by decide +kernel
theorem dX6_insert_65 : decode cX6_insert 65 = .ok (.aload_n 0, 1) := by decide +kernel
theorem dX6_insert_66 : decode cX6_insert 66 = .ok (.getfield 9, 3) := by decide +kernel
theorem dX6_insert_69 : decode cX6_insert 69 = .ok (.iload_n 3, 1) := by decide +kernel
theorem dX6_insert_70 : decode cX6_insert 70 = .ok (.iload_n 1, 1) := by decide +kernel
theorem dX6_insert_71 : decode cX6_insert 71 = .ok (.iastore, 1) := by decide +kernel
theorem dX6_insert_72 : decode cX6_insert 72 = .ok (.aload_n 0, 1) := by decide +kernel
theorem dX6_insert_73 : decode cX6_insert 73 = .ok (.getfield 15, 3) := by decide +kernel
theorem dX6_insert_76 : decode cX6_insert 76 = .ok (.iload_n 3, 1) := by decide +kernel
theorem dX6_insert_77 : decode cX6_insert 77 = .ok (.iconst 1, 1) := by decide +kernel
theorem dX6_insert_78 : decode cX6_insert 78 = .ok (.iastore, 1) := by decide +kernel
theorem dX6_insert_79 : decode cX6_insert 79 = .ok (.aload_n 0, 1) := by decide +kernel
theorem dX6_insert_80 : decode cX6_insert 80 = .ok (.dup, 1) := by decide +kernel
theorem dX6_insert_81 : decode cX6_insert 81 = .ok (.getfield 18, 3) := by decide +kernel
theorem dX6_insert_84 : decode cX6_insert 84 = .ok (.iconst 1, 1) := by decide +kernel
theorem dX6_insert_85 : decode cX6_insert 85 = .ok (.iadd, 1) := by decide +kernel
theorem dX6_insert_86 : decode cX6_insert 86 = .ok (.putfield 18, 3) := by decide +kernel
theorem dX6_insert_89 : decode cX6_insert 89 = .ok (.aload_n 0, 1) := by decide +kernel
theorem dX6_insert_90 : decode cX6_insert 90 = .ok (.iload_n 2, 1) := by decide +kernel
theorem dX6_insert_91 : decode cX6_insert 91 = .ok (.putfield 22, 3) := by decide +kernel
theorem dX6_insert_94 : decode cX6_insert 94 = .ok (.return_, 1) := by decide +kernel
theorem dX6_delete_0 : decode cX6_delete 0 = .ok (.aload_n 0, 1) := by decide +kernel
theorem dX6_delete_1 : decode cX6_delete 1 = .ok (.iload_n 1, 1) := by decide +kernel
theorem dX6_delete_2 : decode cX6_delete 2 = .ok (.invokevirtual 25, 3) := by decide +kernel
theorem dX6_delete_5 : decode cX6_delete 5 = .ok (.ifCond .ne 4, 3) := by decide +kernel
theorem dX6_delete_8 : decode cX6_delete 8 = .ok (.return_, 1) := by decide +kernel
theorem dX6_delete_9 : decode cX6_delete 9 = .ok (.aload_n 0, 1) := by decide +kernel
theorem dX6_delete_10 : decode cX6_delete 10 = .ok (.dup, 1) := by decide +kernel
theorem dX6_delete_11 : decode cX6_delete 11 = .ok (.getfield 18, 3) := by decide +kernel
theorem dX6_delete_14 : decode cX6_delete 14 = .ok (.iconst 1, 1) := by decide +kernel
theorem dX6_delete_15 : decode cX6_delete 15 = .ok (.isub, 1) := by decide +kernel
theorem dX6_delete_16 : decode cX6_delete 16 = .ok (.putfield 18, 3) := by decide +kernel
theorem dX6_delete_19 : decode cX6_delete 19 = .ok (.iload_n 1, 1) := by decide +kernel
theorem dX6_delete_20 : decode cX6_delete 20 = .ok (.istore_n 2, 1) := by decide +kernel
theorem dX6_delete_21 : decode cX6_delete 21 = .ok (.iload_n 2, 1) := by decide +kernel
theorem dX6_delete_22 : decode cX6_delete 22 = .ok (.aload_n 0, 1) := by decide +kernel
theorem dX6_delete_23 : decode cX6_delete 23 = .ok (.getfield 18, 3) := by decide +kernel
theorem dX6_delete_26 : decode cX6_delete 26 = .ok (.if_icmp .ge 37, 3) := by decide +kernel
theorem dX6_delete_29 : decode cX6_delete 29 = .ok (.aload_n 0, 1) := by decide +kernel
theorem dX6_delete_30 : decode cX6_delete 30 = .ok (.getfield 9, 3) := by decide +kernel
theorem dX6_delete_33 : decode cX6_delete 33 = .ok (.iload_n 2, 1) := by decide +kernel
theorem dX6_delete_34 : decode cX6_delete 34 = .ok (.aload_n 0, 1) := by decide +kernel
theorem dX6_delete_35 : decode cX6_delete 35 = .ok (.getfield 9, 3) := by decide +kernel
theorem dX6_delete_38 : decode cX6_delete 38 = .ok (.iload_n 2, 1) := by decide +kernel
theorem dX6_delete_39 : decode cX6_delete 39 = .ok (.iconst 1, 1) := by decide +kernel
theorem dX6_delete_40 : decode cX6_delete 40 = .ok (.iadd, 1) := by decide +kernel
theorem dX6_delete_41 : decode cX6_delete 41 = .ok (.iaload, 1) := by decide +kernel
theorem dX6_delete_42 : decode cX6_delete 42 = .ok (.iastore, 1) := by decide +kernel
theorem dX6_delete_43 : decode cX6_delete 43 = .ok (.aload_n 0, 1) := by decide +kernel
theorem dX6_delete_44 : decode cX6_delete 44 = .ok (.getfield 15, 3) := by decide +kernel
theorem dX6_delete_47 : decode cX6_delete 47 = .ok (.iload_n 2, 1) := by decide +kernel
theorem dX6_delete_48 : decode cX6_delete 48 = .ok (.aload_n 0, 1) := by decide +kernel
theorem dX6_delete_49 : decode cX6_delete 49 = .ok (.getfield 15, 3) := by decide +kernel
theorem dX6_delete_52 : decode cX6_delete 52 = .ok (.iload_n 2, 1) := by decide +kernel
theorem dX6_delete_53 : decode cX6_delete 53 = .ok (.iconst 1, 1) := by decide +kernel
theorem dX6_delete_54 : decode cX6_delete 54 = .ok (.iadd, 1) := by decide +kernel
theorem dX6_delete_55 : decode cX6_delete 55 = .ok (.iaload, 1) := by decide +kernel
theorem dX6_delete_56 : decode cX6_delete 56 = .ok (.iastore, 1) := by decide +kernel
theorem dX6_delete_57 : decode cX6_delete 57 = .ok (.iinc 2 1, 3) := by decide +kernel
theorem dX6_delete_60 : decode cX6_delete 60 = .ok (.goto (-39), 3) := by decide +kernel
theorem dX6_delete_63 : decode cX6_delete 63 = .ok (.aload_n 0, 1) := by decide +kernel
theorem dX6_delete_64 : decode cX6_delete 64 = .ok (.getfield 18, 3) := by decide +kernel
theorem dX6_delete_67 : decode cX6_delete 67 = .ok (.ifCond .ne 8, 3) := by decide +kernel
theorem dX6_delete_70 : decode cX6_delete 70 = .ok (.aload_n 0, 1) := by decide +kernel
theorem dX6_delete_71 : decode cX6_delete 71 = .ok (.iconst 0, 1) := by decide +kernel
theorem dX6_delete_72 : decode cX6_delete 72 = .ok (.putfield 22, 3) := by decide +kernel
theorem dX6_delete_75 : decode cX6_delete 75 = .ok (.return_, 1) := by decide +kernel
theorem dX6_weightOf_0 : decode cX6_weightOf 0 = .ok (.aload_n 0, 1) := by decide +kernel
theorem dX6_weightOf_1 : decode cX6_weightOf 1 = .ok (.getfield 15, 3) := by decide +kernel
theorem dX6_weightOf_4 : decode cX6_weightOf 4 = .ok (.iload_n 1, 1) := by decide +kernel
theorem dX6_weightOf_5 : decode cX6_weightOf 5 = .ok (.bipush 15, 2) := by decide +kernel
theorem dX6_weightOf_7 : decode cX6_weightOf 7 = .ok (.iand, 1) := by decide +kernel
theorem dX6_weightOf_8 : decode cX6_weightOf 8 = .ok (.iaload, 1) := by decide +kernel
theorem dX6_weightOf_9 : decode cX6_weightOf 9 = .ok (.ireturn, 1) := by decide +kernel
theorem dX6_setWeight_0 : decode cX6_setWeight 0 = .ok (.aload_n 0, 1) := by decide +kernel
theorem dX6_setWeight_1 : decode cX6_setWeight 1 = .ok (.getfield 15, 3) := by decide +kernel
theorem dX6_setWeight_4 : decode cX6_setWeight 4 = .ok (.iload_n 1, 1) := by decide +kernel
theorem dX6_setWeight_5 : decode cX6_setWeight 5 = .ok (.bipush 15, 2) := by decide +kernel
theorem dX6_setWeight_7 : decode cX6_setWeight 7 = .ok (.iand, 1) := by decide +kernel
theorem dX6_setWeight_8 : decode cX6_setWeight 8 = .ok (.iload_n 2, 1) := by decide +kernel
theorem dX6_setWeight_9 : decode cX6_setWeight 9 = .ok (.iastore, 1) := by decide +kernel
theorem dX6_setWeight_10 : decode cX6_setWeight 10 = .ok (.return_, 1) := by decide +kernel
theorem dX6_letterAt_0 : decode cX6_letterAt 0 = .ok (.aload_n 0, 1) := by decide +kernel
theorem dX6_letterAt_1 : decode cX6_letterAt 1 = .ok (.getfield 9, 3) := by decide +kernel
theorem dX6_letterAt_4 : decode cX6_letterAt 4 = .ok (.iload_n 1, 1) := by decide +kernel
theorem dX6_letterAt_5 : decode cX6_letterAt 5 = .ok (.bipush 15, 2) := by decide +kernel
theorem dX6_letterAt_7 : decode cX6_letterAt 7 = .ok (.iand, 1) := by decide +kernel
theorem dX6_letterAt_8 : decode cX6_letterAt 8 = .ok (.iaload, 1) := by decide +kernel
theorem dX6_letterAt_9 : decode cX6_letterAt 9 = .ok (.iconst 5, 1) := by decide +kernel
theorem dX6_letterAt_10 : decode cX6_letterAt 10 = .ok (.aload_n 0, 1) := by decide +kernel
theorem dX6_letterAt_11 : decode cX6_letterAt 11 = .ok (.getfield 22, 3) := by decide +kernel
theorem dX6_letterAt_14 : decode cX6_letterAt 14 = .ok (.iconst 1, 1) := by decide +kernel
theorem dX6_letterAt_15 : decode cX6_letterAt 15 = .ok (.isub, 1) := by decide +kernel
theorem dX6_letterAt_16 : decode cX6_letterAt 16 = .ok (.iload_n 2, 1) := by decide +kernel
theorem dX6_letterAt_17 : decode cX6_letterAt 17 = .ok (.isub, 1) := by decide +kernel
theorem dX6_letterAt_18 : decode cX6_letterAt 18 = .ok (.imul, 1) := by decide +kernel
theorem dX6_letterAt_19 : decode cX6_letterAt 19 = .ok (.ishr, 1) := by decide +kernel
theorem dX6_letterAt_20 : decode cX6_letterAt 20 = .ok (.bipush 31, 2) := by decide +kernel
theorem dX6_letterAt_22 : decode cX6_letterAt 22 = .ok (.iand, 1) := by decide +kernel
theorem dX6_letterAt_23 : decode cX6_letterAt 23 = .ok (.ireturn, 1) := by decide +kernel
theorem dX6_prefixOf_0 : decode cX6_prefixOf 0 = .ok (.aload_n 0, 1) := by decide +kernel
theorem dX6_prefixOf_1 : decode cX6_prefixOf 1 = .ok (.getfield 9, 3) := by decide +kernel
theorem dX6_prefixOf_4 : decode cX6_prefixOf 4 = .ok (.iload_n 1, 1) := by decide +kernel
theorem dX6_prefixOf_5 : decode cX6_prefixOf 5 = .ok (.bipush 15, 2) := by decide +kernel
theorem dX6_prefixOf_7 : decode cX6_prefixOf 7 = .ok (.iand, 1) := by decide +kernel
theorem dX6_prefixOf_8 : decode cX6_prefixOf 8 = .ok (.iaload, 1) := by decide +kernel
theorem dX6_prefixOf_9 : decode cX6_prefixOf 9 = .ok (.iconst 5, 1) := by decide +kernel
theorem dX6_prefixOf_10 : decode cX6_prefixOf 10 = .ok (.aload_n 0, 1) := by decide +kernel
theorem dX6_prefixOf_11 : decode cX6_prefixOf 11 = .ok (.getfield 22, 3) := by decide +kernel
theorem dX6_prefixOf_14 : decode cX6_prefixOf 14 = .ok (.iload_n 2, 1) := by decide +kernel
theorem dX6_prefixOf_15 : decode cX6_prefixOf 15 = .ok (.isub, 1) := by decide +kernel
theorem dX6_prefixOf_16 : decode cX6_prefixOf 16 = .ok (.imul, 1) := by decide +kernel
theorem dX6_prefixOf_17 : decode cX6_prefixOf 17 = .ok (.ishr, 1) := by decide +kernel
theorem dX6_prefixOf_18 : decode cX6_prefixOf 18 = .ok (.ireturn, 1) := by decide +kernel
theorem dX6_restOf_0 : decode cX6_restOf 0 = .ok (.aload_n 0, 1) := by decide +kernel
theorem dX6_restOf_1 : decode cX6_restOf 1 = .ok (.getfield 9, 3) := by decide +kernel
theorem dX6_restOf_4 : decode cX6_restOf 4 = .ok (.iload_n 1, 1) := by decide +kernel
theorem dX6_restOf_5 : decode cX6_restOf 5 = .ok (.bipush 15, 2) := by decide +kernel
theorem dX6_restOf_7 : decode cX6_restOf 7 = .ok (.iand, 1) := by decide +kernel
theorem dX6_restOf_8 : decode cX6_restOf 8 = .ok (.iaload, 1) := by decide +kernel
theorem dX6_restOf_9 : decode cX6_restOf 9 = .ok (.iconst 1, 1) := by decide +kernel
theorem dX6_restOf_10 : decode cX6_restOf 10 = .ok (.iconst 5, 1) := by decide +kernel
theorem dX6_restOf_11 : decode cX6_restOf 11 = .ok (.aload_n 0, 1) := by decide +kernel
theorem dX6_restOf_12 : decode cX6_restOf 12 = .ok (.getfield 22, 3) := by decide +kernel
theorem dX6_restOf_15 : decode cX6_restOf 15 = .ok (.iload_n 2, 1) := by decide +kernel
theorem dX6_restOf_16 : decode cX6_restOf 16 = .ok (.isub, 1) := by decide +kernel
theorem dX6_restOf_17 : decode cX6_restOf 17 = .ok (.imul, 1) := by decide +kernel
theorem dX6_restOf_18 : decode cX6_restOf 18 = .ok (.ishl, 1) := by decide +kernel
theorem dX6_restOf_19 : decode cX6_restOf 19 = .ok (.iconst 1, 1) := by decide +kernel
theorem dX6_restOf_20 : decode cX6_restOf 20 = .ok (.isub, 1) := by decide +kernel
theorem dX6_restOf_21 : decode cX6_restOf 21 = .ok (.iand, 1) := by decide +kernel
theorem dX6_restOf_22 : decode cX6_restOf 22 = .ok (.ireturn, 1) := by decide +kernel
theorem dX6_samePrefix_0 : decode cX6_samePrefix 0 = .ok (.aload_n 0, 1) := by decide +kernel
theorem dX6_samePrefix_1 : decode cX6_samePrefix 1 = .ok (.getfield 9, 3) := by decide +kernel
theorem dX6_samePrefix_4 : decode cX6_samePrefix 4 = .ok (.iload_n 1, 1) := by decide +kernel
theorem dX6_samePrefix_5 : decode cX6_samePrefix 5 = .ok (.bipush 15, 2) := by decide +kernel
theorem dX6_samePrefix_7 : decode cX6_samePrefix 7 = .ok (.iand, 1) := by decide +kernel
theorem dX6_samePrefix_8 : decode cX6_samePrefix 8 = .ok (.iaload, 1) := by decide +kernel
theorem dX6_samePrefix_9 : decode cX6_samePrefix 9 = .ok (.aload_n 0, 1) := by decide +kernel
theorem dX6_samePrefix_10 : decode cX6_samePrefix 10 = .ok (.getfield 9, 3) := by decide +kernel
theorem dX6_samePrefix_13 : decode cX6_samePrefix 13 = .ok (.iload_n 2, 1) := by decide +kernel
theorem dX6_samePrefix_14 : decode cX6_samePrefix 14 = .ok (.bipush 15, 2) := by decide +kernel
theorem dX6_samePrefix_16 : decode cX6_samePrefix 16 = .ok (.iand, 1) := by decide +kernel
theorem dX6_samePrefix_17 : decode cX6_samePrefix 17 = .ok (.iaload, 1) := by decide +kernel
theorem dX6_samePrefix_18 : decode cX6_samePrefix 18 = .ok (.ixor, 1) := by decide +kernel
theorem dX6_samePrefix_19 : decode cX6_samePrefix 19 = .ok (.istore 4, 2) := by decide +kernel
theorem dX6_samePrefix_21 : decode cX6_samePrefix 21 = .ok (.iload 4, 2) := by decide +kernel
theorem dX6_samePrefix_23 : decode cX6_samePrefix 23 = .ok (.iconst 5, 1) := by decide +kernel
theorem dX6_samePrefix_24 : decode cX6_samePrefix 24 = .ok (.aload_n 0, 1) := by decide +kernel
theorem dX6_samePrefix_25 : decode cX6_samePrefix 25 = .ok (.getfield 22, 3) := by decide +kernel
theorem dX6_samePrefix_28 : decode cX6_samePrefix 28 = .ok (.iload_n 3, 1) := by decide +kernel
theorem dX6_samePrefix_29 : decode cX6_samePrefix 29 = .ok (.isub, 1) := by decide +kernel
theorem dX6_samePrefix_30 : decode cX6_samePrefix 30 = .ok (.imul, 1) := by decide +kernel
theorem dX6_samePrefix_31 : decode cX6_samePrefix 31 = .ok (.ishr, 1) := by decide +kernel
theorem dX6_samePrefix_32 : decode cX6_samePrefix 32 = .ok (.ifCond .ne 7, 3) := by decide +kernel
theorem dX6_samePrefix_35 : decode cX6_samePrefix 35 = .ok (.iconst 1, 1) := by decide +kernel
theorem dX6_samePrefix_36 : decode cX6_samePrefix 36 = .ok (.goto 4, 3) := by decide +kernel
theorem dX6_samePrefix_39 : decode cX6_samePrefix 39 = .ok (.iconst 0, 1) := by decide +kernel
theorem dX6_samePrefix_40 : decode cX6_samePrefix 40 = .ok (.ireturn, 1) := by decide +kernel
theorem dX6_reversalOf_0 : decode cX6_reversalOf 0 = .ok (.iconst 0, 1) := by decide +kernel
theorem dX6_reversalOf_1 : decode cX6_reversalOf 1 = .ok (.istore_n 2, 1) := by decide +kernel
theorem dX6_reversalOf_2 : decode cX6_reversalOf 2 = .ok (.aload_n 0, 1) := by decide +kernel
theorem dX6_reversalOf_3 : decode cX6_reversalOf 3 = .ok (.getfield 22, 3) := by decide +kernel
theorem dX6_reversalOf_6 : decode cX6_reversalOf 6 = .ok (.iconst 1, 1) := by decide +kernel
theorem dX6_reversalOf_7 : decode cX6_reversalOf 7 = .ok (.isub, 1) := by decide +kernel
theorem dX6_reversalOf_8 : decode cX6_reversalOf 8 = .ok (.istore_n 3, 1) := by decide +kernel
theorem dX6_reversalOf_9 : decode cX6_reversalOf 9 = .ok (.iload_n 3, 1) := by decide +kernel
theorem dX6_reversalOf_10 : decode cX6_reversalOf 10 = .ok (.ifCond .lt 20, 3) := by decide +kernel
theorem dX6_reversalOf_13 : decode cX6_reversalOf 13 = .ok (.iload_n 2, 1) := by decide +kernel
theorem dX6_reversalOf_14 : decode cX6_reversalOf 14 = .ok (.iconst 5, 1) := by decide +kernel
theorem dX6_reversalOf_15 : decode cX6_reversalOf 15 = .ok (.ishl, 1) := by decide +kernel
theorem dX6_reversalOf_16 : decode cX6_reversalOf 16 = .ok (.aload_n 0, 1) := by decide +kernel
theorem dX6_reversalOf_17 : decode cX6_reversalOf 17 = .ok (.iload_n 1, 1) := by decide +kernel
theorem dX6_reversalOf_18 : decode cX6_reversalOf 18 = .ok (.iload_n 3, 1) := by decide +kernel
theorem dX6_reversalOf_19 : decode cX6_reversalOf 19 = .ok (.invokevirtual 29, 3) := by decide +kernel
theorem dX6_reversalOf_22 : decode cX6_reversalOf 22 = .ok (.ior, 1) := by decide +kernel
theorem dX6_reversalOf_23 : decode cX6_reversalOf 23 = .ok (.istore_n 2, 1) := by decide +kernel
theorem dX6_reversalOf_24 : decode cX6_reversalOf 24 = .ok (.iinc 3 (-1), 3) := by decide +kernel
theorem dX6_reversalOf_27 : decode cX6_reversalOf 27 = .ok (.goto (-18), 3) := by decide +kernel
theorem dX6_reversalOf_30 : decode cX6_reversalOf 30 = .ok (.iload_n 2, 1) := by decide +kernel
theorem dX6_reversalOf_31 : decode cX6_reversalOf 31 = .ok (.ireturn, 1) := by decide +kernel
theorem dX6_numberWithPrefix_0 : decode cX6_numberWithPrefix 0 = .ok (.iconst 0, 1) := by decide +kernel
theorem dX6_numberWithPrefix_1 : decode cX6_numberWithPrefix 1 = .ok (.istore_n 3, 1) := by decide +kernel
theorem dX6_numberWithPrefix_2 : decode cX6_numberWithPrefix 2 = .ok (.iconst 0, 1) := by decide +kernel
theorem dX6_numberWithPrefix_3 : decode cX6_numberWithPrefix 3 = .ok (.istore 4, 2) := by decide +kernel
theorem dX6_numberWithPrefix_5 : decode cX6_numberWithPrefix 5 = .ok (.iload 4, 2) := by decide +kernel
theorem dX6_numberWithPrefix_7 : decode cX6_numberWithPrefix 7 = .ok (.aload_n 0, 1) := by decide +kernel
theorem dX6_numberWithPrefix_8 : decode cX6_numberWithPrefix 8 = .ok (.getfield 18, 3) := by decide +kernel
theorem dX6_numberWithPrefix_11 : decode cX6_numberWithPrefix 11 = .ok (.if_icmp .ge 23, 3) := by decide +kernel
theorem dX6_numberWithPrefix_14 : decode cX6_numberWithPrefix 14 = .ok (.aload_n 0, 1) := by decide +kernel
theorem dX6_numberWithPrefix_15 : decode cX6_numberWithPrefix 15 = .ok (.iload 4, 2) := by decide +kernel
theorem dX6_numberWithPrefix_17 : decode cX6_numberWithPrefix 17 = .ok (.iload_n 2, 1) := by decide +kernel
theorem dX6_numberWithPrefix_18 : decode cX6_numberWithPrefix 18 = .ok (.invokevirtual 33, 3) := by decide +kernel
theorem dX6_numberWithPrefix_21 : decode cX6_numberWithPrefix 21 = .ok (.iload_n 1, 1) := by decide +kernel
theorem dX6_numberWithPrefix_22 : decode cX6_numberWithPrefix 22 = .ok (.if_icmp .ne 6, 3) := by decide +kernel
theorem dX6_numberWithPrefix_25 : decode cX6_numberWithPrefix 25 = .ok (.iinc 3 1, 3) := by decide +kernel
theorem dX6_numberWithPrefix_28 : decode cX6_numberWithPrefix 28 = .ok (.iinc 4 1, 3) := by decide +kernel
theorem dX6_numberWithPrefix_31 : decode cX6_numberWithPrefix 31 = .ok (.goto (-26), 3) := by decide +kernel
theorem dX6_numberWithPrefix_34 : decode cX6_numberWithPrefix 34 = .ok (.iload_n 3, 1) := by decide +kernel
theorem dX6_numberWithPrefix_35 : decode cX6_numberWithPrefix 35 = .ok (.ireturn, 1) := by decide +kernel
theorem dX6_numberOfPrefixes_0 : decode cX6_numberOfPrefixes 0 = .ok (.iconst 0, 1) := by decide +kernel
theorem dX6_numberOfPrefixes_1 : decode cX6_numberOfPrefixes 1 = .ok (.istore_n 1, 1) := by decide +kernel
theorem dX6_numberOfPrefixes_2 : decode cX6_numberOfPrefixes 2 = .ok (.iconst 0, 1) := by decide +kernel
theorem dX6_numberOfPrefixes_3 : decode cX6_numberOfPrefixes 3 = .ok (.istore_n 2, 1) := by decide +kernel
theorem dX6_numberOfPrefixes_4 : decode cX6_numberOfPrefixes 4 = .ok (.iload_n 2, 1) := by decide +kernel
theorem dX6_numberOfPrefixes_5 : decode cX6_numberOfPrefixes 5 = .ok (.aload_n 0, 1) := by decide +kernel
theorem dX6_numberOfPrefixes_6 : decode cX6_numberOfPrefixes 6 = .ok (.getfield 22, 3) := by decide +kernel
theorem dX6_numberOfPrefixes_9 : decode cX6_numberOfPrefixes 9 = .ok (.if_icmp .gt 44, 3) := by decide +kernel
theorem dX6_numberOfPrefixes_12 : decode cX6_numberOfPrefixes 12 = .ok (.iconst 0, 1) := by decide +kernel
theorem dX6_numberOfPrefixes_13 : decode cX6_numberOfPrefixes 13 = .ok (.istore_n 3, 1) := by decide +kernel
theorem dX6_numberOfPrefixes_14 : decode cX6_numberOfPrefixes 14 = .ok (.iload_n 3, 1) := by decide +kernel
theorem dX6_numberOfPrefixes_15 : decode cX6_numberOfPrefixes 15 = .ok (.aload_n 0, 1) := by decide +kernel
theorem dX6_numberOfPrefixes_16 : decode cX6_numberOfPrefixes 16 = .ok (.getfield 18, 3) := by decide +kernel
theorem dX6_numberOfPrefixes_19 : decode cX6_numberOfPrefixes 19 = .ok (.if_icmp .ge 28, 3) := by decide +kernel
theorem dX6_numberOfPrefixes_22 : decode cX6_numberOfPrefixes 22 = .ok (.iload_n 3, 1) := by decide +kernel
theorem dX6_numberOfPrefixes_23 : decode cX6_numberOfPrefixes 23 = .ok (.ifCond .eq 15, 3) := by decide +kernel
theorem dX6_numberOfPrefixes_26 : decode cX6_numberOfPrefixes 26 = .ok (.aload_n 0, 1) := by decide +kernel
theorem dX6_numberOfPrefixes_27 : decode cX6_numberOfPrefixes 27 = .ok (.iload_n 3, 1) := by decide +kernel
theorem dX6_numberOfPrefixes_28 : decode cX6_numberOfPrefixes 28 = .ok (.iconst 1, 1) := by decide +kernel
theorem dX6_numberOfPrefixes_29 : decode cX6_numberOfPrefixes 29 = .ok (.isub, 1) := by decide +kernel
theorem dX6_numberOfPrefixes_30 : decode cX6_numberOfPrefixes 30 = .ok (.iload_n 3, 1) := by decide +kernel
theorem dX6_numberOfPrefixes_31 : decode cX6_numberOfPrefixes 31 = .ok (.iload_n 2, 1) := by decide +kernel
theorem dX6_numberOfPrefixes_32 : decode cX6_numberOfPrefixes 32 = .ok (.invokevirtual 36, 3) := by decide +kernel
theorem dX6_numberOfPrefixes_35 : decode cX6_numberOfPrefixes 35 = .ok (.ifCond .ne 6, 3) := by decide +kernel
theorem dX6_numberOfPrefixes_38 : decode cX6_numberOfPrefixes 38 = .ok (.iinc 1 1, 3) := by decide +kernel
theorem dX6_numberOfPrefixes_41 : decode cX6_numberOfPrefixes 41 = .ok (.iinc 3 1, 3) := by decide +kernel
theorem dX6_numberOfPrefixes_44 : decode cX6_numberOfPrefixes 44 = .ok (.goto (-30), 3) := by decide +kernel
theorem dX6_numberOfPrefixes_47 : decode cX6_numberOfPrefixes 47 = .ok (.iinc 2 1, 3) := by decide +kernel
theorem dX6_numberOfPrefixes_50 : decode cX6_numberOfPrefixes 50 = .ok (.goto (-46), 3) := by decide +kernel
theorem dX6_numberOfPrefixes_53 : decode cX6_numberOfPrefixes 53 = .ok (.iload_n 1, 1) := by decide +kernel
theorem dX6_numberOfPrefixes_54 : decode cX6_numberOfPrefixes 54 = .ok (.ireturn, 1) := by decide +kernel
theorem dX6_numberOfLetters_0 : decode cX6_numberOfLetters 0 = .ok (.iconst 0, 1) := by decide +kernel
theorem dX6_numberOfLetters_1 : decode cX6_numberOfLetters 1 = .ok (.istore_n 1, 1) := by decide +kernel
theorem dX6_numberOfLetters_2 : decode cX6_numberOfLetters 2 = .ok (.iconst 0, 1) := by decide +kernel
theorem dX6_numberOfLetters_3 : decode cX6_numberOfLetters 3 = .ok (.istore_n 2, 1) := by decide +kernel
theorem dX6_numberOfLetters_4 : decode cX6_numberOfLetters 4 = .ok (.iload_n 2, 1) := by decide +kernel
theorem dX6_numberOfLetters_5 : decode cX6_numberOfLetters 5 = .ok (.aload_n 0, 1) := by decide +kernel
theorem dX6_numberOfLetters_6 : decode cX6_numberOfLetters 6 = .ok (.getfield 18, 3) := by decide +kernel
theorem dX6_numberOfLetters_9 : decode cX6_numberOfLetters 9 = .ok (.if_icmp .ge 36, 3) := by decide +kernel
theorem dX6_numberOfLetters_12 : decode cX6_numberOfLetters 12 = .ok (.iconst 0, 1) := by decide +kernel
theorem dX6_numberOfLetters_13 : decode cX6_numberOfLetters 13 = .ok (.istore_n 3, 1) := by decide +kernel
theorem dX6_numberOfLetters_14 : decode cX6_numberOfLetters 14 = .ok (.iload_n 3, 1) := by decide +kernel
theorem dX6_numberOfLetters_15 : decode cX6_numberOfLetters 15 = .ok (.aload_n 0, 1) := by decide +kernel
theorem dX6_numberOfLetters_16 : decode cX6_numberOfLetters 16 = .ok (.getfield 22, 3) := by decide +kernel
theorem dX6_numberOfLetters_19 : decode cX6_numberOfLetters 19 = .ok (.if_icmp .ge 20, 3) := by decide +kernel
theorem dX6_numberOfLetters_22 : decode cX6_numberOfLetters 22 = .ok (.iload_n 1, 1) := by decide +kernel
theorem dX6_numberOfLetters_23 : decode cX6_numberOfLetters 23 = .ok (.iconst 1, 1) := by decide +kernel
theorem dX6_numberOfLetters_24 : decode cX6_numberOfLetters 24 = .ok (.aload_n 0, 1) := by decide +kernel
theorem dX6_numberOfLetters_25 : decode cX6_numberOfLetters 25 = .ok (.iload_n 2, 1) := by decide +kernel
theorem dX6_numberOfLetters_26 : decode cX6_numberOfLetters 26 = .ok (.iload_n 3, 1) := by decide +kernel
theorem dX6_numberOfLetters_27 : decode cX6_numberOfLetters 27 = .ok (.invokevirtual 29, 3) := by decide +kernel
theorem dX6_numberOfLetters_30 : decode cX6_numberOfLetters 30 = .ok (.ishl, 1) := by decide +kernel
theorem dX6_numberOfLetters_31 : decode cX6_numberOfLetters 31 = .ok (.ior, 1) := by decide +kernel
theorem dX6_numberOfLetters_32 : decode cX6_numberOfLetters 32 = .ok (.istore_n 1, 1) := by decide +kernel
theorem dX6_numberOfLetters_33 : decode cX6_numberOfLetters 33 = .ok (.iinc 3 1, 3) := by decide +kernel
theorem dX6_numberOfLetters_36 : decode cX6_numberOfLetters 36 = .ok (.goto (-22), 3) := by decide +kernel
theorem dX6_numberOfLetters_39 : decode cX6_numberOfLetters 39 = .ok (.iinc 2 1, 3) := by decide +kernel
theorem dX6_numberOfLetters_42 : decode cX6_numberOfLetters 42 = .ok (.goto (-38), 3) := by decide +kernel
theorem dX6_numberOfLetters_45 : decode cX6_numberOfLetters 45 = .ok (.iload_n 1, 1) := by decide +kernel
theorem dX6_numberOfLetters_46 : decode cX6_numberOfLetters 46 = .ok (.invokestatic 40, 3) := by decide +kernel
theorem dX6_numberOfLetters_49 : decode cX6_numberOfLetters 49 = .ok (.ireturn, 1) := by decide +kernel
theorem dX6_sumOfWeights_0 : decode cX6_sumOfWeights 0 = .ok (.iconst 0, 1) := by decide +kernel
theorem dX6_sumOfWeights_1 : decode cX6_sumOfWeights 1 = .ok (.istore_n 1, 1) := by decide +kernel
theorem dX6_sumOfWeights_2 : decode cX6_sumOfWeights 2 = .ok (.iconst 0, 1) := by decide +kernel
theorem dX6_sumOfWeights_3 : decode cX6_sumOfWeights 3 = .ok (.istore_n 2, 1) := by decide +kernel
theorem dX6_sumOfWeights_4 : decode cX6_sumOfWeights 4 = .ok (.iload_n 2, 1) := by decide +kernel
theorem dX6_sumOfWeights_5 : decode cX6_sumOfWeights 5 = .ok (.aload_n 0, 1) := by decide +kernel
theorem dX6_sumOfWeights_6 : decode cX6_sumOfWeights 6 = .ok (.getfield 18, 3) := by decide +kernel
theorem dX6_sumOfWeights_9 : decode cX6_sumOfWeights 9 = .ok (.if_icmp .ge 18, 3) := by decide +kernel
theorem dX6_sumOfWeights_12 : decode cX6_sumOfWeights 12 = .ok (.iload_n 1, 1) := by decide +kernel
theorem dX6_sumOfWeights_13 : decode cX6_sumOfWeights 13 = .ok (.aload_n 0, 1) := by decide +kernel
theorem dX6_sumOfWeights_14 : decode cX6_sumOfWeights 14 = .ok (.getfield 15, 3) := by decide +kernel
theorem dX6_sumOfWeights_17 : decode cX6_sumOfWeights 17 = .ok (.iload_n 2, 1) := by decide +kernel
theorem dX6_sumOfWeights_18 : decode cX6_sumOfWeights 18 = .ok (.iaload, 1) := by decide +kernel
theorem dX6_sumOfWeights_19 : decode cX6_sumOfWeights 19 = .ok (.iadd, 1) := by decide +kernel
theorem dX6_sumOfWeights_20 : decode cX6_sumOfWeights 20 = .ok (.istore_n 1, 1) := by decide +kernel
theorem dX6_sumOfWeights_21 : decode cX6_sumOfWeights 21 = .ok (.iinc 2 1, 3) := by decide +kernel
theorem dX6_sumOfWeights_24 : decode cX6_sumOfWeights 24 = .ok (.goto (-20), 3) := by decide +kernel
theorem dX6_sumOfWeights_27 : decode cX6_sumOfWeights 27 = .ok (.iload_n 1, 1) := by decide +kernel
theorem dX6_sumOfWeights_28 : decode cX6_sumOfWeights 28 = .ok (.ireturn, 1) := by decide +kernel
theorem dX6_numberOfReversible_0 : decode cX6_numberOfReversible 0 = .ok (.iconst 0, 1) := by decide +kernel
theorem dX6_numberOfReversible_1 : decode cX6_numberOfReversible 1 = .ok (.istore_n 1, 1) := by decide +kernel
theorem dX6_numberOfReversible_2 : decode cX6_numberOfReversible 2 = .ok (.iconst 0, 1) := by decide +kernel
theorem dX6_numberOfReversible_3 : decode cX6_numberOfReversible 3 = .ok (.istore_n 2, 1) := by decide +kernel
theorem dX6_numberOfReversible_4 : decode cX6_numberOfReversible 4 = .ok (.iload_n 2, 1) := by decide +kernel
theorem dX6_numberOfReversible_5 : decode cX6_numberOfReversible 5 = .ok (.aload_n 0, 1) := by decide +kernel
theorem dX6_numberOfReversible_6 : decode cX6_numberOfReversible 6 = .ok (.getfield 18, 3) := by decide +kernel
theorem dX6_numberOfReversible_9 : decode cX6_numberOfReversible 9 = .ok (.if_icmp .ge 25, 3) := by decide +kernel
theorem dX6_numberOfReversible_12 : decode cX6_numberOfReversible 12 = .ok (.aload_n 0, 1) := by decide +kernel
theorem dX6_numberOfReversible_13 : decode cX6_numberOfReversible 13 = .ok (.aload_n 0, 1) := by decide +kernel
theorem dX6_numberOfReversible_14 : decode cX6_numberOfReversible 14 = .ok (.iload_n 2, 1) := by decide +kernel
theorem dX6_numberOfReversible_15 : decode cX6_numberOfReversible 15 = .ok (.invokevirtual 46, 3) := by decide +kernel
theorem dX6_numberOfReversible_18 : decode cX6_numberOfReversible 18 = .ok (.invokevirtual 49, 3) := by decide +kernel
theorem dX6_numberOfReversible_21 : decode cX6_numberOfReversible 21 = .ok (.iconst (-1), 1) := by decide +kernel
theorem dX6_numberOfReversible_22 : decode cX6_numberOfReversible 22 = .ok (.if_icmp .eq 6, 3) := by decide +kernel
theorem dX6_numberOfReversible_25 : decode cX6_numberOfReversible 25 = .ok (.iinc 1 1, 3) := by decide +kernel
theorem dX6_numberOfReversible_28 : decode cX6_numberOfReversible 28 = .ok (.iinc 2 1, 3) := by decide +kernel
theorem dX6_numberOfReversible_31 : decode cX6_numberOfReversible 31 = .ok (.goto (-27), 3) := by decide +kernel
theorem dX6_numberOfReversible_34 : decode cX6_numberOfReversible 34 = .ok (.iload_n 1, 1) := by decide +kernel
theorem dX6_numberOfReversible_35 : decode cX6_numberOfReversible 35 = .ok (.ireturn, 1) := by decide +kernel
theorem dX6_commonLetter_0 : decode cX6_commonLetter 0 = .ok (.iconst (-1), 1) := by decide +kernel
theorem dX6_commonLetter_1 : decode cX6_commonLetter 1 = .ok (.istore_n 3, 1) := by decide +kernel
theorem dX6_commonLetter_2 : decode cX6_commonLetter 2 = .ok (.iconst 0, 1) := by decide +kernel
theorem dX6_commonLetter_3 : decode cX6_commonLetter 3 = .ok (.istore 4, 2) := by decide +kernel
theorem dX6_commonLetter_5 : decode cX6_commonLetter 5 = .ok (.iload 4, 2) := by decide +kernel
theorem dX6_commonLetter_7 : decode cX6_commonLetter 7 = .ok (.aload_n 0, 1) := by decide +kernel
theorem dX6_commonLetter_8 : decode cX6_commonLetter 8 = .ok (.getfield 18, 3) := by decide +kernel
theorem dX6_commonLetter_11 : decode cX6_commonLetter 11 = .ok (.if_icmp .ge 43, 3) := by decide +kernel
theorem dX6_commonLetter_14 : decode cX6_commonLetter 14 = .ok (.iload_n 1, 1) := by decide +kernel
theorem dX6_commonLetter_15 : decode cX6_commonLetter 15 = .ok (.iload 4, 2) := by decide +kernel
theorem dX6_commonLetter_17 : decode cX6_commonLetter 17 = .ok (.ishr, 1) := by decide +kernel
theorem dX6_commonLetter_18 : decode cX6_commonLetter 18 = .ok (.iconst 1, 1) := by decide +kernel
theorem dX6_commonLetter_19 : decode cX6_commonLetter 19 = .ok (.iand, 1) := by decide +kernel
theorem dX6_commonLetter_20 : decode cX6_commonLetter 20 = .ok (.ifCond .eq 28, 3) := by decide +kernel
theorem dX6_commonLetter_23 : decode cX6_commonLetter 23 = .ok (.aload_n 0, 1) := by decide +kernel
theorem dX6_commonLetter_24 : decode cX6_commonLetter 24 = .ok (.iload 4, 2) := by decide +kernel
theorem dX6_commonLetter_26 : decode cX6_commonLetter 26 = .ok (.iload_n 2, 1) := by decide +kernel
theorem dX6_commonLetter_27 : decode cX6_commonLetter 27 = .ok (.invokevirtual 29, 3) := by decide +kernel
theorem dX6_commonLetter_30 : decode cX6_commonLetter 30 = .ok (.istore 5, 2) := by decide +kernel
theorem dX6_commonLetter_32 : decode cX6_commonLetter 32 = .ok (.iload_n 3, 1) := by decide +kernel
theorem dX6_commonLetter_33 : decode cX6_commonLetter 33 = .ok (.iconst (-1), 1) := by decide +kernel
theorem dX6_commonLetter_34 : decode cX6_commonLetter 34 = .ok (.if_icmp .eq 11, 3) := by decide +kernel
theorem dX6_commonLetter_37 : decode cX6_commonLetter 37 = .ok (.iload 5, 2) := by decide +kernel
theorem dX6_commonLetter_39 : decode cX6_commonLetter 39 = .ok (.iload_n 3, 1) := by decide +kernel
theorem dX6_commonLetter_40 : decode cX6_commonLetter 40 = .ok (.if_icmp .eq 5, 3) := by decide +kernel
theorem dX6_commonLetter_43 : decode cX6_commonLetter 43 = .ok (.iconst (-1), 1) := by decide +kernel
theorem dX6_commonLetter_44 : decode cX6_commonLetter 44 = .ok (.ireturn, 1) := by decide +kernel
theorem dX6_commonLetter_45 : decode cX6_commonLetter 45 = .ok (.iload 5, 2) := by decide +kernel
theorem dX6_commonLetter_47 : decode cX6_commonLetter 47 = .ok (.istore_n 3, 1) := by decide +kernel
theorem dX6_commonLetter_48 : decode cX6_commonLetter 48 = .ok (.iinc 4 1, 3) := by decide +kernel
theorem dX6_commonLetter_51 : decode cX6_commonLetter 51 = .ok (.goto (-46), 3) := by decide +kernel
theorem dX6_commonLetter_54 : decode cX6_commonLetter 54 = .ok (.iload_n 3, 1) := by decide +kernel
theorem dX6_commonLetter_55 : decode cX6_commonLetter 55 = .ok (.ireturn, 1) := by decide +kernel
theorem dX7_init_0 : decode cX7_init 0 = .ok (.aload_n 0, 1) := by decide +kernel
theorem dX7_init_1 : decode cX7_init 1 = .ok (.invokespecial 1, 3) := by decide +kernel
theorem dX7_init_4 : decode cX7_init 4 = .ok (.aload_n 0, 1) := by decide +kernel
theorem dX7_init_5 : decode cX7_init 5 = .ok (.new 7, 3) := by decide +kernel
theorem dX7_init_8 : decode cX7_init 8 = .ok (.dup, 1) := by decide +kernel
theorem dX7_init_9 : decode cX7_init 9 = .ok (.invokespecial 9, 3) := by decide +kernel
theorem dX7_init_12 : decode cX7_init 12 = .ok (.putfield 10, 3) := by decide +kernel
theorem dX7_init_15 : decode cX7_init 15 = .ok (.aload_n 0, 1) := by decide +kernel
theorem dX7_init_16 : decode cX7_init 16 = .ok (.new 16, 3) := by decide +kernel
theorem dX7_init_19 : decode cX7_init 19 = .ok (.dup, 1) := by decide +kernel
theorem dX7_init_20 : decode cX7_init 20 = .ok (.invokespecial 18, 3) := by decide +kernel
theorem dX7_init_23 : decode cX7_init 23 = .ok (.putfield 19, 3) := by decide +kernel
theorem dX7_init_26 : decode cX7_init 26 = .ok (.aload_n 0, 1) := by decide +kernel
theorem dX7_init_27 : decode cX7_init 27 = .ok (.new 23, 3) := by decide +kernel
theorem dX7_init_30 : decode cX7_init 30 = .ok (.dup, 1) := by decide +kernel
theorem dX7_init_31 : decode cX7_init 31 = .ok (.aload_n 0, 1) := by decide +kernel
theorem dX7_init_32 : decode cX7_init 32 = .ok (.getfield 19, 3) := by decide +kernel
theorem dX7_init_35 : decode cX7_init 35 = .ok (.invokespecial 25, 3) := by decide +kernel
theorem dX7_init_38 : decode cX7_init 38 = .ok (.putfield 28, 3) := by decide +kernel
theorem dX7_init_41 : decode cX7_init 41 = .ok (.aload_n 0, 1) := by decide +kernel
theorem dX7_init_42 : decode cX7_init 42 = .ok (.new 32, 3) := by decide +kernel
theorem dX7_init_45 : decode cX7_init 45 = .ok (.dup, 1) := by decide +kernel
theorem dX7_init_46 : decode cX7_init 46 = .ok (.invokespecial 34, 3) := by decide +kernel
theorem dX7_init_49 : decode cX7_init 49 = .ok (.putfield 35, 3) := by decide +kernel
theorem dX7_init_52 : decode cX7_init 52 = .ok (.aload_n 0, 1) := by decide +kernel
theorem dX7_init_53 : decode cX7_init 53 = .ok (.iconst 3, 1) := by decide +kernel
theorem dX7_init_54 : decode cX7_init 54 = .ok (.newarray .int, 2) := by decide +kernel
theorem dX7_init_56 : decode cX7_init 56 = .ok (.putfield 39, 3) := by decide +kernel
theorem dX7_init_59 : decode cX7_init 59 = .ok (.aload_n 0, 1) := by decide +kernel
theorem dX7_init_60 : decode cX7_init 60 = .ok (.iconst 0, 1) := by decide +kernel
theorem dX7_init_61 : decode cX7_init 61 = .ok (.putfield 43, 3) := by decide +kernel
theorem dX7_init_64 : decode cX7_init 64 = .ok (.aload_n 0, 1) := by decide +kernel
theorem dX7_init_65 : decode cX7_init 65 = .ok (.iconst 0, 1) := by decide +kernel
theorem dX7_init_66 : decode cX7_init 66 = .ok (.putfield 47, 3) := by decide +kernel
theorem dX7_init_69 : decode cX7_init 69 = .ok (.aload_n 0, 1) := by decide +kernel
theorem dX7_init_70 : decode cX7_init 70 = .ok (.iconst 0, 1) := by decide +kernel
theorem dX7_init_71 : decode cX7_init 71 = .ok (.putfield 50, 3) := by decide +kernel
theorem dX7_init_74 : decode cX7_init 74 = .ok (.aload_n 0, 1) := by decide +kernel
theorem dX7_init_75 : decode cX7_init 75 = .ok (.iconst 0, 1) := by decide +kernel
theorem dX7_init_76 : decode cX7_init 76 = .ok (.putfield 54, 3) := by decide +kernel
theorem dX7_init_79 : decode cX7_init 79 = .ok (.return_, 1) := by decide +kernel
theorem dX7_letter_0 : decode cX7_letter 0 = .ok (.iload_n 1, 1) := by decide +kernel
theorem dX7_letter_1 : decode cX7_letter 1 = .ok (.bipush 32, 2) := by decide +kernel
theorem dX7_letter_3 : decode cX7_letter 3 = .ok (.if_icmp .lt 9, 3) := by decide +kernel
theorem dX7_letter_6 : decode cX7_letter 6 = .ok (.iload_n 1, 1) := by decide +kernel
theorem dX7_letter_7 : decode cX7_letter 7 = .ok (.bipush 126, 2) := by decide +kernel
theorem dX7_letter_9 : decode cX7_letter 9 = .ok (.if_icmp .le 6, 3) := by decide +kernel
theorem dX7_letter_12 : decode cX7_letter 12 = .ok (.bipush (-102), 2) := by decide +kernel
theorem dX7_letter_14 : decode cX7_letter 14 = .ok (.ireturn, 1) := by decide +kernel
theorem dX7_letter_15 : decode cX7_letter 15 = .ok (.aload_n 0, 1) := by decide +kernel
theorem dX7_letter_16 : decode cX7_letter 16 = .ok (.getfield 10, 3) := by decide +kernel
theorem dX7_letter_19 : decode cX7_letter 19 = .ok (.invokevirtual 57, 3) := by decide +kernel
theorem dX7_letter_22 : decode cX7_letter 22 = .ok (.bipush 60, 2) := by decide +kernel
theorem dX7_letter_24 : decode cX7_letter 24 = .ok (.if_icmp .lt 6, 3) := by decide +kernel
theorem dX7_letter_27 : decode cX7_letter 27 = .ok (.bipush (-104), 2) := by decide +kernel
theorem dX7_letter_29 : decode cX7_letter 29 = .ok (.ireturn, 1) := by decide +kernel
theorem dX7_letter_30 : decode cX7_letter 30 = .ok (.aload_n 0, 1) := by decide +kernel
theorem dX7_letter_31 : decode cX7_letter 31 = .ok (.getfield 10, 3) := by decide +kernel
theorem dX7_letter_34 : decode cX7_letter 34 = .ok (.iload_n 1, 1) := by decide +kernel
theorem dX7_letter_35 : decode cX7_letter 35 = .ok (.invokevirtual 61, 3) := by decide +kernel
theorem dX7_letter_38 : decode cX7_letter 38 = .ok (.aload_n 0, 1) := by decide +kernel
theorem dX7_letter_39 : decode cX7_letter 39 = .ok (.getfield 10, 3) := by decide +kernel
theorem dX7_letter_42 : decode cX7_letter 42 = .ok (.invokevirtual 57, 3) := by decide +kernel
theorem dX7_letter_45 : decode cX7_letter 45 = .ok (.ireturn, 1) := by decide +kernel
theorem dX7_blank_0 : decode cX7_blank 0 = .ok (.aload_n 0, 1) := by decide +kernel
theorem dX7_blank_1 : decode cX7_blank 1 = .ok (.getfield 10, 3) := by decide +kernel
theorem dX7_blank_4 : decode cX7_blank 4 = .ok (.invokevirtual 57, 3) := by decide +kernel
theorem dX7_blank_7 : decode cX7_blank 7 = .ok (.istore_n 1, 1) := by decide +kernel
theorem dX7_blank_8 : decode cX7_blank 8 = .ok (.aload_n 0, 1) := by decide +kernel
theorem dX7_blank_9 : decode cX7_blank 9 = .ok (.getfield 10, 3) := by decide +kernel
theorem dX7_blank_12 : decode cX7_blank 12 = .ok (.invokevirtual 65, 3) := by decide +kernel
theorem dX7_blank_15 : decode cX7_blank 15 = .ok (.iload_n 1, 1) := by decide +kernel
theorem dX7_blank_16 : decode cX7_blank 16 = .ok (.ireturn, 1) := by decide +kernel
theorem dX7_fault_0 : decode cX7_fault 0 = .ok (.aload_n 0, 1) := by decide +kernel
theorem dX7_fault_1 : decode cX7_fault 1 = .ok (.getfield 10, 3) := by decide +kernel
theorem dX7_fault_4 : decode cX7_fault 4 = .ok (.invokevirtual 68, 3) := by decide +kernel
theorem dX7_fault_7 : decode cX7_fault 7 = .ok (.ireturn, 1) := by decide +kernel
theorem dX7_words_0 : decode cX7_words 0 = .ok (.aload_n 0, 1) := by decide +kernel
theorem dX7_words_1 : decode cX7_words 1 = .ok (.getfield 10, 3) := by decide +kernel
theorem dX7_words_4 : decode cX7_words 4 = .ok (.invokevirtual 71, 3) := by decide +kernel
theorem dX7_words_7 : decode cX7_words 7 = .ok (.istore_n 1, 1) := by decide +kernel
theorem dX7_words_8 : decode cX7_words 8 = .ok (.iload_n 1, 1) := by decide +kernel
theorem dX7_words_9 : decode cX7_words 9 = .ok (.ifCond .eq 14, 3) := by decide +kernel
theorem dX7_words_12 : decode cX7_words 12 = .ok (.aload_n 0, 1) := by decide +kernel
theorem dX7_words_13 : decode cX7_words 13 = .ok (.getfield 19, 3) := by decide +kernel
theorem dX7_words_16 : decode cX7_words 16 = .ok (.iload_n 1, 1) := by decide +kernel
theorem dX7_words_17 : decode cX7_words 17 = .ok (.invokevirtual 74, 3) := by decide +kernel
theorem dX7_words_20 : decode cX7_words 20 = .ok (.ifCond .ne 6, 3) := by decide +kernel
theorem dX7_words_23 : decode cX7_words 23 = .ok (.bipush (-103), 2) := by decide +kernel
theorem dX7_words_25 : decode cX7_words 25 = .ok (.ireturn, 1) := by decide +kernel
theorem dX7_words_26 : decode cX7_words 26 = .ok (.aload_n 0, 1) := by decide +kernel
theorem dX7_words_27 : decode cX7_words 27 = .ok (.getfield 10, 3) := by decide +kernel
theorem dX7_words_30 : decode cX7_words 30 = .ok (.iload_n 1, 1) := by decide +kernel
theorem dX7_words_31 : decode cX7_words 31 = .ok (.invokevirtual 78, 3) := by decide +kernel
theorem dX7_words_34 : decode cX7_words 34 = .ok (.istore_n 2, 1) := by decide +kernel
theorem dX7_words_35 : decode cX7_words 35 = .ok (.iconst 0, 1) := by decide +kernel
theorem dX7_words_36 : decode cX7_words 36 = .ok (.istore_n 3, 1) := by decide +kernel
theorem dX7_words_37 : decode cX7_words 37 = .ok (.iload_n 3, 1) := by decide +kernel
theorem dX7_words_38 : decode cX7_words 38 = .ok (.iload_n 2, 1) := by decide +kernel
theorem dX7_words_39 : decode cX7_words 39 = .ok (.if_icmp .ge 32, 3) := by decide +kernel
theorem dX7_words_42 : decode cX7_words 42 = .ok (.aload_n 0, 1) := by decide +kernel
theorem dX7_words_43 : decode cX7_words 43 = .ok (.getfield 19, 3) := by decide +kernel
theorem dX7_words_46 : decode cX7_words 46 = .ok (.aload_n 0, 1) := by decide +kernel
theorem dX7_words_47 : decode cX7_words 47 = .ok (.getfield 10, 3) := by decide +kernel
theorem dX7_words_50 : decode cX7_words 50 = .ok (.iload_n 3, 1) := by decide +kernel
theorem dX7_words_51 : decode cX7_words 51 = .ok (.iload_n 1, 1) := by decide +kernel
theorem dX7_words_52 : decode cX7_words 52 = .ok (.invokevirtual 82, 3) := by decide +kernel
theorem dX7_words_55 : decode cX7_words 55 = .ok (.invokevirtual 86, 3) := by decide +kernel
theorem dX7_words_58 : decode cX7_words 58 = .ok (.iconst (-1), 1) := by decide +kernel
theorem dX7_words_59 : decode cX7_words 59 = .ok (.if_icmp .eq 6, 3) := by decide +kernel
theorem dX7_words_62 : decode cX7_words 62 = .ok (.bipush (-103), 2) := by decide +kernel
theorem dX7_words_64 : decode cX7_words 64 = .ok (.ireturn, 1) := by decide +kernel
theorem dX7_words_65 : decode cX7_words 65 = .ok (.iinc 3 1, 3) := by decide +kernel
theorem dX7_words_68 : decode cX7_words 68 = .ok (.goto (-31), 3) := by decide +kernel
theorem dX7_words_71 : decode cX7_words 71 = .ok (.aload_n 0, 1) := by decide +kernel
theorem dX7_words_72 : decode cX7_words 72 = .ok (.getfield 19, 3) := by decide +kernel
theorem dX7_words_75 : decode cX7_words 75 = .ok (.invokevirtual 89, 3) := by decide +kernel
theorem dX7_words_78 : decode cX7_words 78 = .ok (.iload_n 2, 1) := by decide +kernel
theorem dX7_words_79 : decode cX7_words 79 = .ok (.iadd, 1) := by decide +kernel
theorem dX7_words_80 : decode cX7_words 80 = .ok (.bipush 12, 2) := by decide +kernel
theorem dX7_words_82 : decode cX7_words 82 = .ok (.if_icmp .le 6, 3) := by decide +kernel
theorem dX7_words_85 : decode cX7_words 85 = .ok (.bipush (-104), 2) := by decide +kernel
theorem dX7_words_87 : decode cX7_words 87 = .ok (.ireturn, 1) := by decide +kernel
theorem dX7_words_88 : decode cX7_words 88 = .ok (.iconst 0, 1) := by decide +kernel
theorem dX7_words_89 : decode cX7_words 89 = .ok (.istore_n 3, 1) := by decide +kernel
theorem dX7_words_90 : decode cX7_words 90 = .ok (.iload_n 3, 1) := by decide +kernel
theorem dX7_words_91 : decode cX7_words 91 = .ok (.iload_n 2, 1) := by decide +kernel
theorem dX7_words_92 : decode cX7_words 92 = .ok (.if_icmp .ge 26, 3) := by decide +kernel
theorem dX7_words_95 : decode cX7_words 95 = .ok (.aload_n 0, 1) := by decide +kernel
theorem dX7_words_96 : decode cX7_words 96 = .ok (.getfield 19, 3) := by decide +kernel
theorem dX7_words_99 : decode cX7_words 99 = .ok (.aload_n 0, 1) := by decide +kernel
theorem dX7_words_100 : decode cX7_words 100 = .ok (.getfield 10, 3) := by decide +kernel
theorem dX7_words_103 : decode cX7_words 103 = .ok (.iload_n 3, 1) := by decide +kernel
theorem dX7_words_104 : decode cX7_words 104 = .ok (.iload_n 1, 1) := by decide +kernel
theorem dX7_words_105 : decode cX7_words 105 = .ok (.invokevirtual 82, 3) := by decide +kernel
theorem dX7_words_108 : decode cX7_words 108 = .ok (.iload_n 1, 1) := by decide +kernel
theorem dX7_words_109 : decode cX7_words 109 = .ok (.invokevirtual 90, 3) := by decide +kernel
theorem dX7_words_112 : decode cX7_words 112 = .ok (.iinc 3 1, 3) := by decide +kernel
theorem dX7_words_115 : decode cX7_words 115 = .ok (.goto (-25), 3) := by decide +kernel
theorem dX7_words_118 : decode cX7_words 118 = .ok (.aload_n 0, 1) := by decide +kernel
theorem dX7_words_119 : decode cX7_words 119 = .ok (.getfield 10, 3) := by decide +kernel
theorem dX7_words_122 : decode cX7_words 122 = .ok (.invokevirtual 65, 3) := by decide +kernel
theorem dX7_words_125 : decode cX7_words 125 = .ok (.aload_n 0, 1) := by decide +kernel
theorem dX7_words_126 : decode cX7_words 126 = .ok (.dup, 1) := by decide +kernel
theorem dX7_words_127 : decode cX7_words 127 = .ok (.getfield 50, 3) := by decide +kernel
theorem dX7_words_130 : decode cX7_words 130 = .ok (.iconst 1, 1) := by decide +kernel
theorem dX7_words_131 : decode cX7_words 131 = .ok (.iadd, 1) := by decide +kernel
theorem dX7_words_132 : decode cX7_words 132 = .ok (.putfield 50, 3) := by decide +kernel
theorem dX7_words_135 : decode cX7_words 135 = .ok (.aload_n 0, 1) := by decide +kernel
theorem dX7_words_136 : decode cX7_words 136 = .ok (.invokevirtual 94, 3) := by decide +kernel
theorem dX7_words_139 : decode cX7_words 139 = .ok (.iload_n 2, 1) := by decide +kernel
theorem dX7_words_140 : decode cX7_words 140 = .ok (.ireturn, 1) := by decide +kernel
theorem dX7_strike_0 : decode cX7_strike 0 = .ok (.aload_n 0, 1) := by decide +kernel
theorem dX7_strike_1 : decode cX7_strike 1 = .ok (.getfield 19, 3) := by decide +kernel
theorem dX7_strike_4 : decode cX7_strike 4 = .ok (.iload_n 1, 1) := by decide +kernel
theorem dX7_strike_5 : decode cX7_strike 5 = .ok (.invokevirtual 97, 3) := by decide +kernel
theorem dX7_strike_8 : decode cX7_strike 8 = .ok (.ifCond .ne 6, 3) := by decide +kernel
theorem dX7_strike_11 : decode cX7_strike 11 = .ok (.bipush (-101), 2) := by decide +kernel
theorem dX7_strike_13 : decode cX7_strike 13 = .ok (.ireturn, 1) := by decide +kernel
theorem dX7_strike_14 : decode cX7_strike 14 = .ok (.aload_n 0, 1) := by decide +kernel
theorem dX7_strike_15 : decode cX7_strike 15 = .ok (.getfield 19, 3) := by decide +kernel
theorem dX7_strike_18 : decode cX7_strike 18 = .ok (.iload_n 1, 1) := by decide +kernel
theorem dX7_strike_19 : decode cX7_strike 19 = .ok (.invokevirtual 100, 3) := by decide +kernel
theorem dX7_strike_22 : decode cX7_strike 22 = .ok (.aload_n 0, 1) := by decide +kernel
theorem dX7_strike_23 : decode cX7_strike 23 = .ok (.dup, 1) := by decide +kernel
theorem dX7_strike_24 : decode cX7_strike 24 = .ok (.getfield 54, 3) := by decide +kernel
theorem dX7_strike_27 : decode cX7_strike 27 = .ok (.iconst 1, 1) := by decide +kernel
theorem dX7_strike_28 : decode cX7_strike 28 = .ok (.iadd, 1) := by decide +kernel
theorem dX7_strike_29 : decode cX7_strike 29 = .ok (.putfield 54, 3) := by decide +kernel
theorem dX7_strike_32 : decode cX7_strike 32 = .ok (.aload_n 0, 1) := by decide +kernel
theorem dX7_strike_33 : decode cX7_strike 33 = .ok (.invokevirtual 94, 3) := by decide +kernel
theorem dX7_strike_36 : decode cX7_strike 36 = .ok (.aload_n 0, 1) := by decide +kernel
theorem dX7_strike_37 : decode cX7_strike 37 = .ok (.getfield 19, 3) := by decide +kernel
theorem dX7_strike_40 : decode cX7_strike 40 = .ok (.invokevirtual 89, 3) := by decide +kernel
theorem dX7_strike_43 : decode cX7_strike 43 = .ok (.ireturn, 1) := by decide +kernel
theorem dX7_weigh_0 : decode cX7_weigh 0 = .ok (.aload_n 0, 1) := by decide +kernel
theorem dX7_weigh_1 : decode cX7_weigh 1 = .ok (.getfield 19, 3) := by decide +kernel
theorem dX7_weigh_4 : decode cX7_weigh 4 = .ok (.iload_n 1, 1) := by decide +kernel
theorem dX7_weigh_5 : decode cX7_weigh 5 = .ok (.invokevirtual 97, 3) := by decide +kernel
theorem dX7_weigh_8 : decode cX7_weigh 8 = .ok (.ifCond .ne 6, 3) := by decide +kernel
theorem dX7_weigh_11 : decode cX7_weigh 11 = .ok (.bipush (-101), 2) := by decide +kernel
theorem dX7_weigh_13 : decode cX7_weigh 13 = .ok (.ireturn, 1) := by decide +kernel
theorem dX7_weigh_14 : decode cX7_weigh 14 = .ok (.iload_n 2, 1) := by decide +kernel
theorem dX7_weigh_15 : decode cX7_weigh 15 = .ok (.iconst 1, 1) := by decide +kernel
theorem dX7_weigh_16 : decode cX7_weigh 16 = .ok (.if_icmp .lt 9, 3) := by decide +kernel
theorem dX7_weigh_19 : decode cX7_weigh 19 = .ok (.iload_n 2, 1) := by decide +kernel
theorem dX7_weigh_20 : decode cX7_weigh 20 = .ok (.bipush 9, 2) := by decide +kernel
theorem dX7_weigh_22 : decode cX7_weigh 22 = .ok (.if_icmp .le 6, 3) := by decide +kernel
theorem dX7_weigh_25 : decode cX7_weigh 25 = .ok (.bipush (-102), 2) := by decide +kernel
theorem dX7_weigh_27 : decode cX7_weigh 27 = .ok (.ireturn, 1) := by decide +kernel
theorem dX7_weigh_28 : decode cX7_weigh 28 = .ok (.aload_n 0, 1) := by decide +kernel
theorem dX7_weigh_29 : decode cX7_weigh 29 = .ok (.getfield 19, 3) := by decide +kernel
theorem dX7_weigh_32 : decode cX7_weigh 32 = .ok (.iload_n 1, 1) := by decide +kernel
theorem dX7_weigh_33 : decode cX7_weigh 33 = .ok (.invokevirtual 103, 3) := by decide +kernel
theorem dX7_weigh_36 : decode cX7_weigh 36 = .ok (.istore_n 3, 1) := by decide +kernel
theorem dX7_weigh_37 : decode cX7_weigh 37 = .ok (.aload_n 0, 1) := by decide +kernel
theorem dX7_weigh_38 : decode cX7_weigh 38 = .ok (.getfield 19, 3) := by decide +kernel
theorem dX7_weigh_41 : decode cX7_weigh 41 = .ok (.iload_n 1, 1) := by decide +kernel
theorem dX7_weigh_42 : decode cX7_weigh 42 = .ok (.iload_n 2, 1) := by decide +kernel
theorem dX7_weigh_43 : decode cX7_weigh 43 = .ok (.invokevirtual 106, 3) := by decide +kernel
theorem dX7_weigh_46 : decode cX7_weigh 46 = .ok (.aload_n 0, 1) := by decide +kernel
theorem dX7_weigh_47 : decode cX7_weigh 47 = .ok (.iconst 0, 1) := by decide +kernel
theorem dX7_weigh_48 : decode cX7_weigh 48 = .ok (.putfield 43, 3) := by decide +kernel
theorem dX7_weigh_51 : decode cX7_weigh 51 = .ok (.iload_n 3, 1) := by decide +kernel
theorem dX7_weigh_52 : decode cX7_weigh 52 = .ok (.ireturn, 1) := by decide +kernel
theorem dX7_about_0 : decode cX7_about 0 = .ok (.iload_n 1, 1) := by decide +kernel
theorem dX7_about_1 : decode cX7_about 1 = .ok (.tableswitch 87 0 5 #[39, 47, 55, 63, 71, 79], 39) := by decide +kernel
theorem dX7_about_40 : decode cX7_about 40 = .ok (.aload_n 0, 1) := by decide +kernel
theorem dX7_about_41 : decode cX7_about 41 = .ok (.getfield 19, 3) := by decide +kernel
theorem dX7_about_44 : decode cX7_about 44 = .ok (.invokevirtual 109, 3) := by decide +kernel
theorem dX7_about_47 : decode cX7_about 47 = .ok (.ireturn, 1) := by decide +kernel
theorem dX7_about_48 : decode cX7_about 48 = .ok (.aload_n 0, 1) := by decide +kernel
theorem dX7_about_49 : decode cX7_about 49 = .ok (.getfield 19, 3) := by decide +kernel
theorem dX7_about_52 : decode cX7_about 52 = .ok (.invokevirtual 89, 3) := by decide +kernel
theorem dX7_about_55 : decode cX7_about 55 = .ok (.ireturn, 1) := by decide +kernel
theorem dX7_about_56 : decode cX7_about 56 = .ok (.aload_n 0, 1) := by decide +kernel
theorem dX7_about_57 : decode cX7_about 57 = .ok (.getfield 19, 3) := by decide +kernel
theorem dX7_about_60 : decode cX7_about 60 = .ok (.invokevirtual 112, 3) := by decide +kernel
theorem dX7_about_63 : decode cX7_about 63 = .ok (.ireturn, 1) := by decide +kernel
theorem dX7_about_64 : decode cX7_about 64 = .ok (.aload_n 0, 1) := by decide +kernel
theorem dX7_about_65 : decode cX7_about 65 = .ok (.getfield 19, 3) := by decide +kernel
theorem dX7_about_68 : decode cX7_about 68 = .ok (.invokevirtual 115, 3) := by decide +kernel
theorem dX7_about_71 : decode cX7_about 71 = .ok (.ireturn, 1) := by decide +kernel
theorem dX7_about_72 : decode cX7_about 72 = .ok (.aload_n 0, 1) := by decide +kernel
theorem dX7_about_73 : decode cX7_about 73 = .ok (.getfield 19, 3) := by decide +kernel
theorem dX7_about_76 : decode cX7_about 76 = .ok (.invokevirtual 118, 3) := by decide +kernel
theorem dX7_about_79 : decode cX7_about 79 = .ok (.ireturn, 1) := by decide +kernel
theorem dX7_about_80 : decode cX7_about 80 = .ok (.aload_n 0, 1) := by decide +kernel
theorem dX7_about_81 : decode cX7_about 81 = .ok (.getfield 19, 3) := by decide +kernel
theorem dX7_about_84 : decode cX7_about 84 = .ok (.invokevirtual 121, 3) := by decide +kernel
theorem dX7_about_87 : decode cX7_about 87 = .ok (.ireturn, 1) := by decide +kernel
theorem dX7_about_88 : decode cX7_about 88 = .ok (.bipush (-102), 2) := by decide +kernel
theorem dX7_about_90 : decode cX7_about 90 = .ok (.ireturn, 1) := by decide +kernel
theorem dX7_word_0 : decode cX7_word 0 = .ok (.aload_n 0, 1) := by decide +kernel
theorem dX7_word_1 : decode cX7_word 1 = .ok (.getfield 19, 3) := by decide +kernel
theorem dX7_word_4 : decode cX7_word 4 = .ok (.iload_n 1, 1) := by decide +kernel
theorem dX7_word_5 : decode cX7_word 5 = .ok (.invokevirtual 97, 3) := by decide +kernel
theorem dX7_word_8 : decode cX7_word 8 = .ok (.ifCond .ne 6, 3) := by decide +kernel
theorem dX7_word_11 : decode cX7_word 11 = .ok (.bipush (-101), 2) := by decide +kernel
theorem dX7_word_13 : decode cX7_word 13 = .ok (.ireturn, 1) := by decide +kernel
theorem dX7_word_14 : decode cX7_word 14 = .ok (.iload_n 2, 1) := by decide +kernel
theorem dX7_word_15 : decode cX7_word 15 = .ok (.tableswitch 85 0 4 #[33, 42, 58, 67, 76], 33) := by decide +kernel
theorem dX7_word_48 : decode cX7_word 48 = .ok (.aload_n 0, 1) := by decide +kernel
theorem dX7_word_49 : decode cX7_word 49 = .ok (.getfield 19, 3) := by decide +kernel
theorem dX7_word_52 : decode cX7_word 52 = .ok (.iload_n 1, 1) := by decide +kernel
theorem dX7_word_53 : decode cX7_word 53 = .ok (.invokevirtual 103, 3) := by decide +kernel
theorem dX7_word_56 : decode cX7_word 56 = .ok (.ireturn, 1) := by decide +kernel
theorem dX7_word_57 : decode cX7_word 57 = .ok (.aload_n 0, 1) := by decide +kernel
theorem dX7_word_58 : decode cX7_word 58 = .ok (.getfield 19, 3) := by decide +kernel
theorem dX7_word_61 : decode cX7_word 61 = .ok (.aload_n 0, 1) := by decide +kernel
theorem dX7_word_62 : decode cX7_word 62 = .ok (.getfield 19, 3) := by decide +kernel
theorem dX7_word_65 : decode cX7_word 65 = .ok (.iload_n 1, 1) := by decide +kernel
theorem dX7_word_66 : decode cX7_word 66 = .ok (.invokevirtual 124, 3) := by decide +kernel
theorem dX7_word_69 : decode cX7_word 69 = .ok (.invokevirtual 86, 3) := by decide +kernel
theorem dX7_word_72 : decode cX7_word 72 = .ok (.ireturn, 1) := by decide +kernel
theorem dX7_word_73 : decode cX7_word 73 = .ok (.aload_n 0, 1) := by decide +kernel
theorem dX7_word_74 : decode cX7_word 74 = .ok (.getfield 28, 3) := by decide +kernel
theorem dX7_word_77 : decode cX7_word 77 = .ok (.iload_n 1, 1) := by decide +kernel
theorem dX7_word_78 : decode cX7_word 78 = .ok (.invokevirtual 127, 3) := by decide +kernel
theorem dX7_word_81 : decode cX7_word 81 = .ok (.ireturn, 1) := by decide +kernel
theorem dX7_word_82 : decode cX7_word 82 = .ok (.aload_n 0, 1) := by decide +kernel
theorem dX7_word_83 : decode cX7_word 83 = .ok (.getfield 28, 3) := by decide +kernel
theorem dX7_word_86 : decode cX7_word 86 = .ok (.iload_n 1, 1) := by decide +kernel
theorem dX7_word_87 : decode cX7_word 87 = .ok (.invokevirtual 130, 3) := by decide +kernel
theorem dX7_word_90 : decode cX7_word 90 = .ok (.ireturn, 1) := by decide +kernel
theorem dX7_word_91 : decode cX7_word 91 = .ok (.aload_n 0, 1) := by decide +kernel
theorem dX7_word_92 : decode cX7_word 92 = .ok (.getfield 28, 3) := by decide +kernel
theorem dX7_word_95 : decode cX7_word 95 = .ok (.iload_n 1, 1) := by decide +kernel
theorem dX7_word_96 : decode cX7_word 96 = .ok (.invokevirtual 133, 3) := by decide +kernel
theorem dX7_word_99 : decode cX7_word 99 = .ok (.ireturn, 1) := by decide +kernel
theorem dX7_word_100 : decode cX7_word 100 = .ok (.bipush (-102), 2) := by decide +kernel
theorem dX7_word_102 : decode cX7_word 102 = .ok (.ireturn, 1) := by decide +kernel
theorem dX7_sign_0 : decode cX7_sign 0 = .ok (.aload_n 0, 1) := by decide +kernel
theorem dX7_sign_1 : decode cX7_sign 1 = .ok (.getfield 19, 3) := by decide +kernel
theorem dX7_sign_4 : decode cX7_sign 4 = .ok (.iload_n 1, 1) := by decide +kernel
theorem dX7_sign_5 : decode cX7_sign 5 = .ok (.invokevirtual 97, 3) := by decide +kernel
theorem dX7_sign_8 : decode cX7_sign 8 = .ok (.ifCond .eq 14, 3) := by decide +kernel
theorem dX7_sign_11 : decode cX7_sign 11 = .ok (.aload_n 0, 1) := by decide +kernel
theorem dX7_sign_12 : decode cX7_sign 12 = .ok (.getfield 19, 3) := by decide +kernel
theorem dX7_sign_15 : decode cX7_sign 15 = .ok (.iload_n 2, 1) := by decide +kernel
theorem dX7_sign_16 : decode cX7_sign 16 = .ok (.invokevirtual 136, 3) := by decide +kernel
theorem dX7_sign_19 : decode cX7_sign 19 = .ok (.ifCond .ne 6, 3) := by decide +kernel
theorem dX7_sign_22 : decode cX7_sign 22 = .ok (.bipush (-101), 2) := by decide +kernel
theorem dX7_sign_24 : decode cX7_sign 24 = .ok (.ireturn, 1) := by decide +kernel
theorem dX7_sign_25 : decode cX7_sign 25 = .ok (.bipush 97, 2) := by decide +kernel
theorem dX7_sign_27 : decode cX7_sign 27 = .ok (.aload_n 0, 1) := by decide +kernel
theorem dX7_sign_28 : decode cX7_sign 28 = .ok (.getfield 19, 3) := by decide +kernel
theorem dX7_sign_31 : decode cX7_sign 31 = .ok (.iload_n 1, 1) := by decide +kernel
theorem dX7_sign_32 : decode cX7_sign 32 = .ok (.iload_n 2, 1) := by decide +kernel
theorem dX7_sign_33 : decode cX7_sign 33 = .ok (.invokevirtual 139, 3) := by decide +kernel
theorem dX7_sign_36 : decode cX7_sign 36 = .ok (.iadd, 1) := by decide +kernel
theorem dX7_sign_37 : decode cX7_sign 37 = .ok (.ireturn, 1) := by decide +kernel
theorem dX7_begins_0 : decode cX7_begins 0 = .ok (.aload_n 0, 1) := by decide +kernel
theorem dX7_begins_1 : decode cX7_begins 1 = .ok (.getfield 19, 3) := by decide +kernel
theorem dX7_begins_4 : decode cX7_begins 4 = .ok (.iload_n 1, 1) := by decide +kernel
theorem dX7_begins_5 : decode cX7_begins 5 = .ok (.invokevirtual 97, 3) := by decide +kernel
theorem dX7_begins_8 : decode cX7_begins 8 = .ok (.ifCond .ne 6, 3) := by decide +kernel
theorem dX7_begins_11 : decode cX7_begins 11 = .ok (.bipush (-101), 2) := by decide +kernel
theorem dX7_begins_13 : decode cX7_begins 13 = .ok (.ireturn, 1) := by decide +kernel
theorem dX7_begins_14 : decode cX7_begins 14 = .ok (.iload_n 2, 1) := by decide +kernel
theorem dX7_begins_15 : decode cX7_begins 15 = .ok (.ifCond .lt 14, 3) := by decide +kernel
theorem dX7_begins_18 : decode cX7_begins 18 = .ok (.iload_n 2, 1) := by decide +kernel
theorem dX7_begins_19 : decode cX7_begins 19 = .ok (.aload_n 0, 1) := by decide +kernel
theorem dX7_begins_20 : decode cX7_begins 20 = .ok (.getfield 19, 3) := by decide +kernel
theorem dX7_begins_23 : decode cX7_begins 23 = .ok (.invokevirtual 109, 3) := by decide +kernel
theorem dX7_begins_26 : decode cX7_begins 26 = .ok (.if_icmp .le 6, 3) := by decide +kernel
theorem dX7_begins_29 : decode cX7_begins 29 = .ok (.bipush (-102), 2) := by decide +kernel
theorem dX7_begins_31 : decode cX7_begins 31 = .ok (.ireturn, 1) := by decide +kernel
theorem dX7_begins_32 : decode cX7_begins 32 = .ok (.aload_n 0, 1) := by decide +kernel
theorem dX7_begins_33 : decode cX7_begins 33 = .ok (.getfield 19, 3) := by decide +kernel
theorem dX7_begins_36 : decode cX7_begins 36 = .ok (.aload_n 0, 1) := by decide +kernel
theorem dX7_begins_37 : decode cX7_begins 37 = .ok (.getfield 19, 3) := by decide +kernel
theorem dX7_begins_40 : decode cX7_begins 40 = .ok (.iload_n 1, 1) := by decide +kernel
theorem dX7_begins_41 : decode cX7_begins 41 = .ok (.iload_n 2, 1) := by decide +kernel
theorem dX7_begins_42 : decode cX7_begins 42 = .ok (.invokevirtual 142, 3) := by decide +kernel
theorem dX7_begins_45 : decode cX7_begins 45 = .ok (.iload_n 2, 1) := by decide +kernel
theorem dX7_begins_46 : decode cX7_begins 46 = .ok (.invokevirtual 145, 3) := by decide +kernel
theorem dX7_begins_49 : decode cX7_begins 49 = .ok (.ireturn, 1) := by decide +kernel
theorem dX7_squares_0 : decode cX7_squares 0 = .ok (.iload_n 1, 1) := by decide +kernel
theorem dX7_squares_1 : decode cX7_squares 1 = .ok (.invokestatic 148, 3) := by decide +kernel
theorem dX7_squares_4 : decode cX7_squares 4 = .ok (.ifCond .ne 6, 3) := by decide +kernel
theorem dX7_squares_7 : decode cX7_squares 7 = .ok (.bipush (-102), 2) := by decide +kernel
theorem dX7_squares_9 : decode cX7_squares 9 = .ok (.ireturn, 1) := by decide +kernel
theorem dX7_squares_10 : decode cX7_squares 10 = .ok (.aload_n 0, 1) := by decide +kernel
theorem dX7_squares_11 : decode cX7_squares 11 = .ok (.getfield 28, 3) := by decide +kernel
theorem dX7_squares_14 : decode cX7_squares 14 = .ok (.iload_n 1, 1) := by decide +kernel
theorem dX7_squares_15 : decode cX7_squares 15 = .ok (.invokevirtual 151, 3) := by decide +kernel
theorem dX7_squares_18 : decode cX7_squares 18 = .ok (.invokevirtual 155, 3) := by decide +kernel
theorem dX7_squares_21 : decode cX7_squares 21 = .ok (.ireturn, 1) := by decide +kernel
theorem dX7_row_0 : decode cX7_row 0 = .ok (.iload_n 1, 1) := by decide +kernel
theorem dX7_row_1 : decode cX7_row 1 = .ok (.invokestatic 148, 3) := by decide +kernel
theorem dX7_row_4 : decode cX7_row 4 = .ok (.ifCond .ne 6, 3) := by decide +kernel
theorem dX7_row_7 : decode cX7_row 7 = .ok (.bipush (-102), 2) := by decide +kernel
theorem dX7_row_9 : decode cX7_row 9 = .ok (.ireturn, 1) := by decide +kernel
theorem dX7_row_10 : decode cX7_row 10 = .ok (.aload_n 0, 1) := by decide +kernel
theorem dX7_row_11 : decode cX7_row 11 = .ok (.getfield 28, 3) := by decide +kernel
theorem dX7_row_14 : decode cX7_row 14 = .ok (.iload_n 1, 1) := by decide +kernel
theorem dX7_row_15 : decode cX7_row 15 = .ok (.invokevirtual 151, 3) := by decide +kernel
theorem dX7_row_18 : decode cX7_row 18 = .ok (.astore 4, 2) := by decide +kernel
theorem dX7_row_20 : decode cX7_row 20 = .ok (.aload 4, 2) := by decide +kernel
theorem dX7_row_22 : decode cX7_row 22 = .ok (.iload_n 2, 1) := by decide +kernel
theorem dX7_row_23 : decode cX7_row 23 = .ok (.invokevirtual 158, 3) := by decide +kernel
theorem dX7_row_26 : decode cX7_row 26 = .ok (.ifCond .eq 14, 3) := by decide +kernel
theorem dX7_row_29 : decode cX7_row 29 = .ok (.aload_n 0, 1) := by decide +kernel
theorem dX7_row_30 : decode cX7_row 30 = .ok (.getfield 19, 3) := by decide +kernel
theorem dX7_row_33 : decode cX7_row 33 = .ok (.iload_n 3, 1) := by decide +kernel
theorem dX7_row_34 : decode cX7_row 34 = .ok (.invokevirtual 136, 3) := by decide +kernel
theorem dX7_row_37 : decode cX7_row 37 = .ok (.ifCond .ne 6, 3) := by decide +kernel
theorem dX7_row_40 : decode cX7_row 40 = .ok (.bipush (-101), 2) := by decide +kernel
theorem dX7_row_42 : decode cX7_row 42 = .ok (.ireturn, 1) := by decide +kernel
theorem dX7_row_43 : decode cX7_row 43 = .ok (.aload 4, 2) := by decide +kernel
theorem dX7_row_45 : decode cX7_row 45 = .ok (.iload_n 2, 1) := by decide +kernel
theorem dX7_row_46 : decode cX7_row 46 = .ok (.invokevirtual 159, 3) := by decide +kernel
theorem dX7_row_49 : decode cX7_row 49 = .ok (.iload_n 3, 1) := by decide +kernel
theorem dX7_row_50 : decode cX7_row 50 = .ok (.aload_n 0, 1) := by decide +kernel
theorem dX7_row_51 : decode cX7_row 51 = .ok (.getfield 19, 3) := by decide +kernel
theorem dX7_row_54 : decode cX7_row 54 = .ok (.invokevirtual 109, 3) := by decide +kernel
theorem dX7_row_57 : decode cX7_row 57 = .ok (.invokestatic 162, 3) := by decide +kernel
theorem dX7_row_60 : decode cX7_row 60 = .ok (.ireturn, 1) := by decide +kernel
theorem dX7_turned_0 : decode cX7_turned 0 = .ok (.aload_n 0, 1) := by decide +kernel
theorem dX7_turned_1 : decode cX7_turned 1 = .ok (.getfield 28, 3) := by decide +kernel
theorem dX7_turned_4 : decode cX7_turned 4 = .ok (.iconst 0, 1) := by decide +kernel
theorem dX7_turned_5 : decode cX7_turned 5 = .ok (.invokevirtual 151, 3) := by decide +kernel
theorem dX7_turned_8 : decode cX7_turned 8 = .ok (.astore_n 2, 1) := by decide +kernel
theorem dX7_turned_9 : decode cX7_turned 9 = .ok (.aload_n 2, 1) := by decide +kernel
theorem dX7_turned_10 : decode cX7_turned 10 = .ok (.iload_n 1, 1) := by decide +kernel
theorem dX7_turned_11 : decode cX7_turned 11 = .ok (.invokevirtual 158, 3) := by decide +kernel
theorem dX7_turned_14 : decode cX7_turned 14 = .ok (.ifCond .ne 6, 3) := by decide +kernel
theorem dX7_turned_17 : decode cX7_turned 17 = .ok (.bipush (-101), 2) := by decide +kernel
theorem dX7_turned_19 : decode cX7_turned 19 = .ok (.ireturn, 1) := by decide +kernel
theorem dX7_turned_20 : decode cX7_turned 20 = .ok (.aload_n 2, 1) := by decide +kernel
theorem dX7_turned_21 : decode cX7_turned 21 = .ok (.aload_n 2, 1) := by decide +kernel
theorem dX7_turned_22 : decode cX7_turned 22 = .ok (.iload_n 1, 1) := by decide +kernel
theorem dX7_turned_23 : decode cX7_turned 23 = .ok (.invokevirtual 166, 3) := by decide +kernel
theorem dX7_turned_26 : decode cX7_turned 26 = .ok (.invokevirtual 169, 3) := by decide +kernel
theorem dX7_turned_29 : decode cX7_turned 29 = .ok (.ireturn, 1) := by decide +kernel
theorem dX7_heaviest_0 : decode cX7_heaviest 0 = .ok (.iload_n 1, 1) := by decide +kernel
theorem dX7_heaviest_1 : decode cX7_heaviest 1 = .ok (.invokestatic 148, 3) := by decide +kernel
theorem dX7_heaviest_4 : decode cX7_heaviest 4 = .ok (.ifCond .ne 6, 3) := by decide +kernel
theorem dX7_heaviest_7 : decode cX7_heaviest 7 = .ok (.bipush (-102), 2) := by decide +kernel
theorem dX7_heaviest_9 : decode cX7_heaviest 9 = .ok (.ireturn, 1) := by decide +kernel
theorem dX7_heaviest_10 : decode cX7_heaviest 10 = .ok (.aload_n 0, 1) := by decide +kernel
theorem dX7_heaviest_11 : decode cX7_heaviest 11 = .ok (.getfield 43, 3) := by decide +kernel
theorem dX7_heaviest_14 : decode cX7_heaviest 14 = .ok (.ifCond .ne 39, 3) := by decide +kernel
theorem dX7_heaviest_17 : decode cX7_heaviest 17 = .ok (.iconst 0, 1) := by decide +kernel
theorem dX7_heaviest_18 : decode cX7_heaviest 18 = .ok (.istore_n 2, 1) := by decide +kernel
theorem dX7_heaviest_19 : decode cX7_heaviest 19 = .ok (.iload_n 2, 1) := by decide +kernel
theorem dX7_heaviest_20 : decode cX7_heaviest 20 = .ok (.iconst 3, 1) := by decide +kernel
theorem dX7_heaviest_21 : decode cX7_heaviest 21 = .ok (.if_icmp .ge 27, 3) := by decide +kernel
theorem dX7_heaviest_24 : decode cX7_heaviest 24 = .ok (.aload_n 0, 1) := by decide +kernel
theorem dX7_heaviest_25 : decode cX7_heaviest 25 = .ok (.getfield 39, 3) := by decide +kernel
theorem dX7_heaviest_28 : decode cX7_heaviest 28 = .ok (.iload_n 2, 1) := by decide +kernel
theorem dX7_heaviest_29 : decode cX7_heaviest 29 = .ok (.aload_n 0, 1) := by decide +kernel
theorem dX7_heaviest_30 : decode cX7_heaviest 30 = .ok (.aload_n 0, 1) := by decide +kernel
theorem dX7_heaviest_31 : decode cX7_heaviest 31 = .ok (.getfield 28, 3) := by decide +kernel
theorem dX7_heaviest_34 : decode cX7_heaviest 34 = .ok (.iload_n 2, 1) := by decide +kernel
theorem dX7_heaviest_35 : decode cX7_heaviest 35 = .ok (.invokevirtual 151, 3) := by decide +kernel
theorem dX7_heaviest_38 : decode cX7_heaviest 38 = .ok (.invokevirtual 172, 3) := by decide +kernel
theorem dX7_heaviest_41 : decode cX7_heaviest 41 = .ok (.iastore, 1) := by decide +kernel
theorem dX7_heaviest_42 : decode cX7_heaviest 42 = .ok (.iinc 2 1, 3) := by decide +kernel
theorem dX7_heaviest_45 : decode cX7_heaviest 45 = .ok (.goto (-26), 3) := by decide +kernel
theorem dX7_heaviest_48 : decode cX7_heaviest 48 = .ok (.aload_n 0, 1) := by decide +kernel
theorem dX7_heaviest_49 : decode cX7_heaviest 49 = .ok (.iconst 1, 1) := by decide +kernel
theorem dX7_heaviest_50 : decode cX7_heaviest 50 = .ok (.putfield 43, 3) := by decide +kernel
theorem dX7_heaviest_53 : decode cX7_heaviest 53 = .ok (.aload_n 0, 1) := by decide +kernel
theorem dX7_heaviest_54 : decode cX7_heaviest 54 = .ok (.getfield 39, 3) := by decide +kernel
theorem dX7_heaviest_57 : decode cX7_heaviest 57 = .ok (.iload_n 1, 1) := by decide +kernel
theorem dX7_heaviest_58 : decode cX7_heaviest 58 = .ok (.iaload, 1) := by decide +kernel
theorem dX7_heaviest_59 : decode cX7_heaviest 59 = .ok (.ireturn, 1) := by decide +kernel
theorem dX7_heavy_0 : decode cX7_heavy 0 = .ok (.aload_n 0, 1) := by decide +kernel
theorem dX7_heavy_1 : decode cX7_heavy 1 = .ok (.getfield 28, 3) := by decide +kernel
theorem dX7_heavy_4 : decode cX7_heavy 4 = .ok (.iconst 0, 1) := by decide +kernel
theorem dX7_heavy_5 : decode cX7_heavy 5 = .ok (.invokevirtual 151, 3) := by decide +kernel
theorem dX7_heavy_8 : decode cX7_heavy 8 = .ok (.astore_n 2, 1) := by decide +kernel
theorem dX7_heavy_9 : decode cX7_heavy 9 = .ok (.aload_n 2, 1) := by decide +kernel
theorem dX7_heavy_10 : decode cX7_heavy 10 = .ok (.iload_n 1, 1) := by decide +kernel
theorem dX7_heavy_11 : decode cX7_heavy 11 = .ok (.invokevirtual 158, 3) := by decide +kernel
theorem dX7_heavy_14 : decode cX7_heavy 14 = .ok (.ifCond .ne 6, 3) := by decide +kernel
theorem dX7_heavy_17 : decode cX7_heavy 17 = .ok (.bipush (-101), 2) := by decide +kernel
theorem dX7_heavy_19 : decode cX7_heavy 19 = .ok (.ireturn, 1) := by decide +kernel
theorem dX7_heavy_20 : decode cX7_heavy 20 = .ok (.aload_n 0, 1) := by decide +kernel
theorem dX7_heavy_21 : decode cX7_heavy 21 = .ok (.aload_n 2, 1) := by decide +kernel
theorem dX7_heavy_22 : decode cX7_heavy 22 = .ok (.iload_n 1, 1) := by decide +kernel
theorem dX7_heavy_23 : decode cX7_heavy 23 = .ok (.invokevirtual 176, 3) := by decide +kernel
theorem dX7_heavy_26 : decode cX7_heavy 26 = .ok (.ireturn, 1) := by decide +kernel
theorem dX7_put_0 : decode cX7_put 0 = .ok (.aload_n 0, 1) := by decide +kernel
theorem dX7_put_1 : decode cX7_put 1 = .ok (.getfield 19, 3) := by decide +kernel
theorem dX7_put_4 : decode cX7_put 4 = .ok (.iload_n 1, 1) := by decide +kernel
theorem dX7_put_5 : decode cX7_put 5 = .ok (.invokevirtual 136, 3) := by decide +kernel
theorem dX7_put_8 : decode cX7_put 8 = .ok (.ifCond .eq 14, 3) := by decide +kernel
theorem dX7_put_11 : decode cX7_put 11 = .ok (.aload_n 0, 1) := by decide +kernel
theorem dX7_put_12 : decode cX7_put 12 = .ok (.getfield 19, 3) := by decide +kernel
theorem dX7_put_15 : decode cX7_put 15 = .ok (.iload_n 2, 1) := by decide +kernel
theorem dX7_put_16 : decode cX7_put 16 = .ok (.invokevirtual 97, 3) := by decide +kernel
theorem dX7_put_19 : decode cX7_put 19 = .ok (.ifCond .ne 6, 3) := by decide +kernel
theorem dX7_put_22 : decode cX7_put 22 = .ok (.bipush (-101), 2) := by decide +kernel
theorem dX7_put_24 : decode cX7_put 24 = .ok (.ireturn, 1) := by decide +kernel
theorem dX7_put_25 : decode cX7_put 25 = .ok (.aload_n 0, 1) := by decide +kernel
theorem dX7_put_26 : decode cX7_put 26 = .ok (.getfield 35, 3) := by decide +kernel
theorem dX7_put_29 : decode cX7_put 29 = .ok (.iload_n 1, 1) := by decide +kernel
theorem dX7_put_30 : decode cX7_put 30 = .ok (.invokevirtual 180, 3) := by decide +kernel
theorem dX7_put_33 : decode cX7_put 33 = .ok (.istore_n 3, 1) := by decide +kernel
theorem dX7_put_34 : decode cX7_put 34 = .ok (.aload_n 0, 1) := by decide +kernel
theorem dX7_put_35 : decode cX7_put 35 = .ok (.getfield 35, 3) := by decide +kernel
theorem dX7_put_38 : decode cX7_put 38 = .ok (.iload_n 1, 1) := by decide +kernel
theorem dX7_put_39 : decode cX7_put 39 = .ok (.iload_n 2, 1) := by decide +kernel
theorem dX7_put_40 : decode cX7_put 40 = .ok (.invokevirtual 183, 3) := by decide +kernel
theorem dX7_put_43 : decode cX7_put 43 = .ok (.aload_n 0, 1) := by decide +kernel
theorem dX7_put_44 : decode cX7_put 44 = .ok (.iconst 0, 1) := by decide +kernel
theorem dX7_put_45 : decode cX7_put 45 = .ok (.putfield 47, 3) := by decide +kernel
theorem dX7_put_48 : decode cX7_put 48 = .ok (.iload_n 3, 1) := by decide +kernel
theorem dX7_put_49 : decode cX7_put 49 = .ok (.ireturn, 1) := by decide +kernel
theorem dX7_lift_0 : decode cX7_lift 0 = .ok (.aload_n 0, 1) := by decide +kernel
theorem dX7_lift_1 : decode cX7_lift 1 = .ok (.getfield 19, 3) := by decide +kernel
theorem dX7_lift_4 : decode cX7_lift 4 = .ok (.iload_n 1, 1) := by decide +kernel
theorem dX7_lift_5 : decode cX7_lift 5 = .ok (.invokevirtual 136, 3) := by decide +kernel
theorem dX7_lift_8 : decode cX7_lift 8 = .ok (.ifCond .ne 6, 3) := by decide +kernel
theorem dX7_lift_11 : decode cX7_lift 11 = .ok (.bipush (-101), 2) := by decide +kernel
theorem dX7_lift_13 : decode cX7_lift 13 = .ok (.ireturn, 1) := by decide +kernel
theorem dX7_lift_14 : decode cX7_lift 14 = .ok (.aload_n 0, 1) := by decide +kernel
theorem dX7_lift_15 : decode cX7_lift 15 = .ok (.getfield 35, 3) := by decide +kernel
theorem dX7_lift_18 : decode cX7_lift 18 = .ok (.iload_n 1, 1) := by decide +kernel
theorem dX7_lift_19 : decode cX7_lift 19 = .ok (.invokevirtual 180, 3) := by decide +kernel
theorem dX7_lift_22 : decode cX7_lift 22 = .ok (.istore_n 2, 1) := by decide +kernel
theorem dX7_lift_23 : decode cX7_lift 23 = .ok (.iload_n 2, 1) := by decide +kernel
theorem dX7_lift_24 : decode cX7_lift 24 = .ok (.iconst (-1), 1) := by decide +kernel
theorem dX7_lift_25 : decode cX7_lift 25 = .ok (.if_icmp .ne 6, 3) := by decide +kernel
theorem dX7_lift_28 : decode cX7_lift 28 = .ok (.bipush (-103), 2) := by decide +kernel
theorem dX7_lift_30 : decode cX7_lift 30 = .ok (.ireturn, 1) := by decide +kernel
theorem dX7_lift_31 : decode cX7_lift 31 = .ok (.aload_n 0, 1) := by decide +kernel
theorem dX7_lift_32 : decode cX7_lift 32 = .ok (.getfield 35, 3) := by decide +kernel
theorem dX7_lift_35 : decode cX7_lift 35 = .ok (.iload_n 1, 1) := by decide +kernel
theorem dX7_lift_36 : decode cX7_lift 36 = .ok (.iconst (-1), 1) := by decide +kernel
theorem dX7_lift_37 : decode cX7_lift 37 = .ok (.invokevirtual 183, 3) := by decide +kernel
theorem dX7_lift_40 : decode cX7_lift 40 = .ok (.aload_n 0, 1) := by decide +kernel
theorem dX7_lift_41 : decode cX7_lift 41 = .ok (.iconst 0, 1) := by decide +kernel
theorem dX7_lift_42 : decode cX7_lift 42 = .ok (.putfield 47, 3) := by decide +kernel
theorem dX7_lift_45 : decode cX7_lift 45 = .ok (.iload_n 2, 1) := by decide +kernel
theorem dX7_lift_46 : decode cX7_lift 46 = .ok (.ireturn, 1) := by decide +kernel
theorem dX7_board_0 : decode cX7_board 0 = .ok (.aload_n 0, 1) := by decide +kernel
theorem dX7_board_1 : decode cX7_board 1 = .ok (.getfield 19, 3) := by decide +kernel
theorem dX7_board_4 : decode cX7_board 4 = .ok (.iload_n 1, 1) := by decide +kernel
theorem dX7_board_5 : decode cX7_board 5 = .ok (.invokevirtual 136, 3) := by decide +kernel
theorem dX7_board_8 : decode cX7_board 8 = .ok (.ifCond .ne 6, 3) := by decide +kernel
theorem dX7_board_11 : decode cX7_board 11 = .ok (.bipush (-101), 2) := by decide +kernel
theorem dX7_board_13 : decode cX7_board 13 = .ok (.ireturn, 1) := by decide +kernel
theorem dX7_board_14 : decode cX7_board 14 = .ok (.aload_n 0, 1) := by decide +kernel
theorem dX7_board_15 : decode cX7_board 15 = .ok (.getfield 35, 3) := by decide +kernel
theorem dX7_board_18 : decode cX7_board 18 = .ok (.iload_n 1, 1) := by decide +kernel
theorem dX7_board_19 : decode cX7_board 19 = .ok (.invokevirtual 180, 3) := by decide +kernel
theorem dX7_board_22 : decode cX7_board 22 = .ok (.ireturn, 1) := by decide +kernel
theorem dX7_fitting_0 : decode cX7_fitting 0 = .ok (.aload_n 0, 1) := by decide +kernel
theorem dX7_fitting_1 : decode cX7_fitting 1 = .ok (.invokevirtual 186, 3) := by decide +kernel
theorem dX7_fitting_4 : decode cX7_fitting 4 = .ok (.invokevirtual 190, 3) := by decide +kernel
theorem dX7_fitting_7 : decode cX7_fitting 7 = .ok (.ireturn, 1) := by decide +kernel
theorem dX7_may_0 : decode cX7_may 0 = .ok (.aload_n 0, 1) := by decide +kernel
theorem dX7_may_1 : decode cX7_may 1 = .ok (.getfield 19, 3) := by decide +kernel
theorem dX7_may_4 : decode cX7_may 4 = .ok (.iload_n 1, 1) := by decide +kernel
theorem dX7_may_5 : decode cX7_may 5 = .ok (.invokevirtual 136, 3) := by decide +kernel
theorem dX7_may_8 : decode cX7_may 8 = .ok (.ifCond .ne 6, 3) := by decide +kernel
theorem dX7_may_11 : decode cX7_may 11 = .ok (.bipush (-101), 2) := by decide +kernel
theorem dX7_may_13 : decode cX7_may 13 = .ok (.ireturn, 1) := by decide +kernel
theorem dX7_may_14 : decode cX7_may 14 = .ok (.aload_n 0, 1) := by decide +kernel
theorem dX7_may_15 : decode cX7_may 15 = .ok (.invokevirtual 186, 3) := by decide +kernel
theorem dX7_may_18 : decode cX7_may 18 = .ok (.iload_n 1, 1) := by decide +kernel
theorem dX7_may_19 : decode cX7_may 19 = .ok (.invokevirtual 193, 3) := by decide +kernel
theorem dX7_may_22 : decode cX7_may 22 = .ok (.ireturn, 1) := by decide +kernel
theorem dX7_sure_0 : decode cX7_sure 0 = .ok (.aload_n 0, 1) := by decide +kernel
theorem dX7_sure_1 : decode cX7_sure 1 = .ok (.getfield 19, 3) := by decide +kernel
theorem dX7_sure_4 : decode cX7_sure 4 = .ok (.iload_n 1, 1) := by decide +kernel
theorem dX7_sure_5 : decode cX7_sure 5 = .ok (.invokevirtual 136, 3) := by decide +kernel
theorem dX7_sure_8 : decode cX7_sure 8 = .ok (.ifCond .eq 14, 3) := by decide +kernel
theorem dX7_sure_11 : decode cX7_sure 11 = .ok (.aload_n 0, 1) := by decide +kernel
theorem dX7_sure_12 : decode cX7_sure 12 = .ok (.getfield 19, 3) := by decide +kernel
theorem dX7_sure_15 : decode cX7_sure 15 = .ok (.iload_n 2, 1) := by decide +kernel
theorem dX7_sure_16 : decode cX7_sure 16 = .ok (.invokevirtual 136, 3) := by decide +kernel
theorem dX7_sure_19 : decode cX7_sure 19 = .ok (.ifCond .ne 6, 3) := by decide +kernel
theorem dX7_sure_22 : decode cX7_sure 22 = .ok (.bipush (-101), 2) := by decide +kernel
theorem dX7_sure_24 : decode cX7_sure 24 = .ok (.ireturn, 1) := by decide +kernel
theorem dX7_sure_25 : decode cX7_sure 25 = .ok (.aload_n 0, 1) := by decide +kernel
theorem dX7_sure_26 : decode cX7_sure 26 = .ok (.invokevirtual 186, 3) := by decide +kernel
theorem dX7_sure_29 : decode cX7_sure 29 = .ok (.invokevirtual 190, 3) := by decide +kernel
theorem dX7_sure_32 : decode cX7_sure 32 = .ok (.ifCond .ne 6, 3) := by decide +kernel
theorem dX7_sure_35 : decode cX7_sure 35 = .ok (.bipush (-103), 2) := by decide +kernel
theorem dX7_sure_37 : decode cX7_sure 37 = .ok (.ireturn, 1) := by decide +kernel
theorem dX7_sure_38 : decode cX7_sure 38 = .ok (.aload_n 0, 1) := by decide +kernel
theorem dX7_sure_39 : decode cX7_sure 39 = .ok (.getfield 19, 3) := by decide +kernel
theorem dX7_sure_42 : decode cX7_sure 42 = .ok (.aload_n 0, 1) := by decide +kernel
theorem dX7_sure_43 : decode cX7_sure 43 = .ok (.invokevirtual 186, 3) := by decide +kernel
theorem dX7_sure_46 : decode cX7_sure 46 = .ok (.iload_n 1, 1) := by decide +kernel
theorem dX7_sure_47 : decode cX7_sure 47 = .ok (.invokevirtual 193, 3) := by decide +kernel
theorem dX7_sure_50 : decode cX7_sure 50 = .ok (.iload_n 2, 1) := by decide +kernel
theorem dX7_sure_51 : decode cX7_sure 51 = .ok (.invokevirtual 196, 3) := by decide +kernel
theorem dX7_sure_54 : decode cX7_sure 54 = .ok (.istore_n 3, 1) := by decide +kernel
theorem dX7_sure_55 : decode cX7_sure 55 = .ok (.iload_n 3, 1) := by decide +kernel
theorem dX7_sure_56 : decode cX7_sure 56 = .ok (.iconst (-1), 1) := by decide +kernel
theorem dX7_sure_57 : decode cX7_sure 57 = .ok (.if_icmp .ne 7, 3) := by decide +kernel
theorem dX7_sure_60 : decode cX7_sure 60 = .ok (.iconst (-1), 1) := by decide +kernel
theorem dX7_sure_61 : decode cX7_sure 61 = .ok (.goto 7, 3) := by decide +kernel
theorem dX7_sure_64 : decode cX7_sure 64 = .ok (.bipush 97, 2) := by decide +kernel
theorem dX7_sure_66 : decode cX7_sure 66 = .ok (.iload_n 3, 1) := by decide +kernel
theorem dX7_sure_67 : decode cX7_sure 67 = .ok (.iadd, 1) := by decide +kernel
theorem dX7_sure_68 : decode cX7_sure 68 = .ok (.ireturn, 1) := by decide +kernel
theorem dX7_search_0 : decode cX7_search 0 = .ok (.iload_n 1, 1) := by decide +kernel
theorem dX7_search_1 : decode cX7_search 1 = .ok (.ifCond .lt 8, 3) := by decide +kernel
theorem dX7_search_4 : decode cX7_search 4 = .ok (.iload_n 1, 1) := by decide +kernel
theorem dX7_search_5 : decode cX7_search 5 = .ok (.iconst 4, 1) := by decide +kernel
theorem dX7_search_6 : decode cX7_search 6 = .ok (.if_icmp .le 6, 3) := by decide +kernel
theorem dX7_search_9 : decode cX7_search 9 = .ok (.bipush (-102), 2) := by decide +kernel
theorem dX7_search_11 : decode cX7_search 11 = .ok (.ireturn, 1) := by decide +kernel
theorem dX7_search_12 : decode cX7_search 12 = .ok (.aload_n 0, 1) := by decide +kernel
theorem dX7_search_13 : decode cX7_search 13 = .ok (.getfield 19, 3) := by decide +kernel
theorem dX7_search_16 : decode cX7_search 16 = .ok (.invokevirtual 89, 3) := by decide +kernel
theorem dX7_search_19 : decode cX7_search 19 = .ok (.ifCond .ne 6, 3) := by decide +kernel
theorem dX7_search_22 : decode cX7_search 22 = .ok (.bipush (-103), 2) := by decide +kernel
theorem dX7_search_24 : decode cX7_search 24 = .ok (.ireturn, 1) := by decide +kernel
theorem dX7_search_25 : decode cX7_search 25 = .ok (.iload_n 1, 1) := by decide +kernel
theorem dX7_search_26 : decode cX7_search 26 = .ok (.tableswitch 62 0 3 #[30, 38, 46, 54], 30) := by decide +kernel
theorem dX7_search_56 : decode cX7_search 56 = .ok (.aload_n 0, 1) := by decide +kernel
theorem dX7_search_57 : decode cX7_search 57 = .ok (.getfield 28, 3) := by decide +kernel
theorem dX7_search_60 : decode cX7_search 60 = .ok (.invokevirtual 199, 3) := by decide +kernel
theorem dX7_search_63 : decode cX7_search 63 = .ok (.ireturn, 1) := by decide +kernel
theorem dX7_search_64 : decode cX7_search 64 = .ok (.aload_n 0, 1) := by decide +kernel
theorem dX7_search_65 : decode cX7_search 65 = .ok (.getfield 28, 3) := by decide +kernel
theorem dX7_search_68 : decode cX7_search 68 = .ok (.invokevirtual 202, 3) := by decide +kernel
theorem dX7_search_71 : decode cX7_search 71 = .ok (.ireturn, 1) := by decide +kernel
theorem dX7_search_72 : decode cX7_search 72 = .ok (.aload_n 0, 1) := by decide +kernel
theorem dX7_search_73 : decode cX7_search 73 = .ok (.getfield 28, 3) := by decide +kernel
theorem dX7_search_76 : decode cX7_search 76 = .ok (.invokevirtual 205, 3) := by decide +kernel
theorem dX7_search_79 : decode cX7_search 79 = .ok (.ireturn, 1) := by decide +kernel
theorem dX7_search_80 : decode cX7_search 80 = .ok (.aload_n 0, 1) := by decide +kernel
theorem dX7_search_81 : decode cX7_search 81 = .ok (.getfield 28, 3) := by decide +kernel
theorem dX7_search_84 : decode cX7_search 84 = .ok (.invokevirtual 208, 3) := by decide +kernel
theorem dX7_search_87 : decode cX7_search 87 = .ok (.ireturn, 1) := by decide +kernel
theorem dX7_search_88 : decode cX7_search 88 = .ok (.aload_n 0, 1) := by decide +kernel
theorem dX7_search_89 : decode cX7_search 89 = .ok (.getfield 28, 3) := by decide +kernel
theorem dX7_search_92 : decode cX7_search 92 = .ok (.invokevirtual 211, 3) := by decide +kernel
theorem dX7_search_95 : decode cX7_search 95 = .ok (.ireturn, 1) := by decide +kernel
theorem dX7_count_0 : decode cX7_count 0 = .ok (.iload_n 1, 1) := by decide +kernel
theorem dX7_count_1 : decode cX7_count 1 = .ok (.tableswitch 69 0 4 #[35, 43, 51, 59, 64], 35) := by decide +kernel
theorem dX7_count_36 : decode cX7_count 36 = .ok (.aload_n 0, 1) := by decide +kernel
theorem dX7_count_37 : decode cX7_count 37 = .ok (.getfield 19, 3) := by decide +kernel
theorem dX7_count_40 : decode cX7_count 40 = .ok (.invokevirtual 89, 3) := by decide +kernel
theorem dX7_count_43 : decode cX7_count 43 = .ok (.ireturn, 1) := by decide +kernel
theorem dX7_count_44 : decode cX7_count 44 = .ok (.aload_n 0, 1) := by decide +kernel
theorem dX7_count_45 : decode cX7_count 45 = .ok (.getfield 10, 3) := by decide +kernel
theorem dX7_count_48 : decode cX7_count 48 = .ok (.invokevirtual 57, 3) := by decide +kernel
theorem dX7_count_51 : decode cX7_count 51 = .ok (.ireturn, 1) := by decide +kernel
theorem dX7_count_52 : decode cX7_count 52 = .ok (.aload_n 0, 1) := by decide +kernel
theorem dX7_count_53 : decode cX7_count 53 = .ok (.getfield 35, 3) := by decide +kernel
theorem dX7_count_56 : decode cX7_count 56 = .ok (.invokevirtual 214, 3) := by decide +kernel
theorem dX7_count_59 : decode cX7_count 59 = .ok (.ireturn, 1) := by decide +kernel
theorem dX7_count_60 : decode cX7_count 60 = .ok (.aload_n 0, 1) := by decide +kernel
theorem dX7_count_61 : decode cX7_count 61 = .ok (.getfield 50, 3) := by decide +kernel
theorem dX7_count_64 : decode cX7_count 64 = .ok (.ireturn, 1) := by decide +kernel
theorem dX7_count_65 : decode cX7_count 65 = .ok (.aload_n 0, 1) := by decide +kernel
theorem dX7_count_66 : decode cX7_count 66 = .ok (.getfield 54, 3) := by decide +kernel
theorem dX7_count_69 : decode cX7_count 69 = .ok (.ireturn, 1) := by decide +kernel
theorem dX7_count_70 : decode cX7_count 70 = .ok (.bipush (-102), 2) := by decide +kernel
theorem dX7_count_72 : decode cX7_count 72 = .ok (.ireturn, 1) := by decide +kernel
theorem dX7_digest_0 : decode cX7_digest 0 = .ok (.ldc2_w 217, 3) := by decide +kernel
theorem dX7_digest_3 : decode cX7_digest 3 = .ok (.lstore_n 1, 1) := by decide +kernel
theorem dX7_digest_4 : decode cX7_digest 4 = .ok (.iconst 0, 1) := by decide +kernel
theorem dX7_digest_5 : decode cX7_digest 5 = .ok (.istore_n 3, 1) := by decide +kernel
theorem dX7_digest_6 : decode cX7_digest 6 = .ok (.iload_n 3, 1) := by decide +kernel
theorem dX7_digest_7 : decode cX7_digest 7 = .ok (.iconst 5, 1) := by decide +kernel
theorem dX7_digest_8 : decode cX7_digest 8 = .ok (.if_icmp .gt 19, 3) := by decide +kernel
theorem dX7_digest_11 : decode cX7_digest 11 = .ok (.lload_n 1, 1) := by decide +kernel
theorem dX7_digest_12 : decode cX7_digest 12 = .ok (.aload_n 0, 1) := by decide +kernel
theorem dX7_digest_13 : decode cX7_digest 13 = .ok (.iload_n 3, 1) := by decide +kernel
theorem dX7_digest_14 : decode cX7_digest 14 = .ok (.invokevirtual 219, 3) := by decide +kernel
theorem dX7_digest_17 : decode cX7_digest 17 = .ok (.invokestatic 222, 3) := by decide +kernel
theorem dX7_digest_20 : decode cX7_digest 20 = .ok (.lstore_n 1, 1) := by decide +kernel
theorem dX7_digest_21 : decode cX7_digest 21 = .ok (.iinc 3 1, 3) := by decide +kernel
theorem dX7_digest_24 : decode cX7_digest 24 = .ok (.goto (-18), 3) := by decide +kernel
theorem dX7_digest_27 : decode cX7_digest 27 = .ok (.aload_n 0, 1) := by decide +kernel
theorem dX7_digest_28 : decode cX7_digest 28 = .ok (.lload_n 1, 1) := by decide +kernel
theorem dX7_digest_29 : decode cX7_digest 29 = .ok (.invokevirtual 226, 3) := by decide +kernel
theorem dX7_digest_32 : decode cX7_digest 32 = .ok (.lstore_n 1, 1) := by decide +kernel
theorem dX7_digest_33 : decode cX7_digest 33 = .ok (.aload_n 0, 1) := by decide +kernel
theorem dX7_digest_34 : decode cX7_digest 34 = .ok (.lload_n 1, 1) := by decide +kernel
theorem dX7_digest_35 : decode cX7_digest 35 = .ok (.invokevirtual 230, 3) := by decide +kernel
theorem dX7_digest_38 : decode cX7_digest 38 = .ok (.lstore_n 1, 1) := by decide +kernel
theorem dX7_digest_39 : decode cX7_digest 39 = .ok (.aload_n 0, 1) := by decide +kernel
theorem dX7_digest_40 : decode cX7_digest 40 = .ok (.lload_n 1, 1) := by decide +kernel
theorem dX7_digest_41 : decode cX7_digest 41 = .ok (.invokevirtual 233, 3) := by decide +kernel
theorem dX7_digest_44 : decode cX7_digest 44 = .ok (.lstore_n 1, 1) := by decide +kernel
theorem dX7_digest_45 : decode cX7_digest 45 = .ok (.iconst 0, 1) := by decide +kernel
theorem dX7_digest_46 : decode cX7_digest 46 = .ok (.istore_n 3, 1) := by decide +kernel
theorem dX7_digest_47 : decode cX7_digest 47 = .ok (.iload_n 3, 1) := by decide +kernel
theorem dX7_digest_48 : decode cX7_digest 48 = .ok (.iconst 4, 1) := by decide +kernel
theorem dX7_digest_49 : decode cX7_digest 49 = .ok (.if_icmp .gt 29, 3) := by decide +kernel
theorem dX7_digest_52 : decode cX7_digest 52 = .ok (.aload_n 0, 1) := by decide +kernel
theorem dX7_digest_53 : decode cX7_digest 53 = .ok (.getfield 19, 3) := by decide +kernel
theorem dX7_digest_56 : decode cX7_digest 56 = .ok (.invokevirtual 89, 3) := by decide +kernel
theorem dX7_digest_59 : decode cX7_digest 59 = .ok (.ifCond .le 19, 3) := by decide +kernel
theorem dX7_digest_62 : decode cX7_digest 62 = .ok (.lload_n 1, 1) := by decide +kernel
theorem dX7_digest_63 : decode cX7_digest 63 = .ok (.aload_n 0, 1) := by decide +kernel
theorem dX7_digest_64 : decode cX7_digest 64 = .ok (.iload_n 3, 1) := by decide +kernel
theorem dX7_digest_65 : decode cX7_digest 65 = .ok (.invokevirtual 236, 3) := by decide +kernel
theorem dX7_digest_68 : decode cX7_digest 68 = .ok (.invokestatic 222, 3) := by decide +kernel
theorem dX7_digest_71 : decode cX7_digest 71 = .ok (.lstore_n 1, 1) := by decide +kernel
theorem dX7_digest_72 : decode cX7_digest 72 = .ok (.iinc 3 1, 3) := by decide +kernel
theorem dX7_digest_75 : decode cX7_digest 75 = .ok (.goto (-28), 3) := by decide +kernel
theorem dX7_digest_78 : decode cX7_digest 78 = .ok (.iconst 0, 1) := by decide +kernel
theorem dX7_digest_79 : decode cX7_digest 79 = .ok (.istore_n 3, 1) := by decide +kernel
theorem dX7_digest_80 : decode cX7_digest 80 = .ok (.iload_n 3, 1) := by decide +kernel
theorem dX7_digest_81 : decode cX7_digest 81 = .ok (.aload_n 0, 1) := by decide +kernel
theorem dX7_digest_82 : decode cX7_digest 82 = .ok (.getfield 10, 3) := by decide +kernel
theorem dX7_digest_85 : decode cX7_digest 85 = .ok (.invokevirtual 57, 3) := by decide +kernel
theorem dX7_digest_88 : decode cX7_digest 88 = .ok (.if_icmp .ge 22, 3) := by decide +kernel
theorem dX7_digest_91 : decode cX7_digest 91 = .ok (.lload_n 1, 1) := by decide +kernel
theorem dX7_digest_92 : decode cX7_digest 92 = .ok (.aload_n 0, 1) := by decide +kernel
theorem dX7_digest_93 : decode cX7_digest 93 = .ok (.getfield 10, 3) := by decide +kernel
theorem dX7_digest_96 : decode cX7_digest 96 = .ok (.iload_n 3, 1) := by decide +kernel
theorem dX7_digest_97 : decode cX7_digest 97 = .ok (.invokevirtual 239, 3) := by decide +kernel
theorem dX7_digest_100 : decode cX7_digest 100 = .ok (.invokestatic 222, 3) := by decide +kernel
theorem dX7_digest_103 : decode cX7_digest 103 = .ok (.lstore_n 1, 1) := by decide +kernel
theorem dX7_digest_104 : decode cX7_digest 104 = .ok (.iinc 3 1, 3) := by decide +kernel
theorem dX7_digest_107 : decode cX7_digest 107 = .ok (.goto (-27), 3) := by decide +kernel
theorem dX7_digest_110 : decode cX7_digest 110 = .ok (.iconst 0, 1) := by decide +kernel
theorem dX7_digest_111 : decode cX7_digest 111 = .ok (.istore_n 3, 1) := by decide +kernel
theorem dX7_digest_112 : decode cX7_digest 112 = .ok (.iload_n 3, 1) := by decide +kernel
theorem dX7_digest_113 : decode cX7_digest 113 = .ok (.iconst 4, 1) := by decide +kernel
theorem dX7_digest_114 : decode cX7_digest 114 = .ok (.if_icmp .gt 19, 3) := by decide +kernel
theorem dX7_digest_117 : decode cX7_digest 117 = .ok (.lload_n 1, 1) := by decide +kernel
theorem dX7_digest_118 : decode cX7_digest 118 = .ok (.aload_n 0, 1) := by decide +kernel
theorem dX7_digest_119 : decode cX7_digest 119 = .ok (.iload_n 3, 1) := by decide +kernel
theorem dX7_digest_120 : decode cX7_digest 120 = .ok (.invokevirtual 242, 3) := by decide +kernel
theorem dX7_digest_123 : decode cX7_digest 123 = .ok (.invokestatic 222, 3) := by decide +kernel
theorem dX7_digest_126 : decode cX7_digest 126 = .ok (.lstore_n 1, 1) := by decide +kernel
theorem dX7_digest_127 : decode cX7_digest 127 = .ok (.iinc 3 1, 3) := by decide +kernel
theorem dX7_digest_130 : decode cX7_digest 130 = .ok (.goto (-18), 3) := by decide +kernel
theorem dX7_digest_133 : decode cX7_digest 133 = .ok (.lload_n 1, 1) := by decide +kernel
theorem dX7_digest_134 : decode cX7_digest 134 = .ok (.lreturn, 1) := by decide +kernel
theorem dX7_mixWords_0 : decode cX7_mixWords 0 = .ok (.lload_n 1, 1) := by decide +kernel
theorem dX7_mixWords_1 : decode cX7_mixWords 1 = .ok (.lstore_n 3, 1) := by decide +kernel
theorem dX7_mixWords_2 : decode cX7_mixWords 2 = .ok (.iconst 0, 1) := by decide +kernel
theorem dX7_mixWords_3 : decode cX7_mixWords 3 = .ok (.istore 5, 2) := by decide +kernel
theorem dX7_mixWords_5 : decode cX7_mixWords 5 = .ok (.iload 5, 2) := by decide +kernel
theorem dX7_mixWords_7 : decode cX7_mixWords 7 = .ok (.aload_n 0, 1) := by decide +kernel
theorem dX7_mixWords_8 : decode cX7_mixWords 8 = .ok (.getfield 19, 3) := by decide +kernel
theorem dX7_mixWords_11 : decode cX7_mixWords 11 = .ok (.invokevirtual 89, 3) := by decide +kernel
theorem dX7_mixWords_14 : decode cX7_mixWords 14 = .ok (.if_icmp .ge 71, 3) := by decide +kernel
theorem dX7_mixWords_17 : decode cX7_mixWords 17 = .ok (.iconst 0, 1) := by decide +kernel
theorem dX7_mixWords_18 : decode cX7_mixWords 18 = .ok (.istore 6, 2) := by decide +kernel
theorem dX7_mixWords_20 : decode cX7_mixWords 20 = .ok (.iload 6, 2) := by decide +kernel
theorem dX7_mixWords_22 : decode cX7_mixWords 22 = .ok (.aload_n 0, 1) := by decide +kernel
theorem dX7_mixWords_23 : decode cX7_mixWords 23 = .ok (.getfield 19, 3) := by decide +kernel
theorem dX7_mixWords_26 : decode cX7_mixWords 26 = .ok (.invokevirtual 109, 3) := by decide +kernel
theorem dX7_mixWords_29 : decode cX7_mixWords 29 = .ok (.if_icmp .ge 22, 3) := by decide +kernel
theorem dX7_mixWords_32 : decode cX7_mixWords 32 = .ok (.lload_n 3, 1) := by decide +kernel
theorem dX7_mixWords_33 : decode cX7_mixWords 33 = .ok (.aload_n 0, 1) := by decide +kernel
theorem dX7_mixWords_34 : decode cX7_mixWords 34 = .ok (.iload 5, 2) := by decide +kernel
theorem dX7_mixWords_36 : decode cX7_mixWords 36 = .ok (.iload 6, 2) := by decide +kernel
theorem dX7_mixWords_38 : decode cX7_mixWords 38 = .ok (.invokevirtual 245, 3) := by decide +kernel
theorem dX7_mixWords_41 : decode cX7_mixWords 41 = .ok (.invokestatic 222, 3) := by decide +kernel
theorem dX7_mixWords_44 : decode cX7_mixWords 44 = .ok (.lstore_n 3, 1) := by decide +kernel
theorem dX7_mixWords_45 : decode cX7_mixWords 45 = .ok (.iinc 6 1, 3) := by decide +kernel
theorem dX7_mixWords_48 : decode cX7_mixWords 48 = .ok (.goto (-28), 3) := by decide +kernel
theorem dX7_mixWords_51 : decode cX7_mixWords 51 = .ok (.iconst 0, 1) := by decide +kernel
theorem dX7_mixWords_52 : decode cX7_mixWords 52 = .ok (.istore 6, 2) := by decide +kernel
theorem dX7_mixWords_54 : decode cX7_mixWords 54 = .ok (.iload 6, 2) := by decide +kernel
theorem dX7_mixWords_56 : decode cX7_mixWords 56 = .ok (.iconst 4, 1) := by decide +kernel
theorem dX7_mixWords_57 : decode cX7_mixWords 57 = .ok (.if_icmp .gt 22, 3) := by decide +kernel
theorem dX7_mixWords_60 : decode cX7_mixWords 60 = .ok (.lload_n 3, 1) := by decide +kernel
theorem dX7_mixWords_61 : decode cX7_mixWords 61 = .ok (.aload_n 0, 1) := by decide +kernel
theorem dX7_mixWords_62 : decode cX7_mixWords 62 = .ok (.iload 5, 2) := by decide +kernel
theorem dX7_mixWords_64 : decode cX7_mixWords 64 = .ok (.iload 6, 2) := by decide +kernel
theorem dX7_mixWords_66 : decode cX7_mixWords 66 = .ok (.invokevirtual 248, 3) := by decide +kernel
theorem dX7_mixWords_69 : decode cX7_mixWords 69 = .ok (.invokestatic 222, 3) := by decide +kernel
theorem dX7_mixWords_72 : decode cX7_mixWords 72 = .ok (.lstore_n 3, 1) := by decide +kernel
theorem dX7_mixWords_73 : decode cX7_mixWords 73 = .ok (.iinc 6 1, 3) := by decide +kernel
theorem dX7_mixWords_76 : decode cX7_mixWords 76 = .ok (.goto (-22), 3) := by decide +kernel
theorem dX7_mixWords_79 : decode cX7_mixWords 79 = .ok (.iinc 5 1, 3) := by decide +kernel
theorem dX7_mixWords_82 : decode cX7_mixWords 82 = .ok (.goto (-77), 3) := by decide +kernel
theorem dX7_mixWords_85 : decode cX7_mixWords 85 = .ok (.lload_n 3, 1) := by decide +kernel
theorem dX7_mixWords_86 : decode cX7_mixWords 86 = .ok (.lreturn, 1) := by decide +kernel
theorem dX7_mixSquares_0 : decode cX7_mixSquares 0 = .ok (.lload_n 1, 1) := by decide +kernel
theorem dX7_mixSquares_1 : decode cX7_mixSquares 1 = .ok (.lstore_n 3, 1) := by decide +kernel
theorem dX7_mixSquares_2 : decode cX7_mixSquares 2 = .ok (.iconst 0, 1) := by decide +kernel
theorem dX7_mixSquares_3 : decode cX7_mixSquares 3 = .ok (.istore 5, 2) := by decide +kernel
theorem dX7_mixSquares_5 : decode cX7_mixSquares 5 = .ok (.iload 5, 2) := by decide +kernel
theorem dX7_mixSquares_7 : decode cX7_mixSquares 7 = .ok (.iconst 3, 1) := by decide +kernel
theorem dX7_mixSquares_8 : decode cX7_mixSquares 8 = .ok (.if_icmp .ge 20, 3) := by decide +kernel
theorem dX7_mixSquares_11 : decode cX7_mixSquares 11 = .ok (.lload_n 3, 1) := by decide +kernel
theorem dX7_mixSquares_12 : decode cX7_mixSquares 12 = .ok (.aload_n 0, 1) := by decide +kernel
theorem dX7_mixSquares_13 : decode cX7_mixSquares 13 = .ok (.iload 5, 2) := by decide +kernel
theorem dX7_mixSquares_15 : decode cX7_mixSquares 15 = .ok (.invokevirtual 251, 3) := by decide +kernel
theorem dX7_mixSquares_18 : decode cX7_mixSquares 18 = .ok (.invokestatic 222, 3) := by decide +kernel
theorem dX7_mixSquares_21 : decode cX7_mixSquares 21 = .ok (.lstore_n 3, 1) := by decide +kernel
theorem dX7_mixSquares_22 : decode cX7_mixSquares 22 = .ok (.iinc 5 1, 3) := by decide +kernel
theorem dX7_mixSquares_25 : decode cX7_mixSquares 25 = .ok (.goto (-20), 3) := by decide +kernel
theorem dX7_mixSquares_28 : decode cX7_mixSquares 28 = .ok (.aload_n 0, 1) := by decide +kernel
theorem dX7_mixSquares_29 : decode cX7_mixSquares 29 = .ok (.iconst 0, 1) := by decide +kernel
theorem dX7_mixSquares_30 : decode cX7_mixSquares 30 = .ok (.invokevirtual 251, 3) := by decide +kernel
theorem dX7_mixSquares_33 : decode cX7_mixSquares 33 = .ok (.bipush 40, 2) := by decide +kernel
theorem dX7_mixSquares_35 : decode cX7_mixSquares 35 = .ok (.invokestatic 254, 3) := by decide +kernel
theorem dX7_mixSquares_38 : decode cX7_mixSquares 38 = .ok (.istore 5, 2) := by decide +kernel
theorem dX7_mixSquares_40 : decode cX7_mixSquares 40 = .ok (.iconst 0, 1) := by decide +kernel
theorem dX7_mixSquares_41 : decode cX7_mixSquares 41 = .ok (.istore 6, 2) := by decide +kernel
theorem dX7_mixSquares_43 : decode cX7_mixSquares 43 = .ok (.iload 6, 2) := by decide +kernel
theorem dX7_mixSquares_45 : decode cX7_mixSquares 45 = .ok (.iload 5, 2) := by decide +kernel
theorem dX7_mixSquares_47 : decode cX7_mixSquares 47 = .ok (.if_icmp .ge 44, 3) := by decide +kernel
theorem dX7_mixSquares_50 : decode cX7_mixSquares 50 = .ok (.iconst 0, 1) := by decide +kernel
theorem dX7_mixSquares_51 : decode cX7_mixSquares 51 = .ok (.istore 7, 2) := by decide +kernel
theorem dX7_mixSquares_53 : decode cX7_mixSquares 53 = .ok (.iload 7, 2) := by decide +kernel
theorem dX7_mixSquares_55 : decode cX7_mixSquares 55 = .ok (.aload_n 0, 1) := by decide +kernel
theorem dX7_mixSquares_56 : decode cX7_mixSquares 56 = .ok (.getfield 19, 3) := by decide +kernel
theorem dX7_mixSquares_59 : decode cX7_mixSquares 59 = .ok (.invokevirtual 109, 3) := by decide +kernel
theorem dX7_mixSquares_62 : decode cX7_mixSquares 62 = .ok (.if_icmp .ge 23, 3) := by decide +kernel
theorem dX7_mixSquares_65 : decode cX7_mixSquares 65 = .ok (.lload_n 3, 1) := by decide +kernel
theorem dX7_mixSquares_66 : decode cX7_mixSquares 66 = .ok (.aload_n 0, 1) := by decide +kernel
theorem dX7_mixSquares_67 : decode cX7_mixSquares 67 = .ok (.iconst 0, 1) := by decide +kernel
theorem dX7_mixSquares_68 : decode cX7_mixSquares 68 = .ok (.iload 6, 2) := by decide +kernel
theorem dX7_mixSquares_70 : decode cX7_mixSquares 70 = .ok (.iload 7, 2) := by decide +kernel
theorem dX7_mixSquares_72 : decode cX7_mixSquares 72 = .ok (.invokevirtual 259, 3) := by decide +kernel
theorem dX7_mixSquares_75 : decode cX7_mixSquares 75 = .ok (.invokestatic 222, 3) := by decide +kernel
theorem dX7_mixSquares_78 : decode cX7_mixSquares 78 = .ok (.lstore_n 3, 1) := by decide +kernel
theorem dX7_mixSquares_79 : decode cX7_mixSquares 79 = .ok (.iinc 7 1, 3) := by decide +kernel
theorem dX7_mixSquares_82 : decode cX7_mixSquares 82 = .ok (.goto (-29), 3) := by decide +kernel
theorem dX7_mixSquares_85 : decode cX7_mixSquares 85 = .ok (.iinc 6 1, 3) := by decide +kernel
theorem dX7_mixSquares_88 : decode cX7_mixSquares 88 = .ok (.goto (-45), 3) := by decide +kernel
theorem dX7_mixSquares_91 : decode cX7_mixSquares 91 = .ok (.iconst 0, 1) := by decide +kernel
theorem dX7_mixSquares_92 : decode cX7_mixSquares 92 = .ok (.istore 6, 2) := by decide +kernel
theorem dX7_mixSquares_94 : decode cX7_mixSquares 94 = .ok (.iload 6, 2) := by decide +kernel
theorem dX7_mixSquares_96 : decode cX7_mixSquares 96 = .ok (.iconst 3, 1) := by decide +kernel
theorem dX7_mixSquares_97 : decode cX7_mixSquares 97 = .ok (.if_icmp .ge 20, 3) := by decide +kernel
theorem dX7_mixSquares_100 : decode cX7_mixSquares 100 = .ok (.lload_n 3, 1) := by decide +kernel
theorem dX7_mixSquares_101 : decode cX7_mixSquares 101 = .ok (.aload_n 0, 1) := by decide +kernel
theorem dX7_mixSquares_102 : decode cX7_mixSquares 102 = .ok (.iload 6, 2) := by decide +kernel
theorem dX7_mixSquares_104 : decode cX7_mixSquares 104 = .ok (.invokevirtual 262, 3) := by decide +kernel
theorem dX7_mixSquares_107 : decode cX7_mixSquares 107 = .ok (.invokestatic 222, 3) := by decide +kernel
theorem dX7_mixSquares_110 : decode cX7_mixSquares 110 = .ok (.lstore_n 3, 1) := by decide +kernel
theorem dX7_mixSquares_111 : decode cX7_mixSquares 111 = .ok (.iinc 6 1, 3) := by decide +kernel
theorem dX7_mixSquares_114 : decode cX7_mixSquares 114 = .ok (.goto (-20), 3) := by decide +kernel
theorem dX7_mixSquares_117 : decode cX7_mixSquares 117 = .ok (.lload_n 3, 1) := by decide +kernel
theorem dX7_mixSquares_118 : decode cX7_mixSquares 118 = .ok (.lreturn, 1) := by decide +kernel
theorem dX7_mixBoard_0 : decode cX7_mixBoard 0 = .ok (.lload_n 1, 1) := by decide +kernel
theorem dX7_mixBoard_1 : decode cX7_mixBoard 1 = .ok (.lstore_n 3, 1) := by decide +kernel
theorem dX7_mixBoard_2 : decode cX7_mixBoard 2 = .ok (.aload_n 0, 1) := by decide +kernel
theorem dX7_mixBoard_3 : decode cX7_mixBoard 3 = .ok (.invokevirtual 265, 3) := by decide +kernel
theorem dX7_mixBoard_6 : decode cX7_mixBoard 6 = .ok (.ifCond .le 7, 3) := by decide +kernel
theorem dX7_mixBoard_9 : decode cX7_mixBoard 9 = .ok (.iconst 1, 1) := by decide +kernel
theorem dX7_mixBoard_10 : decode cX7_mixBoard 10 = .ok (.goto 4, 3) := by decide +kernel
theorem dX7_mixBoard_13 : decode cX7_mixBoard 13 = .ok (.iconst 0, 1) := by decide +kernel
theorem dX7_mixBoard_14 : decode cX7_mixBoard 14 = .ok (.istore 5, 2) := by decide +kernel
theorem dX7_mixBoard_16 : decode cX7_mixBoard 16 = .ok (.iconst 0, 1) := by decide +kernel
theorem dX7_mixBoard_17 : decode cX7_mixBoard 17 = .ok (.istore 6, 2) := by decide +kernel
theorem dX7_mixBoard_19 : decode cX7_mixBoard 19 = .ok (.iload 6, 2) := by decide +kernel
theorem dX7_mixBoard_21 : decode cX7_mixBoard 21 = .ok (.aload_n 0, 1) := by decide +kernel
theorem dX7_mixBoard_22 : decode cX7_mixBoard 22 = .ok (.getfield 19, 3) := by decide +kernel
theorem dX7_mixBoard_25 : decode cX7_mixBoard 25 = .ok (.invokevirtual 109, 3) := by decide +kernel
theorem dX7_mixBoard_28 : decode cX7_mixBoard 28 = .ok (.if_icmp .ge 70, 3) := by decide +kernel
theorem dX7_mixBoard_31 : decode cX7_mixBoard 31 = .ok (.lload_n 3, 1) := by decide +kernel
theorem dX7_mixBoard_32 : decode cX7_mixBoard 32 = .ok (.aload_n 0, 1) := by decide +kernel
theorem dX7_mixBoard_33 : decode cX7_mixBoard 33 = .ok (.iload 6, 2) := by decide +kernel
theorem dX7_mixBoard_35 : decode cX7_mixBoard 35 = .ok (.invokevirtual 268, 3) := by decide +kernel
theorem dX7_mixBoard_38 : decode cX7_mixBoard 38 = .ok (.invokestatic 222, 3) := by decide +kernel
theorem dX7_mixBoard_41 : decode cX7_mixBoard 41 = .ok (.lstore_n 3, 1) := by decide +kernel
theorem dX7_mixBoard_42 : decode cX7_mixBoard 42 = .ok (.lload_n 3, 1) := by decide +kernel
theorem dX7_mixBoard_43 : decode cX7_mixBoard 43 = .ok (.aload_n 0, 1) := by decide +kernel
theorem dX7_mixBoard_44 : decode cX7_mixBoard 44 = .ok (.iload 6, 2) := by decide +kernel
theorem dX7_mixBoard_46 : decode cX7_mixBoard 46 = .ok (.invokevirtual 271, 3) := by decide +kernel
theorem dX7_mixBoard_49 : decode cX7_mixBoard 49 = .ok (.invokestatic 222, 3) := by decide +kernel
theorem dX7_mixBoard_52 : decode cX7_mixBoard 52 = .ok (.lstore_n 3, 1) := by decide +kernel
theorem dX7_mixBoard_53 : decode cX7_mixBoard 53 = .ok (.iconst 0, 1) := by decide +kernel
theorem dX7_mixBoard_54 : decode cX7_mixBoard 54 = .ok (.istore 7, 2) := by decide +kernel
theorem dX7_mixBoard_56 : decode cX7_mixBoard 56 = .ok (.iload 7, 2) := by decide +kernel
theorem dX7_mixBoard_58 : decode cX7_mixBoard 58 = .ok (.aload_n 0, 1) := by decide +kernel
theorem dX7_mixBoard_59 : decode cX7_mixBoard 59 = .ok (.getfield 19, 3) := by decide +kernel
theorem dX7_mixBoard_62 : decode cX7_mixBoard 62 = .ok (.invokevirtual 109, 3) := by decide +kernel
theorem dX7_mixBoard_65 : decode cX7_mixBoard 65 = .ok (.if_icmp .ge 27, 3) := by decide +kernel
theorem dX7_mixBoard_68 : decode cX7_mixBoard 68 = .ok (.iload 5, 2) := by decide +kernel
theorem dX7_mixBoard_70 : decode cX7_mixBoard 70 = .ok (.ifCond .eq 22, 3) := by decide +kernel
theorem dX7_mixBoard_73 : decode cX7_mixBoard 73 = .ok (.lload_n 3, 1) := by decide +kernel
theorem dX7_mixBoard_74 : decode cX7_mixBoard 74 = .ok (.aload_n 0, 1) := by decide +kernel
theorem dX7_mixBoard_75 : decode cX7_mixBoard 75 = .ok (.iload 6, 2) := by decide +kernel
theorem dX7_mixBoard_77 : decode cX7_mixBoard 77 = .ok (.iload 7, 2) := by decide +kernel
theorem dX7_mixBoard_79 : decode cX7_mixBoard 79 = .ok (.invokevirtual 274, 3) := by decide +kernel
theorem dX7_mixBoard_82 : decode cX7_mixBoard 82 = .ok (.invokestatic 222, 3) := by decide +kernel
theorem dX7_mixBoard_85 : decode cX7_mixBoard 85 = .ok (.lstore_n 3, 1) := by decide +kernel
theorem dX7_mixBoard_86 : decode cX7_mixBoard 86 = .ok (.iinc 7 1, 3) := by decide +kernel
theorem dX7_mixBoard_89 : decode cX7_mixBoard 89 = .ok (.goto (-33), 3) := by decide +kernel
theorem dX7_mixBoard_92 : decode cX7_mixBoard 92 = .ok (.iinc 6 1, 3) := by decide +kernel
theorem dX7_mixBoard_95 : decode cX7_mixBoard 95 = .ok (.goto (-76), 3) := by decide +kernel
theorem dX7_mixBoard_98 : decode cX7_mixBoard 98 = .ok (.lload_n 3, 1) := by decide +kernel
theorem dX7_mixBoard_99 : decode cX7_mixBoard 99 = .ok (.aload_n 0, 1) := by decide +kernel
theorem dX7_mixBoard_100 : decode cX7_mixBoard 100 = .ok (.invokevirtual 265, 3) := by decide +kernel
theorem dX7_mixBoard_103 : decode cX7_mixBoard 103 = .ok (.invokestatic 222, 3) := by decide +kernel
theorem dX7_mixBoard_106 : decode cX7_mixBoard 106 = .ok (.lreturn, 1) := by decide +kernel
theorem dX7_mix_0 : decode cX7_mix 0 = .ok (.ldc2_w 277, 3) := by decide +kernel
theorem dX7_mix_3 : decode cX7_mix 3 = .ok (.lload_n 0, 1) := by decide +kernel
theorem dX7_mix_4 : decode cX7_mix 4 = .ok (.lmul, 1) := by decide +kernel
theorem dX7_mix_5 : decode cX7_mix 5 = .ok (.iload_n 2, 1) := by decide +kernel
theorem dX7_mix_6 : decode cX7_mix 6 = .ok (.i2l, 1) := by decide +kernel
theorem dX7_mix_7 : decode cX7_mix 7 = .ok (.ladd, 1) := by decide +kernel
theorem dX7_mix_8 : decode cX7_mix 8 = .ok (.lreturn, 1) := by decide +kernel
theorem dX7_isKind_0 : decode cX7_isKind 0 = .ok (.iload_n 0, 1) := by decide +kernel
theorem dX7_isKind_1 : decode cX7_isKind 1 = .ok (.ifCond .lt 12, 3) := by decide +kernel
theorem dX7_isKind_4 : decode cX7_isKind 4 = .ok (.iload_n 0, 1) := by decide +kernel
theorem dX7_isKind_5 : decode cX7_isKind 5 = .ok (.iconst 3, 1) := by decide +kernel
theorem dX7_isKind_6 : decode cX7_isKind 6 = .ok (.if_icmp .ge 7, 3) := by decide +kernel
theorem dX7_isKind_9 : decode cX7_isKind 9 = .ok (.iconst 1, 1) := by decide +kernel
theorem dX7_isKind_10 : decode cX7_isKind 10 = .ok (.goto 4, 3) := by decide +kernel
theorem dX7_isKind_13 : decode cX7_isKind 13 = .ok (.iconst 0, 1) := by decide +kernel
theorem dX7_isKind_14 : decode cX7_isKind 14 = .ok (.ireturn, 1) := by decide +kernel
theorem dX7_packedWord_0 : decode cX7_packedWord 0 = .ok (.iload_n 0, 1) := by decide +kernel
theorem dX7_packedWord_1 : decode cX7_packedWord 1 = .ok (.iconst 4, 1) := by decide +kernel
theorem dX7_packedWord_2 : decode cX7_packedWord 2 = .ok (.iload_n 2, 1) := by decide +kernel
theorem dX7_packedWord_3 : decode cX7_packedWord 3 = .ok (.iconst 1, 1) := by decide +kernel
theorem dX7_packedWord_4 : decode cX7_packedWord 4 = .ok (.isub, 1) := by decide +kernel
theorem dX7_packedWord_5 : decode cX7_packedWord 5 = .ok (.iload_n 1, 1) := by decide +kernel
theorem dX7_packedWord_6 : decode cX7_packedWord 6 = .ok (.isub, 1) := by decide +kernel
theorem dX7_packedWord_7 : decode cX7_packedWord 7 = .ok (.imul, 1) := by decide +kernel
theorem dX7_packedWord_8 : decode cX7_packedWord 8 = .ok (.ishr, 1) := by decide +kernel
theorem dX7_packedWord_9 : decode cX7_packedWord 9 = .ok (.bipush 15, 2) := by decide +kernel
theorem dX7_packedWord_11 : decode cX7_packedWord 11 = .ok (.iand, 1) := by decide +kernel
theorem dX7_packedWord_12 : decode cX7_packedWord 12 = .ok (.ireturn, 1) := by decide +kernel
theorem dX7_renew_0 : decode cX7_renew 0 = .ok (.aload_n 0, 1) := by decide +kernel
theorem dX7_renew_1 : decode cX7_renew 1 = .ok (.getfield 28, 3) := by decide +kernel
theorem dX7_renew_4 : decode cX7_renew 4 = .ok (.invokevirtual 279, 3) := by decide +kernel
theorem dX7_renew_7 : decode cX7_renew 7 = .ok (.aload_n 0, 1) := by decide +kernel
theorem dX7_renew_8 : decode cX7_renew 8 = .ok (.getfield 35, 3) := by decide +kernel
theorem dX7_renew_11 : decode cX7_renew 11 = .ok (.invokevirtual 282, 3) := by decide +kernel
theorem dX7_renew_14 : decode cX7_renew 14 = .ok (.aload_n 0, 1) := by decide +kernel
theorem dX7_renew_15 : decode cX7_renew 15 = .ok (.iconst 0, 1) := by decide +kernel
theorem dX7_renew_16 : decode cX7_renew 16 = .ok (.putfield 43, 3) := by decide +kernel
theorem dX7_renew_19 : decode cX7_renew 19 = .ok (.aload_n 0, 1) := by decide +kernel
theorem dX7_renew_20 : decode cX7_renew 20 = .ok (.iconst 0, 1) := by decide +kernel
theorem dX7_renew_21 : decode cX7_renew 21 = .ok (.putfield 47, 3) := by decide +kernel
theorem dX7_renew_24 : decode cX7_renew 24 = .ok (.return_, 1) := by decide +kernel
theorem dX7_lookedBoard_0 : decode cX7_lookedBoard 0 = .ok (.aload_n 0, 1) := by decide +kernel
theorem dX7_lookedBoard_1 : decode cX7_lookedBoard 1 = .ok (.getfield 47, 3) := by decide +kernel
theorem dX7_lookedBoard_4 : decode cX7_lookedBoard 4 = .ok (.ifCond .ne 30, 3) := by decide +kernel
theorem dX7_lookedBoard_7 : decode cX7_lookedBoard 7 = .ok (.aload_n 0, 1) := by decide +kernel
theorem dX7_lookedBoard_8 : decode cX7_lookedBoard 8 = .ok (.getfield 35, 3) := by decide +kernel
theorem dX7_lookedBoard_11 : decode cX7_lookedBoard 11 = .ok (.aload_n 0, 1) := by decide +kernel
theorem dX7_lookedBoard_12 : decode cX7_lookedBoard 12 = .ok (.getfield 28, 3) := by decide +kernel
theorem dX7_lookedBoard_15 : decode cX7_lookedBoard 15 = .ok (.iconst 0, 1) := by decide +kernel
theorem dX7_lookedBoard_16 : decode cX7_lookedBoard 16 = .ok (.invokevirtual 151, 3) := by decide +kernel
theorem dX7_lookedBoard_19 : decode cX7_lookedBoard 19 = .ok (.aload_n 0, 1) := by decide +kernel
theorem dX7_lookedBoard_20 : decode cX7_lookedBoard 20 = .ok (.getfield 19, 3) := by decide +kernel
theorem dX7_lookedBoard_23 : decode cX7_lookedBoard 23 = .ok (.invokevirtual 109, 3) := by decide +kernel
theorem dX7_lookedBoard_26 : decode cX7_lookedBoard 26 = .ok (.invokevirtual 283, 3) := by decide +kernel
theorem dX7_lookedBoard_29 : decode cX7_lookedBoard 29 = .ok (.aload_n 0, 1) := by decide +kernel
theorem dX7_lookedBoard_30 : decode cX7_lookedBoard 30 = .ok (.iconst 1, 1) := by decide +kernel
theorem dX7_lookedBoard_31 : decode cX7_lookedBoard 31 = .ok (.putfield 47, 3) := by decide +kernel
theorem dX7_lookedBoard_34 : decode cX7_lookedBoard 34 = .ok (.aload_n 0, 1) := by decide +kernel
theorem dX7_lookedBoard_35 : decode cX7_lookedBoard 35 = .ok (.getfield 35, 3) := by decide +kernel
theorem dX7_lookedBoard_38 : decode cX7_lookedBoard 38 = .ok (.areturn, 1) := by decide +kernel
theorem dX7_greatestOf_0 : decode cX7_greatestOf 0 = .ok (.iconst (-1), 1) := by decide +kernel
theorem dX7_greatestOf_1 : decode cX7_greatestOf 1 = .ok (.istore_n 2, 1) := by decide +kernel
theorem dX7_greatestOf_2 : decode cX7_greatestOf 2 = .ok (.iconst 0, 1) := by decide +kernel
theorem dX7_greatestOf_3 : decode cX7_greatestOf 3 = .ok (.istore_n 3, 1) := by decide +kernel
theorem dX7_greatestOf_4 : decode cX7_greatestOf 4 = .ok (.iconst 0, 1) := by decide +kernel
theorem dX7_greatestOf_5 : decode cX7_greatestOf 5 = .ok (.istore 4, 2) := by decide +kernel
theorem dX7_greatestOf_7 : decode cX7_greatestOf 7 = .ok (.iload 4, 2) := by decide +kernel
theorem dX7_greatestOf_9 : decode cX7_greatestOf 9 = .ok (.aload_n 1, 1) := by decide +kernel
theorem dX7_greatestOf_10 : decode cX7_greatestOf 10 = .ok (.invokevirtual 155, 3) := by decide +kernel
theorem dX7_greatestOf_13 : decode cX7_greatestOf 13 = .ok (.if_icmp .ge 30, 3) := by decide +kernel
theorem dX7_greatestOf_16 : decode cX7_greatestOf 16 = .ok (.aload_n 0, 1) := by decide +kernel
theorem dX7_greatestOf_17 : decode cX7_greatestOf 17 = .ok (.aload_n 1, 1) := by decide +kernel
theorem dX7_greatestOf_18 : decode cX7_greatestOf 18 = .ok (.iload 4, 2) := by decide +kernel
theorem dX7_greatestOf_20 : decode cX7_greatestOf 20 = .ok (.invokevirtual 176, 3) := by decide +kernel
theorem dX7_greatestOf_23 : decode cX7_greatestOf 23 = .ok (.istore 5, 2) := by decide +kernel
theorem dX7_greatestOf_25 : decode cX7_greatestOf 25 = .ok (.iload 5, 2) := by decide +kernel
theorem dX7_greatestOf_27 : decode cX7_greatestOf 27 = .ok (.iload_n 3, 1) := by decide +kernel
theorem dX7_greatestOf_28 : decode cX7_greatestOf 28 = .ok (.if_icmp .le 9, 3) := by decide +kernel
theorem dX7_greatestOf_31 : decode cX7_greatestOf 31 = .ok (.iload 5, 2) := by decide +kernel
theorem dX7_greatestOf_33 : decode cX7_greatestOf 33 = .ok (.istore_n 3, 1) := by decide +kernel
theorem dX7_greatestOf_34 : decode cX7_greatestOf 34 = .ok (.iload 4, 2) := by decide +kernel
theorem dX7_greatestOf_36 : decode cX7_greatestOf 36 = .ok (.istore_n 2, 1) := by decide +kernel
theorem dX7_greatestOf_37 : decode cX7_greatestOf 37 = .ok (.iinc 4 1, 3) := by decide +kernel
theorem dX7_greatestOf_40 : decode cX7_greatestOf 40 = .ok (.goto (-33), 3) := by decide +kernel
theorem dX7_greatestOf_43 : decode cX7_greatestOf 43 = .ok (.iload_n 2, 1) := by decide +kernel
theorem dX7_greatestOf_44 : decode cX7_greatestOf 44 = .ok (.ireturn, 1) := by decide +kernel
theorem dX7_weightOfSquare_0 : decode cX7_weightOfSquare 0 = .ok (.aload_n 1, 1) := by decide +kernel
theorem dX7_weightOfSquare_1 : decode cX7_weightOfSquare 1 = .ok (.iload_n 2, 1) := by decide +kernel
theorem dX7_weightOfSquare_2 : decode cX7_weightOfSquare 2 = .ok (.invokevirtual 159, 3) := by decide +kernel
theorem dX7_weightOfSquare_5 : decode cX7_weightOfSquare 5 = .ok (.istore_n 3, 1) := by decide +kernel
theorem dX7_weightOfSquare_6 : decode cX7_weightOfSquare 6 = .ok (.aload_n 1, 1) := by decide +kernel
theorem dX7_weightOfSquare_7 : decode cX7_weightOfSquare 7 = .ok (.iload_n 2, 1) := by decide +kernel
theorem dX7_weightOfSquare_8 : decode cX7_weightOfSquare 8 = .ok (.invokevirtual 166, 3) := by decide +kernel
theorem dX7_weightOfSquare_11 : decode cX7_weightOfSquare 11 = .ok (.istore 4, 2) := by decide +kernel
theorem dX7_weightOfSquare_13 : decode cX7_weightOfSquare 13 = .ok (.iconst 0, 1) := by decide +kernel
theorem dX7_weightOfSquare_14 : decode cX7_weightOfSquare 14 = .ok (.istore 5, 2) := by decide +kernel
theorem dX7_weightOfSquare_16 : decode cX7_weightOfSquare 16 = .ok (.iconst 0, 1) := by decide +kernel
theorem dX7_weightOfSquare_17 : decode cX7_weightOfSquare 17 = .ok (.istore 6, 2) := by decide +kernel
theorem dX7_weightOfSquare_19 : decode cX7_weightOfSquare 19 = .ok (.iload 6, 2) := by decide +kernel
theorem dX7_weightOfSquare_21 : decode cX7_weightOfSquare 21 = .ok (.aload_n 0, 1) := by decide +kernel
theorem dX7_weightOfSquare_22 : decode cX7_weightOfSquare 22 = .ok (.getfield 19, 3) := by decide +kernel
theorem dX7_weightOfSquare_25 : decode cX7_weightOfSquare 25 = .ok (.invokevirtual 109, 3) := by decide +kernel
theorem dX7_weightOfSquare_28 : decode cX7_weightOfSquare 28 = .ok (.if_icmp .ge 48, 3) := by decide +kernel
theorem dX7_weightOfSquare_31 : decode cX7_weightOfSquare 31 = .ok (.iload 5, 2) := by decide +kernel
theorem dX7_weightOfSquare_33 : decode cX7_weightOfSquare 33 = .ok (.aload_n 0, 1) := by decide +kernel
theorem dX7_weightOfSquare_34 : decode cX7_weightOfSquare 34 = .ok (.getfield 19, 3) := by decide +kernel
theorem dX7_weightOfSquare_37 : decode cX7_weightOfSquare 37 = .ok (.iload_n 3, 1) := by decide +kernel
theorem dX7_weightOfSquare_38 : decode cX7_weightOfSquare 38 = .ok (.bipush 15, 2) := by decide +kernel
theorem dX7_weightOfSquare_40 : decode cX7_weightOfSquare 40 = .ok (.iand, 1) := by decide +kernel
theorem dX7_weightOfSquare_41 : decode cX7_weightOfSquare 41 = .ok (.invokevirtual 103, 3) := by decide +kernel
theorem dX7_weightOfSquare_44 : decode cX7_weightOfSquare 44 = .ok (.aload_n 0, 1) := by decide +kernel
theorem dX7_weightOfSquare_45 : decode cX7_weightOfSquare 45 = .ok (.getfield 19, 3) := by decide +kernel
theorem dX7_weightOfSquare_48 : decode cX7_weightOfSquare 48 = .ok (.iload 4, 2) := by decide +kernel
theorem dX7_weightOfSquare_50 : decode cX7_weightOfSquare 50 = .ok (.bipush 15, 2) := by decide +kernel
theorem dX7_weightOfSquare_52 : decode cX7_weightOfSquare 52 = .ok (.iand, 1) := by decide +kernel
theorem dX7_weightOfSquare_53 : decode cX7_weightOfSquare 53 = .ok (.invokevirtual 103, 3) := by decide +kernel
theorem dX7_weightOfSquare_56 : decode cX7_weightOfSquare 56 = .ok (.iadd, 1) := by decide +kernel
theorem dX7_weightOfSquare_57 : decode cX7_weightOfSquare 57 = .ok (.iadd, 1) := by decide +kernel
theorem dX7_weightOfSquare_58 : decode cX7_weightOfSquare 58 = .ok (.istore 5, 2) := by decide +kernel
theorem dX7_weightOfSquare_60 : decode cX7_weightOfSquare 60 = .ok (.iload_n 3, 1) := by decide +kernel
theorem dX7_weightOfSquare_61 : decode cX7_weightOfSquare 61 = .ok (.iconst 4, 1) := by decide +kernel
theorem dX7_weightOfSquare_62 : decode cX7_weightOfSquare 62 = .ok (.ishr, 1) := by decide +kernel
theorem dX7_weightOfSquare_63 : decode cX7_weightOfSquare 63 = .ok (.istore_n 3, 1) := by decide +kernel
theorem dX7_weightOfSquare_64 : decode cX7_weightOfSquare 64 = .ok (.iload 4, 2) := by decide +kernel
theorem dX7_weightOfSquare_66 : decode cX7_weightOfSquare 66 = .ok (.iconst 4, 1) := by decide +kernel
theorem dX7_weightOfSquare_67 : decode cX7_weightOfSquare 67 = .ok (.ishr, 1) := by decide +kernel
theorem dX7_weightOfSquare_68 : decode cX7_weightOfSquare 68 = .ok (.istore 4, 2) := by decide +kernel
theorem dX7_weightOfSquare_70 : decode cX7_weightOfSquare 70 = .ok (.iinc 6 1, 3) := by decide +kernel
theorem dX7_weightOfSquare_73 : decode cX7_weightOfSquare 73 = .ok (.goto (-54), 3) := by decide +kernel
theorem dX7_weightOfSquare_76 : decode cX7_weightOfSquare 76 = .ok (.iload 5, 2) := by decide +kernel
theorem dX7_weightOfSquare_78 : decode cX7_weightOfSquare 78 = .ok (.ireturn, 1) := by decide +kernel
theorem dJ6_bitCount_0f7a4_0 : decode cJ6_bitCount_0f7a4 0 = .ok (.iload_n 0, 1) := by decide +kernel
theorem dJ6_bitCount_0f7a4_1 : decode cJ6_bitCount_0f7a4 1 = .ok (.iload_n 0, 1) := by decide +kernel
theorem dJ6_bitCount_0f7a4_2 : decode cJ6_bitCount_0f7a4 2 = .ok (.iconst 1, 1) := by decide +kernel
theorem dJ6_bitCount_0f7a4_3 : decode cJ6_bitCount_0f7a4 3 = .ok (.iushr, 1) := by decide +kernel
theorem dJ6_bitCount_0f7a4_4 : decode cJ6_bitCount_0f7a4 4 = .ok (.ldc_w 265, 3) := by decide +kernel
theorem dJ6_bitCount_0f7a4_7 : decode cJ6_bitCount_0f7a4 7 = .ok (.iand, 1) := by decide +kernel
theorem dJ6_bitCount_0f7a4_8 : decode cJ6_bitCount_0f7a4 8 = .ok (.isub, 1) := by decide +kernel
theorem dJ6_bitCount_0f7a4_9 : decode cJ6_bitCount_0f7a4 9 = .ok (.istore_n 0, 1) := by decide +kernel
theorem dJ6_bitCount_0f7a4_10 : decode cJ6_bitCount_0f7a4 10 = .ok (.iload_n 0, 1) := by decide +kernel
theorem dJ6_bitCount_0f7a4_11 : decode cJ6_bitCount_0f7a4 11 = .ok (.ldc_w 266, 3) := by decide +kernel
theorem dJ6_bitCount_0f7a4_14 : decode cJ6_bitCount_0f7a4 14 = .ok (.iand, 1) := by decide +kernel
theorem dJ6_bitCount_0f7a4_15 : decode cJ6_bitCount_0f7a4 15 = .ok (.iload_n 0, 1) := by decide +kernel
theorem dJ6_bitCount_0f7a4_16 : decode cJ6_bitCount_0f7a4 16 = .ok (.iconst 2, 1) := by decide +kernel
theorem dJ6_bitCount_0f7a4_17 : decode cJ6_bitCount_0f7a4 17 = .ok (.iushr, 1) := by decide +kernel
theorem dJ6_bitCount_0f7a4_18 : decode cJ6_bitCount_0f7a4 18 = .ok (.ldc_w 266, 3) := by decide +kernel
theorem dJ6_bitCount_0f7a4_21 : decode cJ6_bitCount_0f7a4 21 = .ok (.iand, 1) := by decide +kernel
theorem dJ6_bitCount_0f7a4_22 : decode cJ6_bitCount_0f7a4 22 = .ok (.iadd, 1) := by decide +kernel
theorem dJ6_bitCount_0f7a4_23 : decode cJ6_bitCount_0f7a4 23 = .ok (.istore_n 0, 1) := by decide +kernel
theorem dJ6_bitCount_0f7a4_24 : decode cJ6_bitCount_0f7a4 24 = .ok (.iload_n 0, 1) := by decide +kernel
theorem dJ6_bitCount_0f7a4_25 : decode cJ6_bitCount_0f7a4 25 = .ok (.iload_n 0, 1) := by decide +kernel
theorem dJ6_bitCount_0f7a4_26 : decode cJ6_bitCount_0f7a4 26 = .ok (.iconst 4, 1) := by decide +kernel
theorem dJ6_bitCount_0f7a4_27 : decode cJ6_bitCount_0f7a4 27 = .ok (.iushr, 1) := by decide +kernel
theorem dJ6_bitCount_0f7a4_28 : decode cJ6_bitCount_0f7a4 28 = .ok (.iadd, 1) := by decide +kernel
theorem dJ6_bitCount_0f7a4_29 : decode cJ6_bitCount_0f7a4 29 = .ok (.ldc_w 267, 3) := by decide +kernel
theorem dJ6_bitCount_0f7a4_32 : decode cJ6_bitCount_0f7a4 32 = .ok (.iand, 1) := by decide +kernel
theorem dJ6_bitCount_0f7a4_33 : decode cJ6_bitCount_0f7a4 33 = .ok (.istore_n 0, 1) := by decide +kernel
theorem dJ6_bitCount_0f7a4_34 : decode cJ6_bitCount_0f7a4 34 = .ok (.iload_n 0, 1) := by decide +kernel
theorem dJ6_bitCount_0f7a4_35 : decode cJ6_bitCount_0f7a4 35 = .ok (.iload_n 0, 1) := by decide +kernel
theorem dJ6_bitCount_0f7a4_36 : decode cJ6_bitCount_0f7a4 36 = .ok (.bipush 8, 2) := by decide +kernel
theorem dJ6_bitCount_0f7a4_38 : decode cJ6_bitCount_0f7a4 38 = .ok (.iushr, 1) := by decide +kernel
theorem dJ6_bitCount_0f7a4_39 : decode cJ6_bitCount_0f7a4 39 = .ok (.iadd, 1) := by decide +kernel
theorem dJ6_bitCount_0f7a4_40 : decode cJ6_bitCount_0f7a4 40 = .ok (.istore_n 0, 1) := by decide +kernel
theorem dJ6_bitCount_0f7a4_41 : decode cJ6_bitCount_0f7a4 41 = .ok (.iload_n 0, 1) := by decide +kernel
theorem dJ6_bitCount_0f7a4_42 : decode cJ6_bitCount_0f7a4 42 = .ok (.iload_n 0, 1) := by decide +kernel
theorem dJ6_bitCount_0f7a4_43 : decode cJ6_bitCount_0f7a4 43 = .ok (.bipush 16, 2) := by decide +kernel
theorem dJ6_bitCount_0f7a4_45 : decode cJ6_bitCount_0f7a4 45 = .ok (.iushr, 1) := by decide +kernel
theorem dJ6_bitCount_0f7a4_46 : decode cJ6_bitCount_0f7a4 46 = .ok (.iadd, 1) := by decide +kernel
theorem dJ6_bitCount_0f7a4_47 : decode cJ6_bitCount_0f7a4 47 = .ok (.istore_n 0, 1) := by decide +kernel
theorem dJ6_bitCount_0f7a4_48 : decode cJ6_bitCount_0f7a4 48 = .ok (.iload_n 0, 1) := by decide +kernel
theorem dJ6_bitCount_0f7a4_49 : decode cJ6_bitCount_0f7a4 49 = .ok (.bipush 63, 2) := by decide +kernel
theorem dJ6_bitCount_0f7a4_51 : decode cJ6_bitCount_0f7a4 51 = .ok (.iand, 1) := by decide +kernel
theorem dJ6_bitCount_0f7a4_52 : decode cJ6_bitCount_0f7a4 52 = .ok (.ireturn, 1) := by decide +kernel
theorem dJ9_min_7cf53_0 : decode cJ9_min_7cf53 0 = .ok (.iload_n 0, 1) := by decide +kernel
theorem dJ9_min_7cf53_1 : decode cJ9_min_7cf53 1 = .ok (.iload_n 1, 1) := by decide +kernel
theorem dJ9_min_7cf53_2 : decode cJ9_min_7cf53 2 = .ok (.if_icmp .gt 7, 3) := by decide +kernel
theorem dJ9_min_7cf53_5 : decode cJ9_min_7cf53 5 = .ok (.iload_n 0, 1) := by decide +kernel
theorem dJ9_min_7cf53_6 : decode cJ9_min_7cf53 6 = .ok (.goto 4, 3) := by decide +kernel
theorem dJ9_min_7cf53_9 : decode cJ9_min_7cf53 9 = .ok (.iload_n 1, 1) := by decide +kernel
theorem dJ9_min_7cf53_10 : decode cJ9_min_7cf53 10 = .ok (.ireturn, 1) := by decide +kernel
theorem dJ7_fill_d0a16_0 : decode cJ7_fill_d0a16 0 = .ok (.iconst 0, 1) := by decide +kernel
theorem dJ7_fill_d0a16_1 : decode cJ7_fill_d0a16 1 = .ok (.istore_n 3, 1) := by decide +kernel
theorem dJ7_fill_d0a16_2 : decode cJ7_fill_d0a16 2 = .ok (.aload_n 0, 1) := by decide +kernel
theorem dJ7_fill_d0a16_3 : decode cJ7_fill_d0a16 3 = .ok (.arraylength, 1) := by decide +kernel
theorem dJ7_fill_d0a16_4 : decode cJ7_fill_d0a16 4 = .ok (.istore 4, 2) := by decide +kernel
theorem dJ7_fill_d0a16_6 : decode cJ7_fill_d0a16 6 = .ok (.iload_n 3, 1) := by decide +kernel
theorem dJ7_fill_d0a16_7 : decode cJ7_fill_d0a16 7 = .ok (.iload 4, 2) := by decide +kernel
theorem dJ7_fill_d0a16_9 : decode cJ7_fill_d0a16 9 = .ok (.if_icmp .ge 13, 3) := by decide +kernel
theorem dJ7_fill_d0a16_12 : decode cJ7_fill_d0a16 12 = .ok (.aload_n 0, 1) := by decide +kernel
theorem dJ7_fill_d0a16_13 : decode cJ7_fill_d0a16 13 = .ok (.iload_n 3, 1) := by decide +kernel
theorem dJ7_fill_d0a16_14 : decode cJ7_fill_d0a16 14 = .ok (.lload_n 1, 1) := by decide +kernel
theorem dJ7_fill_d0a16_15 : decode cJ7_fill_d0a16 15 = .ok (.lastore, 1) := by decide +kernel
theorem dJ7_fill_d0a16_16 : decode cJ7_fill_d0a16 16 = .ok (.iinc 3 1, 3) := by decide +kernel
theorem dJ7_fill_d0a16_19 : decode cJ7_fill_d0a16 19 = .ok (.goto (-13), 3) := by decide +kernel
theorem dJ7_fill_d0a16_22 : decode cJ7_fill_d0a16 22 = .ok (.return_, 1) := by decide +kernel
theorem dJ7_fill_53178_0 : decode cJ7_fill_53178 0 = .ok (.iconst 0, 1) := by decide +kernel
theorem dJ7_fill_53178_1 : decode cJ7_fill_53178 1 = .ok (.istore_n 2, 1) := by decide +kernel
theorem dJ7_fill_53178_2 : decode cJ7_fill_53178 2 = .ok (.aload_n 0, 1) := by decide +kernel
theorem dJ7_fill_53178_3 : decode cJ7_fill_53178 3 = .ok (.arraylength, 1) := by decide +kernel
theorem dJ7_fill_53178_4 : decode cJ7_fill_53178 4 = .ok (.istore_n 3, 1) := by decide +kernel
theorem dJ7_fill_53178_5 : decode cJ7_fill_53178 5 = .ok (.iload_n 2, 1) := by decide +kernel
theorem dJ7_fill_53178_6 : decode cJ7_fill_53178 6 = .ok (.iload_n 3, 1) := by decide +kernel
theorem dJ7_fill_53178_7 : decode cJ7_fill_53178 7 = .ok (.if_icmp .ge 13, 3) := by decide +kernel
theorem dJ7_fill_53178_10 : decode cJ7_fill_53178 10 = .ok (.aload_n 0, 1) := by decide +kernel
theorem dJ7_fill_53178_11 : decode cJ7_fill_53178 11 = .ok (.iload_n 2, 1) := by decide +kernel
theorem dJ7_fill_53178_12 : decode cJ7_fill_53178 12 = .ok (.iload_n 1, 1) := by decide +kernel
theorem dJ7_fill_53178_13 : decode cJ7_fill_53178 13 = .ok (.iastore, 1) := by decide +kernel
theorem dJ7_fill_53178_14 : decode cJ7_fill_53178 14 = .ok (.iinc 2 1, 3) := by decide +kernel
theorem dJ7_fill_53178_17 : decode cJ7_fill_53178 17 = .ok (.goto (-12), 3) := by decide +kernel
theorem dJ7_fill_53178_20 : decode cJ7_fill_53178 20 = .ok (.return_, 1) := by decide +kernel
theorem dJ7_copyOf_59c91_0 : decode cJ7_copyOf_59c91 0 = .ok (.iload_n 1, 1) := by decide +kernel
theorem dJ7_copyOf_59c91_1 : decode cJ7_copyOf_59c91 1 = .ok (.aload_n 0, 1) := by decide +kernel
theorem dJ7_copyOf_59c91_2 : decode cJ7_copyOf_59c91 2 = .ok (.arraylength, 1) := by decide +kernel
theorem dJ7_copyOf_59c91_3 : decode cJ7_copyOf_59c91 3 = .ok (.if_icmp .ne 11, 3) := by decide +kernel
theorem dJ7_copyOf_59c91_6 : decode cJ7_copyOf_59c91 6 = .ok (.aload_n 0, 1) := by decide +kernel
theorem dJ7_copyOf_59c91_7 : decode cJ7_copyOf_59c91 7 = .ok (.invokevirtual 316, 3) := by decide +kernel
theorem dJ7_copyOf_59c91_10 : decode cJ7_copyOf_59c91 10 = .ok (.checkcast 317, 3) := by decide +kernel
theorem dJ7_copyOf_59c91_13 : decode cJ7_copyOf_59c91 13 = .ok (.areturn, 1) := by decide +kernel
theorem dJ7_copyOf_59c91_14 : decode cJ7_copyOf_59c91 14 = .ok (.iload_n 1, 1) := by decide +kernel
theorem dJ7_copyOf_59c91_15 : decode cJ7_copyOf_59c91 15 = .ok (.newarray .int, 2) := by decide +kernel
theorem dJ7_copyOf_59c91_17 : decode cJ7_copyOf_59c91 17 = .ok (.astore_n 2, 1) := by decide +kernel
theorem dJ7_copyOf_59c91_18 : decode cJ7_copyOf_59c91 18 = .ok (.aload_n 0, 1) := by decide +kernel
theorem dJ7_copyOf_59c91_19 : decode cJ7_copyOf_59c91 19 = .ok (.iconst 0, 1) := by decide +kernel
theorem dJ7_copyOf_59c91_20 : decode cJ7_copyOf_59c91 20 = .ok (.aload_n 2, 1) := by decide +kernel
theorem dJ7_copyOf_59c91_21 : decode cJ7_copyOf_59c91 21 = .ok (.iconst 0, 1) := by decide +kernel
theorem dJ7_copyOf_59c91_22 : decode cJ7_copyOf_59c91 22 = .ok (.aload_n 0, 1) := by decide +kernel
theorem dJ7_copyOf_59c91_23 : decode cJ7_copyOf_59c91 23 = .ok (.arraylength, 1) := by decide +kernel
theorem dJ7_copyOf_59c91_24 : decode cJ7_copyOf_59c91 24 = .ok (.iload_n 1, 1) := by decide +kernel
theorem dJ7_copyOf_59c91_25 : decode cJ7_copyOf_59c91 25 = .ok (.invokestatic 304, 3) := by decide +kernel
theorem dJ7_copyOf_59c91_28 : decode cJ7_copyOf_59c91 28 = .ok (.invokestatic 150, 3) := by decide +kernel
theorem dJ7_copyOf_59c91_31 : decode cJ7_copyOf_59c91 31 = .ok (.aload_n 2, 1) := by decide +kernel
theorem dJ7_copyOf_59c91_32 : decode cJ7_copyOf_59c91 32 = .ok (.areturn, 1) := by decide +kernel
theorem dL_law_0 : decode cL_law 0 = .ok (.new 7, 3) := by decide +kernel
theorem dL_law_3 : decode cL_law 3 = .ok (.dup, 1) := by decide +kernel
theorem dL_law_4 : decode cL_law 4 = .ok (.invokespecial 9, 3) := by decide +kernel
theorem dL_law_7 : decode cL_law 7 = .ok (.astore_n 1, 1) := by decide +kernel
theorem dL_law_8 : decode cL_law 8 = .ok (.new 10, 3) := by decide +kernel
theorem dL_law_11 : decode cL_law 11 = .ok (.dup, 1) := by decide +kernel
theorem dL_law_12 : decode cL_law 12 = .ok (.invokespecial 12, 3) := by decide +kernel
theorem dL_law_15 : decode cL_law 15 = .ok (.astore_n 2, 1) := by decide +kernel
theorem dL_law_16 : decode cL_law 16 = .ok (.iconst 0, 1) := by decide +kernel
theorem dL_law_17 : decode cL_law 17 = .ok (.istore_n 3, 1) := by decide +kernel
theorem dL_law_18 : decode cL_law 18 = .ok (.iload_n 3, 1) := by decide +kernel
theorem dL_law_19 : decode cL_law 19 = .ok (.aload_n 0, 1) := by decide +kernel
theorem dL_law_20 : decode cL_law 20 = .ok (.arraylength, 1) := by decide +kernel
theorem dL_law_21 : decode cL_law 21 = .ok (.iconst 4, 1) := by decide +kernel
theorem dL_law_22 : decode cL_law 22 = .ok (.isub, 1) := by decide +kernel
theorem dL_law_23 : decode cL_law 23 = .ok (.if_icmp .gt 710, 3) := by decide +kernel
theorem dL_law_26 : decode cL_law 26 = .ok (.aload_n 0, 1) := by decide +kernel
theorem dL_law_27 : decode cL_law 27 = .ok (.iload_n 3, 1) := by decide +kernel
theorem dL_law_28 : decode cL_law 28 = .ok (.iaload, 1) := by decide +kernel
theorem dL_law_29 : decode cL_law 29 = .ok (.bipush 31, 2) := by decide +kernel
theorem dL_law_31 : decode cL_law 31 = .ok (.iand, 1) := by decide +kernel
theorem dL_law_32 : decode cL_law 32 = .ok (.tableswitch 695 0 23 #[112, 135, 148, 161, 174, 197, 230, 253, 286, 319, 352, 375, 418, 441, 464, 487, 520, 543, 566, 579, 602, 635, 658, 681], 112) := by decide +kernel
theorem dL_law_144 : decode cL_law 144 = .ok (.aload_n 1, 1) := by decide +kernel
theorem dL_law_145 : decode cL_law 145 = .ok (.aload_n 0, 1) := by decide +kernel
theorem dL_law_146 : decode cL_law 146 = .ok (.iload_n 3, 1) := by decide +kernel
theorem dL_law_147 : decode cL_law 147 = .ok (.iconst 1, 1) := by decide +kernel
theorem dL_law_148 : decode cL_law 148 = .ok (.iadd, 1) := by decide +kernel
theorem dL_law_149 : decode cL_law 149 = .ok (.iaload, 1) := by decide +kernel
theorem dL_law_150 : decode cL_law 150 = .ok (.invokevirtual 13, 3) := by decide +kernel
theorem dL_law_153 : decode cL_law 153 = .ok (.aload_n 2, 1) := by decide +kernel
theorem dL_law_154 : decode cL_law 154 = .ok (.aload_n 0, 1) := by decide +kernel
theorem dL_law_155 : decode cL_law 155 = .ok (.iload_n 3, 1) := by decide +kernel
theorem dL_law_156 : decode cL_law 156 = .ok (.iconst 1, 1) := by decide +kernel
theorem dL_law_157 : decode cL_law 157 = .ok (.iadd, 1) := by decide +kernel
theorem dL_law_158 : decode cL_law 158 = .ok (.iaload, 1) := by decide +kernel
theorem dL_law_159 : decode cL_law 159 = .ok (.invokevirtual 17, 3) := by decide +kernel
theorem dL_law_162 : decode cL_law 162 = .ok (.if_icmp .eq 565, 3) := by decide +kernel
theorem dL_law_165 : decode cL_law 165 = .ok (.iconst 0, 1) := by decide +kernel
theorem dL_law_166 : decode cL_law 166 = .ok (.ireturn, 1) := by decide +kernel
theorem dL_law_167 : decode cL_law 167 = .ok (.aload_n 1, 1) := by decide +kernel
theorem dL_law_168 : decode cL_law 168 = .ok (.invokevirtual 18, 3) := by decide +kernel
theorem dL_law_171 : decode cL_law 171 = .ok (.aload_n 2, 1) := by decide +kernel
theorem dL_law_172 : decode cL_law 172 = .ok (.invokevirtual 22, 3) := by decide +kernel
theorem dL_law_175 : decode cL_law 175 = .ok (.if_icmp .eq 552, 3) := by decide +kernel
theorem dL_law_178 : decode cL_law 178 = .ok (.iconst 0, 1) := by decide +kernel
theorem dL_law_179 : decode cL_law 179 = .ok (.ireturn, 1) := by decide +kernel
theorem dL_law_180 : decode cL_law 180 = .ok (.aload_n 1, 1) := by decide +kernel
theorem dL_law_181 : decode cL_law 181 = .ok (.invokevirtual 23, 3) := by decide +kernel
theorem dL_law_184 : decode cL_law 184 = .ok (.aload_n 2, 1) := by decide +kernel
theorem dL_law_185 : decode cL_law 185 = .ok (.invokevirtual 26, 3) := by decide +kernel
theorem dL_law_188 : decode cL_law 188 = .ok (.if_icmp .eq 539, 3) := by decide +kernel
theorem dL_law_191 : decode cL_law 191 = .ok (.iconst 0, 1) := by decide +kernel
theorem dL_law_192 : decode cL_law 192 = .ok (.ireturn, 1) := by decide +kernel
theorem dL_law_193 : decode cL_law 193 = .ok (.aload_n 1, 1) := by decide +kernel
theorem dL_law_194 : decode cL_law 194 = .ok (.invokevirtual 27, 3) := by decide +kernel
theorem dL_law_197 : decode cL_law 197 = .ok (.aload_n 2, 1) := by decide +kernel
theorem dL_law_198 : decode cL_law 198 = .ok (.invokevirtual 30, 3) := by decide +kernel
theorem dL_law_201 : decode cL_law 201 = .ok (.if_icmp .eq 526, 3) := by decide +kernel
theorem dL_law_204 : decode cL_law 204 = .ok (.iconst 0, 1) := by decide +kernel
theorem dL_law_205 : decode cL_law 205 = .ok (.ireturn, 1) := by decide +kernel
theorem dL_law_206 : decode cL_law 206 = .ok (.aload_n 1, 1) := by decide +kernel
theorem dL_law_207 : decode cL_law 207 = .ok (.aload_n 0, 1) := by decide +kernel
theorem dL_law_208 : decode cL_law 208 = .ok (.iload_n 3, 1) := by decide +kernel
theorem dL_law_209 : decode cL_law 209 = .ok (.iconst 1, 1) := by decide +kernel
theorem dL_law_210 : decode cL_law 210 = .ok (.iadd, 1) := by decide +kernel
theorem dL_law_211 : decode cL_law 211 = .ok (.iaload, 1) := by decide +kernel
theorem dL_law_212 : decode cL_law 212 = .ok (.invokevirtual 31, 3) := by decide +kernel
theorem dL_law_215 : decode cL_law 215 = .ok (.aload_n 2, 1) := by decide +kernel
theorem dL_law_216 : decode cL_law 216 = .ok (.aload_n 0, 1) := by decide +kernel
theorem dL_law_217 : decode cL_law 217 = .ok (.iload_n 3, 1) := by decide +kernel
theorem dL_law_218 : decode cL_law 218 = .ok (.iconst 1, 1) := by decide +kernel
theorem dL_law_219 : decode cL_law 219 = .ok (.iadd, 1) := by decide +kernel
theorem dL_law_220 : decode cL_law 220 = .ok (.iaload, 1) := by decide +kernel
theorem dL_law_221 : decode cL_law 221 = .ok (.invokevirtual 34, 3) := by decide +kernel
theorem dL_law_224 : decode cL_law 224 = .ok (.if_icmp .eq 503, 3) := by decide +kernel
theorem dL_law_227 : decode cL_law 227 = .ok (.iconst 0, 1) := by decide +kernel
theorem dL_law_228 : decode cL_law 228 = .ok (.ireturn, 1) := by decide +kernel
theorem dL_law_229 : decode cL_law 229 = .ok (.aload_n 1, 1) := by decide +kernel
theorem dL_law_230 : decode cL_law 230 = .ok (.aload_n 0, 1) := by decide +kernel
theorem dL_law_231 : decode cL_law 231 = .ok (.iload_n 3, 1) := by decide +kernel
theorem dL_law_232 : decode cL_law 232 = .ok (.iconst 1, 1) := by decide +kernel
theorem dL_law_233 : decode cL_law 233 = .ok (.iadd, 1) := by decide +kernel
theorem dL_law_234 : decode cL_law 234 = .ok (.iaload, 1) := by decide +kernel
theorem dL_law_235 : decode cL_law 235 = .ok (.aload_n 0, 1) := by decide +kernel
theorem dL_law_236 : decode cL_law 236 = .ok (.iload_n 3, 1) := by decide +kernel
theorem dL_law_237 : decode cL_law 237 = .ok (.iconst 2, 1) := by decide +kernel
theorem dL_law_238 : decode cL_law 238 = .ok (.iadd, 1) := by decide +kernel
theorem dL_law_239 : decode cL_law 239 = .ok (.iaload, 1) := by decide +kernel
theorem dL_law_240 : decode cL_law 240 = .ok (.invokevirtual 35, 3) := by decide +kernel
theorem dL_law_243 : decode cL_law 243 = .ok (.aload_n 2, 1) := by decide +kernel
theorem dL_law_244 : decode cL_law 244 = .ok (.aload_n 0, 1) := by decide +kernel
theorem dL_law_245 : decode cL_law 245 = .ok (.iload_n 3, 1) := by decide +kernel
theorem dL_law_246 : decode cL_law 246 = .ok (.iconst 1, 1) := by decide +kernel
theorem dL_law_247 : decode cL_law 247 = .ok (.iadd, 1) := by decide +kernel
theorem dL_law_248 : decode cL_law 248 = .ok (.iaload, 1) := by decide +kernel
theorem dL_law_249 : decode cL_law 249 = .ok (.aload_n 0, 1) := by decide +kernel
theorem dL_law_250 : decode cL_law 250 = .ok (.iload_n 3, 1) := by decide +kernel
theorem dL_law_251 : decode cL_law 251 = .ok (.iconst 2, 1) := by decide +kernel
theorem dL_law_252 : decode cL_law 252 = .ok (.iadd, 1) := by decide +kernel
theorem dL_law_253 : decode cL_law 253 = .ok (.iaload, 1) := by decide +kernel
theorem dL_law_254 : decode cL_law 254 = .ok (.invokevirtual 39, 3) := by decide +kernel
theorem dL_law_257 : decode cL_law 257 = .ok (.if_icmp .eq 470, 3) := by decide +kernel
theorem dL_law_260 : decode cL_law 260 = .ok (.iconst 0, 1) := by decide +kernel
theorem dL_law_261 : decode cL_law 261 = .ok (.ireturn, 1) := by decide +kernel
theorem dL_law_262 : decode cL_law 262 = .ok (.aload_n 1, 1) := by decide +kernel
theorem dL_law_263 : decode cL_law 263 = .ok (.aload_n 0, 1) := by decide +kernel
theorem dL_law_264 : decode cL_law 264 = .ok (.iload_n 3, 1) := by decide +kernel
theorem dL_law_265 : decode cL_law 265 = .ok (.iconst 1, 1) := by decide +kernel
theorem dL_law_266 : decode cL_law 266 = .ok (.iadd, 1) := by decide +kernel
theorem dL_law_267 : decode cL_law 267 = .ok (.iaload, 1) := by decide +kernel
theorem dL_law_268 : decode cL_law 268 = .ok (.invokevirtual 40, 3) := by decide +kernel
theorem dL_law_271 : decode cL_law 271 = .ok (.aload_n 2, 1) := by decide +kernel
theorem dL_law_272 : decode cL_law 272 = .ok (.aload_n 0, 1) := by decide +kernel
theorem dL_law_273 : decode cL_law 273 = .ok (.iload_n 3, 1) := by decide +kernel
theorem dL_law_274 : decode cL_law 274 = .ok (.iconst 1, 1) := by decide +kernel
theorem dL_law_275 : decode cL_law 275 = .ok (.iadd, 1) := by decide +kernel
theorem dL_law_276 : decode cL_law 276 = .ok (.iaload, 1) := by decide +kernel
theorem dL_law_277 : decode cL_law 277 = .ok (.invokevirtual 43, 3) := by decide +kernel
theorem dL_law_280 : decode cL_law 280 = .ok (.if_icmp .eq 447, 3) := by decide +kernel
theorem dL_law_283 : decode cL_law 283 = .ok (.iconst 0, 1) := by decide +kernel
theorem dL_law_284 : decode cL_law 284 = .ok (.ireturn, 1) := by decide +kernel
theorem dL_law_285 : decode cL_law 285 = .ok (.aload_n 1, 1) := by decide +kernel
theorem dL_law_286 : decode cL_law 286 = .ok (.aload_n 0, 1) := by decide +kernel
theorem dL_law_287 : decode cL_law 287 = .ok (.iload_n 3, 1) := by decide +kernel
theorem dL_law_288 : decode cL_law 288 = .ok (.iconst 1, 1) := by decide +kernel
theorem dL_law_289 : decode cL_law 289 = .ok (.iadd, 1) := by decide +kernel
theorem dL_law_290 : decode cL_law 290 = .ok (.iaload, 1) := by decide +kernel
theorem dL_law_291 : decode cL_law 291 = .ok (.aload_n 0, 1) := by decide +kernel
theorem dL_law_292 : decode cL_law 292 = .ok (.iload_n 3, 1) := by decide +kernel
theorem dL_law_293 : decode cL_law 293 = .ok (.iconst 2, 1) := by decide +kernel
theorem dL_law_294 : decode cL_law 294 = .ok (.iadd, 1) := by decide +kernel
theorem dL_law_295 : decode cL_law 295 = .ok (.iaload, 1) := by decide +kernel
theorem dL_law_296 : decode cL_law 296 = .ok (.invokevirtual 44, 3) := by decide +kernel
theorem dL_law_299 : decode cL_law 299 = .ok (.aload_n 2, 1) := by decide +kernel
theorem dL_law_300 : decode cL_law 300 = .ok (.aload_n 0, 1) := by decide +kernel
theorem dL_law_301 : decode cL_law 301 = .ok (.iload_n 3, 1) := by decide +kernel
theorem dL_law_302 : decode cL_law 302 = .ok (.iconst 1, 1) := by decide +kernel
theorem dL_law_303 : decode cL_law 303 = .ok (.iadd, 1) := by decide +kernel
theorem dL_law_304 : decode cL_law 304 = .ok (.iaload, 1) := by decide +kernel
theorem dL_law_305 : decode cL_law 305 = .ok (.aload_n 0, 1) := by decide +kernel
theorem dL_law_306 : decode cL_law 306 = .ok (.iload_n 3, 1) := by decide +kernel
theorem dL_law_307 : decode cL_law 307 = .ok (.iconst 2, 1) := by decide +kernel
theorem dL_law_308 : decode cL_law 308 = .ok (.iadd, 1) := by decide +kernel
theorem dL_law_309 : decode cL_law 309 = .ok (.iaload, 1) := by decide +kernel
theorem dL_law_310 : decode cL_law 310 = .ok (.invokevirtual 47, 3) := by decide +kernel
theorem dL_law_313 : decode cL_law 313 = .ok (.if_icmp .eq 414, 3) := by decide +kernel
theorem dL_law_316 : decode cL_law 316 = .ok (.iconst 0, 1) := by decide +kernel
theorem dL_law_317 : decode cL_law 317 = .ok (.ireturn, 1) := by decide +kernel
theorem dL_law_318 : decode cL_law 318 = .ok (.aload_n 1, 1) := by decide +kernel
theorem dL_law_319 : decode cL_law 319 = .ok (.aload_n 0, 1) := by decide +kernel
theorem dL_law_320 : decode cL_law 320 = .ok (.iload_n 3, 1) := by decide +kernel
theorem dL_law_321 : decode cL_law 321 = .ok (.iconst 1, 1) := by decide +kernel
theorem dL_law_322 : decode cL_law 322 = .ok (.iadd, 1) := by decide +kernel
theorem dL_law_323 : decode cL_law 323 = .ok (.iaload, 1) := by decide +kernel
theorem dL_law_324 : decode cL_law 324 = .ok (.aload_n 0, 1) := by decide +kernel
theorem dL_law_325 : decode cL_law 325 = .ok (.iload_n 3, 1) := by decide +kernel
theorem dL_law_326 : decode cL_law 326 = .ok (.iconst 2, 1) := by decide +kernel
theorem dL_law_327 : decode cL_law 327 = .ok (.iadd, 1) := by decide +kernel
theorem dL_law_328 : decode cL_law 328 = .ok (.iaload, 1) := by decide +kernel
theorem dL_law_329 : decode cL_law 329 = .ok (.invokevirtual 48, 3) := by decide +kernel
theorem dL_law_332 : decode cL_law 332 = .ok (.aload_n 2, 1) := by decide +kernel
theorem dL_law_333 : decode cL_law 333 = .ok (.aload_n 0, 1) := by decide +kernel
theorem dL_law_334 : decode cL_law 334 = .ok (.iload_n 3, 1) := by decide +kernel
theorem dL_law_335 : decode cL_law 335 = .ok (.iconst 1, 1) := by decide +kernel
theorem dL_law_336 : decode cL_law 336 = .ok (.iadd, 1) := by decide +kernel
theorem dL_law_337 : decode cL_law 337 = .ok (.iaload, 1) := by decide +kernel
theorem dL_law_338 : decode cL_law 338 = .ok (.aload_n 0, 1) := by decide +kernel
theorem dL_law_339 : decode cL_law 339 = .ok (.iload_n 3, 1) := by decide +kernel
theorem dL_law_340 : decode cL_law 340 = .ok (.iconst 2, 1) := by decide +kernel
theorem dL_law_341 : decode cL_law 341 = .ok (.iadd, 1) := by decide +kernel
theorem dL_law_342 : decode cL_law 342 = .ok (.iaload, 1) := by decide +kernel
theorem dL_law_343 : decode cL_law 343 = .ok (.invokevirtual 51, 3) := by decide +kernel
theorem dL_law_346 : decode cL_law 346 = .ok (.if_icmp .eq 381, 3) := by decide +kernel
theorem dL_law_349 : decode cL_law 349 = .ok (.iconst 0, 1) := by decide +kernel
theorem dL_law_350 : decode cL_law 350 = .ok (.ireturn, 1) := by decide +kernel
theorem dL_law_351 : decode cL_law 351 = .ok (.aload_n 1, 1) := by decide +kernel
theorem dL_law_352 : decode cL_law 352 = .ok (.aload_n 0, 1) := by decide +kernel
theorem dL_law_353 : decode cL_law 353 = .ok (.iload_n 3, 1) := by decide +kernel
theorem dL_law_354 : decode cL_law 354 = .ok (.iconst 1, 1) := by decide +kernel
theorem dL_law_355 : decode cL_law 355 = .ok (.iadd, 1) := by decide +kernel
theorem dL_law_356 : decode cL_law 356 = .ok (.iaload, 1) := by decide +kernel
theorem dL_law_357 : decode cL_law 357 = .ok (.aload_n 0, 1) := by decide +kernel
theorem dL_law_358 : decode cL_law 358 = .ok (.iload_n 3, 1) := by decide +kernel
theorem dL_law_359 : decode cL_law 359 = .ok (.iconst 2, 1) := by decide +kernel
theorem dL_law_360 : decode cL_law 360 = .ok (.iadd, 1) := by decide +kernel
theorem dL_law_361 : decode cL_law 361 = .ok (.iaload, 1) := by decide +kernel
theorem dL_law_362 : decode cL_law 362 = .ok (.invokevirtual 52, 3) := by decide +kernel
theorem dL_law_365 : decode cL_law 365 = .ok (.aload_n 2, 1) := by decide +kernel
theorem dL_law_366 : decode cL_law 366 = .ok (.aload_n 0, 1) := by decide +kernel
theorem dL_law_367 : decode cL_law 367 = .ok (.iload_n 3, 1) := by decide +kernel
theorem dL_law_368 : decode cL_law 368 = .ok (.iconst 1, 1) := by decide +kernel
theorem dL_law_369 : decode cL_law 369 = .ok (.iadd, 1) := by decide +kernel
theorem dL_law_370 : decode cL_law 370 = .ok (.iaload, 1) := by decide +kernel
theorem dL_law_371 : decode cL_law 371 = .ok (.aload_n 0, 1) := by decide +kernel
theorem dL_law_372 : decode cL_law 372 = .ok (.iload_n 3, 1) := by decide +kernel
theorem dL_law_373 : decode cL_law 373 = .ok (.iconst 2, 1) := by decide +kernel
theorem dL_law_374 : decode cL_law 374 = .ok (.iadd, 1) := by decide +kernel
theorem dL_law_375 : decode cL_law 375 = .ok (.iaload, 1) := by decide +kernel
theorem dL_law_376 : decode cL_law 376 = .ok (.invokevirtual 55, 3) := by decide +kernel
theorem dL_law_379 : decode cL_law 379 = .ok (.if_icmp .eq 348, 3) := by decide +kernel
theorem dL_law_382 : decode cL_law 382 = .ok (.iconst 0, 1) := by decide +kernel
theorem dL_law_383 : decode cL_law 383 = .ok (.ireturn, 1) := by decide +kernel
theorem dL_law_384 : decode cL_law 384 = .ok (.aload_n 1, 1) := by decide +kernel
theorem dL_law_385 : decode cL_law 385 = .ok (.aload_n 0, 1) := by decide +kernel
theorem dL_law_386 : decode cL_law 386 = .ok (.iload_n 3, 1) := by decide +kernel
theorem dL_law_387 : decode cL_law 387 = .ok (.iconst 1, 1) := by decide +kernel
theorem dL_law_388 : decode cL_law 388 = .ok (.iadd, 1) := by decide +kernel
theorem dL_law_389 : decode cL_law 389 = .ok (.iaload, 1) := by decide +kernel
theorem dL_law_390 : decode cL_law 390 = .ok (.invokevirtual 56, 3) := by decide +kernel
theorem dL_law_393 : decode cL_law 393 = .ok (.aload_n 2, 1) := by decide +kernel
theorem dL_law_394 : decode cL_law 394 = .ok (.aload_n 0, 1) := by decide +kernel
theorem dL_law_395 : decode cL_law 395 = .ok (.iload_n 3, 1) := by decide +kernel
theorem dL_law_396 : decode cL_law 396 = .ok (.iconst 1, 1) := by decide +kernel
theorem dL_law_397 : decode cL_law 397 = .ok (.iadd, 1) := by decide +kernel
theorem dL_law_398 : decode cL_law 398 = .ok (.iaload, 1) := by decide +kernel
theorem dL_law_399 : decode cL_law 399 = .ok (.invokevirtual 59, 3) := by decide +kernel
theorem dL_law_402 : decode cL_law 402 = .ok (.if_icmp .eq 325, 3) := by decide +kernel
theorem dL_law_405 : decode cL_law 405 = .ok (.iconst 0, 1) := by decide +kernel
theorem dL_law_406 : decode cL_law 406 = .ok (.ireturn, 1) := by decide +kernel
theorem dL_law_407 : decode cL_law 407 = .ok (.aload_n 1, 1) := by decide +kernel
theorem dL_law_408 : decode cL_law 408 = .ok (.aload_n 0, 1) := by decide +kernel
theorem dL_law_409 : decode cL_law 409 = .ok (.iload_n 3, 1) := by decide +kernel
theorem dL_law_410 : decode cL_law 410 = .ok (.iconst 1, 1) := by decide +kernel
theorem dL_law_411 : decode cL_law 411 = .ok (.iadd, 1) := by decide +kernel
theorem dL_law_412 : decode cL_law 412 = .ok (.iaload, 1) := by decide +kernel
theorem dL_law_413 : decode cL_law 413 = .ok (.aload_n 0, 1) := by decide +kernel
theorem dL_law_414 : decode cL_law 414 = .ok (.iload_n 3, 1) := by decide +kernel
theorem dL_law_415 : decode cL_law 415 = .ok (.iconst 2, 1) := by decide +kernel
theorem dL_law_416 : decode cL_law 416 = .ok (.iadd, 1) := by decide +kernel
theorem dL_law_417 : decode cL_law 417 = .ok (.iaload, 1) := by decide +kernel
theorem dL_law_418 : decode cL_law 418 = .ok (.aload_n 0, 1) := by decide +kernel
theorem dL_law_419 : decode cL_law 419 = .ok (.iload_n 3, 1) := by decide +kernel
theorem dL_law_420 : decode cL_law 420 = .ok (.iconst 3, 1) := by decide +kernel
theorem dL_law_421 : decode cL_law 421 = .ok (.iadd, 1) := by decide +kernel
theorem dL_law_422 : decode cL_law 422 = .ok (.iaload, 1) := by decide +kernel
theorem dL_law_423 : decode cL_law 423 = .ok (.invokevirtual 60, 3) := by decide +kernel
theorem dL_law_426 : decode cL_law 426 = .ok (.aload_n 2, 1) := by decide +kernel
theorem dL_law_427 : decode cL_law 427 = .ok (.aload_n 0, 1) := by decide +kernel
theorem dL_law_428 : decode cL_law 428 = .ok (.iload_n 3, 1) := by decide +kernel
theorem dL_law_429 : decode cL_law 429 = .ok (.iconst 1, 1) := by decide +kernel
theorem dL_law_430 : decode cL_law 430 = .ok (.iadd, 1) := by decide +kernel
theorem dL_law_431 : decode cL_law 431 = .ok (.iaload, 1) := by decide +kernel
theorem dL_law_432 : decode cL_law 432 = .ok (.aload_n 0, 1) := by decide +kernel
theorem dL_law_433 : decode cL_law 433 = .ok (.iload_n 3, 1) := by decide +kernel
theorem dL_law_434 : decode cL_law 434 = .ok (.iconst 2, 1) := by decide +kernel
theorem dL_law_435 : decode cL_law 435 = .ok (.iadd, 1) := by decide +kernel
theorem dL_law_436 : decode cL_law 436 = .ok (.iaload, 1) := by decide +kernel
theorem dL_law_437 : decode cL_law 437 = .ok (.aload_n 0, 1) := by decide +kernel
theorem dL_law_438 : decode cL_law 438 = .ok (.iload_n 3, 1) := by decide +kernel
theorem dL_law_439 : decode cL_law 439 = .ok (.iconst 3, 1) := by decide +kernel
theorem dL_law_440 : decode cL_law 440 = .ok (.iadd, 1) := by decide +kernel
theorem dL_law_441 : decode cL_law 441 = .ok (.iaload, 1) := by decide +kernel
theorem dL_law_442 : decode cL_law 442 = .ok (.invokevirtual 64, 3) := by decide +kernel
theorem dL_law_445 : decode cL_law 445 = .ok (.if_icmp .eq 282, 3) := by decide +kernel
theorem dL_law_448 : decode cL_law 448 = .ok (.iconst 0, 1) := by decide +kernel
theorem dL_law_449 : decode cL_law 449 = .ok (.ireturn, 1) := by decide +kernel
theorem dL_law_450 : decode cL_law 450 = .ok (.aload_n 1, 1) := by decide +kernel
theorem dL_law_451 : decode cL_law 451 = .ok (.aload_n 0, 1) := by decide +kernel
theorem dL_law_452 : decode cL_law 452 = .ok (.iload_n 3, 1) := by decide +kernel
theorem dL_law_453 : decode cL_law 453 = .ok (.iconst 1, 1) := by decide +kernel
theorem dL_law_454 : decode cL_law 454 = .ok (.iadd, 1) := by decide +kernel
theorem dL_law_455 : decode cL_law 455 = .ok (.iaload, 1) := by decide +kernel
theorem dL_law_456 : decode cL_law 456 = .ok (.invokevirtual 65, 3) := by decide +kernel
theorem dL_law_459 : decode cL_law 459 = .ok (.aload_n 2, 1) := by decide +kernel
theorem dL_law_460 : decode cL_law 460 = .ok (.aload_n 0, 1) := by decide +kernel
theorem dL_law_461 : decode cL_law 461 = .ok (.iload_n 3, 1) := by decide +kernel
theorem dL_law_462 : decode cL_law 462 = .ok (.iconst 1, 1) := by decide +kernel
theorem dL_law_463 : decode cL_law 463 = .ok (.iadd, 1) := by decide +kernel
theorem dL_law_464 : decode cL_law 464 = .ok (.iaload, 1) := by decide +kernel
theorem dL_law_465 : decode cL_law 465 = .ok (.invokevirtual 68, 3) := by decide +kernel
theorem dL_law_468 : decode cL_law 468 = .ok (.if_icmp .eq 259, 3) := by decide +kernel
theorem dL_law_471 : decode cL_law 471 = .ok (.iconst 0, 1) := by decide +kernel
theorem dL_law_472 : decode cL_law 472 = .ok (.ireturn, 1) := by decide +kernel
theorem dL_law_473 : decode cL_law 473 = .ok (.aload_n 1, 1) := by decide +kernel
theorem dL_law_474 : decode cL_law 474 = .ok (.aload_n 0, 1) := by decide +kernel
theorem dL_law_475 : decode cL_law 475 = .ok (.iload_n 3, 1) := by decide +kernel
theorem dL_law_476 : decode cL_law 476 = .ok (.iconst 1, 1) := by decide +kernel
theorem dL_law_477 : decode cL_law 477 = .ok (.iadd, 1) := by decide +kernel
theorem dL_law_478 : decode cL_law 478 = .ok (.iaload, 1) := by decide +kernel
theorem dL_law_479 : decode cL_law 479 = .ok (.invokevirtual 69, 3) := by decide +kernel
theorem dL_law_482 : decode cL_law 482 = .ok (.aload_n 2, 1) := by decide +kernel
theorem dL_law_483 : decode cL_law 483 = .ok (.aload_n 0, 1) := by decide +kernel
theorem dL_law_484 : decode cL_law 484 = .ok (.iload_n 3, 1) := by decide +kernel
theorem dL_law_485 : decode cL_law 485 = .ok (.iconst 1, 1) := by decide +kernel
theorem dL_law_486 : decode cL_law 486 = .ok (.iadd, 1) := by decide +kernel
theorem dL_law_487 : decode cL_law 487 = .ok (.iaload, 1) := by decide +kernel
theorem dL_law_488 : decode cL_law 488 = .ok (.invokevirtual 72, 3) := by decide +kernel
theorem dL_law_491 : decode cL_law 491 = .ok (.if_icmp .eq 236, 3) := by decide +kernel
theorem dL_law_494 : decode cL_law 494 = .ok (.iconst 0, 1) := by decide +kernel
theorem dL_law_495 : decode cL_law 495 = .ok (.ireturn, 1) := by decide +kernel
theorem dL_law_496 : decode cL_law 496 = .ok (.aload_n 1, 1) := by decide +kernel
theorem dL_law_497 : decode cL_law 497 = .ok (.aload_n 0, 1) := by decide +kernel
theorem dL_law_498 : decode cL_law 498 = .ok (.iload_n 3, 1) := by decide +kernel
theorem dL_law_499 : decode cL_law 499 = .ok (.iconst 1, 1) := by decide +kernel
theorem dL_law_500 : decode cL_law 500 = .ok (.iadd, 1) := by decide +kernel
theorem dL_law_501 : decode cL_law 501 = .ok (.iaload, 1) := by decide +kernel
theorem dL_law_502 : decode cL_law 502 = .ok (.invokevirtual 73, 3) := by decide +kernel
theorem dL_law_505 : decode cL_law 505 = .ok (.aload_n 2, 1) := by decide +kernel
theorem dL_law_506 : decode cL_law 506 = .ok (.aload_n 0, 1) := by decide +kernel
theorem dL_law_507 : decode cL_law 507 = .ok (.iload_n 3, 1) := by decide +kernel
theorem dL_law_508 : decode cL_law 508 = .ok (.iconst 1, 1) := by decide +kernel
theorem dL_law_509 : decode cL_law 509 = .ok (.iadd, 1) := by decide +kernel
theorem dL_law_510 : decode cL_law 510 = .ok (.iaload, 1) := by decide +kernel
theorem dL_law_511 : decode cL_law 511 = .ok (.invokevirtual 76, 3) := by decide +kernel
theorem dL_law_514 : decode cL_law 514 = .ok (.if_icmp .eq 213, 3) := by decide +kernel
theorem dL_law_517 : decode cL_law 517 = .ok (.iconst 0, 1) := by decide +kernel
theorem dL_law_518 : decode cL_law 518 = .ok (.ireturn, 1) := by decide +kernel
theorem dL_law_519 : decode cL_law 519 = .ok (.aload_n 1, 1) := by decide +kernel
theorem dL_law_520 : decode cL_law 520 = .ok (.aload_n 0, 1) := by decide +kernel
theorem dL_law_521 : decode cL_law 521 = .ok (.iload_n 3, 1) := by decide +kernel
theorem dL_law_522 : decode cL_law 522 = .ok (.iconst 1, 1) := by decide +kernel
theorem dL_law_523 : decode cL_law 523 = .ok (.iadd, 1) := by decide +kernel
theorem dL_law_524 : decode cL_law 524 = .ok (.iaload, 1) := by decide +kernel
theorem dL_law_525 : decode cL_law 525 = .ok (.aload_n 0, 1) := by decide +kernel
theorem dL_law_526 : decode cL_law 526 = .ok (.iload_n 3, 1) := by decide +kernel
theorem dL_law_527 : decode cL_law 527 = .ok (.iconst 2, 1) := by decide +kernel
theorem dL_law_528 : decode cL_law 528 = .ok (.iadd, 1) := by decide +kernel
theorem dL_law_529 : decode cL_law 529 = .ok (.iaload, 1) := by decide +kernel
theorem dL_law_530 : decode cL_law 530 = .ok (.invokevirtual 77, 3) := by decide +kernel
theorem dL_law_533 : decode cL_law 533 = .ok (.aload_n 2, 1) := by decide +kernel
theorem dL_law_534 : decode cL_law 534 = .ok (.aload_n 0, 1) := by decide +kernel
theorem dL_law_535 : decode cL_law 535 = .ok (.iload_n 3, 1) := by decide +kernel
theorem dL_law_536 : decode cL_law 536 = .ok (.iconst 1, 1) := by decide +kernel
theorem dL_law_537 : decode cL_law 537 = .ok (.iadd, 1) := by decide +kernel
theorem dL_law_538 : decode cL_law 538 = .ok (.iaload, 1) := by decide +kernel
theorem dL_law_539 : decode cL_law 539 = .ok (.aload_n 0, 1) := by decide +kernel
theorem dL_law_540 : decode cL_law 540 = .ok (.iload_n 3, 1) := by decide +kernel
theorem dL_law_541 : decode cL_law 541 = .ok (.iconst 2, 1) := by decide +kernel
theorem dL_law_542 : decode cL_law 542 = .ok (.iadd, 1) := by decide +kernel
theorem dL_law_543 : decode cL_law 543 = .ok (.iaload, 1) := by decide +kernel
theorem dL_law_544 : decode cL_law 544 = .ok (.invokevirtual 80, 3) := by decide +kernel
theorem dL_law_547 : decode cL_law 547 = .ok (.if_icmp .eq 180, 3) := by decide +kernel
theorem dL_law_550 : decode cL_law 550 = .ok (.iconst 0, 1) := by decide +kernel
theorem dL_law_551 : decode cL_law 551 = .ok (.ireturn, 1) := by decide +kernel
theorem dL_law_552 : decode cL_law 552 = .ok (.aload_n 1, 1) := by decide +kernel
theorem dL_law_553 : decode cL_law 553 = .ok (.aload_n 0, 1) := by decide +kernel
theorem dL_law_554 : decode cL_law 554 = .ok (.iload_n 3, 1) := by decide +kernel
theorem dL_law_555 : decode cL_law 555 = .ok (.iconst 1, 1) := by decide +kernel
theorem dL_law_556 : decode cL_law 556 = .ok (.iadd, 1) := by decide +kernel
theorem dL_law_557 : decode cL_law 557 = .ok (.iaload, 1) := by decide +kernel
theorem dL_law_558 : decode cL_law 558 = .ok (.invokevirtual 81, 3) := by decide +kernel
theorem dL_law_561 : decode cL_law 561 = .ok (.aload_n 2, 1) := by decide +kernel
theorem dL_law_562 : decode cL_law 562 = .ok (.aload_n 0, 1) := by decide +kernel
theorem dL_law_563 : decode cL_law 563 = .ok (.iload_n 3, 1) := by decide +kernel
theorem dL_law_564 : decode cL_law 564 = .ok (.iconst 1, 1) := by decide +kernel
theorem dL_law_565 : decode cL_law 565 = .ok (.iadd, 1) := by decide +kernel
theorem dL_law_566 : decode cL_law 566 = .ok (.iaload, 1) := by decide +kernel
theorem dL_law_567 : decode cL_law 567 = .ok (.invokevirtual 84, 3) := by decide +kernel
theorem dL_law_570 : decode cL_law 570 = .ok (.if_icmp .eq 157, 3) := by decide +kernel
theorem dL_law_573 : decode cL_law 573 = .ok (.iconst 0, 1) := by decide +kernel
theorem dL_law_574 : decode cL_law 574 = .ok (.ireturn, 1) := by decide +kernel
theorem dL_law_575 : decode cL_law 575 = .ok (.aload_n 1, 1) := by decide +kernel
theorem dL_law_576 : decode cL_law 576 = .ok (.aload_n 0, 1) := by decide +kernel
theorem dL_law_577 : decode cL_law 577 = .ok (.iload_n 3, 1) := by decide +kernel
theorem dL_law_578 : decode cL_law 578 = .ok (.iconst 1, 1) := by decide +kernel
theorem dL_law_579 : decode cL_law 579 = .ok (.iadd, 1) := by decide +kernel
theorem dL_law_580 : decode cL_law 580 = .ok (.iaload, 1) := by decide +kernel
theorem dL_law_581 : decode cL_law 581 = .ok (.invokevirtual 85, 3) := by decide +kernel
theorem dL_law_584 : decode cL_law 584 = .ok (.aload_n 2, 1) := by decide +kernel
theorem dL_law_585 : decode cL_law 585 = .ok (.aload_n 0, 1) := by decide +kernel
theorem dL_law_586 : decode cL_law 586 = .ok (.iload_n 3, 1) := by decide +kernel
theorem dL_law_587 : decode cL_law 587 = .ok (.iconst 1, 1) := by decide +kernel
theorem dL_law_588 : decode cL_law 588 = .ok (.iadd, 1) := by decide +kernel
theorem dL_law_589 : decode cL_law 589 = .ok (.iaload, 1) := by decide +kernel
theorem dL_law_590 : decode cL_law 590 = .ok (.invokevirtual 88, 3) := by decide +kernel
theorem dL_law_593 : decode cL_law 593 = .ok (.if_icmp .eq 134, 3) := by decide +kernel
theorem dL_law_596 : decode cL_law 596 = .ok (.iconst 0, 1) := by decide +kernel
theorem dL_law_597 : decode cL_law 597 = .ok (.ireturn, 1) := by decide +kernel
theorem dL_law_598 : decode cL_law 598 = .ok (.aload_n 1, 1) := by decide +kernel
theorem dL_law_599 : decode cL_law 599 = .ok (.invokevirtual 89, 3) := by decide +kernel
theorem dL_law_602 : decode cL_law 602 = .ok (.aload_n 2, 1) := by decide +kernel
theorem dL_law_603 : decode cL_law 603 = .ok (.invokevirtual 92, 3) := by decide +kernel
theorem dL_law_606 : decode cL_law 606 = .ok (.if_icmp .eq 121, 3) := by decide +kernel
theorem dL_law_609 : decode cL_law 609 = .ok (.iconst 0, 1) := by decide +kernel
theorem dL_law_610 : decode cL_law 610 = .ok (.ireturn, 1) := by decide +kernel
theorem dL_law_611 : decode cL_law 611 = .ok (.aload_n 1, 1) := by decide +kernel
theorem dL_law_612 : decode cL_law 612 = .ok (.aload_n 0, 1) := by decide +kernel
theorem dL_law_613 : decode cL_law 613 = .ok (.iload_n 3, 1) := by decide +kernel
theorem dL_law_614 : decode cL_law 614 = .ok (.iconst 1, 1) := by decide +kernel
theorem dL_law_615 : decode cL_law 615 = .ok (.iadd, 1) := by decide +kernel
theorem dL_law_616 : decode cL_law 616 = .ok (.iaload, 1) := by decide +kernel
theorem dL_law_617 : decode cL_law 617 = .ok (.invokevirtual 93, 3) := by decide +kernel
theorem dL_law_620 : decode cL_law 620 = .ok (.aload_n 2, 1) := by decide +kernel
theorem dL_law_621 : decode cL_law 621 = .ok (.aload_n 0, 1) := by decide +kernel
theorem dL_law_622 : decode cL_law 622 = .ok (.iload_n 3, 1) := by decide +kernel
theorem dL_law_623 : decode cL_law 623 = .ok (.iconst 1, 1) := by decide +kernel
theorem dL_law_624 : decode cL_law 624 = .ok (.iadd, 1) := by decide +kernel
theorem dL_law_625 : decode cL_law 625 = .ok (.iaload, 1) := by decide +kernel
theorem dL_law_626 : decode cL_law 626 = .ok (.invokevirtual 96, 3) := by decide +kernel
theorem dL_law_629 : decode cL_law 629 = .ok (.if_icmp .eq 98, 3) := by decide +kernel
theorem dL_law_632 : decode cL_law 632 = .ok (.iconst 0, 1) := by decide +kernel
theorem dL_law_633 : decode cL_law 633 = .ok (.ireturn, 1) := by decide +kernel
theorem dL_law_634 : decode cL_law 634 = .ok (.aload_n 1, 1) := by decide +kernel
theorem dL_law_635 : decode cL_law 635 = .ok (.aload_n 0, 1) := by decide +kernel
theorem dL_law_636 : decode cL_law 636 = .ok (.iload_n 3, 1) := by decide +kernel
theorem dL_law_637 : decode cL_law 637 = .ok (.iconst 1, 1) := by decide +kernel
theorem dL_law_638 : decode cL_law 638 = .ok (.iadd, 1) := by decide +kernel
theorem dL_law_639 : decode cL_law 639 = .ok (.iaload, 1) := by decide +kernel
theorem dL_law_640 : decode cL_law 640 = .ok (.aload_n 0, 1) := by decide +kernel
theorem dL_law_641 : decode cL_law 641 = .ok (.iload_n 3, 1) := by decide +kernel
theorem dL_law_642 : decode cL_law 642 = .ok (.iconst 2, 1) := by decide +kernel
theorem dL_law_643 : decode cL_law 643 = .ok (.iadd, 1) := by decide +kernel
theorem dL_law_644 : decode cL_law 644 = .ok (.iaload, 1) := by decide +kernel
theorem dL_law_645 : decode cL_law 645 = .ok (.invokevirtual 97, 3) := by decide +kernel
theorem dL_law_648 : decode cL_law 648 = .ok (.aload_n 2, 1) := by decide +kernel
theorem dL_law_649 : decode cL_law 649 = .ok (.aload_n 0, 1) := by decide +kernel
theorem dL_law_650 : decode cL_law 650 = .ok (.iload_n 3, 1) := by decide +kernel
theorem dL_law_651 : decode cL_law 651 = .ok (.iconst 1, 1) := by decide +kernel
theorem dL_law_652 : decode cL_law 652 = .ok (.iadd, 1) := by decide +kernel
theorem dL_law_653 : decode cL_law 653 = .ok (.iaload, 1) := by decide +kernel
theorem dL_law_654 : decode cL_law 654 = .ok (.aload_n 0, 1) := by decide +kernel
theorem dL_law_655 : decode cL_law 655 = .ok (.iload_n 3, 1) := by decide +kernel
theorem dL_law_656 : decode cL_law 656 = .ok (.iconst 2, 1) := by decide +kernel
theorem dL_law_657 : decode cL_law 657 = .ok (.iadd, 1) := by decide +kernel
theorem dL_law_658 : decode cL_law 658 = .ok (.iaload, 1) := by decide +kernel
theorem dL_law_659 : decode cL_law 659 = .ok (.invokevirtual 100, 3) := by decide +kernel
theorem dL_law_662 : decode cL_law 662 = .ok (.if_icmp .eq 65, 3) := by decide +kernel
theorem dL_law_665 : decode cL_law 665 = .ok (.iconst 0, 1) := by decide +kernel
theorem dL_law_666 : decode cL_law 666 = .ok (.ireturn, 1) := by decide +kernel
theorem dL_law_667 : decode cL_law 667 = .ok (.aload_n 1, 1) := by decide +kernel
theorem dL_law_668 : decode cL_law 668 = .ok (.aload_n 0, 1) := by decide +kernel
theorem dL_law_669 : decode cL_law 669 = .ok (.iload_n 3, 1) := by decide +kernel
theorem dL_law_670 : decode cL_law 670 = .ok (.iconst 1, 1) := by decide +kernel
theorem dL_law_671 : decode cL_law 671 = .ok (.iadd, 1) := by decide +kernel
theorem dL_law_672 : decode cL_law 672 = .ok (.iaload, 1) := by decide +kernel
theorem dL_law_673 : decode cL_law 673 = .ok (.invokevirtual 101, 3) := by decide +kernel
theorem dL_law_676 : decode cL_law 676 = .ok (.aload_n 2, 1) := by decide +kernel
theorem dL_law_677 : decode cL_law 677 = .ok (.aload_n 0, 1) := by decide +kernel
theorem dL_law_678 : decode cL_law 678 = .ok (.iload_n 3, 1) := by decide +kernel
theorem dL_law_679 : decode cL_law 679 = .ok (.iconst 1, 1) := by decide +kernel
theorem dL_law_680 : decode cL_law 680 = .ok (.iadd, 1) := by decide +kernel
theorem dL_law_681 : decode cL_law 681 = .ok (.iaload, 1) := by decide +kernel
theorem dL_law_682 : decode cL_law 682 = .ok (.invokevirtual 104, 3) := by decide +kernel
theorem dL_law_685 : decode cL_law 685 = .ok (.if_icmp .eq 42, 3) := by decide +kernel
theorem dL_law_688 : decode cL_law 688 = .ok (.iconst 0, 1) := by decide +kernel
theorem dL_law_689 : decode cL_law 689 = .ok (.ireturn, 1) := by decide +kernel
theorem dL_law_690 : decode cL_law 690 = .ok (.aload_n 1, 1) := by decide +kernel
theorem dL_law_691 : decode cL_law 691 = .ok (.aload_n 0, 1) := by decide +kernel
theorem dL_law_692 : decode cL_law 692 = .ok (.iload_n 3, 1) := by decide +kernel
theorem dL_law_693 : decode cL_law 693 = .ok (.iconst 1, 1) := by decide +kernel
theorem dL_law_694 : decode cL_law 694 = .ok (.iadd, 1) := by decide +kernel
theorem dL_law_695 : decode cL_law 695 = .ok (.iaload, 1) := by decide +kernel
theorem dL_law_696 : decode cL_law 696 = .ok (.invokevirtual 105, 3) := by decide +kernel
theorem dL_law_699 : decode cL_law 699 = .ok (.aload_n 2, 1) := by decide +kernel
theorem dL_law_700 : decode cL_law 700 = .ok (.aload_n 0, 1) := by decide +kernel
theorem dL_law_701 : decode cL_law 701 = .ok (.iload_n 3, 1) := by decide +kernel
theorem dL_law_702 : decode cL_law 702 = .ok (.iconst 1, 1) := by decide +kernel
theorem dL_law_703 : decode cL_law 703 = .ok (.iadd, 1) := by decide +kernel
theorem dL_law_704 : decode cL_law 704 = .ok (.iaload, 1) := by decide +kernel
theorem dL_law_705 : decode cL_law 705 = .ok (.invokevirtual 108, 3) := by decide +kernel
theorem dL_law_708 : decode cL_law 708 = .ok (.if_icmp .eq 19, 3) := by decide +kernel
theorem dL_law_711 : decode cL_law 711 = .ok (.iconst 0, 1) := by decide +kernel
theorem dL_law_712 : decode cL_law 712 = .ok (.ireturn, 1) := by decide +kernel
theorem dL_law_713 : decode cL_law 713 = .ok (.aload_n 1, 1) := by decide +kernel
theorem dL_law_714 : decode cL_law 714 = .ok (.invokevirtual 109, 3) := by decide +kernel
theorem dL_law_717 : decode cL_law 717 = .ok (.aload_n 2, 1) := by decide +kernel
theorem dL_law_718 : decode cL_law 718 = .ok (.invokevirtual 113, 3) := by decide +kernel
theorem dL_law_721 : decode cL_law 721 = .ok (.lcmp, 1) := by decide +kernel
theorem dL_law_722 : decode cL_law 722 = .ok (.ifCond .eq 5, 3) := by decide +kernel
theorem dL_law_725 : decode cL_law 725 = .ok (.iconst 0, 1) := by decide +kernel
theorem dL_law_726 : decode cL_law 726 = .ok (.ireturn, 1) := by decide +kernel
theorem dL_law_727 : decode cL_law 727 = .ok (.iinc 3 4, 3) := by decide +kernel
theorem dL_law_730 : decode cL_law 730 = .ok (.goto (-712), 3) := by decide +kernel
theorem dL_law_733 : decode cL_law 733 = .ok (.iconst 1, 1) := by decide +kernel
theorem dL_law_734 : decode cL_law 734 = .ok (.ireturn, 1) := by decide +kernel
