theorem dX8_in_0 : decode cX8_in 0 = .ok (.iload_n 0, 1) := by decide +kernel
theorem dX8_in_1 : decode cX8_in 1 = .ok (.iload_n 1, 1) := by decide +kernel
theorem dX8_in_2 : decode cX8_in 2 = .ok (.if_icmp .lt 12, 3) := by decide +kernel
theorem dX8_in_5 : decode cX8_in 5 = .ok (.iload_n 0, 1) := by decide +kernel
theorem dX8_in_6 : decode cX8_in 6 = .ok (.iload_n 2, 1) := by decide +kernel
theorem dX8_in_7 : decode cX8_in 7 = .ok (.if_icmp .gt 7, 3) := by decide +kernel
theorem dX8_in_10 : decode cX8_in 10 = .ok (.iconst 1, 1) := by decide +kernel
theorem dX8_in_11 : decode cX8_in 11 = .ok (.goto 4, 3) := by decide +kernel
theorem dX8_in_14 : decode cX8_in 14 = .ok (.iconst 0, 1) := by decide +kernel
theorem dX8_in_15 : decode cX8_in 15 = .ok (.ireturn, 1) := by decide +kernel
theorem dX8_init_0 : decode cX8_init 0 = .ok (.aload_n 0, 1) := by decide +kernel
theorem dX8_init_1 : decode cX8_init 1 = .ok (.invokespecial 1, 3) := by decide +kernel
theorem dX8_init_4 : decode cX8_init 4 = .ok (.aload_n 0, 1) := by decide +kernel
theorem dX8_init_5 : decode cX8_init 5 = .ok (.bipush 6, 2) := by decide +kernel
theorem dX8_init_7 : decode cX8_init 7 = .ok (.putfield 7, 3) := by decide +kernel
theorem dX8_init_10 : decode cX8_init 10 = .ok (.aload_n 0, 1) := by decide +kernel
theorem dX8_init_11 : decode cX8_init 11 = .ok (.bipush 6, 2) := by decide +kernel
theorem dX8_init_13 : decode cX8_init 13 = .ok (.newarray .boolean, 2) := by decide +kernel
theorem dX8_init_15 : decode cX8_init 15 = .ok (.putfield 13, 3) := by decide +kernel
theorem dX8_init_18 : decode cX8_init 18 = .ok (.aload_n 0, 1) := by decide +kernel
theorem dX8_init_19 : decode cX8_init 19 = .ok (.bipush 6, 2) := by decide +kernel
theorem dX8_init_21 : decode cX8_init 21 = .ok (.newarray .int, 2) := by decide +kernel
theorem dX8_init_23 : decode cX8_init 23 = .ok (.putfield 17, 3) := by decide +kernel
theorem dX8_init_26 : decode cX8_init 26 = .ok (.aload_n 0, 1) := by decide +kernel
theorem dX8_init_27 : decode cX8_init 27 = .ok (.sipush 1800, 3) := by decide +kernel
theorem dX8_init_30 : decode cX8_init 30 = .ok (.newarray .int, 2) := by decide +kernel
theorem dX8_init_32 : decode cX8_init 32 = .ok (.putfield 21, 3) := by decide +kernel
theorem dX8_init_35 : decode cX8_init 35 = .ok (.aload_n 0, 1) := by decide +kernel
theorem dX8_init_36 : decode cX8_init 36 = .ok (.bipush 100, 2) := by decide +kernel
theorem dX8_init_38 : decode cX8_init 38 = .ok (.newarray .int, 2) := by decide +kernel
theorem dX8_init_40 : decode cX8_init 40 = .ok (.putfield 24, 3) := by decide +kernel
theorem dX8_init_43 : decode cX8_init 43 = .ok (.aload_n 0, 1) := by decide +kernel
theorem dX8_init_44 : decode cX8_init 44 = .ok (.bipush 12, 2) := by decide +kernel
theorem dX8_init_46 : decode cX8_init 46 = .ok (.newarray .int, 2) := by decide +kernel
theorem dX8_init_48 : decode cX8_init 48 = .ok (.putfield 27, 3) := by decide +kernel
theorem dX8_init_51 : decode cX8_init 51 = .ok (.aload_n 0, 1) := by decide +kernel
theorem dX8_init_52 : decode cX8_init 52 = .ok (.bipush 12, 2) := by decide +kernel
theorem dX8_init_54 : decode cX8_init 54 = .ok (.newarray .int, 2) := by decide +kernel
theorem dX8_init_56 : decode cX8_init 56 = .ok (.putfield 30, 3) := by decide +kernel
theorem dX8_init_59 : decode cX8_init 59 = .ok (.aload_n 0, 1) := by decide +kernel
theorem dX8_init_60 : decode cX8_init 60 = .ok (.sipush 144, 3) := by decide +kernel
theorem dX8_init_63 : decode cX8_init 63 = .ok (.newarray .int, 2) := by decide +kernel
theorem dX8_init_65 : decode cX8_init 65 = .ok (.putfield 33, 3) := by decide +kernel
theorem dX8_init_68 : decode cX8_init 68 = .ok (.aload_n 0, 1) := by decide +kernel
theorem dX8_init_69 : decode cX8_init 69 = .ok (.bipush 10, 2) := by decide +kernel
theorem dX8_init_71 : decode cX8_init 71 = .ok (.newarray .int, 2) := by decide +kernel
theorem dX8_init_73 : decode cX8_init 73 = .ok (.putfield 36, 3) := by decide +kernel
theorem dX8_init_76 : decode cX8_init 76 = .ok (.aload_n 0, 1) := by decide +kernel
theorem dX8_init_77 : decode cX8_init 77 = .ok (.bipush 10, 2) := by decide +kernel
theorem dX8_init_79 : decode cX8_init 79 = .ok (.newarray .int, 2) := by decide +kernel
theorem dX8_init_81 : decode cX8_init 81 = .ok (.putfield 39, 3) := by decide +kernel
theorem dX8_init_84 : decode cX8_init 84 = .ok (.aload_n 0, 1) := by decide +kernel
theorem dX8_init_85 : decode cX8_init 85 = .ok (.bipush 10, 2) := by decide +kernel
theorem dX8_init_87 : decode cX8_init 87 = .ok (.newarray .int, 2) := by decide +kernel
theorem dX8_init_89 : decode cX8_init 89 = .ok (.putfield 42, 3) := by decide +kernel
theorem dX8_init_92 : decode cX8_init 92 = .ok (.aload_n 0, 1) := by decide +kernel
theorem dX8_init_93 : decode cX8_init 93 = .ok (.iconst 3, 1) := by decide +kernel
theorem dX8_init_94 : decode cX8_init 94 = .ok (.newarray .int, 2) := by decide +kernel
theorem dX8_init_96 : decode cX8_init 96 = .ok (.putfield 45, 3) := by decide +kernel
theorem dX8_init_99 : decode cX8_init 99 = .ok (.aload_n 0, 1) := by decide +kernel
theorem dX8_init_100 : decode cX8_init 100 = .ok (.bipush 10, 2) := by decide +kernel
theorem dX8_init_102 : decode cX8_init 102 = .ok (.newarray .int, 2) := by decide +kernel
theorem dX8_init_104 : decode cX8_init 104 = .ok (.putfield 48, 3) := by decide +kernel
theorem dX8_init_107 : decode cX8_init 107 = .ok (.aload_n 0, 1) := by decide +kernel
theorem dX8_init_108 : decode cX8_init 108 = .ok (.bipush 11, 2) := by decide +kernel
theorem dX8_init_110 : decode cX8_init 110 = .ok (.newarray .long, 2) := by decide +kernel
theorem dX8_init_112 : decode cX8_init 112 = .ok (.putfield 51, 3) := by decide +kernel
theorem dX8_init_115 : decode cX8_init 115 = .ok (.aload_n 0, 1) := by decide +kernel
theorem dX8_init_116 : decode cX8_init 116 = .ok (.bipush 10, 2) := by decide +kernel
theorem dX8_init_118 : decode cX8_init 118 = .ok (.newarray .int, 2) := by decide +kernel
theorem dX8_init_120 : decode cX8_init 120 = .ok (.putfield 55, 3) := by decide +kernel
theorem dX8_init_123 : decode cX8_init 123 = .ok (.aload_n 0, 1) := by decide +kernel
theorem dX8_init_124 : decode cX8_init 124 = .ok (.bipush 12, 2) := by decide +kernel
theorem dX8_init_126 : decode cX8_init 126 = .ok (.newarray .int, 2) := by decide +kernel
theorem dX8_init_128 : decode cX8_init 128 = .ok (.putfield 58, 3) := by decide +kernel
theorem dX8_init_131 : decode cX8_init 131 = .ok (.aload_n 0, 1) := by decide +kernel
theorem dX8_init_132 : decode cX8_init 132 = .ok (.sipush 4096, 3) := by decide +kernel
theorem dX8_init_135 : decode cX8_init 135 = .ok (.newarray .long, 2) := by decide +kernel
theorem dX8_init_137 : decode cX8_init 137 = .ok (.putfield 61, 3) := by decide +kernel
theorem dX8_init_140 : decode cX8_init 140 = .ok (.aload_n 0, 1) := by decide +kernel
theorem dX8_init_141 : decode cX8_init 141 = .ok (.sipush 4096, 3) := by decide +kernel
theorem dX8_init_144 : decode cX8_init 144 = .ok (.newarray .int, 2) := by decide +kernel
theorem dX8_init_146 : decode cX8_init 146 = .ok (.putfield 64, 3) := by decide +kernel
theorem dX8_init_149 : decode cX8_init 149 = .ok (.aload_n 0, 1) := by decide +kernel
theorem dX8_init_150 : decode cX8_init 150 = .ok (.bipush 120, 2) := by decide +kernel
theorem dX8_init_152 : decode cX8_init 152 = .ok (.newarray .long, 2) := by decide +kernel
theorem dX8_init_154 : decode cX8_init 154 = .ok (.putfield 67, 3) := by decide +kernel
theorem dX8_init_157 : decode cX8_init 157 = .ok (.aload_n 0, 1) := by decide +kernel
theorem dX8_init_158 : decode cX8_init 158 = .ok (.bipush 7, 2) := by decide +kernel
theorem dX8_init_160 : decode cX8_init 160 = .ok (.newarray .int, 2) := by decide +kernel
theorem dX8_init_162 : decode cX8_init 162 = .ok (.putfield 70, 3) := by decide +kernel
theorem dX8_init_165 : decode cX8_init 165 = .ok (.aload_n 0, 1) := by decide +kernel
theorem dX8_init_166 : decode cX8_init 166 = .ok (.invokevirtual 73, 3) := by decide +kernel
theorem dX8_init_169 : decode cX8_init 169 = .ok (.return_, 1) := by decide +kernel
theorem dX8_unfix_0 : decode cX8_unfix 0 = .ok (.iconst 0, 1) := by decide +kernel
theorem dX8_unfix_1 : decode cX8_unfix 1 = .ok (.istore_n 1, 1) := by decide +kernel
theorem dX8_unfix_2 : decode cX8_unfix 2 = .ok (.iload_n 1, 1) := by decide +kernel
theorem dX8_unfix_3 : decode cX8_unfix 3 = .ok (.bipush 10, 2) := by decide +kernel
theorem dX8_unfix_5 : decode cX8_unfix 5 = .ok (.if_icmp .ge 16, 3) := by decide +kernel
theorem dX8_unfix_8 : decode cX8_unfix 8 = .ok (.aload_n 0, 1) := by decide +kernel
theorem dX8_unfix_9 : decode cX8_unfix 9 = .ok (.getfield 36, 3) := by decide +kernel
theorem dX8_unfix_12 : decode cX8_unfix 12 = .ok (.iload_n 1, 1) := by decide +kernel
theorem dX8_unfix_13 : decode cX8_unfix 13 = .ok (.iconst (-1), 1) := by decide +kernel
theorem dX8_unfix_14 : decode cX8_unfix 14 = .ok (.iastore, 1) := by decide +kernel
theorem dX8_unfix_15 : decode cX8_unfix 15 = .ok (.iinc 1 1, 3) := by decide +kernel
theorem dX8_unfix_18 : decode cX8_unfix 18 = .ok (.goto (-16), 3) := by decide +kernel
theorem dX8_unfix_21 : decode cX8_unfix 21 = .ok (.return_, 1) := by decide +kernel
theorem dX8_isLetter_0 : decode cX8_isLetter 0 = .ok (.iload_n 1, 1) := by decide +kernel
theorem dX8_isLetter_1 : decode cX8_isLetter 1 = .ok (.iconst 0, 1) := by decide +kernel
theorem dX8_isLetter_2 : decode cX8_isLetter 2 = .ok (.aload_n 0, 1) := by decide +kernel
theorem dX8_isLetter_3 : decode cX8_isLetter 3 = .ok (.getfield 7, 3) := by decide +kernel
theorem dX8_isLetter_6 : decode cX8_isLetter 6 = .ok (.iconst 1, 1) := by decide +kernel
theorem dX8_isLetter_7 : decode cX8_isLetter 7 = .ok (.isub, 1) := by decide +kernel
theorem dX8_isLetter_8 : decode cX8_isLetter 8 = .ok (.invokestatic 76, 3) := by decide +kernel
theorem dX8_isLetter_11 : decode cX8_isLetter 11 = .ok (.ireturn, 1) := by decide +kernel
theorem dX8_isKey_0 : decode cX8_isKey 0 = .ok (.iload_n 1, 1) := by decide +kernel
theorem dX8_isKey_1 : decode cX8_isKey 1 = .ok (.iconst 0, 1) := by decide +kernel
theorem dX8_isKey_2 : decode cX8_isKey 2 = .ok (.aload_n 0, 1) := by decide +kernel
theorem dX8_isKey_3 : decode cX8_isKey 3 = .ok (.getfield 80, 3) := by decide +kernel
theorem dX8_isKey_6 : decode cX8_isKey 6 = .ok (.iconst 1, 1) := by decide +kernel
theorem dX8_isKey_7 : decode cX8_isKey 7 = .ok (.isub, 1) := by decide +kernel
theorem dX8_isKey_8 : decode cX8_isKey 8 = .ok (.invokestatic 76, 3) := by decide +kernel
theorem dX8_isKey_11 : decode cX8_isKey 11 = .ok (.ireturn, 1) := by decide +kernel
theorem dX8_letters_0 : decode cX8_letters 0 = .ok (.iload_n 1, 1) := by decide +kernel
theorem dX8_letters_1 : decode cX8_letters 1 = .ok (.iconst 1, 1) := by decide +kernel
theorem dX8_letters_2 : decode cX8_letters 2 = .ok (.bipush 10, 2) := by decide +kernel
theorem dX8_letters_4 : decode cX8_letters 4 = .ok (.invokestatic 76, 3) := by decide +kernel
theorem dX8_letters_7 : decode cX8_letters 7 = .ok (.ifCond .ne 6, 3) := by decide +kernel
theorem dX8_letters_10 : decode cX8_letters 10 = .ok (.bipush (-2), 2) := by decide +kernel
theorem dX8_letters_12 : decode cX8_letters 12 = .ok (.ireturn, 1) := by decide +kernel
theorem dX8_letters_13 : decode cX8_letters 13 = .ok (.aload_n 0, 1) := by decide +kernel
theorem dX8_letters_14 : decode cX8_letters 14 = .ok (.getfield 7, 3) := by decide +kernel
theorem dX8_letters_17 : decode cX8_letters 17 = .ok (.istore_n 2, 1) := by decide +kernel
theorem dX8_letters_18 : decode cX8_letters 18 = .ok (.aload_n 0, 1) := by decide +kernel
theorem dX8_letters_19 : decode cX8_letters 19 = .ok (.iload_n 1, 1) := by decide +kernel
theorem dX8_letters_20 : decode cX8_letters 20 = .ok (.putfield 7, 3) := by decide +kernel
theorem dX8_letters_23 : decode cX8_letters 23 = .ok (.aload_n 0, 1) := by decide +kernel
theorem dX8_letters_24 : decode cX8_letters 24 = .ok (.iconst 0, 1) := by decide +kernel
theorem dX8_letters_25 : decode cX8_letters 25 = .ok (.putfield 83, 3) := by decide +kernel
theorem dX8_letters_28 : decode cX8_letters 28 = .ok (.aload_n 0, 1) := by decide +kernel
theorem dX8_letters_29 : decode cX8_letters 29 = .ok (.iconst 0, 1) := by decide +kernel
theorem dX8_letters_30 : decode cX8_letters 30 = .ok (.putfield 87, 3) := by decide +kernel
theorem dX8_letters_33 : decode cX8_letters 33 = .ok (.aload_n 0, 1) := by decide +kernel
theorem dX8_letters_34 : decode cX8_letters 34 = .ok (.invokevirtual 73, 3) := by decide +kernel
theorem dX8_letters_37 : decode cX8_letters 37 = .ok (.aload_n 0, 1) := by decide +kernel
theorem dX8_letters_38 : decode cX8_letters 38 = .ok (.invokevirtual 90, 3) := by decide +kernel
theorem dX8_letters_41 : decode cX8_letters 41 = .ok (.iload_n 2, 1) := by decide +kernel
theorem dX8_letters_42 : decode cX8_letters 42 = .ok (.ireturn, 1) := by decide +kernel
theorem dX8_letterAt_0 : decode cX8_letterAt 0 = .ok (.aload_n 0, 1) := by decide +kernel
theorem dX8_letterAt_1 : decode cX8_letterAt 1 = .ok (.getfield 21, 3) := by decide +kernel
theorem dX8_letterAt_4 : decode cX8_letterAt 4 = .ok (.sipush 300, 3) := by decide +kernel
theorem dX8_letterAt_7 : decode cX8_letterAt 7 = .ok (.iload_n 1, 1) := by decide +kernel
theorem dX8_letterAt_8 : decode cX8_letterAt 8 = .ok (.imul, 1) := by decide +kernel
theorem dX8_letterAt_9 : decode cX8_letterAt 9 = .ok (.iload_n 2, 1) := by decide +kernel
theorem dX8_letterAt_10 : decode cX8_letterAt 10 = .ok (.iadd, 1) := by decide +kernel
theorem dX8_letterAt_11 : decode cX8_letterAt 11 = .ok (.iaload, 1) := by decide +kernel
theorem dX8_letterAt_12 : decode cX8_letterAt 12 = .ok (.bipush 97, 2) := by decide +kernel
theorem dX8_letterAt_14 : decode cX8_letterAt 14 = .ok (.isub, 1) := by decide +kernel
theorem dX8_letterAt_15 : decode cX8_letterAt 15 = .ok (.istore_n 3, 1) := by decide +kernel
theorem dX8_letterAt_16 : decode cX8_letterAt 16 = .ok (.aload_n 0, 1) := by decide +kernel
theorem dX8_letterAt_17 : decode cX8_letterAt 17 = .ok (.iload_n 3, 1) := by decide +kernel
theorem dX8_letterAt_18 : decode cX8_letterAt 18 = .ok (.invokevirtual 93, 3) := by decide +kernel
theorem dX8_letterAt_21 : decode cX8_letterAt 21 = .ok (.ifCond .eq 7, 3) := by decide +kernel
theorem dX8_letterAt_24 : decode cX8_letterAt 24 = .ok (.iload_n 3, 1) := by decide +kernel
theorem dX8_letterAt_25 : decode cX8_letterAt 25 = .ok (.goto 4, 3) := by decide +kernel
theorem dX8_letterAt_28 : decode cX8_letterAt 28 = .ok (.iconst (-1), 1) := by decide +kernel
theorem dX8_letterAt_29 : decode cX8_letterAt 29 = .ok (.ireturn, 1) := by decide +kernel
theorem dX8_counts_0 : decode cX8_counts 0 = .ok (.iconst 0, 1) := by decide +kernel
theorem dX8_counts_1 : decode cX8_counts 1 = .ok (.istore_n 1, 1) := by decide +kernel
theorem dX8_counts_2 : decode cX8_counts 2 = .ok (.iload_n 1, 1) := by decide +kernel
theorem dX8_counts_3 : decode cX8_counts 3 = .ok (.bipush 100, 2) := by decide +kernel
theorem dX8_counts_5 : decode cX8_counts 5 = .ok (.if_icmp .ge 16, 3) := by decide +kernel
theorem dX8_counts_8 : decode cX8_counts 8 = .ok (.aload_n 0, 1) := by decide +kernel
theorem dX8_counts_9 : decode cX8_counts 9 = .ok (.getfield 24, 3) := by decide +kernel
theorem dX8_counts_12 : decode cX8_counts 12 = .ok (.iload_n 1, 1) := by decide +kernel
theorem dX8_counts_13 : decode cX8_counts 13 = .ok (.iconst 0, 1) := by decide +kernel
theorem dX8_counts_14 : decode cX8_counts 14 = .ok (.iastore, 1) := by decide +kernel
theorem dX8_counts_15 : decode cX8_counts 15 = .ok (.iinc 1 1, 3) := by decide +kernel
theorem dX8_counts_18 : decode cX8_counts 18 = .ok (.goto (-16), 3) := by decide +kernel
theorem dX8_counts_21 : decode cX8_counts 21 = .ok (.iconst 0, 1) := by decide +kernel
theorem dX8_counts_22 : decode cX8_counts 22 = .ok (.istore_n 1, 1) := by decide +kernel
theorem dX8_counts_23 : decode cX8_counts 23 = .ok (.iload_n 1, 1) := by decide +kernel
theorem dX8_counts_24 : decode cX8_counts 24 = .ok (.bipush 6, 2) := by decide +kernel
theorem dX8_counts_26 : decode cX8_counts 26 = .ok (.if_icmp .ge 80, 3) := by decide +kernel
theorem dX8_counts_29 : decode cX8_counts 29 = .ok (.iconst 1, 1) := by decide +kernel
theorem dX8_counts_30 : decode cX8_counts 30 = .ok (.istore_n 2, 1) := by decide +kernel
theorem dX8_counts_31 : decode cX8_counts 31 = .ok (.iload_n 2, 1) := by decide +kernel
theorem dX8_counts_32 : decode cX8_counts 32 = .ok (.aload_n 0, 1) := by decide +kernel
theorem dX8_counts_33 : decode cX8_counts 33 = .ok (.getfield 17, 3) := by decide +kernel
theorem dX8_counts_36 : decode cX8_counts 36 = .ok (.iload_n 1, 1) := by decide +kernel
theorem dX8_counts_37 : decode cX8_counts 37 = .ok (.iaload, 1) := by decide +kernel
theorem dX8_counts_38 : decode cX8_counts 38 = .ok (.if_icmp .ge 62, 3) := by decide +kernel
theorem dX8_counts_41 : decode cX8_counts 41 = .ok (.aload_n 0, 1) := by decide +kernel
theorem dX8_counts_42 : decode cX8_counts 42 = .ok (.getfield 13, 3) := by decide +kernel
theorem dX8_counts_45 : decode cX8_counts 45 = .ok (.iload_n 1, 1) := by decide +kernel
theorem dX8_counts_46 : decode cX8_counts 46 = .ok (.baload, 1) := by decide +kernel
theorem dX8_counts_47 : decode cX8_counts 47 = .ok (.ifCond .eq 53, 3) := by decide +kernel
theorem dX8_counts_50 : decode cX8_counts 50 = .ok (.aload_n 0, 1) := by decide +kernel
theorem dX8_counts_51 : decode cX8_counts 51 = .ok (.iload_n 1, 1) := by decide +kernel
theorem dX8_counts_52 : decode cX8_counts 52 = .ok (.iload_n 2, 1) := by decide +kernel
theorem dX8_counts_53 : decode cX8_counts 53 = .ok (.iconst 1, 1) := by decide +kernel
theorem dX8_counts_54 : decode cX8_counts 54 = .ok (.isub, 1) := by decide +kernel
theorem dX8_counts_55 : decode cX8_counts 55 = .ok (.invokevirtual 97, 3) := by decide +kernel
theorem dX8_counts_58 : decode cX8_counts 58 = .ok (.istore_n 3, 1) := by decide +kernel
theorem dX8_counts_59 : decode cX8_counts 59 = .ok (.aload_n 0, 1) := by decide +kernel
theorem dX8_counts_60 : decode cX8_counts 60 = .ok (.iload_n 1, 1) := by decide +kernel
theorem dX8_counts_61 : decode cX8_counts 61 = .ok (.iload_n 2, 1) := by decide +kernel
theorem dX8_counts_62 : decode cX8_counts 62 = .ok (.invokevirtual 97, 3) := by decide +kernel
theorem dX8_counts_65 : decode cX8_counts 65 = .ok (.istore 4, 2) := by decide +kernel
theorem dX8_counts_67 : decode cX8_counts 67 = .ok (.iload_n 3, 1) := by decide +kernel
theorem dX8_counts_68 : decode cX8_counts 68 = .ok (.iconst (-1), 1) := by decide +kernel
theorem dX8_counts_69 : decode cX8_counts 69 = .ok (.if_icmp .eq 25, 3) := by decide +kernel
theorem dX8_counts_72 : decode cX8_counts 72 = .ok (.iload 4, 2) := by decide +kernel
theorem dX8_counts_74 : decode cX8_counts 74 = .ok (.iconst (-1), 1) := by decide +kernel
theorem dX8_counts_75 : decode cX8_counts 75 = .ok (.if_icmp .eq 19, 3) := by decide +kernel
theorem dX8_counts_78 : decode cX8_counts 78 = .ok (.aload_n 0, 1) := by decide +kernel
theorem dX8_counts_79 : decode cX8_counts 79 = .ok (.getfield 24, 3) := by decide +kernel
theorem dX8_counts_82 : decode cX8_counts 82 = .ok (.bipush 10, 2) := by decide +kernel
theorem dX8_counts_84 : decode cX8_counts 84 = .ok (.iload_n 3, 1) := by decide +kernel
theorem dX8_counts_85 : decode cX8_counts 85 = .ok (.imul, 1) := by decide +kernel
theorem dX8_counts_86 : decode cX8_counts 86 = .ok (.iload 4, 2) := by decide +kernel
theorem dX8_counts_88 : decode cX8_counts 88 = .ok (.iadd, 1) := by decide +kernel
theorem dX8_counts_89 : decode cX8_counts 89 = .ok (.dup2, 1) := by decide +kernel
theorem dX8_counts_90 : decode cX8_counts 90 = .ok (.iaload, 1) := by decide +kernel
theorem dX8_counts_91 : decode cX8_counts 91 = .ok (.iconst 1, 1) := by decide +kernel
theorem dX8_counts_92 : decode cX8_counts 92 = .ok (.iadd, 1) := by decide +kernel
theorem dX8_counts_93 : decode cX8_counts 93 = .ok (.iastore, 1) := by decide +kernel
theorem dX8_counts_94 : decode cX8_counts 94 = .ok (.iinc 2 1, 3) := by decide +kernel
theorem dX8_counts_97 : decode cX8_counts 97 = .ok (.goto (-66), 3) := by decide +kernel
theorem dX8_counts_100 : decode cX8_counts 100 = .ok (.iinc 1 1, 3) := by decide +kernel
theorem dX8_counts_103 : decode cX8_counts 103 = .ok (.goto (-80), 3) := by decide +kernel
theorem dX8_counts_106 : decode cX8_counts 106 = .ok (.return_, 1) := by decide +kernel
theorem dX8_feed_0 : decode cX8_feed 0 = .ok (.iload_n 1, 1) := by decide +kernel
theorem dX8_feed_1 : decode cX8_feed 1 = .ok (.iconst 0, 1) := by decide +kernel
theorem dX8_feed_2 : decode cX8_feed 2 = .ok (.iconst 5, 1) := by decide +kernel
theorem dX8_feed_3 : decode cX8_feed 3 = .ok (.invokestatic 76, 3) := by decide +kernel
theorem dX8_feed_6 : decode cX8_feed 6 = .ok (.ifCond .eq 14, 3) := by decide +kernel
theorem dX8_feed_9 : decode cX8_feed 9 = .ok (.iload 4, 2) := by decide +kernel
theorem dX8_feed_11 : decode cX8_feed 11 = .ok (.iconst 1, 1) := by decide +kernel
theorem dX8_feed_12 : decode cX8_feed 12 = .ok (.bipush 8, 2) := by decide +kernel
theorem dX8_feed_14 : decode cX8_feed 14 = .ok (.invokestatic 76, 3) := by decide +kernel
theorem dX8_feed_17 : decode cX8_feed 17 = .ok (.ifCond .ne 6, 3) := by decide +kernel
theorem dX8_feed_20 : decode cX8_feed 20 = .ok (.bipush (-2), 2) := by decide +kernel
theorem dX8_feed_22 : decode cX8_feed 22 = .ok (.ireturn, 1) := by decide +kernel
theorem dX8_feed_23 : decode cX8_feed 23 = .ok (.aload_n 0, 1) := by decide +kernel
theorem dX8_feed_24 : decode cX8_feed 24 = .ok (.getfield 13, 3) := by decide +kernel
theorem dX8_feed_27 : decode cX8_feed 27 = .ok (.iload_n 1, 1) := by decide +kernel
theorem dX8_feed_28 : decode cX8_feed 28 = .ok (.baload, 1) := by decide +kernel
theorem dX8_feed_29 : decode cX8_feed 29 = .ok (.ifCond .eq 12, 3) := by decide +kernel
theorem dX8_feed_32 : decode cX8_feed 32 = .ok (.aload_n 0, 1) := by decide +kernel
theorem dX8_feed_33 : decode cX8_feed 33 = .ok (.getfield 17, 3) := by decide +kernel
theorem dX8_feed_36 : decode cX8_feed 36 = .ok (.iload_n 1, 1) := by decide +kernel
theorem dX8_feed_37 : decode cX8_feed 37 = .ok (.iaload, 1) := by decide +kernel
theorem dX8_feed_38 : decode cX8_feed 38 = .ok (.goto 4, 3) := by decide +kernel
theorem dX8_feed_41 : decode cX8_feed 41 = .ok (.iconst 0, 1) := by decide +kernel
theorem dX8_feed_42 : decode cX8_feed 42 = .ok (.istore 5, 2) := by decide +kernel
theorem dX8_feed_44 : decode cX8_feed 44 = .ok (.iload 5, 2) := by decide +kernel
theorem dX8_feed_46 : decode cX8_feed 46 = .ok (.iload 4, 2) := by decide +kernel
theorem dX8_feed_48 : decode cX8_feed 48 = .ok (.iadd, 1) := by decide +kernel
theorem dX8_feed_49 : decode cX8_feed 49 = .ok (.sipush 300, 3) := by decide +kernel
theorem dX8_feed_52 : decode cX8_feed 52 = .ok (.if_icmp .le 6, 3) := by decide +kernel
theorem dX8_feed_55 : decode cX8_feed 55 = .ok (.bipush (-4), 2) := by decide +kernel
theorem dX8_feed_57 : decode cX8_feed 57 = .ok (.ireturn, 1) := by decide +kernel
theorem dX8_feed_58 : decode cX8_feed 58 = .ok (.iload 4, 2) := by decide +kernel
theorem dX8_feed_60 : decode cX8_feed 60 = .ok (.iconst 1, 1) := by decide +kernel
theorem dX8_feed_61 : decode cX8_feed 61 = .ok (.isub, 1) := by decide +kernel
theorem dX8_feed_62 : decode cX8_feed 62 = .ok (.istore 6, 2) := by decide +kernel
theorem dX8_feed_64 : decode cX8_feed 64 = .ok (.iload 6, 2) := by decide +kernel
theorem dX8_feed_66 : decode cX8_feed 66 = .ok (.ifCond .lt 42, 3) := by decide +kernel
theorem dX8_feed_69 : decode cX8_feed 69 = .ok (.aload_n 0, 1) := by decide +kernel
theorem dX8_feed_70 : decode cX8_feed 70 = .ok (.getfield 21, 3) := by decide +kernel
theorem dX8_feed_73 : decode cX8_feed 73 = .ok (.sipush 300, 3) := by decide +kernel
theorem dX8_feed_76 : decode cX8_feed 76 = .ok (.iload_n 1, 1) := by decide +kernel
theorem dX8_feed_77 : decode cX8_feed 77 = .ok (.imul, 1) := by decide +kernel
theorem dX8_feed_78 : decode cX8_feed 78 = .ok (.iload 5, 2) := by decide +kernel
theorem dX8_feed_80 : decode cX8_feed 80 = .ok (.iadd, 1) := by decide +kernel
theorem dX8_feed_81 : decode cX8_feed 81 = .ok (.iload 4, 2) := by decide +kernel
theorem dX8_feed_83 : decode cX8_feed 83 = .ok (.iadd, 1) := by decide +kernel
theorem dX8_feed_84 : decode cX8_feed 84 = .ok (.iconst 1, 1) := by decide +kernel
theorem dX8_feed_85 : decode cX8_feed 85 = .ok (.isub, 1) := by decide +kernel
theorem dX8_feed_86 : decode cX8_feed 86 = .ok (.iload 6, 2) := by decide +kernel
theorem dX8_feed_88 : decode cX8_feed 88 = .ok (.isub, 1) := by decide +kernel
theorem dX8_feed_89 : decode cX8_feed 89 = .ok (.lload_n 2, 1) := by decide +kernel
theorem dX8_feed_90 : decode cX8_feed 90 = .ok (.bipush 8, 2) := by decide +kernel
theorem dX8_feed_92 : decode cX8_feed 92 = .ok (.iload 6, 2) := by decide +kernel
theorem dX8_feed_94 : decode cX8_feed 94 = .ok (.imul, 1) := by decide +kernel
theorem dX8_feed_95 : decode cX8_feed 95 = .ok (.lshr, 1) := by decide +kernel
theorem dX8_feed_96 : decode cX8_feed 96 = .ok (.l2i, 1) := by decide +kernel
theorem dX8_feed_97 : decode cX8_feed 97 = .ok (.sipush 255, 3) := by decide +kernel
theorem dX8_feed_100 : decode cX8_feed 100 = .ok (.iand, 1) := by decide +kernel
theorem dX8_feed_101 : decode cX8_feed 101 = .ok (.iastore, 1) := by decide +kernel
theorem dX8_feed_102 : decode cX8_feed 102 = .ok (.iinc 6 (-1), 3) := by decide +kernel
theorem dX8_feed_105 : decode cX8_feed 105 = .ok (.goto (-41), 3) := by decide +kernel
theorem dX8_feed_108 : decode cX8_feed 108 = .ok (.aload_n 0, 1) := by decide +kernel
theorem dX8_feed_109 : decode cX8_feed 109 = .ok (.getfield 13, 3) := by decide +kernel
theorem dX8_feed_112 : decode cX8_feed 112 = .ok (.iload_n 1, 1) := by decide +kernel
theorem dX8_feed_113 : decode cX8_feed 113 = .ok (.iconst 1, 1) := by decide +kernel
theorem dX8_feed_114 : decode cX8_feed 114 = .ok (.bastore, 1) := by decide +kernel
theorem dX8_feed_115 : decode cX8_feed 115 = .ok (.aload_n 0, 1) := by decide +kernel
theorem dX8_feed_116 : decode cX8_feed 116 = .ok (.getfield 17, 3) := by decide +kernel
theorem dX8_feed_119 : decode cX8_feed 119 = .ok (.iload_n 1, 1) := by decide +kernel
theorem dX8_feed_120 : decode cX8_feed 120 = .ok (.iload 5, 2) := by decide +kernel
theorem dX8_feed_122 : decode cX8_feed 122 = .ok (.iload 4, 2) := by decide +kernel
theorem dX8_feed_124 : decode cX8_feed 124 = .ok (.iadd, 1) := by decide +kernel
theorem dX8_feed_125 : decode cX8_feed 125 = .ok (.iastore, 1) := by decide +kernel
theorem dX8_feed_126 : decode cX8_feed 126 = .ok (.aload_n 0, 1) := by decide +kernel
theorem dX8_feed_127 : decode cX8_feed 127 = .ok (.iconst 0, 1) := by decide +kernel
theorem dX8_feed_128 : decode cX8_feed 128 = .ok (.putfield 87, 3) := by decide +kernel
theorem dX8_feed_131 : decode cX8_feed 131 = .ok (.aload_n 0, 1) := by decide +kernel
theorem dX8_feed_132 : decode cX8_feed 132 = .ok (.invokevirtual 90, 3) := by decide +kernel
theorem dX8_feed_135 : decode cX8_feed 135 = .ok (.aload_n 0, 1) := by decide +kernel
theorem dX8_feed_136 : decode cX8_feed 136 = .ok (.getfield 17, 3) := by decide +kernel
theorem dX8_feed_139 : decode cX8_feed 139 = .ok (.iload_n 1, 1) := by decide +kernel
theorem dX8_feed_140 : decode cX8_feed 140 = .ok (.iaload, 1) := by decide +kernel
theorem dX8_feed_141 : decode cX8_feed 141 = .ok (.ireturn, 1) := by decide +kernel
theorem dX8_tear_0 : decode cX8_tear 0 = .ok (.iload_n 1, 1) := by decide +kernel
theorem dX8_tear_1 : decode cX8_tear 1 = .ok (.iconst 0, 1) := by decide +kernel
theorem dX8_tear_2 : decode cX8_tear 2 = .ok (.iconst 5, 1) := by decide +kernel
theorem dX8_tear_3 : decode cX8_tear 3 = .ok (.invokestatic 76, 3) := by decide +kernel
theorem dX8_tear_6 : decode cX8_tear 6 = .ok (.ifCond .ne 6, 3) := by decide +kernel
theorem dX8_tear_9 : decode cX8_tear 9 = .ok (.bipush (-2), 2) := by decide +kernel
theorem dX8_tear_11 : decode cX8_tear 11 = .ok (.ireturn, 1) := by decide +kernel
theorem dX8_tear_12 : decode cX8_tear 12 = .ok (.aload_n 0, 1) := by decide +kernel
theorem dX8_tear_13 : decode cX8_tear 13 = .ok (.getfield 13, 3) := by decide +kernel
theorem dX8_tear_16 : decode cX8_tear 16 = .ok (.iload_n 1, 1) := by decide +kernel
theorem dX8_tear_17 : decode cX8_tear 17 = .ok (.baload, 1) := by decide +kernel
theorem dX8_tear_18 : decode cX8_tear 18 = .ok (.ifCond .ne 6, 3) := by decide +kernel
theorem dX8_tear_21 : decode cX8_tear 21 = .ok (.bipush (-3), 2) := by decide +kernel
theorem dX8_tear_23 : decode cX8_tear 23 = .ok (.ireturn, 1) := by decide +kernel
theorem dX8_tear_24 : decode cX8_tear 24 = .ok (.aload_n 0, 1) := by decide +kernel
theorem dX8_tear_25 : decode cX8_tear 25 = .ok (.getfield 13, 3) := by decide +kernel
theorem dX8_tear_28 : decode cX8_tear 28 = .ok (.iload_n 1, 1) := by decide +kernel
theorem dX8_tear_29 : decode cX8_tear 29 = .ok (.iconst 0, 1) := by decide +kernel
theorem dX8_tear_30 : decode cX8_tear 30 = .ok (.bastore, 1) := by decide +kernel
theorem dX8_tear_31 : decode cX8_tear 31 = .ok (.aload_n 0, 1) := by decide +kernel
theorem dX8_tear_32 : decode cX8_tear 32 = .ok (.iconst 0, 1) := by decide +kernel
theorem dX8_tear_33 : decode cX8_tear 33 = .ok (.putfield 87, 3) := by decide +kernel
theorem dX8_tear_36 : decode cX8_tear 36 = .ok (.aload_n 0, 1) := by decide +kernel
theorem dX8_tear_37 : decode cX8_tear 37 = .ok (.invokevirtual 90, 3) := by decide +kernel
theorem dX8_tear_40 : decode cX8_tear 40 = .ok (.aload_n 0, 1) := by decide +kernel
theorem dX8_tear_41 : decode cX8_tear 41 = .ok (.getfield 17, 3) := by decide +kernel
theorem dX8_tear_44 : decode cX8_tear 44 = .ok (.iload_n 1, 1) := by decide +kernel
theorem dX8_tear_45 : decode cX8_tear 45 = .ok (.iaload, 1) := by decide +kernel
theorem dX8_tear_46 : decode cX8_tear 46 = .ok (.ireturn, 1) := by decide +kernel
theorem dX8_often_0 : decode cX8_often 0 = .ok (.aload_n 0, 1) := by decide +kernel
theorem dX8_often_1 : decode cX8_often 1 = .ok (.iload_n 1, 1) := by decide +kernel
theorem dX8_often_2 : decode cX8_often 2 = .ok (.invokevirtual 93, 3) := by decide +kernel
theorem dX8_often_5 : decode cX8_often 5 = .ok (.ifCond .eq 25, 3) := by decide +kernel
theorem dX8_often_8 : decode cX8_often 8 = .ok (.aload_n 0, 1) := by decide +kernel
theorem dX8_often_9 : decode cX8_often 9 = .ok (.iload_n 2, 1) := by decide +kernel
theorem dX8_often_10 : decode cX8_often 10 = .ok (.invokevirtual 93, 3) := by decide +kernel
theorem dX8_often_13 : decode cX8_often 13 = .ok (.ifCond .eq 17, 3) := by decide +kernel
theorem dX8_often_16 : decode cX8_often 16 = .ok (.aload_n 0, 1) := by decide +kernel
theorem dX8_often_17 : decode cX8_often 17 = .ok (.getfield 24, 3) := by decide +kernel
theorem dX8_often_20 : decode cX8_often 20 = .ok (.bipush 10, 2) := by decide +kernel
theorem dX8_often_22 : decode cX8_often 22 = .ok (.iload_n 1, 1) := by decide +kernel
theorem dX8_often_23 : decode cX8_often 23 = .ok (.imul, 1) := by decide +kernel
theorem dX8_often_24 : decode cX8_often 24 = .ok (.iload_n 2, 1) := by decide +kernel
theorem dX8_often_25 : decode cX8_often 25 = .ok (.iadd, 1) := by decide +kernel
theorem dX8_often_26 : decode cX8_often 26 = .ok (.iaload, 1) := by decide +kernel
theorem dX8_often_27 : decode cX8_often 27 = .ok (.goto 5, 3) := by decide +kernel
theorem dX8_often_30 : decode cX8_often 30 = .ok (.bipush (-2), 2) := by decide +kernel
theorem dX8_often_32 : decode cX8_often 32 = .ok (.ireturn, 1) := by decide +kernel
theorem dX8_key_0 : decode cX8_key 0 = .ok (.iload_n 1, 1) := by decide +kernel
theorem dX8_key_1 : decode cX8_key 1 = .ok (.iconst 0, 1) := by decide +kernel
theorem dX8_key_2 : decode cX8_key 2 = .ok (.iconst 3, 1) := by decide +kernel
theorem dX8_key_3 : decode cX8_key 3 = .ok (.invokestatic 76, 3) := by decide +kernel
theorem dX8_key_6 : decode cX8_key 6 = .ok (.ifCond .eq 14, 3) := by decide +kernel
theorem dX8_key_9 : decode cX8_key 9 = .ok (.iload_n 2, 1) := by decide +kernel
theorem dX8_key_10 : decode cX8_key 10 = .ok (.iconst 0, 1) := by decide +kernel
theorem dX8_key_11 : decode cX8_key 11 = .ok (.sipush 1000, 3) := by decide +kernel
theorem dX8_key_14 : decode cX8_key 14 = .ok (.invokestatic 76, 3) := by decide +kernel
theorem dX8_key_17 : decode cX8_key 17 = .ok (.ifCond .ne 6, 3) := by decide +kernel
theorem dX8_key_20 : decode cX8_key 20 = .ok (.bipush (-2), 2) := by decide +kernel
theorem dX8_key_22 : decode cX8_key 22 = .ok (.ireturn, 1) := by decide +kernel
theorem dX8_key_23 : decode cX8_key 23 = .ok (.aload_n 0, 1) := by decide +kernel
theorem dX8_key_24 : decode cX8_key 24 = .ok (.getfield 80, 3) := by decide +kernel
theorem dX8_key_27 : decode cX8_key 27 = .ok (.bipush 12, 2) := by decide +kernel
theorem dX8_key_29 : decode cX8_key 29 = .ok (.if_icmp .ne 6, 3) := by decide +kernel
theorem dX8_key_32 : decode cX8_key 32 = .ok (.bipush (-4), 2) := by decide +kernel
theorem dX8_key_34 : decode cX8_key 34 = .ok (.ireturn, 1) := by decide +kernel
theorem dX8_key_35 : decode cX8_key 35 = .ok (.aload_n 0, 1) := by decide +kernel
theorem dX8_key_36 : decode cX8_key 36 = .ok (.getfield 27, 3) := by decide +kernel
theorem dX8_key_39 : decode cX8_key 39 = .ok (.aload_n 0, 1) := by decide +kernel
theorem dX8_key_40 : decode cX8_key 40 = .ok (.getfield 80, 3) := by decide +kernel
theorem dX8_key_43 : decode cX8_key 43 = .ok (.iload_n 1, 1) := by decide +kernel
theorem dX8_key_44 : decode cX8_key 44 = .ok (.iastore, 1) := by decide +kernel
theorem dX8_key_45 : decode cX8_key 45 = .ok (.aload_n 0, 1) := by decide +kernel
theorem dX8_key_46 : decode cX8_key 46 = .ok (.getfield 30, 3) := by decide +kernel
theorem dX8_key_49 : decode cX8_key 49 = .ok (.aload_n 0, 1) := by decide +kernel
theorem dX8_key_50 : decode cX8_key 50 = .ok (.getfield 80, 3) := by decide +kernel
theorem dX8_key_53 : decode cX8_key 53 = .ok (.iload_n 2, 1) := by decide +kernel
theorem dX8_key_54 : decode cX8_key 54 = .ok (.iastore, 1) := by decide +kernel
theorem dX8_key_55 : decode cX8_key 55 = .ok (.aload_n 0, 1) := by decide +kernel
theorem dX8_key_56 : decode cX8_key 56 = .ok (.dup, 1) := by decide +kernel
theorem dX8_key_57 : decode cX8_key 57 = .ok (.getfield 80, 3) := by decide +kernel
theorem dX8_key_60 : decode cX8_key 60 = .ok (.iconst 1, 1) := by decide +kernel
theorem dX8_key_61 : decode cX8_key 61 = .ok (.iadd, 1) := by decide +kernel
theorem dX8_key_62 : decode cX8_key 62 = .ok (.putfield 80, 3) := by decide +kernel
theorem dX8_key_65 : decode cX8_key 65 = .ok (.aload_n 0, 1) := by decide +kernel
theorem dX8_key_66 : decode cX8_key 66 = .ok (.iconst 0, 1) := by decide +kernel
theorem dX8_key_67 : decode cX8_key 67 = .ok (.putfield 87, 3) := by decide +kernel
theorem dX8_key_70 : decode cX8_key 70 = .ok (.aload_n 0, 1) := by decide +kernel
theorem dX8_key_71 : decode cX8_key 71 = .ok (.getfield 80, 3) := by decide +kernel
theorem dX8_key_74 : decode cX8_key 74 = .ok (.iconst 1, 1) := by decide +kernel
theorem dX8_key_75 : decode cX8_key 75 = .ok (.isub, 1) := by decide +kernel
theorem dX8_key_76 : decode cX8_key 76 = .ok (.ireturn, 1) := by decide +kernel
theorem dX8_go_0 : decode cX8_go 0 = .ok (.aload_n 0, 1) := by decide +kernel
theorem dX8_go_1 : decode cX8_go 1 = .ok (.iload_n 1, 1) := by decide +kernel
theorem dX8_go_2 : decode cX8_go 2 = .ok (.invokevirtual 101, 3) := by decide +kernel
theorem dX8_go_5 : decode cX8_go 5 = .ok (.ifCond .eq 22, 3) := by decide +kernel
theorem dX8_go_8 : decode cX8_go 8 = .ok (.aload_n 0, 1) := by decide +kernel
theorem dX8_go_9 : decode cX8_go 9 = .ok (.iload_n 2, 1) := by decide +kernel
theorem dX8_go_10 : decode cX8_go 10 = .ok (.invokevirtual 101, 3) := by decide +kernel
theorem dX8_go_13 : decode cX8_go 13 = .ok (.ifCond .eq 14, 3) := by decide +kernel
theorem dX8_go_16 : decode cX8_go 16 = .ok (.iload_n 3, 1) := by decide +kernel
theorem dX8_go_17 : decode cX8_go 17 = .ok (.iconst 0, 1) := by decide +kernel
theorem dX8_go_18 : decode cX8_go 18 = .ok (.sipush 1000, 3) := by decide +kernel
theorem dX8_go_21 : decode cX8_go 21 = .ok (.invokestatic 76, 3) := by decide +kernel
theorem dX8_go_24 : decode cX8_go 24 = .ok (.ifCond .ne 6, 3) := by decide +kernel
theorem dX8_go_27 : decode cX8_go 27 = .ok (.bipush (-2), 2) := by decide +kernel
theorem dX8_go_29 : decode cX8_go 29 = .ok (.ireturn, 1) := by decide +kernel
theorem dX8_go_30 : decode cX8_go 30 = .ok (.aload_n 0, 1) := by decide +kernel
theorem dX8_go_31 : decode cX8_go 31 = .ok (.getfield 33, 3) := by decide +kernel
theorem dX8_go_34 : decode cX8_go 34 = .ok (.bipush 12, 2) := by decide +kernel
theorem dX8_go_36 : decode cX8_go 36 = .ok (.iload_n 1, 1) := by decide +kernel
theorem dX8_go_37 : decode cX8_go 37 = .ok (.imul, 1) := by decide +kernel
theorem dX8_go_38 : decode cX8_go 38 = .ok (.iload_n 2, 1) := by decide +kernel
theorem dX8_go_39 : decode cX8_go 39 = .ok (.iadd, 1) := by decide +kernel
theorem dX8_go_40 : decode cX8_go 40 = .ok (.iaload, 1) := by decide +kernel
theorem dX8_go_41 : decode cX8_go 41 = .ok (.istore 4, 2) := by decide +kernel
theorem dX8_go_43 : decode cX8_go 43 = .ok (.aload_n 0, 1) := by decide +kernel
theorem dX8_go_44 : decode cX8_go 44 = .ok (.getfield 33, 3) := by decide +kernel
theorem dX8_go_47 : decode cX8_go 47 = .ok (.bipush 12, 2) := by decide +kernel
theorem dX8_go_49 : decode cX8_go 49 = .ok (.iload_n 1, 1) := by decide +kernel
theorem dX8_go_50 : decode cX8_go 50 = .ok (.imul, 1) := by decide +kernel
theorem dX8_go_51 : decode cX8_go 51 = .ok (.iload_n 2, 1) := by decide +kernel
theorem dX8_go_52 : decode cX8_go 52 = .ok (.iadd, 1) := by decide +kernel
theorem dX8_go_53 : decode cX8_go 53 = .ok (.iload_n 3, 1) := by decide +kernel
theorem dX8_go_54 : decode cX8_go 54 = .ok (.iastore, 1) := by decide +kernel
theorem dX8_go_55 : decode cX8_go 55 = .ok (.aload_n 0, 1) := by decide +kernel
theorem dX8_go_56 : decode cX8_go 56 = .ok (.iconst 0, 1) := by decide +kernel
theorem dX8_go_57 : decode cX8_go 57 = .ok (.putfield 87, 3) := by decide +kernel
theorem dX8_go_60 : decode cX8_go 60 = .ok (.iload 4, 2) := by decide +kernel
theorem dX8_go_62 : decode cX8_go 62 = .ok (.ireturn, 1) := by decide +kernel
theorem dX8_costOf_0 : decode cX8_costOf 0 = .ok (.aload_n 0, 1) := by decide +kernel
theorem dX8_costOf_1 : decode cX8_costOf 1 = .ok (.getfield 33, 3) := by decide +kernel
theorem dX8_costOf_4 : decode cX8_costOf 4 = .ok (.bipush 12, 2) := by decide +kernel
theorem dX8_costOf_6 : decode cX8_costOf 6 = .ok (.iload_n 1, 1) := by decide +kernel
theorem dX8_costOf_7 : decode cX8_costOf 7 = .ok (.imul, 1) := by decide +kernel
theorem dX8_costOf_8 : decode cX8_costOf 8 = .ok (.iload_n 2, 1) := by decide +kernel
theorem dX8_costOf_9 : decode cX8_costOf 9 = .ok (.iadd, 1) := by decide +kernel
theorem dX8_costOf_10 : decode cX8_costOf 10 = .ok (.iaload, 1) := by decide +kernel
theorem dX8_costOf_11 : decode cX8_costOf 11 = .ok (.istore_n 3, 1) := by decide +kernel
theorem dX8_costOf_12 : decode cX8_costOf 12 = .ok (.aload_n 0, 1) := by decide +kernel
theorem dX8_costOf_13 : decode cX8_costOf 13 = .ok (.getfield 27, 3) := by decide +kernel
theorem dX8_costOf_16 : decode cX8_costOf 16 = .ok (.iload_n 2, 1) := by decide +kernel
theorem dX8_costOf_17 : decode cX8_costOf 17 = .ok (.iaload, 1) := by decide +kernel
theorem dX8_costOf_18 : decode cX8_costOf 18 = .ok (.tableswitch 41 0 2 #[26, 28, 32], 26) := by decide +kernel
theorem dX8_costOf_44 : decode cX8_costOf 44 = .ok (.iload_n 3, 1) := by decide +kernel
theorem dX8_costOf_45 : decode cX8_costOf 45 = .ok (.ireturn, 1) := by decide +kernel
theorem dX8_costOf_46 : decode cX8_costOf 46 = .ok (.iload_n 3, 1) := by decide +kernel
theorem dX8_costOf_47 : decode cX8_costOf 47 = .ok (.iconst 2, 1) := by decide +kernel
theorem dX8_costOf_48 : decode cX8_costOf 48 = .ok (.idiv, 1) := by decide +kernel
theorem dX8_costOf_49 : decode cX8_costOf 49 = .ok (.ireturn, 1) := by decide +kernel
theorem dX8_costOf_50 : decode cX8_costOf 50 = .ok (.iload_n 3, 1) := by decide +kernel
theorem dX8_costOf_51 : decode cX8_costOf 51 = .ok (.aload_n 0, 1) := by decide +kernel
theorem dX8_costOf_52 : decode cX8_costOf 52 = .ok (.getfield 30, 3) := by decide +kernel
theorem dX8_costOf_55 : decode cX8_costOf 55 = .ok (.iload_n 2, 1) := by decide +kernel
theorem dX8_costOf_56 : decode cX8_costOf 56 = .ok (.iaload, 1) := by decide +kernel
theorem dX8_costOf_57 : decode cX8_costOf 57 = .ok (.iadd, 1) := by decide +kernel
theorem dX8_costOf_58 : decode cX8_costOf 58 = .ok (.ireturn, 1) := by decide +kernel
theorem dX8_costOf_59 : decode cX8_costOf 59 = .ok (.iconst 2, 1) := by decide +kernel
theorem dX8_costOf_60 : decode cX8_costOf 60 = .ok (.iload_n 3, 1) := by decide +kernel
theorem dX8_costOf_61 : decode cX8_costOf 61 = .ok (.aload_n 0, 1) := by decide +kernel
theorem dX8_costOf_62 : decode cX8_costOf 62 = .ok (.getfield 30, 3) := by decide +kernel
theorem dX8_costOf_65 : decode cX8_costOf 65 = .ok (.iload_n 2, 1) := by decide +kernel
theorem dX8_costOf_66 : decode cX8_costOf 66 = .ok (.iaload, 1) := by decide +kernel
theorem dX8_costOf_67 : decode cX8_costOf 67 = .ok (.iadd, 1) := by decide +kernel
theorem dX8_costOf_68 : decode cX8_costOf 68 = .ok (.imul, 1) := by decide +kernel
theorem dX8_costOf_69 : decode cX8_costOf 69 = .ok (.ireturn, 1) := by decide +kernel
theorem dX8_cost_0 : decode cX8_cost 0 = .ok (.aload_n 0, 1) := by decide +kernel
theorem dX8_cost_1 : decode cX8_cost 1 = .ok (.iload_n 1, 1) := by decide +kernel
theorem dX8_cost_2 : decode cX8_cost 2 = .ok (.invokevirtual 101, 3) := by decide +kernel
theorem dX8_cost_5 : decode cX8_cost 5 = .ok (.ifCond .eq 11, 3) := by decide +kernel
theorem dX8_cost_8 : decode cX8_cost 8 = .ok (.aload_n 0, 1) := by decide +kernel
theorem dX8_cost_9 : decode cX8_cost 9 = .ok (.iload_n 2, 1) := by decide +kernel
theorem dX8_cost_10 : decode cX8_cost 10 = .ok (.invokevirtual 101, 3) := by decide +kernel
theorem dX8_cost_13 : decode cX8_cost 13 = .ok (.ifCond .ne 6, 3) := by decide +kernel
theorem dX8_cost_16 : decode cX8_cost 16 = .ok (.bipush (-2), 2) := by decide +kernel
theorem dX8_cost_18 : decode cX8_cost 18 = .ok (.ireturn, 1) := by decide +kernel
theorem dX8_cost_19 : decode cX8_cost 19 = .ok (.aload_n 0, 1) := by decide +kernel
theorem dX8_cost_20 : decode cX8_cost 20 = .ok (.iconst 0, 1) := by decide +kernel
theorem dX8_cost_21 : decode cX8_cost 21 = .ok (.putfield 104, 3) := by decide +kernel
theorem dX8_cost_24 : decode cX8_cost 24 = .ok (.aload_n 0, 1) := by decide +kernel
theorem dX8_cost_25 : decode cX8_cost 25 = .ok (.getfield 27, 3) := by decide +kernel
theorem dX8_cost_28 : decode cX8_cost 28 = .ok (.iload_n 2, 1) := by decide +kernel
theorem dX8_cost_29 : decode cX8_cost 29 = .ok (.iaload, 1) := by decide +kernel
theorem dX8_cost_30 : decode cX8_cost 30 = .ok (.iconst 3, 1) := by decide +kernel
theorem dX8_cost_31 : decode cX8_cost 31 = .ok (.if_icmp .ne 25, 3) := by decide +kernel
theorem dX8_cost_34 : decode cX8_cost 34 = .ok (.aload_n 0, 1) := by decide +kernel
theorem dX8_cost_35 : decode cX8_cost 35 = .ok (.getfield 45, 3) := by decide +kernel
theorem dX8_cost_38 : decode cX8_cost 38 = .ok (.iconst 0, 1) := by decide +kernel
theorem dX8_cost_39 : decode cX8_cost 39 = .ok (.iconst 4, 1) := by decide +kernel
theorem dX8_cost_40 : decode cX8_cost 40 = .ok (.iastore, 1) := by decide +kernel
theorem dX8_cost_41 : decode cX8_cost 41 = .ok (.aload_n 0, 1) := by decide +kernel
theorem dX8_cost_42 : decode cX8_cost 42 = .ok (.getfield 45, 3) := by decide +kernel
theorem dX8_cost_45 : decode cX8_cost 45 = .ok (.iconst 1, 1) := by decide +kernel
theorem dX8_cost_46 : decode cX8_cost 46 = .ok (.iconst 3, 1) := by decide +kernel
theorem dX8_cost_47 : decode cX8_cost 47 = .ok (.iastore, 1) := by decide +kernel
theorem dX8_cost_48 : decode cX8_cost 48 = .ok (.aload_n 0, 1) := by decide +kernel
theorem dX8_cost_49 : decode cX8_cost 49 = .ok (.iconst 2, 1) := by decide +kernel
theorem dX8_cost_50 : decode cX8_cost 50 = .ok (.putfield 104, 3) := by decide +kernel
theorem dX8_cost_53 : decode cX8_cost 53 = .ok (.goto 31, 3) := by decide +kernel
theorem dX8_cost_56 : decode cX8_cost 56 = .ok (.aload_n 0, 1) := by decide +kernel
theorem dX8_cost_57 : decode cX8_cost 57 = .ok (.getfield 27, 3) := by decide +kernel
theorem dX8_cost_60 : decode cX8_cost 60 = .ok (.iload_n 2, 1) := by decide +kernel
theorem dX8_cost_61 : decode cX8_cost 61 = .ok (.iaload, 1) := by decide +kernel
theorem dX8_cost_62 : decode cX8_cost 62 = .ok (.ifCond .le 22, 3) := by decide +kernel
theorem dX8_cost_65 : decode cX8_cost 65 = .ok (.aload_n 0, 1) := by decide +kernel
theorem dX8_cost_66 : decode cX8_cost 66 = .ok (.getfield 45, 3) := by decide +kernel
theorem dX8_cost_69 : decode cX8_cost 69 = .ok (.iconst 0, 1) := by decide +kernel
theorem dX8_cost_70 : decode cX8_cost 70 = .ok (.aload_n 0, 1) := by decide +kernel
theorem dX8_cost_71 : decode cX8_cost 71 = .ok (.getfield 27, 3) := by decide +kernel
theorem dX8_cost_74 : decode cX8_cost 74 = .ok (.iload_n 2, 1) := by decide +kernel
theorem dX8_cost_75 : decode cX8_cost 75 = .ok (.iaload, 1) := by decide +kernel
theorem dX8_cost_76 : decode cX8_cost 76 = .ok (.iconst 1, 1) := by decide +kernel
theorem dX8_cost_77 : decode cX8_cost 77 = .ok (.iadd, 1) := by decide +kernel
theorem dX8_cost_78 : decode cX8_cost 78 = .ok (.iastore, 1) := by decide +kernel
theorem dX8_cost_79 : decode cX8_cost 79 = .ok (.aload_n 0, 1) := by decide +kernel
theorem dX8_cost_80 : decode cX8_cost 80 = .ok (.iconst 1, 1) := by decide +kernel
theorem dX8_cost_81 : decode cX8_cost 81 = .ok (.putfield 104, 3) := by decide +kernel
theorem dX8_cost_84 : decode cX8_cost 84 = .ok (.aload_n 0, 1) := by decide +kernel
theorem dX8_cost_85 : decode cX8_cost 85 = .ok (.getfield 45, 3) := by decide +kernel
theorem dX8_cost_88 : decode cX8_cost 88 = .ok (.aload_n 0, 1) := by decide +kernel
theorem dX8_cost_89 : decode cX8_cost 89 = .ok (.getfield 104, 3) := by decide +kernel
theorem dX8_cost_92 : decode cX8_cost 92 = .ok (.iconst 1, 1) := by decide +kernel
theorem dX8_cost_93 : decode cX8_cost 93 = .ok (.iastore, 1) := by decide +kernel
theorem dX8_cost_94 : decode cX8_cost 94 = .ok (.aload_n 0, 1) := by decide +kernel
theorem dX8_cost_95 : decode cX8_cost 95 = .ok (.dup, 1) := by decide +kernel
theorem dX8_cost_96 : decode cX8_cost 96 = .ok (.getfield 104, 3) := by decide +kernel
theorem dX8_cost_99 : decode cX8_cost 99 = .ok (.iconst 1, 1) := by decide +kernel
theorem dX8_cost_100 : decode cX8_cost 100 = .ok (.iadd, 1) := by decide +kernel
theorem dX8_cost_101 : decode cX8_cost 101 = .ok (.putfield 104, 3) := by decide +kernel
theorem dX8_cost_104 : decode cX8_cost 104 = .ok (.aload_n 0, 1) := by decide +kernel
theorem dX8_cost_105 : decode cX8_cost 105 = .ok (.iload_n 1, 1) := by decide +kernel
theorem dX8_cost_106 : decode cX8_cost 106 = .ok (.iload_n 2, 1) := by decide +kernel
theorem dX8_cost_107 : decode cX8_cost 107 = .ok (.invokevirtual 107, 3) := by decide +kernel
theorem dX8_cost_110 : decode cX8_cost 110 = .ok (.ireturn, 1) := by decide +kernel
theorem dX8_body_0 : decode cX8_body 0 = .ok (.iload_n 1, 1) := by decide +kernel
theorem dX8_body_1 : decode cX8_body 1 = .ok (.iconst 0, 1) := by decide +kernel
theorem dX8_body_2 : decode cX8_body 2 = .ok (.aload_n 0, 1) := by decide +kernel
theorem dX8_body_3 : decode cX8_body 3 = .ok (.getfield 104, 3) := by decide +kernel
theorem dX8_body_6 : decode cX8_body 6 = .ok (.iconst 1, 1) := by decide +kernel
theorem dX8_body_7 : decode cX8_body 7 = .ok (.isub, 1) := by decide +kernel
theorem dX8_body_8 : decode cX8_body 8 = .ok (.invokestatic 76, 3) := by decide +kernel
theorem dX8_body_11 : decode cX8_body 11 = .ok (.ifCond .eq 12, 3) := by decide +kernel
theorem dX8_body_14 : decode cX8_body 14 = .ok (.aload_n 0, 1) := by decide +kernel
theorem dX8_body_15 : decode cX8_body 15 = .ok (.getfield 45, 3) := by decide +kernel
theorem dX8_body_18 : decode cX8_body 18 = .ok (.iload_n 1, 1) := by decide +kernel
theorem dX8_body_19 : decode cX8_body 19 = .ok (.iaload, 1) := by decide +kernel
theorem dX8_body_20 : decode cX8_body 20 = .ok (.goto 4, 3) := by decide +kernel
theorem dX8_body_23 : decode cX8_body 23 = .ok (.iconst (-1), 1) := by decide +kernel
theorem dX8_body_24 : decode cX8_body 24 = .ok (.ireturn, 1) := by decide +kernel
theorem dX8_fix_0 : decode cX8_fix 0 = .ok (.aload_n 0, 1) := by decide +kernel
theorem dX8_fix_1 : decode cX8_fix 1 = .ok (.iload_n 1, 1) := by decide +kernel
theorem dX8_fix_2 : decode cX8_fix 2 = .ok (.invokevirtual 93, 3) := by decide +kernel
theorem dX8_fix_5 : decode cX8_fix 5 = .ok (.ifCond .eq 16, 3) := by decide +kernel
theorem dX8_fix_8 : decode cX8_fix 8 = .ok (.iload_n 2, 1) := by decide +kernel
theorem dX8_fix_9 : decode cX8_fix 9 = .ok (.iconst (-1), 1) := by decide +kernel
theorem dX8_fix_10 : decode cX8_fix 10 = .ok (.if_icmp .eq 14, 3) := by decide +kernel
theorem dX8_fix_13 : decode cX8_fix 13 = .ok (.aload_n 0, 1) := by decide +kernel
theorem dX8_fix_14 : decode cX8_fix 14 = .ok (.iload_n 2, 1) := by decide +kernel
theorem dX8_fix_15 : decode cX8_fix 15 = .ok (.invokevirtual 101, 3) := by decide +kernel
theorem dX8_fix_18 : decode cX8_fix 18 = .ok (.ifCond .ne 6, 3) := by decide +kernel
theorem dX8_fix_21 : decode cX8_fix 21 = .ok (.bipush (-2), 2) := by decide +kernel
theorem dX8_fix_23 : decode cX8_fix 23 = .ok (.ireturn, 1) := by decide +kernel
theorem dX8_fix_24 : decode cX8_fix 24 = .ok (.iconst 0, 1) := by decide +kernel
theorem dX8_fix_25 : decode cX8_fix 25 = .ok (.istore_n 3, 1) := by decide +kernel
theorem dX8_fix_26 : decode cX8_fix 26 = .ok (.iload_n 3, 1) := by decide +kernel
theorem dX8_fix_27 : decode cX8_fix 27 = .ok (.aload_n 0, 1) := by decide +kernel
theorem dX8_fix_28 : decode cX8_fix 28 = .ok (.getfield 7, 3) := by decide +kernel
theorem dX8_fix_31 : decode cX8_fix 31 = .ok (.if_icmp .ge 32, 3) := by decide +kernel
theorem dX8_fix_34 : decode cX8_fix 34 = .ok (.iload_n 3, 1) := by decide +kernel
theorem dX8_fix_35 : decode cX8_fix 35 = .ok (.iload_n 1, 1) := by decide +kernel
theorem dX8_fix_36 : decode cX8_fix 36 = .ok (.if_icmp .eq 21, 3) := by decide +kernel
theorem dX8_fix_39 : decode cX8_fix 39 = .ok (.iload_n 2, 1) := by decide +kernel
theorem dX8_fix_40 : decode cX8_fix 40 = .ok (.iconst (-1), 1) := by decide +kernel
theorem dX8_fix_41 : decode cX8_fix 41 = .ok (.if_icmp .eq 16, 3) := by decide +kernel
theorem dX8_fix_44 : decode cX8_fix 44 = .ok (.aload_n 0, 1) := by decide +kernel
theorem dX8_fix_45 : decode cX8_fix 45 = .ok (.getfield 36, 3) := by decide +kernel
theorem dX8_fix_48 : decode cX8_fix 48 = .ok (.iload_n 3, 1) := by decide +kernel
theorem dX8_fix_49 : decode cX8_fix 49 = .ok (.iaload, 1) := by decide +kernel
theorem dX8_fix_50 : decode cX8_fix 50 = .ok (.iload_n 2, 1) := by decide +kernel
theorem dX8_fix_51 : decode cX8_fix 51 = .ok (.if_icmp .ne 6, 3) := by decide +kernel
theorem dX8_fix_54 : decode cX8_fix 54 = .ok (.bipush (-3), 2) := by decide +kernel
theorem dX8_fix_56 : decode cX8_fix 56 = .ok (.ireturn, 1) := by decide +kernel
theorem dX8_fix_57 : decode cX8_fix 57 = .ok (.iinc 3 1, 3) := by decide +kernel
theorem dX8_fix_60 : decode cX8_fix 60 = .ok (.goto (-34), 3) := by decide +kernel
theorem dX8_fix_63 : decode cX8_fix 63 = .ok (.aload_n 0, 1) := by decide +kernel
theorem dX8_fix_64 : decode cX8_fix 64 = .ok (.getfield 36, 3) := by decide +kernel
theorem dX8_fix_67 : decode cX8_fix 67 = .ok (.iload_n 1, 1) := by decide +kernel
theorem dX8_fix_68 : decode cX8_fix 68 = .ok (.iaload, 1) := by decide +kernel
theorem dX8_fix_69 : decode cX8_fix 69 = .ok (.istore_n 3, 1) := by decide +kernel
theorem dX8_fix_70 : decode cX8_fix 70 = .ok (.aload_n 0, 1) := by decide +kernel
theorem dX8_fix_71 : decode cX8_fix 71 = .ok (.getfield 36, 3) := by decide +kernel
theorem dX8_fix_74 : decode cX8_fix 74 = .ok (.iload_n 1, 1) := by decide +kernel
theorem dX8_fix_75 : decode cX8_fix 75 = .ok (.iload_n 2, 1) := by decide +kernel
theorem dX8_fix_76 : decode cX8_fix 76 = .ok (.iastore, 1) := by decide +kernel
theorem dX8_fix_77 : decode cX8_fix 77 = .ok (.aload_n 0, 1) := by decide +kernel
theorem dX8_fix_78 : decode cX8_fix 78 = .ok (.iconst 0, 1) := by decide +kernel
theorem dX8_fix_79 : decode cX8_fix 79 = .ok (.putfield 83, 3) := by decide +kernel
theorem dX8_fix_82 : decode cX8_fix 82 = .ok (.aload_n 0, 1) := by decide +kernel
theorem dX8_fix_83 : decode cX8_fix 83 = .ok (.iconst 0, 1) := by decide +kernel
theorem dX8_fix_84 : decode cX8_fix 84 = .ok (.putfield 87, 3) := by decide +kernel
theorem dX8_fix_87 : decode cX8_fix 87 = .ok (.iload_n 3, 1) := by decide +kernel
theorem dX8_fix_88 : decode cX8_fix 88 = .ok (.ireturn, 1) := by decide +kernel
theorem dX8_mayBear_0 : decode cX8_mayBear 0 = .ok (.aload_n 0, 1) := by decide +kernel
theorem dX8_mayBear_1 : decode cX8_mayBear 1 = .ok (.getfield 36, 3) := by decide +kernel
theorem dX8_mayBear_4 : decode cX8_mayBear 4 = .ok (.iload_n 1, 1) := by decide +kernel
theorem dX8_mayBear_5 : decode cX8_mayBear 5 = .ok (.iaload, 1) := by decide +kernel
theorem dX8_mayBear_6 : decode cX8_mayBear 6 = .ok (.iconst (-1), 1) := by decide +kernel
theorem dX8_mayBear_7 : decode cX8_mayBear 7 = .ok (.if_icmp .eq 19, 3) := by decide +kernel
theorem dX8_mayBear_10 : decode cX8_mayBear 10 = .ok (.aload_n 0, 1) := by decide +kernel
theorem dX8_mayBear_11 : decode cX8_mayBear 11 = .ok (.getfield 36, 3) := by decide +kernel
theorem dX8_mayBear_14 : decode cX8_mayBear 14 = .ok (.iload_n 1, 1) := by decide +kernel
theorem dX8_mayBear_15 : decode cX8_mayBear 15 = .ok (.iaload, 1) := by decide +kernel
theorem dX8_mayBear_16 : decode cX8_mayBear 16 = .ok (.iload_n 2, 1) := by decide +kernel
theorem dX8_mayBear_17 : decode cX8_mayBear 17 = .ok (.if_icmp .ne 7, 3) := by decide +kernel
theorem dX8_mayBear_20 : decode cX8_mayBear 20 = .ok (.iconst 1, 1) := by decide +kernel
theorem dX8_mayBear_21 : decode cX8_mayBear 21 = .ok (.goto 4, 3) := by decide +kernel
theorem dX8_mayBear_24 : decode cX8_mayBear 24 = .ok (.iconst 0, 1) := by decide +kernel
theorem dX8_mayBear_25 : decode cX8_mayBear 25 = .ok (.ireturn, 1) := by decide +kernel
theorem dX8_mayBear_26 : decode cX8_mayBear 26 = .ok (.iconst 0, 1) := by decide +kernel
theorem dX8_mayBear_27 : decode cX8_mayBear 27 = .ok (.istore 5, 2) := by decide +kernel
theorem dX8_mayBear_29 : decode cX8_mayBear 29 = .ok (.iload 5, 2) := by decide +kernel
theorem dX8_mayBear_31 : decode cX8_mayBear 31 = .ok (.aload_n 0, 1) := by decide +kernel
theorem dX8_mayBear_32 : decode cX8_mayBear 32 = .ok (.getfield 7, 3) := by decide +kernel
theorem dX8_mayBear_35 : decode cX8_mayBear 35 = .ok (.if_icmp .ge 37, 3) := by decide +kernel
theorem dX8_mayBear_38 : decode cX8_mayBear 38 = .ok (.aload_n 0, 1) := by decide +kernel
theorem dX8_mayBear_39 : decode cX8_mayBear 39 = .ok (.getfield 36, 3) := by decide +kernel
theorem dX8_mayBear_42 : decode cX8_mayBear 42 = .ok (.iload 5, 2) := by decide +kernel
theorem dX8_mayBear_44 : decode cX8_mayBear 44 = .ok (.iaload, 1) := by decide +kernel
theorem dX8_mayBear_45 : decode cX8_mayBear 45 = .ok (.iload_n 2, 1) := by decide +kernel
theorem dX8_mayBear_46 : decode cX8_mayBear 46 = .ok (.if_icmp .eq 18, 3) := by decide +kernel
theorem dX8_mayBear_49 : decode cX8_mayBear 49 = .ok (.iload 5, 2) := by decide +kernel
theorem dX8_mayBear_51 : decode cX8_mayBear 51 = .ok (.iload 4, 2) := by decide +kernel
theorem dX8_mayBear_53 : decode cX8_mayBear 53 = .ok (.if_icmp .ge 13, 3) := by decide +kernel
theorem dX8_mayBear_56 : decode cX8_mayBear 56 = .ok (.aload_n 3, 1) := by decide +kernel
theorem dX8_mayBear_57 : decode cX8_mayBear 57 = .ok (.iload 5, 2) := by decide +kernel
theorem dX8_mayBear_59 : decode cX8_mayBear 59 = .ok (.iaload, 1) := by decide +kernel
theorem dX8_mayBear_60 : decode cX8_mayBear 60 = .ok (.iload_n 2, 1) := by decide +kernel
theorem dX8_mayBear_61 : decode cX8_mayBear 61 = .ok (.if_icmp .ne 5, 3) := by decide +kernel
theorem dX8_mayBear_64 : decode cX8_mayBear 64 = .ok (.iconst 0, 1) := by decide +kernel
theorem dX8_mayBear_65 : decode cX8_mayBear 65 = .ok (.ireturn, 1) := by decide +kernel
theorem dX8_mayBear_66 : decode cX8_mayBear 66 = .ok (.iinc 5 1, 3) := by decide +kernel
theorem dX8_mayBear_69 : decode cX8_mayBear 69 = .ok (.goto (-40), 3) := by decide +kernel
theorem dX8_mayBear_72 : decode cX8_mayBear 72 = .ok (.iconst 1, 1) := by decide +kernel
theorem dX8_mayBear_73 : decode cX8_mayBear 73 = .ok (.ireturn, 1) := by decide +kernel
theorem dX8_first_0 : decode cX8_first 0 = .ok (.aload_n 0, 1) := by decide +kernel
theorem dX8_first_1 : decode cX8_first 1 = .ok (.getfield 80, 3) := by decide +kernel
theorem dX8_first_4 : decode cX8_first 4 = .ok (.aload_n 0, 1) := by decide +kernel
theorem dX8_first_5 : decode cX8_first 5 = .ok (.getfield 7, 3) := by decide +kernel
theorem dX8_first_8 : decode cX8_first 8 = .ok (.if_icmp .ge 6, 3) := by decide +kernel
theorem dX8_first_11 : decode cX8_first 11 = .ok (.bipush (-3), 2) := by decide +kernel
theorem dX8_first_13 : decode cX8_first 13 = .ok (.ireturn, 1) := by decide +kernel
theorem dX8_first_14 : decode cX8_first 14 = .ok (.iconst 0, 1) := by decide +kernel
theorem dX8_first_15 : decode cX8_first 15 = .ok (.istore_n 1, 1) := by decide +kernel
theorem dX8_first_16 : decode cX8_first 16 = .ok (.iload_n 1, 1) := by decide +kernel
theorem dX8_first_17 : decode cX8_first 17 = .ok (.aload_n 0, 1) := by decide +kernel
theorem dX8_first_18 : decode cX8_first 18 = .ok (.getfield 7, 3) := by decide +kernel
theorem dX8_first_21 : decode cX8_first 21 = .ok (.if_icmp .ge 38, 3) := by decide +kernel
theorem dX8_first_24 : decode cX8_first 24 = .ok (.iconst 0, 1) := by decide +kernel
theorem dX8_first_25 : decode cX8_first 25 = .ok (.istore_n 2, 1) := by decide +kernel
theorem dX8_first_26 : decode cX8_first 26 = .ok (.aload_n 0, 1) := by decide +kernel
theorem dX8_first_27 : decode cX8_first 27 = .ok (.iload_n 1, 1) := by decide +kernel
theorem dX8_first_28 : decode cX8_first 28 = .ok (.iload_n 2, 1) := by decide +kernel
theorem dX8_first_29 : decode cX8_first 29 = .ok (.aload_n 0, 1) := by decide +kernel
theorem dX8_first_30 : decode cX8_first 30 = .ok (.getfield 39, 3) := by decide +kernel
theorem dX8_first_33 : decode cX8_first 33 = .ok (.iload_n 1, 1) := by decide +kernel
theorem dX8_first_34 : decode cX8_first 34 = .ok (.invokevirtual 110, 3) := by decide +kernel
theorem dX8_first_37 : decode cX8_first 37 = .ok (.ifCond .ne 9, 3) := by decide +kernel
theorem dX8_first_40 : decode cX8_first 40 = .ok (.iinc 2 1, 3) := by decide +kernel
theorem dX8_first_43 : decode cX8_first 43 = .ok (.goto (-17), 3) := by decide +kernel
theorem dX8_first_46 : decode cX8_first 46 = .ok (.aload_n 0, 1) := by decide +kernel
theorem dX8_first_47 : decode cX8_first 47 = .ok (.getfield 39, 3) := by decide +kernel
theorem dX8_first_50 : decode cX8_first 50 = .ok (.iload_n 1, 1) := by decide +kernel
theorem dX8_first_51 : decode cX8_first 51 = .ok (.iload_n 2, 1) := by decide +kernel
theorem dX8_first_52 : decode cX8_first 52 = .ok (.iastore, 1) := by decide +kernel
theorem dX8_first_53 : decode cX8_first 53 = .ok (.iinc 1 1, 3) := by decide +kernel
theorem dX8_first_56 : decode cX8_first 56 = .ok (.goto (-40), 3) := by decide +kernel
theorem dX8_first_59 : decode cX8_first 59 = .ok (.aload_n 0, 1) := by decide +kernel
theorem dX8_first_60 : decode cX8_first 60 = .ok (.iconst 1, 1) := by decide +kernel
theorem dX8_first_61 : decode cX8_first 61 = .ok (.putfield 83, 3) := by decide +kernel
theorem dX8_first_64 : decode cX8_first 64 = .ok (.iconst 1, 1) := by decide +kernel
theorem dX8_first_65 : decode cX8_first 65 = .ok (.ireturn, 1) := by decide +kernel
theorem dX8_borne_0 : decode cX8_borne 0 = .ok (.iconst 0, 1) := by decide +kernel
theorem dX8_borne_1 : decode cX8_borne 1 = .ok (.istore_n 2, 1) := by decide +kernel
theorem dX8_borne_2 : decode cX8_borne 2 = .ok (.iload_n 2, 1) := by decide +kernel
theorem dX8_borne_3 : decode cX8_borne 3 = .ok (.aload_n 0, 1) := by decide +kernel
theorem dX8_borne_4 : decode cX8_borne 4 = .ok (.getfield 7, 3) := by decide +kernel
theorem dX8_borne_7 : decode cX8_borne 7 = .ok (.if_icmp .ge 21, 3) := by decide +kernel
theorem dX8_borne_10 : decode cX8_borne 10 = .ok (.aload_n 0, 1) := by decide +kernel
theorem dX8_borne_11 : decode cX8_borne 11 = .ok (.getfield 39, 3) := by decide +kernel
theorem dX8_borne_14 : decode cX8_borne 14 = .ok (.iload_n 2, 1) := by decide +kernel
theorem dX8_borne_15 : decode cX8_borne 15 = .ok (.iaload, 1) := by decide +kernel
theorem dX8_borne_16 : decode cX8_borne 16 = .ok (.iload_n 1, 1) := by decide +kernel
theorem dX8_borne_17 : decode cX8_borne 17 = .ok (.if_icmp .ne 5, 3) := by decide +kernel
theorem dX8_borne_20 : decode cX8_borne 20 = .ok (.iload_n 2, 1) := by decide +kernel
theorem dX8_borne_21 : decode cX8_borne 21 = .ok (.ireturn, 1) := by decide +kernel
theorem dX8_borne_22 : decode cX8_borne 22 = .ok (.iinc 2 1, 3) := by decide +kernel
theorem dX8_borne_25 : decode cX8_borne 25 = .ok (.goto (-23), 3) := by decide +kernel
theorem dX8_borne_28 : decode cX8_borne 28 = .ok (.iconst (-1), 1) := by decide +kernel
theorem dX8_borne_29 : decode cX8_borne 29 = .ok (.ireturn, 1) := by decide +kernel
theorem dX8_put_0 : decode cX8_put 0 = .ok (.aload_n 0, 1) := by decide +kernel
theorem dX8_put_1 : decode cX8_put 1 = .ok (.iload_n 1, 1) := by decide +kernel
theorem dX8_put_2 : decode cX8_put 2 = .ok (.invokevirtual 93, 3) := by decide +kernel
theorem dX8_put_5 : decode cX8_put 5 = .ok (.ifCond .eq 11, 3) := by decide +kernel
theorem dX8_put_8 : decode cX8_put 8 = .ok (.aload_n 0, 1) := by decide +kernel
theorem dX8_put_9 : decode cX8_put 9 = .ok (.iload_n 2, 1) := by decide +kernel
theorem dX8_put_10 : decode cX8_put 10 = .ok (.invokevirtual 101, 3) := by decide +kernel
theorem dX8_put_13 : decode cX8_put 13 = .ok (.ifCond .ne 6, 3) := by decide +kernel
theorem dX8_put_16 : decode cX8_put 16 = .ok (.bipush (-2), 2) := by decide +kernel
theorem dX8_put_18 : decode cX8_put 18 = .ok (.ireturn, 1) := by decide +kernel
theorem dX8_put_19 : decode cX8_put 19 = .ok (.aload_n 0, 1) := by decide +kernel
theorem dX8_put_20 : decode cX8_put 20 = .ok (.getfield 83, 3) := by decide +kernel
theorem dX8_put_23 : decode cX8_put 23 = .ok (.ifCond .ne 6, 3) := by decide +kernel
theorem dX8_put_26 : decode cX8_put 26 = .ok (.bipush (-3), 2) := by decide +kernel
theorem dX8_put_28 : decode cX8_put 28 = .ok (.ireturn, 1) := by decide +kernel
theorem dX8_put_29 : decode cX8_put 29 = .ok (.aload_n 0, 1) := by decide +kernel
theorem dX8_put_30 : decode cX8_put 30 = .ok (.iload_n 2, 1) := by decide +kernel
theorem dX8_put_31 : decode cX8_put 31 = .ok (.invokevirtual 114, 3) := by decide +kernel
theorem dX8_put_34 : decode cX8_put 34 = .ok (.istore_n 3, 1) := by decide +kernel
theorem dX8_put_35 : decode cX8_put 35 = .ok (.aload_n 0, 1) := by decide +kernel
theorem dX8_put_36 : decode cX8_put 36 = .ok (.getfield 36, 3) := by decide +kernel
theorem dX8_put_39 : decode cX8_put 39 = .ok (.iload_n 1, 1) := by decide +kernel
theorem dX8_put_40 : decode cX8_put 40 = .ok (.iaload, 1) := by decide +kernel
theorem dX8_put_41 : decode cX8_put 41 = .ok (.iconst (-1), 1) := by decide +kernel
theorem dX8_put_42 : decode cX8_put 42 = .ok (.if_icmp .ne 18, 3) := by decide +kernel
theorem dX8_put_45 : decode cX8_put 45 = .ok (.iload_n 3, 1) := by decide +kernel
theorem dX8_put_46 : decode cX8_put 46 = .ok (.iconst (-1), 1) := by decide +kernel
theorem dX8_put_47 : decode cX8_put 47 = .ok (.if_icmp .eq 16, 3) := by decide +kernel
theorem dX8_put_50 : decode cX8_put 50 = .ok (.aload_n 0, 1) := by decide +kernel
theorem dX8_put_51 : decode cX8_put 51 = .ok (.getfield 36, 3) := by decide +kernel
theorem dX8_put_54 : decode cX8_put 54 = .ok (.iload_n 3, 1) := by decide +kernel
theorem dX8_put_55 : decode cX8_put 55 = .ok (.iaload, 1) := by decide +kernel
theorem dX8_put_56 : decode cX8_put 56 = .ok (.iconst (-1), 1) := by decide +kernel
theorem dX8_put_57 : decode cX8_put 57 = .ok (.if_icmp .eq 6, 3) := by decide +kernel
theorem dX8_put_60 : decode cX8_put 60 = .ok (.bipush (-3), 2) := by decide +kernel
theorem dX8_put_62 : decode cX8_put 62 = .ok (.ireturn, 1) := by decide +kernel
theorem dX8_put_63 : decode cX8_put 63 = .ok (.iload_n 3, 1) := by decide +kernel
theorem dX8_put_64 : decode cX8_put 64 = .ok (.iconst (-1), 1) := by decide +kernel
theorem dX8_put_65 : decode cX8_put 65 = .ok (.if_icmp .eq 15, 3) := by decide +kernel
theorem dX8_put_68 : decode cX8_put 68 = .ok (.aload_n 0, 1) := by decide +kernel
theorem dX8_put_69 : decode cX8_put 69 = .ok (.getfield 39, 3) := by decide +kernel
theorem dX8_put_72 : decode cX8_put 72 = .ok (.iload_n 3, 1) := by decide +kernel
theorem dX8_put_73 : decode cX8_put 73 = .ok (.aload_n 0, 1) := by decide +kernel
theorem dX8_put_74 : decode cX8_put 74 = .ok (.getfield 39, 3) := by decide +kernel
theorem dX8_put_77 : decode cX8_put 77 = .ok (.iload_n 1, 1) := by decide +kernel
theorem dX8_put_78 : decode cX8_put 78 = .ok (.iaload, 1) := by decide +kernel
theorem dX8_put_79 : decode cX8_put 79 = .ok (.iastore, 1) := by decide +kernel
theorem dX8_put_80 : decode cX8_put 80 = .ok (.aload_n 0, 1) := by decide +kernel
theorem dX8_put_81 : decode cX8_put 81 = .ok (.getfield 39, 3) := by decide +kernel
theorem dX8_put_84 : decode cX8_put 84 = .ok (.iload_n 1, 1) := by decide +kernel
theorem dX8_put_85 : decode cX8_put 85 = .ok (.iload_n 2, 1) := by decide +kernel
theorem dX8_put_86 : decode cX8_put 86 = .ok (.iastore, 1) := by decide +kernel
theorem dX8_put_87 : decode cX8_put 87 = .ok (.iconst 1, 1) := by decide +kernel
theorem dX8_put_88 : decode cX8_put 88 = .ok (.ireturn, 1) := by decide +kernel
theorem dX8_at_0 : decode cX8_at 0 = .ok (.aload_n 0, 1) := by decide +kernel
theorem dX8_at_1 : decode cX8_at 1 = .ok (.iload_n 1, 1) := by decide +kernel
theorem dX8_at_2 : decode cX8_at 2 = .ok (.invokevirtual 93, 3) := by decide +kernel
theorem dX8_at_5 : decode cX8_at 5 = .ok (.ifCond .ne 8, 3) := by decide +kernel
theorem dX8_at_8 : decode cX8_at 8 = .ok (.bipush (-2), 2) := by decide +kernel
theorem dX8_at_10 : decode cX8_at 10 = .ok (.goto 21, 3) := by decide +kernel
theorem dX8_at_13 : decode cX8_at 13 = .ok (.aload_n 0, 1) := by decide +kernel
theorem dX8_at_14 : decode cX8_at 14 = .ok (.getfield 83, 3) := by decide +kernel
theorem dX8_at_17 : decode cX8_at 17 = .ok (.ifCond .eq 12, 3) := by decide +kernel
theorem dX8_at_20 : decode cX8_at 20 = .ok (.aload_n 0, 1) := by decide +kernel
theorem dX8_at_21 : decode cX8_at 21 = .ok (.getfield 39, 3) := by decide +kernel
theorem dX8_at_24 : decode cX8_at 24 = .ok (.iload_n 1, 1) := by decide +kernel
theorem dX8_at_25 : decode cX8_at 25 = .ok (.iaload, 1) := by decide +kernel
theorem dX8_at_26 : decode cX8_at 26 = .ok (.goto 5, 3) := by decide +kernel
theorem dX8_at_29 : decode cX8_at 29 = .ok (.bipush (-3), 2) := by decide +kernel
theorem dX8_at_31 : decode cX8_at 31 = .ok (.ireturn, 1) := by decide +kernel
theorem dX8_between_0 : decode cX8_between 0 = .ok (.aload_n 0, 1) := by decide +kernel
theorem dX8_between_1 : decode cX8_between 1 = .ok (.getfield 24, 3) := by decide +kernel
theorem dX8_between_4 : decode cX8_between 4 = .ok (.bipush 10, 2) := by decide +kernel
theorem dX8_between_6 : decode cX8_between 6 = .ok (.iload_n 1, 1) := by decide +kernel
theorem dX8_between_7 : decode cX8_between 7 = .ok (.imul, 1) := by decide +kernel
theorem dX8_between_8 : decode cX8_between 8 = .ok (.iload_n 2, 1) := by decide +kernel
theorem dX8_between_9 : decode cX8_between 9 = .ok (.iadd, 1) := by decide +kernel
theorem dX8_between_10 : decode cX8_between 10 = .ok (.iaload, 1) := by decide +kernel
theorem dX8_between_11 : decode cX8_between 11 = .ok (.i2l, 1) := by decide +kernel
theorem dX8_between_12 : decode cX8_between 12 = .ok (.aload_n 0, 1) := by decide +kernel
theorem dX8_between_13 : decode cX8_between 13 = .ok (.iload_n 3, 1) := by decide +kernel
theorem dX8_between_14 : decode cX8_between 14 = .ok (.iload 4, 2) := by decide +kernel
theorem dX8_between_16 : decode cX8_between 16 = .ok (.invokevirtual 107, 3) := by decide +kernel
theorem dX8_between_19 : decode cX8_between 19 = .ok (.i2l, 1) := by decide +kernel
theorem dX8_between_20 : decode cX8_between 20 = .ok (.lmul, 1) := by decide +kernel
theorem dX8_between_21 : decode cX8_between 21 = .ok (.lreturn, 1) := by decide +kernel
theorem dX8_costAll_0 : decode cX8_costAll 0 = .ok (.lconst 0, 1) := by decide +kernel
theorem dX8_costAll_1 : decode cX8_costAll 1 = .ok (.lstore_n 1, 1) := by decide +kernel
theorem dX8_costAll_2 : decode cX8_costAll 2 = .ok (.iconst 0, 1) := by decide +kernel
theorem dX8_costAll_3 : decode cX8_costAll 3 = .ok (.istore_n 3, 1) := by decide +kernel
theorem dX8_costAll_4 : decode cX8_costAll 4 = .ok (.iload_n 3, 1) := by decide +kernel
theorem dX8_costAll_5 : decode cX8_costAll 5 = .ok (.aload_n 0, 1) := by decide +kernel
theorem dX8_costAll_6 : decode cX8_costAll 6 = .ok (.getfield 7, 3) := by decide +kernel
theorem dX8_costAll_9 : decode cX8_costAll 9 = .ok (.if_icmp .ge 60, 3) := by decide +kernel
theorem dX8_costAll_12 : decode cX8_costAll 12 = .ok (.iconst 0, 1) := by decide +kernel
theorem dX8_costAll_13 : decode cX8_costAll 13 = .ok (.istore 4, 2) := by decide +kernel
theorem dX8_costAll_15 : decode cX8_costAll 15 = .ok (.iload 4, 2) := by decide +kernel
theorem dX8_costAll_17 : decode cX8_costAll 17 = .ok (.aload_n 0, 1) := by decide +kernel
theorem dX8_costAll_18 : decode cX8_costAll 18 = .ok (.getfield 7, 3) := by decide +kernel
theorem dX8_costAll_21 : decode cX8_costAll 21 = .ok (.if_icmp .ge 42, 3) := by decide +kernel
theorem dX8_costAll_24 : decode cX8_costAll 24 = .ok (.lload_n 1, 1) := by decide +kernel
theorem dX8_costAll_25 : decode cX8_costAll 25 = .ok (.iload_n 3, 1) := by decide +kernel
theorem dX8_costAll_26 : decode cX8_costAll 26 = .ok (.iload 4, 2) := by decide +kernel
theorem dX8_costAll_28 : decode cX8_costAll 28 = .ok (.if_icmp .ne 7, 3) := by decide +kernel
theorem dX8_costAll_31 : decode cX8_costAll 31 = .ok (.lconst 0, 1) := by decide +kernel
theorem dX8_costAll_32 : decode cX8_costAll 32 = .ok (.goto 23, 3) := by decide +kernel
theorem dX8_costAll_35 : decode cX8_costAll 35 = .ok (.aload_n 0, 1) := by decide +kernel
theorem dX8_costAll_36 : decode cX8_costAll 36 = .ok (.iload_n 3, 1) := by decide +kernel
theorem dX8_costAll_37 : decode cX8_costAll 37 = .ok (.iload 4, 2) := by decide +kernel
theorem dX8_costAll_39 : decode cX8_costAll 39 = .ok (.aload_n 0, 1) := by decide +kernel
theorem dX8_costAll_40 : decode cX8_costAll 40 = .ok (.getfield 39, 3) := by decide +kernel
theorem dX8_costAll_43 : decode cX8_costAll 43 = .ok (.iload_n 3, 1) := by decide +kernel
theorem dX8_costAll_44 : decode cX8_costAll 44 = .ok (.iaload, 1) := by decide +kernel
theorem dX8_costAll_45 : decode cX8_costAll 45 = .ok (.aload_n 0, 1) := by decide +kernel
theorem dX8_costAll_46 : decode cX8_costAll 46 = .ok (.getfield 39, 3) := by decide +kernel
theorem dX8_costAll_49 : decode cX8_costAll 49 = .ok (.iload 4, 2) := by decide +kernel
theorem dX8_costAll_51 : decode cX8_costAll 51 = .ok (.iaload, 1) := by decide +kernel
theorem dX8_costAll_52 : decode cX8_costAll 52 = .ok (.invokevirtual 118, 3) := by decide +kernel
theorem dX8_costAll_55 : decode cX8_costAll 55 = .ok (.ladd, 1) := by decide +kernel
theorem dX8_costAll_56 : decode cX8_costAll 56 = .ok (.lstore_n 1, 1) := by decide +kernel
theorem dX8_costAll_57 : decode cX8_costAll 57 = .ok (.iinc 4 1, 3) := by decide +kernel
theorem dX8_costAll_60 : decode cX8_costAll 60 = .ok (.goto (-45), 3) := by decide +kernel
theorem dX8_costAll_63 : decode cX8_costAll 63 = .ok (.iinc 3 1, 3) := by decide +kernel
theorem dX8_costAll_66 : decode cX8_costAll 66 = .ok (.goto (-62), 3) := by decide +kernel
theorem dX8_costAll_69 : decode cX8_costAll 69 = .ok (.lload_n 1, 1) := by decide +kernel
theorem dX8_costAll_70 : decode cX8_costAll 70 = .ok (.lreturn, 1) := by decide +kernel
theorem dX8_all_0 : decode cX8_all 0 = .ok (.aload_n 0, 1) := by decide +kernel
theorem dX8_all_1 : decode cX8_all 1 = .ok (.getfield 83, 3) := by decide +kernel
theorem dX8_all_4 : decode cX8_all 4 = .ok (.ifCond .eq 10, 3) := by decide +kernel
theorem dX8_all_7 : decode cX8_all 7 = .ok (.aload_n 0, 1) := by decide +kernel
theorem dX8_all_8 : decode cX8_all 8 = .ok (.invokevirtual 122, 3) := by decide +kernel
theorem dX8_all_11 : decode cX8_all 11 = .ok (.goto 6, 3) := by decide +kernel
theorem dX8_all_14 : decode cX8_all 14 = .ok (.ldc2_w 126, 3) := by decide +kernel
theorem dX8_all_17 : decode cX8_all 17 = .ok (.lreturn, 1) := by decide +kernel
theorem dX8_share_0 : decode cX8_share 0 = .ok (.aload_n 0, 1) := by decide +kernel
theorem dX8_share_1 : decode cX8_share 1 = .ok (.iload_n 1, 1) := by decide +kernel
theorem dX8_share_2 : decode cX8_share 2 = .ok (.invokevirtual 93, 3) := by decide +kernel
theorem dX8_share_5 : decode cX8_share 5 = .ok (.ifCond .ne 7, 3) := by decide +kernel
theorem dX8_share_8 : decode cX8_share 8 = .ok (.ldc2_w 128, 3) := by decide +kernel
theorem dX8_share_11 : decode cX8_share 11 = .ok (.lreturn, 1) := by decide +kernel
theorem dX8_share_12 : decode cX8_share 12 = .ok (.aload_n 0, 1) := by decide +kernel
theorem dX8_share_13 : decode cX8_share 13 = .ok (.getfield 83, 3) := by decide +kernel
theorem dX8_share_16 : decode cX8_share 16 = .ok (.ifCond .ne 7, 3) := by decide +kernel
theorem dX8_share_19 : decode cX8_share 19 = .ok (.ldc2_w 126, 3) := by decide +kernel
theorem dX8_share_22 : decode cX8_share 22 = .ok (.lreturn, 1) := by decide +kernel
theorem dX8_share_23 : decode cX8_share 23 = .ok (.lconst 0, 1) := by decide +kernel
theorem dX8_share_24 : decode cX8_share 24 = .ok (.lstore_n 2, 1) := by decide +kernel
theorem dX8_share_25 : decode cX8_share 25 = .ok (.iconst 0, 1) := by decide +kernel
theorem dX8_share_26 : decode cX8_share 26 = .ok (.istore 4, 2) := by decide +kernel
theorem dX8_share_28 : decode cX8_share 28 = .ok (.iload 4, 2) := by decide +kernel
theorem dX8_share_30 : decode cX8_share 30 = .ok (.aload_n 0, 1) := by decide +kernel
theorem dX8_share_31 : decode cX8_share 31 = .ok (.getfield 7, 3) := by decide +kernel
theorem dX8_share_34 : decode cX8_share 34 = .ok (.if_icmp .ge 59, 3) := by decide +kernel
theorem dX8_share_37 : decode cX8_share 37 = .ok (.iload 4, 2) := by decide +kernel
theorem dX8_share_39 : decode cX8_share 39 = .ok (.iload_n 1, 1) := by decide +kernel
theorem dX8_share_40 : decode cX8_share 40 = .ok (.if_icmp .eq 47, 3) := by decide +kernel
theorem dX8_share_43 : decode cX8_share 43 = .ok (.lload_n 2, 1) := by decide +kernel
theorem dX8_share_44 : decode cX8_share 44 = .ok (.aload_n 0, 1) := by decide +kernel
theorem dX8_share_45 : decode cX8_share 45 = .ok (.iload_n 1, 1) := by decide +kernel
theorem dX8_share_46 : decode cX8_share 46 = .ok (.iload 4, 2) := by decide +kernel
theorem dX8_share_48 : decode cX8_share 48 = .ok (.aload_n 0, 1) := by decide +kernel
theorem dX8_share_49 : decode cX8_share 49 = .ok (.getfield 39, 3) := by decide +kernel
theorem dX8_share_52 : decode cX8_share 52 = .ok (.iload_n 1, 1) := by decide +kernel
theorem dX8_share_53 : decode cX8_share 53 = .ok (.iaload, 1) := by decide +kernel
theorem dX8_share_54 : decode cX8_share 54 = .ok (.aload_n 0, 1) := by decide +kernel
theorem dX8_share_55 : decode cX8_share 55 = .ok (.getfield 39, 3) := by decide +kernel
theorem dX8_share_58 : decode cX8_share 58 = .ok (.iload 4, 2) := by decide +kernel
theorem dX8_share_60 : decode cX8_share 60 = .ok (.iaload, 1) := by decide +kernel
theorem dX8_share_61 : decode cX8_share 61 = .ok (.invokevirtual 118, 3) := by decide +kernel
theorem dX8_share_64 : decode cX8_share 64 = .ok (.aload_n 0, 1) := by decide +kernel
theorem dX8_share_65 : decode cX8_share 65 = .ok (.iload 4, 2) := by decide +kernel
theorem dX8_share_67 : decode cX8_share 67 = .ok (.iload_n 1, 1) := by decide +kernel
theorem dX8_share_68 : decode cX8_share 68 = .ok (.aload_n 0, 1) := by decide +kernel
theorem dX8_share_69 : decode cX8_share 69 = .ok (.getfield 39, 3) := by decide +kernel
theorem dX8_share_72 : decode cX8_share 72 = .ok (.iload 4, 2) := by decide +kernel
theorem dX8_share_74 : decode cX8_share 74 = .ok (.iaload, 1) := by decide +kernel
theorem dX8_share_75 : decode cX8_share 75 = .ok (.aload_n 0, 1) := by decide +kernel
theorem dX8_share_76 : decode cX8_share 76 = .ok (.getfield 39, 3) := by decide +kernel
theorem dX8_share_79 : decode cX8_share 79 = .ok (.iload_n 1, 1) := by decide +kernel
theorem dX8_share_80 : decode cX8_share 80 = .ok (.iaload, 1) := by decide +kernel
theorem dX8_share_81 : decode cX8_share 81 = .ok (.invokevirtual 118, 3) := by decide +kernel
theorem dX8_share_84 : decode cX8_share 84 = .ok (.ladd, 1) := by decide +kernel
theorem dX8_share_85 : decode cX8_share 85 = .ok (.ladd, 1) := by decide +kernel
theorem dX8_share_86 : decode cX8_share 86 = .ok (.lstore_n 2, 1) := by decide +kernel
theorem dX8_share_87 : decode cX8_share 87 = .ok (.iinc 4 1, 3) := by decide +kernel
theorem dX8_share_90 : decode cX8_share 90 = .ok (.goto (-62), 3) := by decide +kernel
theorem dX8_share_93 : decode cX8_share 93 = .ok (.lload_n 2, 1) := by decide +kernel
theorem dX8_share_94 : decode cX8_share 94 = .ok (.lreturn, 1) := by decide +kernel
theorem dX8_exchange_0 : decode cX8_exchange 0 = .ok (.aload_n 0, 1) := by decide +kernel
theorem dX8_exchange_1 : decode cX8_exchange 1 = .ok (.getfield 39, 3) := by decide +kernel
theorem dX8_exchange_4 : decode cX8_exchange 4 = .ok (.iload_n 1, 1) := by decide +kernel
theorem dX8_exchange_5 : decode cX8_exchange 5 = .ok (.iaload, 1) := by decide +kernel
theorem dX8_exchange_6 : decode cX8_exchange 6 = .ok (.istore_n 3, 1) := by decide +kernel
theorem dX8_exchange_7 : decode cX8_exchange 7 = .ok (.aload_n 0, 1) := by decide +kernel
theorem dX8_exchange_8 : decode cX8_exchange 8 = .ok (.getfield 39, 3) := by decide +kernel
theorem dX8_exchange_11 : decode cX8_exchange 11 = .ok (.iload_n 1, 1) := by decide +kernel
theorem dX8_exchange_12 : decode cX8_exchange 12 = .ok (.aload_n 0, 1) := by decide +kernel
theorem dX8_exchange_13 : decode cX8_exchange 13 = .ok (.getfield 39, 3) := by decide +kernel
theorem dX8_exchange_16 : decode cX8_exchange 16 = .ok (.iload_n 2, 1) := by decide +kernel
theorem dX8_exchange_17 : decode cX8_exchange 17 = .ok (.iaload, 1) := by decide +kernel
theorem dX8_exchange_18 : decode cX8_exchange 18 = .ok (.iastore, 1) := by decide +kernel
theorem dX8_exchange_19 : decode cX8_exchange 19 = .ok (.aload_n 0, 1) := by decide +kernel
theorem dX8_exchange_20 : decode cX8_exchange 20 = .ok (.getfield 39, 3) := by decide +kernel
theorem dX8_exchange_23 : decode cX8_exchange 23 = .ok (.iload_n 2, 1) := by decide +kernel
theorem dX8_exchange_24 : decode cX8_exchange 24 = .ok (.iload_n 3, 1) := by decide +kernel
theorem dX8_exchange_25 : decode cX8_exchange 25 = .ok (.iastore, 1) := by decide +kernel
theorem dX8_exchange_26 : decode cX8_exchange 26 = .ok (.return_, 1) := by decide +kernel
theorem dX8_better_0 : decode cX8_better 0 = .ok (.aload_n 0, 1) := by decide +kernel
theorem dX8_better_1 : decode cX8_better 1 = .ok (.getfield 83, 3) := by decide +kernel
theorem dX8_better_4 : decode cX8_better 4 = .ok (.ifCond .ne 6, 3) := by decide +kernel
theorem dX8_better_7 : decode cX8_better 7 = .ok (.bipush (-3), 2) := by decide +kernel
theorem dX8_better_9 : decode cX8_better 9 = .ok (.ireturn, 1) := by decide +kernel
theorem dX8_better_10 : decode cX8_better 10 = .ok (.iconst 0, 1) := by decide +kernel
theorem dX8_better_11 : decode cX8_better 11 = .ok (.istore_n 1, 1) := by decide +kernel
theorem dX8_better_12 : decode cX8_better 12 = .ok (.iconst 1, 1) := by decide +kernel
theorem dX8_better_13 : decode cX8_better 13 = .ok (.istore_n 2, 1) := by decide +kernel
theorem dX8_better_14 : decode cX8_better 14 = .ok (.iload_n 2, 1) := by decide +kernel
theorem dX8_better_15 : decode cX8_better 15 = .ok (.ifCond .eq 284, 3) := by decide +kernel
theorem dX8_better_18 : decode cX8_better 18 = .ok (.aload_n 0, 1) := by decide +kernel
theorem dX8_better_19 : decode cX8_better 19 = .ok (.invokevirtual 122, 3) := by decide +kernel
theorem dX8_better_22 : decode cX8_better 22 = .ok (.lstore_n 3, 1) := by decide +kernel
theorem dX8_better_23 : decode cX8_better 23 = .ok (.lload_n 3, 1) := by decide +kernel
theorem dX8_better_24 : decode cX8_better 24 = .ok (.lstore 5, 2) := by decide +kernel
theorem dX8_better_26 : decode cX8_better 26 = .ok (.iconst (-1), 1) := by decide +kernel
theorem dX8_better_27 : decode cX8_better 27 = .ok (.istore 7, 2) := by decide +kernel
theorem dX8_better_29 : decode cX8_better 29 = .ok (.iconst (-1), 1) := by decide +kernel
theorem dX8_better_30 : decode cX8_better 30 = .ok (.istore 8, 2) := by decide +kernel
theorem dX8_better_32 : decode cX8_better 32 = .ok (.iconst 0, 1) := by decide +kernel
theorem dX8_better_33 : decode cX8_better 33 = .ok (.istore 9, 2) := by decide +kernel
theorem dX8_better_35 : decode cX8_better 35 = .ok (.iconst 0, 1) := by decide +kernel
theorem dX8_better_36 : decode cX8_better 36 = .ok (.istore 10, 2) := by decide +kernel
theorem dX8_better_38 : decode cX8_better 38 = .ok (.iload 10, 2) := by decide +kernel
theorem dX8_better_40 : decode cX8_better 40 = .ok (.aload_n 0, 1) := by decide +kernel
theorem dX8_better_41 : decode cX8_better 41 = .ok (.getfield 7, 3) := by decide +kernel
theorem dX8_better_44 : decode cX8_better 44 = .ok (.if_icmp .ge 94, 3) := by decide +kernel
theorem dX8_better_47 : decode cX8_better 47 = .ok (.iload 10, 2) := by decide +kernel
theorem dX8_better_49 : decode cX8_better 49 = .ok (.iconst 1, 1) := by decide +kernel
theorem dX8_better_50 : decode cX8_better 50 = .ok (.iadd, 1) := by decide +kernel
theorem dX8_better_51 : decode cX8_better 51 = .ok (.istore 11, 2) := by decide +kernel
theorem dX8_better_53 : decode cX8_better 53 = .ok (.iload 11, 2) := by decide +kernel
theorem dX8_better_55 : decode cX8_better 55 = .ok (.aload_n 0, 1) := by decide +kernel
theorem dX8_better_56 : decode cX8_better 56 = .ok (.getfield 7, 3) := by decide +kernel
theorem dX8_better_59 : decode cX8_better 59 = .ok (.if_icmp .ge 73, 3) := by decide +kernel
theorem dX8_better_62 : decode cX8_better 62 = .ok (.aload_n 0, 1) := by decide +kernel
theorem dX8_better_63 : decode cX8_better 63 = .ok (.getfield 36, 3) := by decide +kernel
theorem dX8_better_66 : decode cX8_better 66 = .ok (.iload 10, 2) := by decide +kernel
theorem dX8_better_68 : decode cX8_better 68 = .ok (.iaload, 1) := by decide +kernel
theorem dX8_better_69 : decode cX8_better 69 = .ok (.iconst (-1), 1) := by decide +kernel
theorem dX8_better_70 : decode cX8_better 70 = .ok (.if_icmp .ne 62, 3) := by decide +kernel
theorem dX8_better_73 : decode cX8_better 73 = .ok (.aload_n 0, 1) := by decide +kernel
theorem dX8_better_74 : decode cX8_better 74 = .ok (.getfield 36, 3) := by decide +kernel
theorem dX8_better_77 : decode cX8_better 77 = .ok (.iload 11, 2) := by decide +kernel
theorem dX8_better_79 : decode cX8_better 79 = .ok (.iaload, 1) := by decide +kernel
theorem dX8_better_80 : decode cX8_better 80 = .ok (.iconst (-1), 1) := by decide +kernel
theorem dX8_better_81 : decode cX8_better 81 = .ok (.if_icmp .ne 45, 3) := by decide +kernel
theorem dX8_better_84 : decode cX8_better 84 = .ok (.aload_n 0, 1) := by decide +kernel
theorem dX8_better_85 : decode cX8_better 85 = .ok (.iload 10, 2) := by decide +kernel
theorem dX8_better_87 : decode cX8_better 87 = .ok (.iload 11, 2) := by decide +kernel
theorem dX8_better_89 : decode cX8_better 89 = .ok (.invokevirtual 130, 3) := by decide +kernel
theorem dX8_better_92 : decode cX8_better 92 = .ok (.aload_n 0, 1) := by decide +kernel
theorem dX8_better_93 : decode cX8_better 93 = .ok (.invokevirtual 122, 3) := by decide +kernel
theorem dX8_better_96 : decode cX8_better 96 = .ok (.lstore 12, 2) := by decide +kernel
theorem dX8_better_98 : decode cX8_better 98 = .ok (.aload_n 0, 1) := by decide +kernel
theorem dX8_better_99 : decode cX8_better 99 = .ok (.iload 10, 2) := by decide +kernel
theorem dX8_better_101 : decode cX8_better 101 = .ok (.iload 11, 2) := by decide +kernel
theorem dX8_better_103 : decode cX8_better 103 = .ok (.invokevirtual 130, 3) := by decide +kernel
theorem dX8_better_106 : decode cX8_better 106 = .ok (.lload 12, 2) := by decide +kernel
theorem dX8_better_108 : decode cX8_better 108 = .ok (.lload 5, 2) := by decide +kernel
theorem dX8_better_110 : decode cX8_better 110 = .ok (.lcmp, 1) := by decide +kernel
theorem dX8_better_111 : decode cX8_better 111 = .ok (.ifCond .ge 15, 3) := by decide +kernel
theorem dX8_better_114 : decode cX8_better 114 = .ok (.lload 12, 2) := by decide +kernel
theorem dX8_better_116 : decode cX8_better 116 = .ok (.lstore 5, 2) := by decide +kernel
theorem dX8_better_118 : decode cX8_better 118 = .ok (.iload 10, 2) := by decide +kernel
theorem dX8_better_120 : decode cX8_better 120 = .ok (.istore 7, 2) := by decide +kernel
theorem dX8_better_122 : decode cX8_better 122 = .ok (.iload 11, 2) := by decide +kernel
theorem dX8_better_124 : decode cX8_better 124 = .ok (.istore 8, 2) := by decide +kernel
theorem dX8_better_126 : decode cX8_better 126 = .ok (.iinc 11 1, 3) := by decide +kernel
theorem dX8_better_129 : decode cX8_better 129 = .ok (.goto (-76), 3) := by decide +kernel
theorem dX8_better_132 : decode cX8_better 132 = .ok (.iinc 10 1, 3) := by decide +kernel
theorem dX8_better_135 : decode cX8_better 135 = .ok (.goto (-97), 3) := by decide +kernel
theorem dX8_better_138 : decode cX8_better 138 = .ok (.iconst 0, 1) := by decide +kernel
theorem dX8_better_139 : decode cX8_better 139 = .ok (.istore 10, 2) := by decide +kernel
theorem dX8_better_141 : decode cX8_better 141 = .ok (.iload 10, 2) := by decide +kernel
theorem dX8_better_143 : decode cX8_better 143 = .ok (.aload_n 0, 1) := by decide +kernel
theorem dX8_better_144 : decode cX8_better 144 = .ok (.getfield 7, 3) := by decide +kernel
theorem dX8_better_147 : decode cX8_better 147 = .ok (.if_icmp .ge 104, 3) := by decide +kernel
theorem dX8_better_150 : decode cX8_better 150 = .ok (.iconst 0, 1) := by decide +kernel
theorem dX8_better_151 : decode cX8_better 151 = .ok (.istore 11, 2) := by decide +kernel
theorem dX8_better_153 : decode cX8_better 153 = .ok (.iload 11, 2) := by decide +kernel
theorem dX8_better_155 : decode cX8_better 155 = .ok (.aload_n 0, 1) := by decide +kernel
theorem dX8_better_156 : decode cX8_better 156 = .ok (.getfield 80, 3) := by decide +kernel
theorem dX8_better_159 : decode cX8_better 159 = .ok (.if_icmp .ge 86, 3) := by decide +kernel
theorem dX8_better_162 : decode cX8_better 162 = .ok (.aload_n 0, 1) := by decide +kernel
theorem dX8_better_163 : decode cX8_better 163 = .ok (.getfield 36, 3) := by decide +kernel
theorem dX8_better_166 : decode cX8_better 166 = .ok (.iload 10, 2) := by decide +kernel
theorem dX8_better_168 : decode cX8_better 168 = .ok (.iaload, 1) := by decide +kernel
theorem dX8_better_169 : decode cX8_better 169 = .ok (.iconst (-1), 1) := by decide +kernel
theorem dX8_better_170 : decode cX8_better 170 = .ok (.if_icmp .ne 75, 3) := by decide +kernel
theorem dX8_better_173 : decode cX8_better 173 = .ok (.aload_n 0, 1) := by decide +kernel
theorem dX8_better_174 : decode cX8_better 174 = .ok (.iload 11, 2) := by decide +kernel
theorem dX8_better_176 : decode cX8_better 176 = .ok (.invokevirtual 114, 3) := by decide +kernel
theorem dX8_better_179 : decode cX8_better 179 = .ok (.iconst (-1), 1) := by decide +kernel
theorem dX8_better_180 : decode cX8_better 180 = .ok (.if_icmp .ne 59, 3) := by decide +kernel
theorem dX8_better_183 : decode cX8_better 183 = .ok (.aload_n 0, 1) := by decide +kernel
theorem dX8_better_184 : decode cX8_better 184 = .ok (.getfield 39, 3) := by decide +kernel
theorem dX8_better_187 : decode cX8_better 187 = .ok (.iload 10, 2) := by decide +kernel
theorem dX8_better_189 : decode cX8_better 189 = .ok (.iaload, 1) := by decide +kernel
theorem dX8_better_190 : decode cX8_better 190 = .ok (.istore 12, 2) := by decide +kernel
theorem dX8_better_192 : decode cX8_better 192 = .ok (.aload_n 0, 1) := by decide +kernel
theorem dX8_better_193 : decode cX8_better 193 = .ok (.getfield 39, 3) := by decide +kernel
theorem dX8_better_196 : decode cX8_better 196 = .ok (.iload 10, 2) := by decide +kernel
theorem dX8_better_198 : decode cX8_better 198 = .ok (.iload 11, 2) := by decide +kernel
theorem dX8_better_200 : decode cX8_better 200 = .ok (.iastore, 1) := by decide +kernel
theorem dX8_better_201 : decode cX8_better 201 = .ok (.aload_n 0, 1) := by decide +kernel
theorem dX8_better_202 : decode cX8_better 202 = .ok (.invokevirtual 122, 3) := by decide +kernel
theorem dX8_better_205 : decode cX8_better 205 = .ok (.lstore 13, 2) := by decide +kernel
theorem dX8_better_207 : decode cX8_better 207 = .ok (.aload_n 0, 1) := by decide +kernel
theorem dX8_better_208 : decode cX8_better 208 = .ok (.getfield 39, 3) := by decide +kernel
theorem dX8_better_211 : decode cX8_better 211 = .ok (.iload 10, 2) := by decide +kernel
theorem dX8_better_213 : decode cX8_better 213 = .ok (.iload 12, 2) := by decide +kernel
theorem dX8_better_215 : decode cX8_better 215 = .ok (.iastore, 1) := by decide +kernel
theorem dX8_better_216 : decode cX8_better 216 = .ok (.lload 13, 2) := by decide +kernel
theorem dX8_better_218 : decode cX8_better 218 = .ok (.lload 5, 2) := by decide +kernel
