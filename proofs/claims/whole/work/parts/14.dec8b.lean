theorem dX8_better_220 : decode cX8_better 220 = .ok (.lcmp, 1) := by decide +kernel
theorem dX8_better_221 : decode cX8_better 221 = .ok (.ifCond .ge 18, 3) := by decide +kernel
theorem dX8_better_224 : decode cX8_better 224 = .ok (.lload 13, 2) := by decide +kernel
theorem dX8_better_226 : decode cX8_better 226 = .ok (.lstore 5, 2) := by decide +kernel
theorem dX8_better_228 : decode cX8_better 228 = .ok (.iload 10, 2) := by decide +kernel
theorem dX8_better_230 : decode cX8_better 230 = .ok (.istore 7, 2) := by decide +kernel
theorem dX8_better_232 : decode cX8_better 232 = .ok (.iload 11, 2) := by decide +kernel
theorem dX8_better_234 : decode cX8_better 234 = .ok (.istore 8, 2) := by decide +kernel
theorem dX8_better_236 : decode cX8_better 236 = .ok (.iconst 1, 1) := by decide +kernel
theorem dX8_better_237 : decode cX8_better 237 = .ok (.istore 9, 2) := by decide +kernel
theorem dX8_better_239 : decode cX8_better 239 = .ok (.iinc 11 1, 3) := by decide +kernel
theorem dX8_better_242 : decode cX8_better 242 = .ok (.goto (-89), 3) := by decide +kernel
theorem dX8_better_245 : decode cX8_better 245 = .ok (.iinc 10 1, 3) := by decide +kernel
theorem dX8_better_248 : decode cX8_better 248 = .ok (.goto (-107), 3) := by decide +kernel
theorem dX8_better_251 : decode cX8_better 251 = .ok (.lload 5, 2) := by decide +kernel
theorem dX8_better_253 : decode cX8_better 253 = .ok (.lload_n 3, 1) := by decide +kernel
theorem dX8_better_254 : decode cX8_better 254 = .ok (.lcmp, 1) := by decide +kernel
theorem dX8_better_255 : decode cX8_better 255 = .ok (.ifCond .ge 7, 3) := by decide +kernel
theorem dX8_better_258 : decode cX8_better 258 = .ok (.iconst 1, 1) := by decide +kernel
theorem dX8_better_259 : decode cX8_better 259 = .ok (.goto 4, 3) := by decide +kernel
theorem dX8_better_262 : decode cX8_better 262 = .ok (.iconst 0, 1) := by decide +kernel
theorem dX8_better_263 : decode cX8_better 263 = .ok (.istore_n 2, 1) := by decide +kernel
theorem dX8_better_264 : decode cX8_better 264 = .ok (.iload_n 2, 1) := by decide +kernel
theorem dX8_better_265 : decode cX8_better 265 = .ok (.ifCond .eq 31, 3) := by decide +kernel
theorem dX8_better_268 : decode cX8_better 268 = .ok (.iload 9, 2) := by decide +kernel
theorem dX8_better_270 : decode cX8_better 270 = .ok (.ifCond .eq 15, 3) := by decide +kernel
theorem dX8_better_273 : decode cX8_better 273 = .ok (.aload_n 0, 1) := by decide +kernel
theorem dX8_better_274 : decode cX8_better 274 = .ok (.getfield 39, 3) := by decide +kernel
theorem dX8_better_277 : decode cX8_better 277 = .ok (.iload 7, 2) := by decide +kernel
theorem dX8_better_279 : decode cX8_better 279 = .ok (.iload 8, 2) := by decide +kernel
theorem dX8_better_281 : decode cX8_better 281 = .ok (.iastore, 1) := by decide +kernel
theorem dX8_better_282 : decode cX8_better 282 = .ok (.goto 11, 3) := by decide +kernel
theorem dX8_better_285 : decode cX8_better 285 = .ok (.aload_n 0, 1) := by decide +kernel
theorem dX8_better_286 : decode cX8_better 286 = .ok (.iload 7, 2) := by decide +kernel
theorem dX8_better_288 : decode cX8_better 288 = .ok (.iload 8, 2) := by decide +kernel
theorem dX8_better_290 : decode cX8_better 290 = .ok (.invokevirtual 130, 3) := by decide +kernel
theorem dX8_better_293 : decode cX8_better 293 = .ok (.iinc 1 1, 3) := by decide +kernel
theorem dX8_better_296 : decode cX8_better 296 = .ok (.goto (-282), 3) := by decide +kernel
theorem dX8_better_299 : decode cX8_better 299 = .ok (.iload_n 1, 1) := by decide +kernel
theorem dX8_better_300 : decode cX8_better 300 = .ok (.ireturn, 1) := by decide +kernel
theorem dX8_change_0 : decode cX8_change 0 = .ok (.aload_n 0, 1) := by decide +kernel
theorem dX8_change_1 : decode cX8_change 1 = .ok (.iload_n 1, 1) := by decide +kernel
theorem dX8_change_2 : decode cX8_change 2 = .ok (.invokevirtual 93, 3) := by decide +kernel
theorem dX8_change_5 : decode cX8_change 5 = .ok (.ifCond .eq 16, 3) := by decide +kernel
theorem dX8_change_8 : decode cX8_change 8 = .ok (.aload_n 0, 1) := by decide +kernel
theorem dX8_change_9 : decode cX8_change 9 = .ok (.iload_n 2, 1) := by decide +kernel
theorem dX8_change_10 : decode cX8_change 10 = .ok (.invokevirtual 93, 3) := by decide +kernel
theorem dX8_change_13 : decode cX8_change 13 = .ok (.ifCond .eq 8, 3) := by decide +kernel
theorem dX8_change_16 : decode cX8_change 16 = .ok (.iload_n 1, 1) := by decide +kernel
theorem dX8_change_17 : decode cX8_change 17 = .ok (.iload_n 2, 1) := by decide +kernel
theorem dX8_change_18 : decode cX8_change 18 = .ok (.if_icmp .ne 7, 3) := by decide +kernel
theorem dX8_change_21 : decode cX8_change 21 = .ok (.ldc2_w 134, 3) := by decide +kernel
theorem dX8_change_24 : decode cX8_change 24 = .ok (.lreturn, 1) := by decide +kernel
theorem dX8_change_25 : decode cX8_change 25 = .ok (.aload_n 0, 1) := by decide +kernel
theorem dX8_change_26 : decode cX8_change 26 = .ok (.getfield 83, 3) := by decide +kernel
theorem dX8_change_29 : decode cX8_change 29 = .ok (.ifCond .eq 23, 3) := by decide +kernel
theorem dX8_change_32 : decode cX8_change 32 = .ok (.aload_n 0, 1) := by decide +kernel
theorem dX8_change_33 : decode cX8_change 33 = .ok (.getfield 36, 3) := by decide +kernel
theorem dX8_change_36 : decode cX8_change 36 = .ok (.iload_n 1, 1) := by decide +kernel
theorem dX8_change_37 : decode cX8_change 37 = .ok (.iaload, 1) := by decide +kernel
theorem dX8_change_38 : decode cX8_change 38 = .ok (.iconst (-1), 1) := by decide +kernel
theorem dX8_change_39 : decode cX8_change 39 = .ok (.if_icmp .ne 13, 3) := by decide +kernel
theorem dX8_change_42 : decode cX8_change 42 = .ok (.aload_n 0, 1) := by decide +kernel
theorem dX8_change_43 : decode cX8_change 43 = .ok (.getfield 36, 3) := by decide +kernel
theorem dX8_change_46 : decode cX8_change 46 = .ok (.iload_n 2, 1) := by decide +kernel
theorem dX8_change_47 : decode cX8_change 47 = .ok (.iaload, 1) := by decide +kernel
theorem dX8_change_48 : decode cX8_change 48 = .ok (.iconst (-1), 1) := by decide +kernel
theorem dX8_change_49 : decode cX8_change 49 = .ok (.if_icmp .eq 7, 3) := by decide +kernel
theorem dX8_change_52 : decode cX8_change 52 = .ok (.ldc2_w 136, 3) := by decide +kernel
theorem dX8_change_55 : decode cX8_change 55 = .ok (.lreturn, 1) := by decide +kernel
theorem dX8_change_56 : decode cX8_change 56 = .ok (.aload_n 0, 1) := by decide +kernel
theorem dX8_change_57 : decode cX8_change 57 = .ok (.invokevirtual 122, 3) := by decide +kernel
theorem dX8_change_60 : decode cX8_change 60 = .ok (.lstore_n 3, 1) := by decide +kernel
theorem dX8_change_61 : decode cX8_change 61 = .ok (.aload_n 0, 1) := by decide +kernel
theorem dX8_change_62 : decode cX8_change 62 = .ok (.iload_n 1, 1) := by decide +kernel
theorem dX8_change_63 : decode cX8_change 63 = .ok (.iload_n 2, 1) := by decide +kernel
theorem dX8_change_64 : decode cX8_change 64 = .ok (.invokevirtual 130, 3) := by decide +kernel
theorem dX8_change_67 : decode cX8_change 67 = .ok (.aload_n 0, 1) := by decide +kernel
theorem dX8_change_68 : decode cX8_change 68 = .ok (.invokevirtual 122, 3) := by decide +kernel
theorem dX8_change_71 : decode cX8_change 71 = .ok (.lstore 5, 2) := by decide +kernel
theorem dX8_change_73 : decode cX8_change 73 = .ok (.aload_n 0, 1) := by decide +kernel
theorem dX8_change_74 : decode cX8_change 74 = .ok (.iload_n 1, 1) := by decide +kernel
theorem dX8_change_75 : decode cX8_change 75 = .ok (.iload_n 2, 1) := by decide +kernel
theorem dX8_change_76 : decode cX8_change 76 = .ok (.invokevirtual 130, 3) := by decide +kernel
theorem dX8_change_79 : decode cX8_change 79 = .ok (.lload 5, 2) := by decide +kernel
theorem dX8_change_81 : decode cX8_change 81 = .ok (.lload_n 3, 1) := by decide +kernel
theorem dX8_change_82 : decode cX8_change 82 = .ok (.lsub, 1) := by decide +kernel
theorem dX8_change_83 : decode cX8_change 83 = .ok (.lreturn, 1) := by decide +kernel
theorem dX8_added_0 : decode cX8_added 0 = .ok (.lconst 0, 1) := by decide +kernel
theorem dX8_added_1 : decode cX8_added 1 = .ok (.lstore_n 2, 1) := by decide +kernel
theorem dX8_added_2 : decode cX8_added 2 = .ok (.iconst 0, 1) := by decide +kernel
theorem dX8_added_3 : decode cX8_added 3 = .ok (.istore 4, 2) := by decide +kernel
theorem dX8_added_5 : decode cX8_added 5 = .ok (.iload 4, 2) := by decide +kernel
theorem dX8_added_7 : decode cX8_added 7 = .ok (.iload_n 1, 1) := by decide +kernel
theorem dX8_added_8 : decode cX8_added 8 = .ok (.if_icmp .ge 53, 3) := by decide +kernel
theorem dX8_added_11 : decode cX8_added 11 = .ok (.lload_n 2, 1) := by decide +kernel
theorem dX8_added_12 : decode cX8_added 12 = .ok (.aload_n 0, 1) := by decide +kernel
theorem dX8_added_13 : decode cX8_added 13 = .ok (.iload_n 1, 1) := by decide +kernel
theorem dX8_added_14 : decode cX8_added 14 = .ok (.iload 4, 2) := by decide +kernel
theorem dX8_added_16 : decode cX8_added 16 = .ok (.aload_n 0, 1) := by decide +kernel
theorem dX8_added_17 : decode cX8_added 17 = .ok (.getfield 48, 3) := by decide +kernel
theorem dX8_added_20 : decode cX8_added 20 = .ok (.iload_n 1, 1) := by decide +kernel
theorem dX8_added_21 : decode cX8_added 21 = .ok (.iaload, 1) := by decide +kernel
theorem dX8_added_22 : decode cX8_added 22 = .ok (.aload_n 0, 1) := by decide +kernel
theorem dX8_added_23 : decode cX8_added 23 = .ok (.getfield 48, 3) := by decide +kernel
theorem dX8_added_26 : decode cX8_added 26 = .ok (.iload 4, 2) := by decide +kernel
theorem dX8_added_28 : decode cX8_added 28 = .ok (.iaload, 1) := by decide +kernel
theorem dX8_added_29 : decode cX8_added 29 = .ok (.invokevirtual 118, 3) := by decide +kernel
theorem dX8_added_32 : decode cX8_added 32 = .ok (.aload_n 0, 1) := by decide +kernel
theorem dX8_added_33 : decode cX8_added 33 = .ok (.iload 4, 2) := by decide +kernel
theorem dX8_added_35 : decode cX8_added 35 = .ok (.iload_n 1, 1) := by decide +kernel
theorem dX8_added_36 : decode cX8_added 36 = .ok (.aload_n 0, 1) := by decide +kernel
theorem dX8_added_37 : decode cX8_added 37 = .ok (.getfield 48, 3) := by decide +kernel
theorem dX8_added_40 : decode cX8_added 40 = .ok (.iload 4, 2) := by decide +kernel
theorem dX8_added_42 : decode cX8_added 42 = .ok (.iaload, 1) := by decide +kernel
theorem dX8_added_43 : decode cX8_added 43 = .ok (.aload_n 0, 1) := by decide +kernel
theorem dX8_added_44 : decode cX8_added 44 = .ok (.getfield 48, 3) := by decide +kernel
theorem dX8_added_47 : decode cX8_added 47 = .ok (.iload_n 1, 1) := by decide +kernel
theorem dX8_added_48 : decode cX8_added 48 = .ok (.iaload, 1) := by decide +kernel
theorem dX8_added_49 : decode cX8_added 49 = .ok (.invokevirtual 118, 3) := by decide +kernel
theorem dX8_added_52 : decode cX8_added 52 = .ok (.ladd, 1) := by decide +kernel
theorem dX8_added_53 : decode cX8_added 53 = .ok (.ladd, 1) := by decide +kernel
theorem dX8_added_54 : decode cX8_added 54 = .ok (.lstore_n 2, 1) := by decide +kernel
theorem dX8_added_55 : decode cX8_added 55 = .ok (.iinc 4 1, 3) := by decide +kernel
theorem dX8_added_58 : decode cX8_added 58 = .ok (.goto (-53), 3) := by decide +kernel
theorem dX8_added_61 : decode cX8_added 61 = .ok (.lload_n 2, 1) := by decide +kernel
theorem dX8_added_62 : decode cX8_added 62 = .ok (.lreturn, 1) := by decide +kernel
theorem dX8_search_0 : decode cX8_search 0 = .ok (.aload_n 0, 1) := by decide +kernel
theorem dX8_search_1 : decode cX8_search 1 = .ok (.getfield 80, 3) := by decide +kernel
theorem dX8_search_4 : decode cX8_search 4 = .ok (.aload_n 0, 1) := by decide +kernel
theorem dX8_search_5 : decode cX8_search 5 = .ok (.getfield 7, 3) := by decide +kernel
theorem dX8_search_8 : decode cX8_search 8 = .ok (.if_icmp .ge 6, 3) := by decide +kernel
theorem dX8_search_11 : decode cX8_search 11 = .ok (.bipush (-3), 2) := by decide +kernel
theorem dX8_search_13 : decode cX8_search 13 = .ok (.ireturn, 1) := by decide +kernel
theorem dX8_search_14 : decode cX8_search 14 = .ok (.aload_n 0, 1) := by decide +kernel
theorem dX8_search_15 : decode cX8_search 15 = .ok (.iconst 0, 1) := by decide +kernel
theorem dX8_search_16 : decode cX8_search 16 = .ok (.putfield 87, 3) := by decide +kernel
theorem dX8_search_19 : decode cX8_search 19 = .ok (.aload_n 0, 1) := by decide +kernel
theorem dX8_search_20 : decode cX8_search 20 = .ok (.iconst 0, 1) := by decide +kernel
theorem dX8_search_21 : decode cX8_search 21 = .ok (.putfield 138, 3) := by decide +kernel
theorem dX8_search_24 : decode cX8_search 24 = .ok (.iconst 0, 1) := by decide +kernel
theorem dX8_search_25 : decode cX8_search 25 = .ok (.istore_n 1, 1) := by decide +kernel
theorem dX8_search_26 : decode cX8_search 26 = .ok (.aload_n 0, 1) := by decide +kernel
theorem dX8_search_27 : decode cX8_search 27 = .ok (.getfield 48, 3) := by decide +kernel
theorem dX8_search_30 : decode cX8_search 30 = .ok (.iconst 0, 1) := by decide +kernel
theorem dX8_search_31 : decode cX8_search 31 = .ok (.iconst (-1), 1) := by decide +kernel
theorem dX8_search_32 : decode cX8_search 32 = .ok (.iastore, 1) := by decide +kernel
theorem dX8_search_33 : decode cX8_search 33 = .ok (.aload_n 0, 1) := by decide +kernel
theorem dX8_search_34 : decode cX8_search 34 = .ok (.getfield 51, 3) := by decide +kernel
theorem dX8_search_37 : decode cX8_search 37 = .ok (.iconst 0, 1) := by decide +kernel
theorem dX8_search_38 : decode cX8_search 38 = .ok (.lconst 0, 1) := by decide +kernel
theorem dX8_search_39 : decode cX8_search 39 = .ok (.lastore, 1) := by decide +kernel
theorem dX8_search_40 : decode cX8_search 40 = .ok (.iload_n 1, 1) := by decide +kernel
theorem dX8_search_41 : decode cX8_search 41 = .ok (.ifCond .lt 188, 3) := by decide +kernel
theorem dX8_search_44 : decode cX8_search 44 = .ok (.aload_n 0, 1) := by decide +kernel
theorem dX8_search_45 : decode cX8_search 45 = .ok (.getfield 48, 3) := by decide +kernel
theorem dX8_search_48 : decode cX8_search 48 = .ok (.iload_n 1, 1) := by decide +kernel
theorem dX8_search_49 : decode cX8_search 49 = .ok (.dup2, 1) := by decide +kernel
theorem dX8_search_50 : decode cX8_search 50 = .ok (.iaload, 1) := by decide +kernel
theorem dX8_search_51 : decode cX8_search 51 = .ok (.iconst 1, 1) := by decide +kernel
theorem dX8_search_52 : decode cX8_search 52 = .ok (.iadd, 1) := by decide +kernel
theorem dX8_search_53 : decode cX8_search 53 = .ok (.iastore, 1) := by decide +kernel
theorem dX8_search_54 : decode cX8_search 54 = .ok (.aload_n 0, 1) := by decide +kernel
theorem dX8_search_55 : decode cX8_search 55 = .ok (.getfield 48, 3) := by decide +kernel
theorem dX8_search_58 : decode cX8_search 58 = .ok (.iload_n 1, 1) := by decide +kernel
theorem dX8_search_59 : decode cX8_search 59 = .ok (.iaload, 1) := by decide +kernel
theorem dX8_search_60 : decode cX8_search 60 = .ok (.aload_n 0, 1) := by decide +kernel
theorem dX8_search_61 : decode cX8_search 61 = .ok (.getfield 80, 3) := by decide +kernel
theorem dX8_search_64 : decode cX8_search 64 = .ok (.if_icmp .ne 9, 3) := by decide +kernel
theorem dX8_search_67 : decode cX8_search 67 = .ok (.iinc 1 (-1), 3) := by decide +kernel
theorem dX8_search_70 : decode cX8_search 70 = .ok (.goto (-30), 3) := by decide +kernel
theorem dX8_search_73 : decode cX8_search 73 = .ok (.aload_n 0, 1) := by decide +kernel
theorem dX8_search_74 : decode cX8_search 74 = .ok (.iload_n 1, 1) := by decide +kernel
theorem dX8_search_75 : decode cX8_search 75 = .ok (.aload_n 0, 1) := by decide +kernel
theorem dX8_search_76 : decode cX8_search 76 = .ok (.getfield 48, 3) := by decide +kernel
theorem dX8_search_79 : decode cX8_search 79 = .ok (.iload_n 1, 1) := by decide +kernel
theorem dX8_search_80 : decode cX8_search 80 = .ok (.iaload, 1) := by decide +kernel
theorem dX8_search_81 : decode cX8_search 81 = .ok (.aload_n 0, 1) := by decide +kernel
theorem dX8_search_82 : decode cX8_search 82 = .ok (.getfield 48, 3) := by decide +kernel
theorem dX8_search_85 : decode cX8_search 85 = .ok (.iload_n 1, 1) := by decide +kernel
theorem dX8_search_86 : decode cX8_search 86 = .ok (.invokevirtual 110, 3) := by decide +kernel
theorem dX8_search_89 : decode cX8_search 89 = .ok (.ifCond .eq (-49), 3) := by decide +kernel
theorem dX8_search_92 : decode cX8_search 92 = .ok (.aload_n 0, 1) := by decide +kernel
theorem dX8_search_93 : decode cX8_search 93 = .ok (.getfield 138, 3) := by decide +kernel
theorem dX8_search_96 : decode cX8_search 96 = .ok (.sipush 20000, 3) := by decide +kernel
theorem dX8_search_99 : decode cX8_search 99 = .ok (.if_icmp .ne 6, 3) := by decide +kernel
theorem dX8_search_102 : decode cX8_search 102 = .ok (.bipush (-5), 2) := by decide +kernel
theorem dX8_search_104 : decode cX8_search 104 = .ok (.ireturn, 1) := by decide +kernel
theorem dX8_search_105 : decode cX8_search 105 = .ok (.aload_n 0, 1) := by decide +kernel
theorem dX8_search_106 : decode cX8_search 106 = .ok (.dup, 1) := by decide +kernel
theorem dX8_search_107 : decode cX8_search 107 = .ok (.getfield 138, 3) := by decide +kernel
theorem dX8_search_110 : decode cX8_search 110 = .ok (.iconst 1, 1) := by decide +kernel
theorem dX8_search_111 : decode cX8_search 111 = .ok (.iadd, 1) := by decide +kernel
theorem dX8_search_112 : decode cX8_search 112 = .ok (.putfield 138, 3) := by decide +kernel
theorem dX8_search_115 : decode cX8_search 115 = .ok (.aload_n 0, 1) := by decide +kernel
theorem dX8_search_116 : decode cX8_search 116 = .ok (.getfield 51, 3) := by decide +kernel
theorem dX8_search_119 : decode cX8_search 119 = .ok (.iload_n 1, 1) := by decide +kernel
theorem dX8_search_120 : decode cX8_search 120 = .ok (.iconst 1, 1) := by decide +kernel
theorem dX8_search_121 : decode cX8_search 121 = .ok (.iadd, 1) := by decide +kernel
theorem dX8_search_122 : decode cX8_search 122 = .ok (.aload_n 0, 1) := by decide +kernel
theorem dX8_search_123 : decode cX8_search 123 = .ok (.getfield 51, 3) := by decide +kernel
theorem dX8_search_126 : decode cX8_search 126 = .ok (.iload_n 1, 1) := by decide +kernel
theorem dX8_search_127 : decode cX8_search 127 = .ok (.laload, 1) := by decide +kernel
theorem dX8_search_128 : decode cX8_search 128 = .ok (.aload_n 0, 1) := by decide +kernel
theorem dX8_search_129 : decode cX8_search 129 = .ok (.iload_n 1, 1) := by decide +kernel
theorem dX8_search_130 : decode cX8_search 130 = .ok (.invokevirtual 141, 3) := by decide +kernel
theorem dX8_search_133 : decode cX8_search 133 = .ok (.ladd, 1) := by decide +kernel
theorem dX8_search_134 : decode cX8_search 134 = .ok (.lastore, 1) := by decide +kernel
theorem dX8_search_135 : decode cX8_search 135 = .ok (.aload_n 0, 1) := by decide +kernel
theorem dX8_search_136 : decode cX8_search 136 = .ok (.getfield 87, 3) := by decide +kernel
theorem dX8_search_139 : decode cX8_search 139 = .ok (.ifCond .eq 19, 3) := by decide +kernel
theorem dX8_search_142 : decode cX8_search 142 = .ok (.aload_n 0, 1) := by decide +kernel
theorem dX8_search_143 : decode cX8_search 143 = .ok (.getfield 51, 3) := by decide +kernel
theorem dX8_search_146 : decode cX8_search 146 = .ok (.iload_n 1, 1) := by decide +kernel
theorem dX8_search_147 : decode cX8_search 147 = .ok (.iconst 1, 1) := by decide +kernel
theorem dX8_search_148 : decode cX8_search 148 = .ok (.iadd, 1) := by decide +kernel
theorem dX8_search_149 : decode cX8_search 149 = .ok (.laload, 1) := by decide +kernel
theorem dX8_search_150 : decode cX8_search 150 = .ok (.aload_n 0, 1) := by decide +kernel
theorem dX8_search_151 : decode cX8_search 151 = .ok (.getfield 145, 3) := by decide +kernel
theorem dX8_search_154 : decode cX8_search 154 = .ok (.lcmp, 1) := by decide +kernel
theorem dX8_search_155 : decode cX8_search 155 = .ok (.ifCond .ge (-115), 3) := by decide +kernel
theorem dX8_search_158 : decode cX8_search 158 = .ok (.iload_n 1, 1) := by decide +kernel
theorem dX8_search_159 : decode cX8_search 159 = .ok (.aload_n 0, 1) := by decide +kernel
theorem dX8_search_160 : decode cX8_search 160 = .ok (.getfield 7, 3) := by decide +kernel
theorem dX8_search_163 : decode cX8_search 163 = .ok (.iconst 1, 1) := by decide +kernel
theorem dX8_search_164 : decode cX8_search 164 = .ok (.isub, 1) := by decide +kernel
theorem dX8_search_165 : decode cX8_search 165 = .ok (.if_icmp .ne 51, 3) := by decide +kernel
theorem dX8_search_168 : decode cX8_search 168 = .ok (.aload_n 0, 1) := by decide +kernel
theorem dX8_search_169 : decode cX8_search 169 = .ok (.iconst 1, 1) := by decide +kernel
theorem dX8_search_170 : decode cX8_search 170 = .ok (.putfield 87, 3) := by decide +kernel
theorem dX8_search_173 : decode cX8_search 173 = .ok (.aload_n 0, 1) := by decide +kernel
theorem dX8_search_174 : decode cX8_search 174 = .ok (.aload_n 0, 1) := by decide +kernel
theorem dX8_search_175 : decode cX8_search 175 = .ok (.getfield 51, 3) := by decide +kernel
theorem dX8_search_178 : decode cX8_search 178 = .ok (.iload_n 1, 1) := by decide +kernel
theorem dX8_search_179 : decode cX8_search 179 = .ok (.iconst 1, 1) := by decide +kernel
theorem dX8_search_180 : decode cX8_search 180 = .ok (.iadd, 1) := by decide +kernel
theorem dX8_search_181 : decode cX8_search 181 = .ok (.laload, 1) := by decide +kernel
theorem dX8_search_182 : decode cX8_search 182 = .ok (.putfield 145, 3) := by decide +kernel
theorem dX8_search_185 : decode cX8_search 185 = .ok (.iconst 0, 1) := by decide +kernel
theorem dX8_search_186 : decode cX8_search 186 = .ok (.istore_n 2, 1) := by decide +kernel
theorem dX8_search_187 : decode cX8_search 187 = .ok (.iload_n 2, 1) := by decide +kernel
theorem dX8_search_188 : decode cX8_search 188 = .ok (.aload_n 0, 1) := by decide +kernel
theorem dX8_search_189 : decode cX8_search 189 = .ok (.getfield 7, 3) := by decide +kernel
theorem dX8_search_192 : decode cX8_search 192 = .ok (.if_icmp .ge 21, 3) := by decide +kernel
theorem dX8_search_195 : decode cX8_search 195 = .ok (.aload_n 0, 1) := by decide +kernel
theorem dX8_search_196 : decode cX8_search 196 = .ok (.getfield 42, 3) := by decide +kernel
theorem dX8_search_199 : decode cX8_search 199 = .ok (.iload_n 2, 1) := by decide +kernel
theorem dX8_search_200 : decode cX8_search 200 = .ok (.aload_n 0, 1) := by decide +kernel
theorem dX8_search_201 : decode cX8_search 201 = .ok (.getfield 48, 3) := by decide +kernel
theorem dX8_search_204 : decode cX8_search 204 = .ok (.iload_n 2, 1) := by decide +kernel
theorem dX8_search_205 : decode cX8_search 205 = .ok (.iaload, 1) := by decide +kernel
theorem dX8_search_206 : decode cX8_search 206 = .ok (.iastore, 1) := by decide +kernel
theorem dX8_search_207 : decode cX8_search 207 = .ok (.iinc 2 1, 3) := by decide +kernel
theorem dX8_search_210 : decode cX8_search 210 = .ok (.goto (-23), 3) := by decide +kernel
theorem dX8_search_213 : decode cX8_search 213 = .ok (.goto (-173), 3) := by decide +kernel
theorem dX8_search_216 : decode cX8_search 216 = .ok (.iinc 1 1, 3) := by decide +kernel
theorem dX8_search_219 : decode cX8_search 219 = .ok (.aload_n 0, 1) := by decide +kernel
theorem dX8_search_220 : decode cX8_search 220 = .ok (.getfield 48, 3) := by decide +kernel
theorem dX8_search_223 : decode cX8_search 223 = .ok (.iload_n 1, 1) := by decide +kernel
theorem dX8_search_224 : decode cX8_search 224 = .ok (.iconst (-1), 1) := by decide +kernel
theorem dX8_search_225 : decode cX8_search 225 = .ok (.iastore, 1) := by decide +kernel
theorem dX8_search_226 : decode cX8_search 226 = .ok (.goto (-186), 3) := by decide +kernel
theorem dX8_search_229 : decode cX8_search 229 = .ok (.iconst 1, 1) := by decide +kernel
theorem dX8_search_230 : decode cX8_search 230 = .ok (.ireturn, 1) := by decide +kernel
theorem dX8_least_0 : decode cX8_least 0 = .ok (.aload_n 0, 1) := by decide +kernel
theorem dX8_least_1 : decode cX8_least 1 = .ok (.getfield 87, 3) := by decide +kernel
theorem dX8_least_4 : decode cX8_least 4 = .ok (.ifCond .eq 10, 3) := by decide +kernel
theorem dX8_least_7 : decode cX8_least 7 = .ok (.aload_n 0, 1) := by decide +kernel
theorem dX8_least_8 : decode cX8_least 8 = .ok (.getfield 145, 3) := by decide +kernel
theorem dX8_least_11 : decode cX8_least 11 = .ok (.goto 6, 3) := by decide +kernel
theorem dX8_least_14 : decode cX8_least 14 = .ok (.ldc2_w 149, 3) := by decide +kernel
theorem dX8_least_17 : decode cX8_least 17 = .ok (.lreturn, 1) := by decide +kernel
theorem dX8_take_0 : decode cX8_take 0 = .ok (.aload_n 0, 1) := by decide +kernel
theorem dX8_take_1 : decode cX8_take 1 = .ok (.getfield 87, 3) := by decide +kernel
theorem dX8_take_4 : decode cX8_take 4 = .ok (.ifCond .ne 6, 3) := by decide +kernel
theorem dX8_take_7 : decode cX8_take 7 = .ok (.bipush (-3), 2) := by decide +kernel
theorem dX8_take_9 : decode cX8_take 9 = .ok (.ireturn, 1) := by decide +kernel
theorem dX8_take_10 : decode cX8_take 10 = .ok (.iconst 0, 1) := by decide +kernel
theorem dX8_take_11 : decode cX8_take 11 = .ok (.istore_n 1, 1) := by decide +kernel
theorem dX8_take_12 : decode cX8_take 12 = .ok (.iload_n 1, 1) := by decide +kernel
theorem dX8_take_13 : decode cX8_take 13 = .ok (.aload_n 0, 1) := by decide +kernel
theorem dX8_take_14 : decode cX8_take 14 = .ok (.getfield 7, 3) := by decide +kernel
theorem dX8_take_17 : decode cX8_take 17 = .ok (.if_icmp .ge 21, 3) := by decide +kernel
theorem dX8_take_20 : decode cX8_take 20 = .ok (.aload_n 0, 1) := by decide +kernel
theorem dX8_take_21 : decode cX8_take 21 = .ok (.getfield 39, 3) := by decide +kernel
theorem dX8_take_24 : decode cX8_take 24 = .ok (.iload_n 1, 1) := by decide +kernel
theorem dX8_take_25 : decode cX8_take 25 = .ok (.aload_n 0, 1) := by decide +kernel
theorem dX8_take_26 : decode cX8_take 26 = .ok (.getfield 42, 3) := by decide +kernel
theorem dX8_take_29 : decode cX8_take 29 = .ok (.iload_n 1, 1) := by decide +kernel
theorem dX8_take_30 : decode cX8_take 30 = .ok (.iaload, 1) := by decide +kernel
theorem dX8_take_31 : decode cX8_take 31 = .ok (.iastore, 1) := by decide +kernel
theorem dX8_take_32 : decode cX8_take 32 = .ok (.iinc 1 1, 3) := by decide +kernel
theorem dX8_take_35 : decode cX8_take 35 = .ok (.goto (-23), 3) := by decide +kernel
theorem dX8_take_38 : decode cX8_take 38 = .ok (.aload_n 0, 1) := by decide +kernel
theorem dX8_take_39 : decode cX8_take 39 = .ok (.iconst 1, 1) := by decide +kernel
theorem dX8_take_40 : decode cX8_take 40 = .ok (.putfield 83, 3) := by decide +kernel
theorem dX8_take_43 : decode cX8_take 43 = .ok (.iconst 1, 1) := by decide +kernel
theorem dX8_take_44 : decode cX8_take 44 = .ok (.ireturn, 1) := by decide +kernel
theorem dX8_tries_0 : decode cX8_tries 0 = .ok (.aload_n 0, 1) := by decide +kernel
theorem dX8_tries_1 : decode cX8_tries 1 = .ok (.getfield 138, 3) := by decide +kernel
theorem dX8_tries_4 : decode cX8_tries 4 = .ok (.ireturn, 1) := by decide +kernel
theorem dX8_priceOf_0 : decode cX8_priceOf 0 = .ok (.iconst 0, 1) := by decide +kernel
theorem dX8_priceOf_1 : decode cX8_priceOf 1 = .ok (.istore_n 3, 1) := by decide +kernel
theorem dX8_priceOf_2 : decode cX8_priceOf 2 = .ok (.iconst 0, 1) := by decide +kernel
theorem dX8_priceOf_3 : decode cX8_priceOf 3 = .ok (.istore 4, 2) := by decide +kernel
theorem dX8_priceOf_5 : decode cX8_priceOf 5 = .ok (.iload 4, 2) := by decide +kernel
theorem dX8_priceOf_7 : decode cX8_priceOf 7 = .ok (.aload_n 0, 1) := by decide +kernel
theorem dX8_priceOf_8 : decode cX8_priceOf 8 = .ok (.getfield 7, 3) := by decide +kernel
theorem dX8_priceOf_11 : decode cX8_priceOf 11 = .ok (.if_icmp .ge 91, 3) := by decide +kernel
theorem dX8_priceOf_14 : decode cX8_priceOf 14 = .ok (.iload 4, 2) := by decide +kernel
theorem dX8_priceOf_16 : decode cX8_priceOf 16 = .ok (.iload_n 1, 1) := by decide +kernel
theorem dX8_priceOf_17 : decode cX8_priceOf 17 = .ok (.if_icmp .eq 79, 3) := by decide +kernel
theorem dX8_priceOf_20 : decode cX8_priceOf 20 = .ok (.iload_n 3, 1) := by decide +kernel
theorem dX8_priceOf_21 : decode cX8_priceOf 21 = .ok (.istore 5, 2) := by decide +kernel
theorem dX8_priceOf_23 : decode cX8_priceOf 23 = .ok (.iload 5, 2) := by decide +kernel
theorem dX8_priceOf_25 : decode cX8_priceOf 25 = .ok (.ifCond .le 49, 3) := by decide +kernel
theorem dX8_priceOf_28 : decode cX8_priceOf 28 = .ok (.aload_n 0, 1) := by decide +kernel
theorem dX8_priceOf_29 : decode cX8_priceOf 29 = .ok (.getfield 55, 3) := by decide +kernel
theorem dX8_priceOf_32 : decode cX8_priceOf 32 = .ok (.iload 5, 2) := by decide +kernel
theorem dX8_priceOf_34 : decode cX8_priceOf 34 = .ok (.iconst 1, 1) := by decide +kernel
theorem dX8_priceOf_35 : decode cX8_priceOf 35 = .ok (.isub, 1) := by decide +kernel
theorem dX8_priceOf_36 : decode cX8_priceOf 36 = .ok (.iaload, 1) := by decide +kernel
theorem dX8_priceOf_37 : decode cX8_priceOf 37 = .ok (.aload_n 0, 1) := by decide +kernel
theorem dX8_priceOf_38 : decode cX8_priceOf 38 = .ok (.getfield 24, 3) := by decide +kernel
theorem dX8_priceOf_41 : decode cX8_priceOf 41 = .ok (.bipush 10, 2) := by decide +kernel
theorem dX8_priceOf_43 : decode cX8_priceOf 43 = .ok (.iload_n 1, 1) := by decide +kernel
theorem dX8_priceOf_44 : decode cX8_priceOf 44 = .ok (.imul, 1) := by decide +kernel
theorem dX8_priceOf_45 : decode cX8_priceOf 45 = .ok (.iload 4, 2) := by decide +kernel
theorem dX8_priceOf_47 : decode cX8_priceOf 47 = .ok (.iadd, 1) := by decide +kernel
theorem dX8_priceOf_48 : decode cX8_priceOf 48 = .ok (.iaload, 1) := by decide +kernel
theorem dX8_priceOf_49 : decode cX8_priceOf 49 = .ok (.if_icmp .ge 25, 3) := by decide +kernel
theorem dX8_priceOf_52 : decode cX8_priceOf 52 = .ok (.aload_n 0, 1) := by decide +kernel
theorem dX8_priceOf_53 : decode cX8_priceOf 53 = .ok (.getfield 55, 3) := by decide +kernel
theorem dX8_priceOf_56 : decode cX8_priceOf 56 = .ok (.iload 5, 2) := by decide +kernel
theorem dX8_priceOf_58 : decode cX8_priceOf 58 = .ok (.aload_n 0, 1) := by decide +kernel
theorem dX8_priceOf_59 : decode cX8_priceOf 59 = .ok (.getfield 55, 3) := by decide +kernel
theorem dX8_priceOf_62 : decode cX8_priceOf 62 = .ok (.iload 5, 2) := by decide +kernel
theorem dX8_priceOf_64 : decode cX8_priceOf 64 = .ok (.iconst 1, 1) := by decide +kernel
theorem dX8_priceOf_65 : decode cX8_priceOf 65 = .ok (.isub, 1) := by decide +kernel
theorem dX8_priceOf_66 : decode cX8_priceOf 66 = .ok (.iaload, 1) := by decide +kernel
theorem dX8_priceOf_67 : decode cX8_priceOf 67 = .ok (.iastore, 1) := by decide +kernel
theorem dX8_priceOf_68 : decode cX8_priceOf 68 = .ok (.iinc 5 (-1), 3) := by decide +kernel
theorem dX8_priceOf_71 : decode cX8_priceOf 71 = .ok (.goto (-48), 3) := by decide +kernel
theorem dX8_priceOf_74 : decode cX8_priceOf 74 = .ok (.aload_n 0, 1) := by decide +kernel
theorem dX8_priceOf_75 : decode cX8_priceOf 75 = .ok (.getfield 55, 3) := by decide +kernel
theorem dX8_priceOf_78 : decode cX8_priceOf 78 = .ok (.iload 5, 2) := by decide +kernel
theorem dX8_priceOf_80 : decode cX8_priceOf 80 = .ok (.aload_n 0, 1) := by decide +kernel
theorem dX8_priceOf_81 : decode cX8_priceOf 81 = .ok (.getfield 24, 3) := by decide +kernel
theorem dX8_priceOf_84 : decode cX8_priceOf 84 = .ok (.bipush 10, 2) := by decide +kernel
theorem dX8_priceOf_86 : decode cX8_priceOf 86 = .ok (.iload_n 1, 1) := by decide +kernel
theorem dX8_priceOf_87 : decode cX8_priceOf 87 = .ok (.imul, 1) := by decide +kernel
theorem dX8_priceOf_88 : decode cX8_priceOf 88 = .ok (.iload 4, 2) := by decide +kernel
theorem dX8_priceOf_90 : decode cX8_priceOf 90 = .ok (.iadd, 1) := by decide +kernel
theorem dX8_priceOf_91 : decode cX8_priceOf 91 = .ok (.iaload, 1) := by decide +kernel
theorem dX8_priceOf_92 : decode cX8_priceOf 92 = .ok (.iastore, 1) := by decide +kernel
theorem dX8_priceOf_93 : decode cX8_priceOf 93 = .ok (.iinc 3 1, 3) := by decide +kernel
theorem dX8_priceOf_96 : decode cX8_priceOf 96 = .ok (.iinc 4 1, 3) := by decide +kernel
theorem dX8_priceOf_99 : decode cX8_priceOf 99 = .ok (.goto (-94), 3) := by decide +kernel
theorem dX8_priceOf_102 : decode cX8_priceOf 102 = .ok (.iconst 0, 1) := by decide +kernel
theorem dX8_priceOf_103 : decode cX8_priceOf 103 = .ok (.istore 4, 2) := by decide +kernel
theorem dX8_priceOf_105 : decode cX8_priceOf 105 = .ok (.iconst 0, 1) := by decide +kernel
theorem dX8_priceOf_106 : decode cX8_priceOf 106 = .ok (.istore 5, 2) := by decide +kernel
theorem dX8_priceOf_108 : decode cX8_priceOf 108 = .ok (.iload 5, 2) := by decide +kernel
theorem dX8_priceOf_110 : decode cX8_priceOf 110 = .ok (.aload_n 0, 1) := by decide +kernel
theorem dX8_priceOf_111 : decode cX8_priceOf 111 = .ok (.getfield 80, 3) := by decide +kernel
theorem dX8_priceOf_114 : decode cX8_priceOf 114 = .ok (.if_icmp .ge 82, 3) := by decide +kernel
theorem dX8_priceOf_117 : decode cX8_priceOf 117 = .ok (.iload 5, 2) := by decide +kernel
theorem dX8_priceOf_119 : decode cX8_priceOf 119 = .ok (.iload_n 2, 1) := by decide +kernel
theorem dX8_priceOf_120 : decode cX8_priceOf 120 = .ok (.if_icmp .eq 70, 3) := by decide +kernel
theorem dX8_priceOf_123 : decode cX8_priceOf 123 = .ok (.iload 4, 2) := by decide +kernel
theorem dX8_priceOf_125 : decode cX8_priceOf 125 = .ok (.istore 6, 2) := by decide +kernel
theorem dX8_priceOf_127 : decode cX8_priceOf 127 = .ok (.iload 6, 2) := by decide +kernel
theorem dX8_priceOf_129 : decode cX8_priceOf 129 = .ok (.ifCond .le 44, 3) := by decide +kernel
theorem dX8_priceOf_132 : decode cX8_priceOf 132 = .ok (.aload_n 0, 1) := by decide +kernel
theorem dX8_priceOf_133 : decode cX8_priceOf 133 = .ok (.getfield 58, 3) := by decide +kernel
theorem dX8_priceOf_136 : decode cX8_priceOf 136 = .ok (.iload 6, 2) := by decide +kernel
theorem dX8_priceOf_138 : decode cX8_priceOf 138 = .ok (.iconst 1, 1) := by decide +kernel
theorem dX8_priceOf_139 : decode cX8_priceOf 139 = .ok (.isub, 1) := by decide +kernel
theorem dX8_priceOf_140 : decode cX8_priceOf 140 = .ok (.iaload, 1) := by decide +kernel
theorem dX8_priceOf_141 : decode cX8_priceOf 141 = .ok (.aload_n 0, 1) := by decide +kernel
theorem dX8_priceOf_142 : decode cX8_priceOf 142 = .ok (.iload_n 2, 1) := by decide +kernel
theorem dX8_priceOf_143 : decode cX8_priceOf 143 = .ok (.iload 5, 2) := by decide +kernel
theorem dX8_priceOf_145 : decode cX8_priceOf 145 = .ok (.invokevirtual 107, 3) := by decide +kernel
theorem dX8_priceOf_148 : decode cX8_priceOf 148 = .ok (.if_icmp .le 25, 3) := by decide +kernel
theorem dX8_priceOf_151 : decode cX8_priceOf 151 = .ok (.aload_n 0, 1) := by decide +kernel
theorem dX8_priceOf_152 : decode cX8_priceOf 152 = .ok (.getfield 58, 3) := by decide +kernel
theorem dX8_priceOf_155 : decode cX8_priceOf 155 = .ok (.iload 6, 2) := by decide +kernel
theorem dX8_priceOf_157 : decode cX8_priceOf 157 = .ok (.aload_n 0, 1) := by decide +kernel
theorem dX8_priceOf_158 : decode cX8_priceOf 158 = .ok (.getfield 58, 3) := by decide +kernel
theorem dX8_priceOf_161 : decode cX8_priceOf 161 = .ok (.iload 6, 2) := by decide +kernel
theorem dX8_priceOf_163 : decode cX8_priceOf 163 = .ok (.iconst 1, 1) := by decide +kernel
theorem dX8_priceOf_164 : decode cX8_priceOf 164 = .ok (.isub, 1) := by decide +kernel
theorem dX8_priceOf_165 : decode cX8_priceOf 165 = .ok (.iaload, 1) := by decide +kernel
theorem dX8_priceOf_166 : decode cX8_priceOf 166 = .ok (.iastore, 1) := by decide +kernel
theorem dX8_priceOf_167 : decode cX8_priceOf 167 = .ok (.iinc 6 (-1), 3) := by decide +kernel
theorem dX8_priceOf_170 : decode cX8_priceOf 170 = .ok (.goto (-43), 3) := by decide +kernel
theorem dX8_priceOf_173 : decode cX8_priceOf 173 = .ok (.aload_n 0, 1) := by decide +kernel
theorem dX8_priceOf_174 : decode cX8_priceOf 174 = .ok (.getfield 58, 3) := by decide +kernel
theorem dX8_priceOf_177 : decode cX8_priceOf 177 = .ok (.iload 6, 2) := by decide +kernel
theorem dX8_priceOf_179 : decode cX8_priceOf 179 = .ok (.aload_n 0, 1) := by decide +kernel
theorem dX8_priceOf_180 : decode cX8_priceOf 180 = .ok (.iload_n 2, 1) := by decide +kernel
theorem dX8_priceOf_181 : decode cX8_priceOf 181 = .ok (.iload 5, 2) := by decide +kernel
theorem dX8_priceOf_183 : decode cX8_priceOf 183 = .ok (.invokevirtual 107, 3) := by decide +kernel
theorem dX8_priceOf_186 : decode cX8_priceOf 186 = .ok (.iastore, 1) := by decide +kernel
theorem dX8_priceOf_187 : decode cX8_priceOf 187 = .ok (.iinc 4 1, 3) := by decide +kernel
theorem dX8_priceOf_190 : decode cX8_priceOf 190 = .ok (.iinc 5 1, 3) := by decide +kernel
theorem dX8_priceOf_193 : decode cX8_priceOf 193 = .ok (.goto (-85), 3) := by decide +kernel
theorem dX8_priceOf_196 : decode cX8_priceOf 196 = .ok (.lconst 0, 1) := by decide +kernel
theorem dX8_priceOf_197 : decode cX8_priceOf 197 = .ok (.lstore 5, 2) := by decide +kernel
theorem dX8_priceOf_199 : decode cX8_priceOf 199 = .ok (.iconst 0, 1) := by decide +kernel
theorem dX8_priceOf_200 : decode cX8_priceOf 200 = .ok (.istore 7, 2) := by decide +kernel
theorem dX8_priceOf_202 : decode cX8_priceOf 202 = .ok (.iload 7, 2) := by decide +kernel
theorem dX8_priceOf_204 : decode cX8_priceOf 204 = .ok (.iload_n 3, 1) := by decide +kernel
theorem dX8_priceOf_205 : decode cX8_priceOf 205 = .ok (.if_icmp .ge 31, 3) := by decide +kernel
theorem dX8_priceOf_208 : decode cX8_priceOf 208 = .ok (.lload 5, 2) := by decide +kernel
theorem dX8_priceOf_210 : decode cX8_priceOf 210 = .ok (.aload_n 0, 1) := by decide +kernel
theorem dX8_priceOf_211 : decode cX8_priceOf 211 = .ok (.getfield 55, 3) := by decide +kernel
theorem dX8_priceOf_214 : decode cX8_priceOf 214 = .ok (.iload 7, 2) := by decide +kernel
theorem dX8_priceOf_216 : decode cX8_priceOf 216 = .ok (.iaload, 1) := by decide +kernel
theorem dX8_priceOf_217 : decode cX8_priceOf 217 = .ok (.i2l, 1) := by decide +kernel
theorem dX8_priceOf_218 : decode cX8_priceOf 218 = .ok (.aload_n 0, 1) := by decide +kernel
theorem dX8_priceOf_219 : decode cX8_priceOf 219 = .ok (.getfield 58, 3) := by decide +kernel
theorem dX8_priceOf_222 : decode cX8_priceOf 222 = .ok (.iload 7, 2) := by decide +kernel
theorem dX8_priceOf_224 : decode cX8_priceOf 224 = .ok (.iaload, 1) := by decide +kernel
theorem dX8_priceOf_225 : decode cX8_priceOf 225 = .ok (.i2l, 1) := by decide +kernel
theorem dX8_priceOf_226 : decode cX8_priceOf 226 = .ok (.lmul, 1) := by decide +kernel
theorem dX8_priceOf_227 : decode cX8_priceOf 227 = .ok (.ladd, 1) := by decide +kernel
theorem dX8_priceOf_228 : decode cX8_priceOf 228 = .ok (.lstore 5, 2) := by decide +kernel
theorem dX8_priceOf_230 : decode cX8_priceOf 230 = .ok (.iinc 7 1, 3) := by decide +kernel
theorem dX8_priceOf_233 : decode cX8_priceOf 233 = .ok (.goto (-31), 3) := by decide +kernel
theorem dX8_priceOf_236 : decode cX8_priceOf 236 = .ok (.lload 5, 2) := by decide +kernel
theorem dX8_priceOf_238 : decode cX8_priceOf 238 = .ok (.lreturn, 1) := by decide +kernel
theorem dX8_bound_0 : decode cX8_bound 0 = .ok (.aload_n 0, 1) := by decide +kernel
theorem dX8_bound_1 : decode cX8_bound 1 = .ok (.getfield 80, 3) := by decide +kernel
theorem dX8_bound_4 : decode cX8_bound 4 = .ok (.aload_n 0, 1) := by decide +kernel
theorem dX8_bound_5 : decode cX8_bound 5 = .ok (.getfield 7, 3) := by decide +kernel
theorem dX8_bound_8 : decode cX8_bound 8 = .ok (.if_icmp .ge 7, 3) := by decide +kernel
theorem dX8_bound_11 : decode cX8_bound 11 = .ok (.ldc2_w 126, 3) := by decide +kernel
theorem dX8_bound_14 : decode cX8_bound 14 = .ok (.lreturn, 1) := by decide +kernel
theorem dX8_bound_15 : decode cX8_bound 15 = .ok (.ldc2_w 149, 3) := by decide +kernel
theorem dX8_bound_18 : decode cX8_bound 18 = .ok (.lstore_n 1, 1) := by decide +kernel
theorem dX8_bound_19 : decode cX8_bound 19 = .ok (.aload_n 0, 1) := by decide +kernel
theorem dX8_bound_20 : decode cX8_bound 20 = .ok (.getfield 61, 3) := by decide +kernel
theorem dX8_bound_23 : decode cX8_bound 23 = .ok (.iconst 0, 1) := by decide +kernel
theorem dX8_bound_24 : decode cX8_bound 24 = .ok (.lconst 0, 1) := by decide +kernel
theorem dX8_bound_25 : decode cX8_bound 25 = .ok (.lastore, 1) := by decide +kernel
theorem dX8_bound_26 : decode cX8_bound 26 = .ok (.aload_n 0, 1) := by decide +kernel
theorem dX8_bound_27 : decode cX8_bound 27 = .ok (.getfield 64, 3) := by decide +kernel
theorem dX8_bound_30 : decode cX8_bound 30 = .ok (.iconst 0, 1) := by decide +kernel
theorem dX8_bound_31 : decode cX8_bound 31 = .ok (.iconst 0, 1) := by decide +kernel
theorem dX8_bound_32 : decode cX8_bound 32 = .ok (.iastore, 1) := by decide +kernel
theorem dX8_bound_33 : decode cX8_bound 33 = .ok (.iconst 1, 1) := by decide +kernel
theorem dX8_bound_34 : decode cX8_bound 34 = .ok (.istore_n 3, 1) := by decide +kernel
theorem dX8_bound_35 : decode cX8_bound 35 = .ok (.iload_n 3, 1) := by decide +kernel
theorem dX8_bound_36 : decode cX8_bound 36 = .ok (.iconst 1, 1) := by decide +kernel
theorem dX8_bound_37 : decode cX8_bound 37 = .ok (.aload_n 0, 1) := by decide +kernel
theorem dX8_bound_38 : decode cX8_bound 38 = .ok (.getfield 80, 3) := by decide +kernel
theorem dX8_bound_41 : decode cX8_bound 41 = .ok (.ishl, 1) := by decide +kernel
theorem dX8_bound_42 : decode cX8_bound 42 = .ok (.if_icmp .ge 36, 3) := by decide +kernel
theorem dX8_bound_45 : decode cX8_bound 45 = .ok (.aload_n 0, 1) := by decide +kernel
theorem dX8_bound_46 : decode cX8_bound 46 = .ok (.getfield 61, 3) := by decide +kernel
theorem dX8_bound_49 : decode cX8_bound 49 = .ok (.iload_n 3, 1) := by decide +kernel
theorem dX8_bound_50 : decode cX8_bound 50 = .ok (.ldc2_w 149, 3) := by decide +kernel
theorem dX8_bound_53 : decode cX8_bound 53 = .ok (.lastore, 1) := by decide +kernel
theorem dX8_bound_54 : decode cX8_bound 54 = .ok (.aload_n 0, 1) := by decide +kernel
theorem dX8_bound_55 : decode cX8_bound 55 = .ok (.getfield 64, 3) := by decide +kernel
theorem dX8_bound_58 : decode cX8_bound 58 = .ok (.iload_n 3, 1) := by decide +kernel
theorem dX8_bound_59 : decode cX8_bound 59 = .ok (.aload_n 0, 1) := by decide +kernel
theorem dX8_bound_60 : decode cX8_bound 60 = .ok (.getfield 64, 3) := by decide +kernel
theorem dX8_bound_63 : decode cX8_bound 63 = .ok (.iload_n 3, 1) := by decide +kernel
theorem dX8_bound_64 : decode cX8_bound 64 = .ok (.iload_n 3, 1) := by decide +kernel
theorem dX8_bound_65 : decode cX8_bound 65 = .ok (.iconst 1, 1) := by decide +kernel
theorem dX8_bound_66 : decode cX8_bound 66 = .ok (.isub, 1) := by decide +kernel
theorem dX8_bound_67 : decode cX8_bound 67 = .ok (.iand, 1) := by decide +kernel
theorem dX8_bound_68 : decode cX8_bound 68 = .ok (.iaload, 1) := by decide +kernel
theorem dX8_bound_69 : decode cX8_bound 69 = .ok (.iconst 1, 1) := by decide +kernel
theorem dX8_bound_70 : decode cX8_bound 70 = .ok (.iadd, 1) := by decide +kernel
theorem dX8_bound_71 : decode cX8_bound 71 = .ok (.iastore, 1) := by decide +kernel
theorem dX8_bound_72 : decode cX8_bound 72 = .ok (.iinc 3 1, 3) := by decide +kernel
theorem dX8_bound_75 : decode cX8_bound 75 = .ok (.goto (-40), 3) := by decide +kernel
theorem dX8_bound_78 : decode cX8_bound 78 = .ok (.iconst 0, 1) := by decide +kernel
theorem dX8_bound_79 : decode cX8_bound 79 = .ok (.istore_n 3, 1) := by decide +kernel
theorem dX8_bound_80 : decode cX8_bound 80 = .ok (.iload_n 3, 1) := by decide +kernel
theorem dX8_bound_81 : decode cX8_bound 81 = .ok (.aload_n 0, 1) := by decide +kernel
theorem dX8_bound_82 : decode cX8_bound 82 = .ok (.getfield 7, 3) := by decide +kernel
theorem dX8_bound_85 : decode cX8_bound 85 = .ok (.if_icmp .ge 46, 3) := by decide +kernel
theorem dX8_bound_88 : decode cX8_bound 88 = .ok (.iconst 0, 1) := by decide +kernel
theorem dX8_bound_89 : decode cX8_bound 89 = .ok (.istore 4, 2) := by decide +kernel
theorem dX8_bound_91 : decode cX8_bound 91 = .ok (.iload 4, 2) := by decide +kernel
theorem dX8_bound_93 : decode cX8_bound 93 = .ok (.aload_n 0, 1) := by decide +kernel
theorem dX8_bound_94 : decode cX8_bound 94 = .ok (.getfield 80, 3) := by decide +kernel
theorem dX8_bound_97 : decode cX8_bound 97 = .ok (.if_icmp .ge 28, 3) := by decide +kernel
theorem dX8_bound_100 : decode cX8_bound 100 = .ok (.aload_n 0, 1) := by decide +kernel
theorem dX8_bound_101 : decode cX8_bound 101 = .ok (.getfield 67, 3) := by decide +kernel
theorem dX8_bound_104 : decode cX8_bound 104 = .ok (.bipush 12, 2) := by decide +kernel
theorem dX8_bound_106 : decode cX8_bound 106 = .ok (.iload_n 3, 1) := by decide +kernel
theorem dX8_bound_107 : decode cX8_bound 107 = .ok (.imul, 1) := by decide +kernel
theorem dX8_bound_108 : decode cX8_bound 108 = .ok (.iload 4, 2) := by decide +kernel
theorem dX8_bound_110 : decode cX8_bound 110 = .ok (.iadd, 1) := by decide +kernel
theorem dX8_bound_111 : decode cX8_bound 111 = .ok (.aload_n 0, 1) := by decide +kernel
theorem dX8_bound_112 : decode cX8_bound 112 = .ok (.iload_n 3, 1) := by decide +kernel
theorem dX8_bound_113 : decode cX8_bound 113 = .ok (.iload 4, 2) := by decide +kernel
theorem dX8_bound_115 : decode cX8_bound 115 = .ok (.invokevirtual 151, 3) := by decide +kernel
theorem dX8_bound_118 : decode cX8_bound 118 = .ok (.lastore, 1) := by decide +kernel
theorem dX8_bound_119 : decode cX8_bound 119 = .ok (.iinc 4 1, 3) := by decide +kernel
theorem dX8_bound_122 : decode cX8_bound 122 = .ok (.goto (-31), 3) := by decide +kernel
theorem dX8_bound_125 : decode cX8_bound 125 = .ok (.iinc 3 1, 3) := by decide +kernel
theorem dX8_bound_128 : decode cX8_bound 128 = .ok (.goto (-48), 3) := by decide +kernel
theorem dX8_bound_131 : decode cX8_bound 131 = .ok (.iconst 0, 1) := by decide +kernel
theorem dX8_bound_132 : decode cX8_bound 132 = .ok (.istore_n 3, 1) := by decide +kernel
theorem dX8_bound_133 : decode cX8_bound 133 = .ok (.iload_n 3, 1) := by decide +kernel
theorem dX8_bound_134 : decode cX8_bound 134 = .ok (.iconst 1, 1) := by decide +kernel
theorem dX8_bound_135 : decode cX8_bound 135 = .ok (.aload_n 0, 1) := by decide +kernel
theorem dX8_bound_136 : decode cX8_bound 136 = .ok (.getfield 80, 3) := by decide +kernel
theorem dX8_bound_139 : decode cX8_bound 139 = .ok (.ishl, 1) := by decide +kernel
theorem dX8_bound_140 : decode cX8_bound 140 = .ok (.if_icmp .ge 199, 3) := by decide +kernel
theorem dX8_bound_143 : decode cX8_bound 143 = .ok (.aload_n 0, 1) := by decide +kernel
theorem dX8_bound_144 : decode cX8_bound 144 = .ok (.getfield 64, 3) := by decide +kernel
theorem dX8_bound_147 : decode cX8_bound 147 = .ok (.iload_n 3, 1) := by decide +kernel
theorem dX8_bound_148 : decode cX8_bound 148 = .ok (.iaload, 1) := by decide +kernel
theorem dX8_bound_149 : decode cX8_bound 149 = .ok (.istore 4, 2) := by decide +kernel
theorem dX8_bound_151 : decode cX8_bound 151 = .ok (.aload_n 0, 1) := by decide +kernel
theorem dX8_bound_152 : decode cX8_bound 152 = .ok (.getfield 61, 3) := by decide +kernel
theorem dX8_bound_155 : decode cX8_bound 155 = .ok (.iload_n 3, 1) := by decide +kernel
theorem dX8_bound_156 : decode cX8_bound 156 = .ok (.laload, 1) := by decide +kernel
theorem dX8_bound_157 : decode cX8_bound 157 = .ok (.lconst 0, 1) := by decide +kernel
theorem dX8_bound_158 : decode cX8_bound 158 = .ok (.lcmp, 1) := by decide +kernel
theorem dX8_bound_159 : decode cX8_bound 159 = .ok (.ifCond .lt 40, 3) := by decide +kernel
theorem dX8_bound_162 : decode cX8_bound 162 = .ok (.iload 4, 2) := by decide +kernel
theorem dX8_bound_164 : decode cX8_bound 164 = .ok (.aload_n 0, 1) := by decide +kernel
theorem dX8_bound_165 : decode cX8_bound 165 = .ok (.getfield 7, 3) := by decide +kernel
theorem dX8_bound_168 : decode cX8_bound 168 = .ok (.if_icmp .ne 31, 3) := by decide +kernel
theorem dX8_bound_171 : decode cX8_bound 171 = .ok (.lload_n 1, 1) := by decide +kernel
theorem dX8_bound_172 : decode cX8_bound 172 = .ok (.lconst 0, 1) := by decide +kernel
theorem dX8_bound_173 : decode cX8_bound 173 = .ok (.lcmp, 1) := by decide +kernel
theorem dX8_bound_174 : decode cX8_bound 174 = .ok (.ifCond .lt 14, 3) := by decide +kernel
theorem dX8_bound_177 : decode cX8_bound 177 = .ok (.aload_n 0, 1) := by decide +kernel
theorem dX8_bound_178 : decode cX8_bound 178 = .ok (.getfield 61, 3) := by decide +kernel
theorem dX8_bound_181 : decode cX8_bound 181 = .ok (.iload_n 3, 1) := by decide +kernel
theorem dX8_bound_182 : decode cX8_bound 182 = .ok (.laload, 1) := by decide +kernel
theorem dX8_bound_183 : decode cX8_bound 183 = .ok (.lload_n 1, 1) := by decide +kernel
theorem dX8_bound_184 : decode cX8_bound 184 = .ok (.lcmp, 1) := by decide +kernel
theorem dX8_bound_185 : decode cX8_bound 185 = .ok (.ifCond .ge 12, 3) := by decide +kernel
theorem dX8_bound_188 : decode cX8_bound 188 = .ok (.aload_n 0, 1) := by decide +kernel
theorem dX8_bound_189 : decode cX8_bound 189 = .ok (.getfield 61, 3) := by decide +kernel
theorem dX8_bound_192 : decode cX8_bound 192 = .ok (.iload_n 3, 1) := by decide +kernel
theorem dX8_bound_193 : decode cX8_bound 193 = .ok (.laload, 1) := by decide +kernel
theorem dX8_bound_194 : decode cX8_bound 194 = .ok (.goto 4, 3) := by decide +kernel
theorem dX8_bound_197 : decode cX8_bound 197 = .ok (.lload_n 1, 1) := by decide +kernel
theorem dX8_bound_198 : decode cX8_bound 198 = .ok (.lstore_n 1, 1) := by decide +kernel
theorem dX8_bound_199 : decode cX8_bound 199 = .ok (.iconst 0, 1) := by decide +kernel
theorem dX8_bound_200 : decode cX8_bound 200 = .ok (.istore 5, 2) := by decide +kernel
theorem dX8_bound_202 : decode cX8_bound 202 = .ok (.iload 5, 2) := by decide +kernel
theorem dX8_bound_204 : decode cX8_bound 204 = .ok (.aload_n 0, 1) := by decide +kernel
theorem dX8_bound_205 : decode cX8_bound 205 = .ok (.getfield 80, 3) := by decide +kernel
theorem dX8_bound_208 : decode cX8_bound 208 = .ok (.if_icmp .ge 125, 3) := by decide +kernel
theorem dX8_bound_211 : decode cX8_bound 211 = .ok (.iload 4, 2) := by decide +kernel
theorem dX8_bound_213 : decode cX8_bound 213 = .ok (.aload_n 0, 1) := by decide +kernel
theorem dX8_bound_214 : decode cX8_bound 214 = .ok (.getfield 7, 3) := by decide +kernel
theorem dX8_bound_217 : decode cX8_bound 217 = .ok (.if_icmp .ge 116, 3) := by decide +kernel
theorem dX8_bound_220 : decode cX8_bound 220 = .ok (.aload_n 0, 1) := by decide +kernel
theorem dX8_bound_221 : decode cX8_bound 221 = .ok (.getfield 61, 3) := by decide +kernel
theorem dX8_bound_224 : decode cX8_bound 224 = .ok (.iload_n 3, 1) := by decide +kernel
theorem dX8_bound_225 : decode cX8_bound 225 = .ok (.laload, 1) := by decide +kernel
theorem dX8_bound_226 : decode cX8_bound 226 = .ok (.lconst 0, 1) := by decide +kernel
theorem dX8_bound_227 : decode cX8_bound 227 = .ok (.lcmp, 1) := by decide +kernel
theorem dX8_bound_228 : decode cX8_bound 228 = .ok (.ifCond .lt 105, 3) := by decide +kernel
theorem dX8_bound_231 : decode cX8_bound 231 = .ok (.iload_n 3, 1) := by decide +kernel
theorem dX8_bound_232 : decode cX8_bound 232 = .ok (.iconst 1, 1) := by decide +kernel
theorem dX8_bound_233 : decode cX8_bound 233 = .ok (.iload 5, 2) := by decide +kernel
theorem dX8_bound_235 : decode cX8_bound 235 = .ok (.ishl, 1) := by decide +kernel
theorem dX8_bound_236 : decode cX8_bound 236 = .ok (.ior, 1) := by decide +kernel
theorem dX8_bound_237 : decode cX8_bound 237 = .ok (.istore 6, 2) := by decide +kernel
theorem dX8_bound_239 : decode cX8_bound 239 = .ok (.iload 6, 2) := by decide +kernel
theorem dX8_bound_241 : decode cX8_bound 241 = .ok (.iload_n 3, 1) := by decide +kernel
theorem dX8_bound_242 : decode cX8_bound 242 = .ok (.if_icmp .eq 85, 3) := by decide +kernel
theorem dX8_bound_245 : decode cX8_bound 245 = .ok (.aload_n 0, 1) := by decide +kernel
theorem dX8_bound_246 : decode cX8_bound 246 = .ok (.iload 4, 2) := by decide +kernel
theorem dX8_bound_248 : decode cX8_bound 248 = .ok (.iload 5, 2) := by decide +kernel
theorem dX8_bound_250 : decode cX8_bound 250 = .ok (.aload_n 0, 1) := by decide +kernel
theorem dX8_bound_251 : decode cX8_bound 251 = .ok (.getfield 48, 3) := by decide +kernel
theorem dX8_bound_254 : decode cX8_bound 254 = .ok (.iconst 0, 1) := by decide +kernel
theorem dX8_bound_255 : decode cX8_bound 255 = .ok (.invokevirtual 110, 3) := by decide +kernel
theorem dX8_bound_258 : decode cX8_bound 258 = .ok (.ifCond .eq 69, 3) := by decide +kernel
theorem dX8_bound_261 : decode cX8_bound 261 = .ok (.aload_n 0, 1) := by decide +kernel
theorem dX8_bound_262 : decode cX8_bound 262 = .ok (.getfield 61, 3) := by decide +kernel
theorem dX8_bound_265 : decode cX8_bound 265 = .ok (.iload_n 3, 1) := by decide +kernel
theorem dX8_bound_266 : decode cX8_bound 266 = .ok (.laload, 1) := by decide +kernel
theorem dX8_bound_267 : decode cX8_bound 267 = .ok (.aload_n 0, 1) := by decide +kernel
theorem dX8_bound_268 : decode cX8_bound 268 = .ok (.getfield 67, 3) := by decide +kernel
theorem dX8_bound_271 : decode cX8_bound 271 = .ok (.bipush 12, 2) := by decide +kernel
theorem dX8_bound_273 : decode cX8_bound 273 = .ok (.iload 4, 2) := by decide +kernel
theorem dX8_bound_275 : decode cX8_bound 275 = .ok (.imul, 1) := by decide +kernel
theorem dX8_bound_276 : decode cX8_bound 276 = .ok (.iload 5, 2) := by decide +kernel
theorem dX8_bound_278 : decode cX8_bound 278 = .ok (.iadd, 1) := by decide +kernel
theorem dX8_bound_279 : decode cX8_bound 279 = .ok (.laload, 1) := by decide +kernel
theorem dX8_bound_280 : decode cX8_bound 280 = .ok (.ladd, 1) := by decide +kernel
theorem dX8_bound_281 : decode cX8_bound 281 = .ok (.lstore 7, 2) := by decide +kernel
theorem dX8_bound_283 : decode cX8_bound 283 = .ok (.aload_n 0, 1) := by decide +kernel
theorem dX8_bound_284 : decode cX8_bound 284 = .ok (.getfield 61, 3) := by decide +kernel
theorem dX8_bound_287 : decode cX8_bound 287 = .ok (.iload 6, 2) := by decide +kernel
theorem dX8_bound_289 : decode cX8_bound 289 = .ok (.aload_n 0, 1) := by decide +kernel
theorem dX8_bound_290 : decode cX8_bound 290 = .ok (.getfield 61, 3) := by decide +kernel
theorem dX8_bound_293 : decode cX8_bound 293 = .ok (.iload 6, 2) := by decide +kernel
theorem dX8_bound_295 : decode cX8_bound 295 = .ok (.laload, 1) := by decide +kernel
theorem dX8_bound_296 : decode cX8_bound 296 = .ok (.lconst 0, 1) := by decide +kernel
theorem dX8_bound_297 : decode cX8_bound 297 = .ok (.lcmp, 1) := by decide +kernel
theorem dX8_bound_298 : decode cX8_bound 298 = .ok (.ifCond .lt 16, 3) := by decide +kernel
theorem dX8_bound_301 : decode cX8_bound 301 = .ok (.lload 7, 2) := by decide +kernel
theorem dX8_bound_303 : decode cX8_bound 303 = .ok (.aload_n 0, 1) := by decide +kernel
theorem dX8_bound_304 : decode cX8_bound 304 = .ok (.getfield 61, 3) := by decide +kernel
theorem dX8_bound_307 : decode cX8_bound 307 = .ok (.iload 6, 2) := by decide +kernel
theorem dX8_bound_309 : decode cX8_bound 309 = .ok (.laload, 1) := by decide +kernel
theorem dX8_bound_310 : decode cX8_bound 310 = .ok (.lcmp, 1) := by decide +kernel
theorem dX8_bound_311 : decode cX8_bound 311 = .ok (.ifCond .ge 8, 3) := by decide +kernel
theorem dX8_bound_314 : decode cX8_bound 314 = .ok (.lload 7, 2) := by decide +kernel
theorem dX8_bound_316 : decode cX8_bound 316 = .ok (.goto 10, 3) := by decide +kernel
theorem dX8_bound_319 : decode cX8_bound 319 = .ok (.aload_n 0, 1) := by decide +kernel
theorem dX8_bound_320 : decode cX8_bound 320 = .ok (.getfield 61, 3) := by decide +kernel
theorem dX8_bound_323 : decode cX8_bound 323 = .ok (.iload 6, 2) := by decide +kernel
theorem dX8_bound_325 : decode cX8_bound 325 = .ok (.laload, 1) := by decide +kernel
theorem dX8_bound_326 : decode cX8_bound 326 = .ok (.lastore, 1) := by decide +kernel
theorem dX8_bound_327 : decode cX8_bound 327 = .ok (.iinc 5 1, 3) := by decide +kernel
theorem dX8_bound_330 : decode cX8_bound 330 = .ok (.goto (-128), 3) := by decide +kernel
theorem dX8_bound_333 : decode cX8_bound 333 = .ok (.iinc 3 1, 3) := by decide +kernel
theorem dX8_bound_336 : decode cX8_bound 336 = .ok (.goto (-203), 3) := by decide +kernel
theorem dX8_bound_339 : decode cX8_bound 339 = .ok (.lload_n 1, 1) := by decide +kernel
theorem dX8_bound_340 : decode cX8_bound 340 = .ok (.lreturn, 1) := by decide +kernel
theorem dX8_price_0 : decode cX8_price 0 = .ok (.aload_n 0, 1) := by decide +kernel
theorem dX8_price_1 : decode cX8_price 1 = .ok (.iload_n 1, 1) := by decide +kernel
theorem dX8_price_2 : decode cX8_price 2 = .ok (.invokevirtual 93, 3) := by decide +kernel
theorem dX8_price_5 : decode cX8_price 5 = .ok (.ifCond .eq 11, 3) := by decide +kernel
theorem dX8_price_8 : decode cX8_price 8 = .ok (.aload_n 0, 1) := by decide +kernel
theorem dX8_price_9 : decode cX8_price 9 = .ok (.iload_n 2, 1) := by decide +kernel
theorem dX8_price_10 : decode cX8_price 10 = .ok (.invokevirtual 101, 3) := by decide +kernel
theorem dX8_price_13 : decode cX8_price 13 = .ok (.ifCond .ne 9, 3) := by decide +kernel
theorem dX8_price_16 : decode cX8_price 16 = .ok (.ldc2_w 128, 3) := by decide +kernel
theorem dX8_price_19 : decode cX8_price 19 = .ok (.goto 26, 3) := by decide +kernel
theorem dX8_price_22 : decode cX8_price 22 = .ok (.aload_n 0, 1) := by decide +kernel
theorem dX8_price_23 : decode cX8_price 23 = .ok (.getfield 80, 3) := by decide +kernel
theorem dX8_price_26 : decode cX8_price 26 = .ok (.aload_n 0, 1) := by decide +kernel
theorem dX8_price_27 : decode cX8_price 27 = .ok (.getfield 7, 3) := by decide +kernel
theorem dX8_price_30 : decode cX8_price 30 = .ok (.if_icmp .ge 9, 3) := by decide +kernel
theorem dX8_price_33 : decode cX8_price 33 = .ok (.ldc2_w 126, 3) := by decide +kernel
theorem dX8_price_36 : decode cX8_price 36 = .ok (.goto 9, 3) := by decide +kernel
theorem dX8_price_39 : decode cX8_price 39 = .ok (.aload_n 0, 1) := by decide +kernel
theorem dX8_price_40 : decode cX8_price 40 = .ok (.iload_n 1, 1) := by decide +kernel
theorem dX8_price_41 : decode cX8_price 41 = .ok (.iload_n 2, 1) := by decide +kernel
theorem dX8_price_42 : decode cX8_price 42 = .ok (.invokevirtual 151, 3) := by decide +kernel
theorem dX8_price_45 : decode cX8_price 45 = .ok (.lreturn, 1) := by decide +kernel
theorem dX8_isTurned_0 : decode cX8_isTurned 0 = .ok (.aload_n 0, 1) := by decide +kernel
theorem dX8_isTurned_1 : decode cX8_isTurned 1 = .ok (.getfield 70, 3) := by decide +kernel
theorem dX8_isTurned_4 : decode cX8_isTurned 4 = .ok (.iload_n 1, 1) := by decide +kernel
theorem dX8_isTurned_5 : decode cX8_isTurned 5 = .ok (.iaload, 1) := by decide +kernel
theorem dX8_isTurned_6 : decode cX8_isTurned 6 = .ok (.istore_n 2, 1) := by decide +kernel
theorem dX8_isTurned_7 : decode cX8_isTurned 7 = .ok (.aload_n 0, 1) := by decide +kernel
theorem dX8_isTurned_8 : decode cX8_isTurned 8 = .ok (.getfield 27, 3) := by decide +kernel
theorem dX8_isTurned_11 : decode cX8_isTurned 11 = .ok (.iload_n 2, 1) := by decide +kernel
theorem dX8_isTurned_12 : decode cX8_isTurned 12 = .ok (.iaload, 1) := by decide +kernel
theorem dX8_isTurned_13 : decode cX8_isTurned 13 = .ok (.aload_n 0, 1) := by decide +kernel
theorem dX8_isTurned_14 : decode cX8_isTurned 14 = .ok (.getfield 27, 3) := by decide +kernel
theorem dX8_isTurned_17 : decode cX8_isTurned 17 = .ok (.iload_n 1, 1) := by decide +kernel
theorem dX8_isTurned_18 : decode cX8_isTurned 18 = .ok (.iaload, 1) := by decide +kernel
theorem dX8_isTurned_19 : decode cX8_isTurned 19 = .ok (.if_icmp .ne 18, 3) := by decide +kernel
theorem dX8_isTurned_22 : decode cX8_isTurned 22 = .ok (.aload_n 0, 1) := by decide +kernel
theorem dX8_isTurned_23 : decode cX8_isTurned 23 = .ok (.getfield 30, 3) := by decide +kernel
theorem dX8_isTurned_26 : decode cX8_isTurned 26 = .ok (.iload_n 2, 1) := by decide +kernel
theorem dX8_isTurned_27 : decode cX8_isTurned 27 = .ok (.iaload, 1) := by decide +kernel
theorem dX8_isTurned_28 : decode cX8_isTurned 28 = .ok (.aload_n 0, 1) := by decide +kernel
theorem dX8_isTurned_29 : decode cX8_isTurned 29 = .ok (.getfield 30, 3) := by decide +kernel
theorem dX8_isTurned_32 : decode cX8_isTurned 32 = .ok (.iload_n 1, 1) := by decide +kernel
theorem dX8_isTurned_33 : decode cX8_isTurned 33 = .ok (.iaload, 1) := by decide +kernel
theorem dX8_isTurned_34 : decode cX8_isTurned 34 = .ok (.if_icmp .eq 5, 3) := by decide +kernel
theorem dX8_isTurned_37 : decode cX8_isTurned 37 = .ok (.iconst 0, 1) := by decide +kernel
theorem dX8_isTurned_38 : decode cX8_isTurned 38 = .ok (.ireturn, 1) := by decide +kernel
theorem dX8_isTurned_39 : decode cX8_isTurned 39 = .ok (.iconst 0, 1) := by decide +kernel
theorem dX8_isTurned_40 : decode cX8_isTurned 40 = .ok (.istore_n 3, 1) := by decide +kernel
theorem dX8_isTurned_41 : decode cX8_isTurned 41 = .ok (.iload_n 3, 1) := by decide +kernel
theorem dX8_isTurned_42 : decode cX8_isTurned 42 = .ok (.iload_n 1, 1) := by decide +kernel
theorem dX8_isTurned_43 : decode cX8_isTurned 43 = .ok (.if_icmp .gt 86, 3) := by decide +kernel
theorem dX8_isTurned_46 : decode cX8_isTurned 46 = .ok (.iload_n 3, 1) := by decide +kernel
theorem dX8_isTurned_47 : decode cX8_isTurned 47 = .ok (.iload_n 1, 1) := by decide +kernel
theorem dX8_isTurned_48 : decode cX8_isTurned 48 = .ok (.if_icmp .ge 13, 3) := by decide +kernel
theorem dX8_isTurned_51 : decode cX8_isTurned 51 = .ok (.aload_n 0, 1) := by decide +kernel
theorem dX8_isTurned_52 : decode cX8_isTurned 52 = .ok (.getfield 70, 3) := by decide +kernel
theorem dX8_isTurned_55 : decode cX8_isTurned 55 = .ok (.iload_n 3, 1) := by decide +kernel
theorem dX8_isTurned_56 : decode cX8_isTurned 56 = .ok (.iaload, 1) := by decide +kernel
theorem dX8_isTurned_57 : decode cX8_isTurned 57 = .ok (.iload_n 2, 1) := by decide +kernel
theorem dX8_isTurned_58 : decode cX8_isTurned 58 = .ok (.if_icmp .eq 63, 3) := by decide +kernel
theorem dX8_isTurned_61 : decode cX8_isTurned 61 = .ok (.aload_n 0, 1) := by decide +kernel
theorem dX8_isTurned_62 : decode cX8_isTurned 62 = .ok (.getfield 33, 3) := by decide +kernel
theorem dX8_isTurned_65 : decode cX8_isTurned 65 = .ok (.bipush 12, 2) := by decide +kernel
theorem dX8_isTurned_67 : decode cX8_isTurned 67 = .ok (.iload_n 1, 1) := by decide +kernel
theorem dX8_isTurned_68 : decode cX8_isTurned 68 = .ok (.imul, 1) := by decide +kernel
theorem dX8_isTurned_69 : decode cX8_isTurned 69 = .ok (.iload_n 3, 1) := by decide +kernel
theorem dX8_isTurned_70 : decode cX8_isTurned 70 = .ok (.iadd, 1) := by decide +kernel
theorem dX8_isTurned_71 : decode cX8_isTurned 71 = .ok (.iaload, 1) := by decide +kernel
theorem dX8_isTurned_72 : decode cX8_isTurned 72 = .ok (.aload_n 0, 1) := by decide +kernel
theorem dX8_isTurned_73 : decode cX8_isTurned 73 = .ok (.getfield 33, 3) := by decide +kernel
theorem dX8_isTurned_76 : decode cX8_isTurned 76 = .ok (.bipush 12, 2) := by decide +kernel
theorem dX8_isTurned_78 : decode cX8_isTurned 78 = .ok (.iload_n 2, 1) := by decide +kernel
theorem dX8_isTurned_79 : decode cX8_isTurned 79 = .ok (.imul, 1) := by decide +kernel
theorem dX8_isTurned_80 : decode cX8_isTurned 80 = .ok (.aload_n 0, 1) := by decide +kernel
theorem dX8_isTurned_81 : decode cX8_isTurned 81 = .ok (.getfield 70, 3) := by decide +kernel
theorem dX8_isTurned_84 : decode cX8_isTurned 84 = .ok (.iload_n 3, 1) := by decide +kernel
theorem dX8_isTurned_85 : decode cX8_isTurned 85 = .ok (.iaload, 1) := by decide +kernel
theorem dX8_isTurned_86 : decode cX8_isTurned 86 = .ok (.iadd, 1) := by decide +kernel
theorem dX8_isTurned_87 : decode cX8_isTurned 87 = .ok (.iaload, 1) := by decide +kernel
theorem dX8_isTurned_88 : decode cX8_isTurned 88 = .ok (.if_icmp .ne 33, 3) := by decide +kernel
theorem dX8_isTurned_91 : decode cX8_isTurned 91 = .ok (.aload_n 0, 1) := by decide +kernel
theorem dX8_isTurned_92 : decode cX8_isTurned 92 = .ok (.getfield 33, 3) := by decide +kernel
theorem dX8_isTurned_95 : decode cX8_isTurned 95 = .ok (.bipush 12, 2) := by decide +kernel
theorem dX8_isTurned_97 : decode cX8_isTurned 97 = .ok (.iload_n 3, 1) := by decide +kernel
theorem dX8_isTurned_98 : decode cX8_isTurned 98 = .ok (.imul, 1) := by decide +kernel
theorem dX8_isTurned_99 : decode cX8_isTurned 99 = .ok (.iload_n 1, 1) := by decide +kernel
theorem dX8_isTurned_100 : decode cX8_isTurned 100 = .ok (.iadd, 1) := by decide +kernel
theorem dX8_isTurned_101 : decode cX8_isTurned 101 = .ok (.iaload, 1) := by decide +kernel
theorem dX8_isTurned_102 : decode cX8_isTurned 102 = .ok (.aload_n 0, 1) := by decide +kernel
theorem dX8_isTurned_103 : decode cX8_isTurned 103 = .ok (.getfield 33, 3) := by decide +kernel
theorem dX8_isTurned_106 : decode cX8_isTurned 106 = .ok (.bipush 12, 2) := by decide +kernel
theorem dX8_isTurned_108 : decode cX8_isTurned 108 = .ok (.aload_n 0, 1) := by decide +kernel
theorem dX8_isTurned_109 : decode cX8_isTurned 109 = .ok (.getfield 70, 3) := by decide +kernel
theorem dX8_isTurned_112 : decode cX8_isTurned 112 = .ok (.iload_n 3, 1) := by decide +kernel
theorem dX8_isTurned_113 : decode cX8_isTurned 113 = .ok (.iaload, 1) := by decide +kernel
theorem dX8_isTurned_114 : decode cX8_isTurned 114 = .ok (.imul, 1) := by decide +kernel
theorem dX8_isTurned_115 : decode cX8_isTurned 115 = .ok (.iload_n 2, 1) := by decide +kernel
theorem dX8_isTurned_116 : decode cX8_isTurned 116 = .ok (.iadd, 1) := by decide +kernel
theorem dX8_isTurned_117 : decode cX8_isTurned 117 = .ok (.iaload, 1) := by decide +kernel
theorem dX8_isTurned_118 : decode cX8_isTurned 118 = .ok (.if_icmp .eq 5, 3) := by decide +kernel
theorem dX8_isTurned_121 : decode cX8_isTurned 121 = .ok (.iconst 0, 1) := by decide +kernel
theorem dX8_isTurned_122 : decode cX8_isTurned 122 = .ok (.ireturn, 1) := by decide +kernel
theorem dX8_isTurned_123 : decode cX8_isTurned 123 = .ok (.iinc 3 1, 3) := by decide +kernel
theorem dX8_isTurned_126 : decode cX8_isTurned 126 = .ok (.goto (-85), 3) := by decide +kernel
theorem dX8_isTurned_129 : decode cX8_isTurned 129 = .ok (.iconst 1, 1) := by decide +kernel
theorem dX8_isTurned_130 : decode cX8_isTurned 130 = .ok (.ireturn, 1) := by decide +kernel
theorem dX8_leads_0 : decode cX8_leads 0 = .ok (.iconst 0, 1) := by decide +kernel
theorem dX8_leads_1 : decode cX8_leads 1 = .ok (.istore_n 1, 1) := by decide +kernel
theorem dX8_leads_2 : decode cX8_leads 2 = .ok (.iload_n 1, 1) := by decide +kernel
theorem dX8_leads_3 : decode cX8_leads 3 = .ok (.aload_n 0, 1) := by decide +kernel
theorem dX8_leads_4 : decode cX8_leads 4 = .ok (.getfield 7, 3) := by decide +kernel
theorem dX8_leads_7 : decode cX8_leads 7 = .ok (.if_icmp .ge 31, 3) := by decide +kernel
theorem dX8_leads_10 : decode cX8_leads 10 = .ok (.aload_n 0, 1) := by decide +kernel
theorem dX8_leads_11 : decode cX8_leads 11 = .ok (.getfield 70, 3) := by decide +kernel
theorem dX8_leads_14 : decode cX8_leads 14 = .ok (.aload_n 0, 1) := by decide +kernel
theorem dX8_leads_15 : decode cX8_leads 15 = .ok (.getfield 39, 3) := by decide +kernel
theorem dX8_leads_18 : decode cX8_leads 18 = .ok (.iload_n 1, 1) := by decide +kernel
theorem dX8_leads_19 : decode cX8_leads 19 = .ok (.iaload, 1) := by decide +kernel
theorem dX8_leads_20 : decode cX8_leads 20 = .ok (.iaload, 1) := by decide +kernel
theorem dX8_leads_21 : decode cX8_leads 21 = .ok (.aload_n 0, 1) := by decide +kernel
theorem dX8_leads_22 : decode cX8_leads 22 = .ok (.getfield 42, 3) := by decide +kernel
theorem dX8_leads_25 : decode cX8_leads 25 = .ok (.iload_n 1, 1) := by decide +kernel
theorem dX8_leads_26 : decode cX8_leads 26 = .ok (.iaload, 1) := by decide +kernel
theorem dX8_leads_27 : decode cX8_leads 27 = .ok (.if_icmp .eq 5, 3) := by decide +kernel
theorem dX8_leads_30 : decode cX8_leads 30 = .ok (.iconst 0, 1) := by decide +kernel
theorem dX8_leads_31 : decode cX8_leads 31 = .ok (.ireturn, 1) := by decide +kernel
theorem dX8_leads_32 : decode cX8_leads 32 = .ok (.iinc 1 1, 3) := by decide +kernel
theorem dX8_leads_35 : decode cX8_leads 35 = .ok (.goto (-33), 3) := by decide +kernel
theorem dX8_leads_38 : decode cX8_leads 38 = .ok (.iconst 1, 1) := by decide +kernel
theorem dX8_leads_39 : decode cX8_leads 39 = .ok (.ireturn, 1) := by decide +kernel
theorem dX8_turned_0 : decode cX8_turned 0 = .ok (.iconst 0, 1) := by decide +kernel
theorem dX8_turned_1 : decode cX8_turned 1 = .ok (.istore_n 2, 1) := by decide +kernel
theorem dX8_turned_2 : decode cX8_turned 2 = .ok (.iconst 0, 1) := by decide +kernel
theorem dX8_turned_3 : decode cX8_turned 3 = .ok (.istore_n 3, 1) := by decide +kernel
theorem dX8_turned_4 : decode cX8_turned 4 = .ok (.aload_n 0, 1) := by decide +kernel
theorem dX8_turned_5 : decode cX8_turned 5 = .ok (.getfield 70, 3) := by decide +kernel
theorem dX8_turned_8 : decode cX8_turned 8 = .ok (.iconst 0, 1) := by decide +kernel
theorem dX8_turned_9 : decode cX8_turned 9 = .ok (.iconst (-1), 1) := by decide +kernel
theorem dX8_turned_10 : decode cX8_turned 10 = .ok (.iastore, 1) := by decide +kernel
theorem dX8_turned_11 : decode cX8_turned 11 = .ok (.iload_n 3, 1) := by decide +kernel
theorem dX8_turned_12 : decode cX8_turned 12 = .ok (.ifCond .lt 85, 3) := by decide +kernel
theorem dX8_turned_15 : decode cX8_turned 15 = .ok (.aload_n 0, 1) := by decide +kernel
theorem dX8_turned_16 : decode cX8_turned 16 = .ok (.getfield 70, 3) := by decide +kernel
theorem dX8_turned_19 : decode cX8_turned 19 = .ok (.iload_n 3, 1) := by decide +kernel
theorem dX8_turned_20 : decode cX8_turned 20 = .ok (.dup2, 1) := by decide +kernel
theorem dX8_turned_21 : decode cX8_turned 21 = .ok (.iaload, 1) := by decide +kernel
theorem dX8_turned_22 : decode cX8_turned 22 = .ok (.iconst 1, 1) := by decide +kernel
theorem dX8_turned_23 : decode cX8_turned 23 = .ok (.iadd, 1) := by decide +kernel
theorem dX8_turned_24 : decode cX8_turned 24 = .ok (.iastore, 1) := by decide +kernel
theorem dX8_turned_25 : decode cX8_turned 25 = .ok (.aload_n 0, 1) := by decide +kernel
theorem dX8_turned_26 : decode cX8_turned 26 = .ok (.getfield 70, 3) := by decide +kernel
theorem dX8_turned_29 : decode cX8_turned 29 = .ok (.iload_n 3, 1) := by decide +kernel
theorem dX8_turned_30 : decode cX8_turned 30 = .ok (.iaload, 1) := by decide +kernel
theorem dX8_turned_31 : decode cX8_turned 31 = .ok (.aload_n 0, 1) := by decide +kernel
theorem dX8_turned_32 : decode cX8_turned 32 = .ok (.getfield 80, 3) := by decide +kernel
theorem dX8_turned_35 : decode cX8_turned 35 = .ok (.if_icmp .ne 9, 3) := by decide +kernel
theorem dX8_turned_38 : decode cX8_turned 38 = .ok (.iinc 3 (-1), 3) := by decide +kernel
theorem dX8_turned_41 : decode cX8_turned 41 = .ok (.goto (-30), 3) := by decide +kernel
theorem dX8_turned_44 : decode cX8_turned 44 = .ok (.aload_n 0, 1) := by decide +kernel
theorem dX8_turned_45 : decode cX8_turned 45 = .ok (.iload_n 3, 1) := by decide +kernel
theorem dX8_turned_46 : decode cX8_turned 46 = .ok (.invokevirtual 155, 3) := by decide +kernel
theorem dX8_turned_49 : decode cX8_turned 49 = .ok (.ifCond .eq (-38), 3) := by decide +kernel
theorem dX8_turned_52 : decode cX8_turned 52 = .ok (.iload_n 3, 1) := by decide +kernel
theorem dX8_turned_53 : decode cX8_turned 53 = .ok (.aload_n 0, 1) := by decide +kernel
theorem dX8_turned_54 : decode cX8_turned 54 = .ok (.getfield 80, 3) := by decide +kernel
theorem dX8_turned_57 : decode cX8_turned 57 = .ok (.iconst 1, 1) := by decide +kernel
theorem dX8_turned_58 : decode cX8_turned 58 = .ok (.isub, 1) := by decide +kernel
theorem dX8_turned_59 : decode cX8_turned 59 = .ok (.if_icmp .ne 25, 3) := by decide +kernel
theorem dX8_turned_62 : decode cX8_turned 62 = .ok (.iload_n 2, 1) := by decide +kernel
theorem dX8_turned_63 : decode cX8_turned 63 = .ok (.iload_n 1, 1) := by decide +kernel
theorem dX8_turned_64 : decode cX8_turned 64 = .ok (.ifCond .eq 10, 3) := by decide +kernel
theorem dX8_turned_67 : decode cX8_turned 67 = .ok (.aload_n 0, 1) := by decide +kernel
theorem dX8_turned_68 : decode cX8_turned 68 = .ok (.invokevirtual 158, 3) := by decide +kernel
theorem dX8_turned_71 : decode cX8_turned 71 = .ok (.ifCond .eq 7, 3) := by decide +kernel
theorem dX8_turned_74 : decode cX8_turned 74 = .ok (.iconst 1, 1) := by decide +kernel
theorem dX8_turned_75 : decode cX8_turned 75 = .ok (.goto 4, 3) := by decide +kernel
theorem dX8_turned_78 : decode cX8_turned 78 = .ok (.iconst 0, 1) := by decide +kernel
theorem dX8_turned_79 : decode cX8_turned 79 = .ok (.iadd, 1) := by decide +kernel
theorem dX8_turned_80 : decode cX8_turned 80 = .ok (.istore_n 2, 1) := by decide +kernel
theorem dX8_turned_81 : decode cX8_turned 81 = .ok (.goto (-70), 3) := by decide +kernel
theorem dX8_turned_84 : decode cX8_turned 84 = .ok (.iinc 3 1, 3) := by decide +kernel
theorem dX8_turned_87 : decode cX8_turned 87 = .ok (.aload_n 0, 1) := by decide +kernel
theorem dX8_turned_88 : decode cX8_turned 88 = .ok (.getfield 70, 3) := by decide +kernel
theorem dX8_turned_91 : decode cX8_turned 91 = .ok (.iload_n 3, 1) := by decide +kernel
theorem dX8_turned_92 : decode cX8_turned 92 = .ok (.iconst (-1), 1) := by decide +kernel
theorem dX8_turned_93 : decode cX8_turned 93 = .ok (.iastore, 1) := by decide +kernel
theorem dX8_turned_94 : decode cX8_turned 94 = .ok (.goto (-83), 3) := by decide +kernel
theorem dX8_turned_97 : decode cX8_turned 97 = .ok (.iload_n 2, 1) := by decide +kernel
theorem dX8_turned_98 : decode cX8_turned 98 = .ok (.ireturn, 1) := by decide +kernel
theorem dX8_turns_0 : decode cX8_turns 0 = .ok (.aload_n 0, 1) := by decide +kernel
theorem dX8_turns_1 : decode cX8_turns 1 = .ok (.getfield 80, 3) := by decide +kernel
theorem dX8_turns_4 : decode cX8_turns 4 = .ok (.ifCond .eq 12, 3) := by decide +kernel
theorem dX8_turns_7 : decode cX8_turns 7 = .ok (.aload_n 0, 1) := by decide +kernel
theorem dX8_turns_8 : decode cX8_turns 8 = .ok (.getfield 80, 3) := by decide +kernel
theorem dX8_turns_11 : decode cX8_turns 11 = .ok (.bipush 7, 2) := by decide +kernel
theorem dX8_turns_13 : decode cX8_turns 13 = .ok (.if_icmp .le 8, 3) := by decide +kernel
theorem dX8_turns_16 : decode cX8_turns 16 = .ok (.bipush (-3), 2) := by decide +kernel
theorem dX8_turns_18 : decode cX8_turns 18 = .ok (.goto 8, 3) := by decide +kernel
theorem dX8_turns_21 : decode cX8_turns 21 = .ok (.aload_n 0, 1) := by decide +kernel
theorem dX8_turns_22 : decode cX8_turns 22 = .ok (.iconst 0, 1) := by decide +kernel
theorem dX8_turns_23 : decode cX8_turns 23 = .ok (.invokevirtual 162, 3) := by decide +kernel
theorem dX8_turns_26 : decode cX8_turns 26 = .ok (.ireturn, 1) := by decide +kernel
theorem dX8_alike_0 : decode cX8_alike 0 = .ok (.aload_n 0, 1) := by decide +kernel
theorem dX8_alike_1 : decode cX8_alike 1 = .ok (.getfield 83, 3) := by decide +kernel
theorem dX8_alike_4 : decode cX8_alike 4 = .ok (.ifCond .eq 19, 3) := by decide +kernel
theorem dX8_alike_7 : decode cX8_alike 7 = .ok (.aload_n 0, 1) := by decide +kernel
theorem dX8_alike_8 : decode cX8_alike 8 = .ok (.getfield 87, 3) := by decide +kernel
theorem dX8_alike_11 : decode cX8_alike 11 = .ok (.ifCond .eq 12, 3) := by decide +kernel
theorem dX8_alike_14 : decode cX8_alike 14 = .ok (.aload_n 0, 1) := by decide +kernel
theorem dX8_alike_15 : decode cX8_alike 15 = .ok (.getfield 80, 3) := by decide +kernel
theorem dX8_alike_18 : decode cX8_alike 18 = .ok (.bipush 7, 2) := by decide +kernel
theorem dX8_alike_20 : decode cX8_alike 20 = .ok (.if_icmp .le 8, 3) := by decide +kernel
theorem dX8_alike_23 : decode cX8_alike 23 = .ok (.bipush (-3), 2) := by decide +kernel
theorem dX8_alike_25 : decode cX8_alike 25 = .ok (.goto 16, 3) := by decide +kernel
theorem dX8_alike_28 : decode cX8_alike 28 = .ok (.aload_n 0, 1) := by decide +kernel
theorem dX8_alike_29 : decode cX8_alike 29 = .ok (.iconst 1, 1) := by decide +kernel
theorem dX8_alike_30 : decode cX8_alike 30 = .ok (.invokevirtual 162, 3) := by decide +kernel
theorem dX8_alike_33 : decode cX8_alike 33 = .ok (.ifCond .le 7, 3) := by decide +kernel
theorem dX8_alike_36 : decode cX8_alike 36 = .ok (.iconst 1, 1) := by decide +kernel
theorem dX8_alike_37 : decode cX8_alike 37 = .ok (.goto 4, 3) := by decide +kernel
theorem dX8_alike_40 : decode cX8_alike 40 = .ok (.iconst 0, 1) := by decide +kernel
theorem dX8_alike_41 : decode cX8_alike 41 = .ok (.ireturn, 1) := by decide +kernel
theorem dX8_count_0 : decode cX8_count 0 = .ok (.iconst 0, 1) := by decide +kernel
theorem dX8_count_1 : decode cX8_count 1 = .ok (.istore_n 2, 1) := by decide +kernel
theorem dX8_count_2 : decode cX8_count 2 = .ok (.iload_n 1, 1) := by decide +kernel
theorem dX8_count_3 : decode cX8_count 3 = .ok (.tableswitch 172 0 6 #[41, 46, 51, 51, 98, 123, 159], 41) := by decide +kernel
theorem dX8_count_44 : decode cX8_count 44 = .ok (.aload_n 0, 1) := by decide +kernel
theorem dX8_count_45 : decode cX8_count 45 = .ok (.getfield 7, 3) := by decide +kernel
theorem dX8_count_48 : decode cX8_count 48 = .ok (.ireturn, 1) := by decide +kernel
theorem dX8_count_49 : decode cX8_count 49 = .ok (.aload_n 0, 1) := by decide +kernel
theorem dX8_count_50 : decode cX8_count 50 = .ok (.getfield 80, 3) := by decide +kernel
theorem dX8_count_53 : decode cX8_count 53 = .ok (.ireturn, 1) := by decide +kernel
theorem dX8_count_54 : decode cX8_count 54 = .ok (.iconst 0, 1) := by decide +kernel
theorem dX8_count_55 : decode cX8_count 55 = .ok (.istore_n 3, 1) := by decide +kernel
theorem dX8_count_56 : decode cX8_count 56 = .ok (.iload_n 3, 1) := by decide +kernel
theorem dX8_count_57 : decode cX8_count 57 = .ok (.bipush 6, 2) := by decide +kernel
theorem dX8_count_59 : decode cX8_count 59 = .ok (.if_icmp .ge 40, 3) := by decide +kernel
theorem dX8_count_62 : decode cX8_count 62 = .ok (.iload_n 2, 1) := by decide +kernel
theorem dX8_count_63 : decode cX8_count 63 = .ok (.aload_n 0, 1) := by decide +kernel
theorem dX8_count_64 : decode cX8_count 64 = .ok (.getfield 13, 3) := by decide +kernel
theorem dX8_count_67 : decode cX8_count 67 = .ok (.iload_n 3, 1) := by decide +kernel
theorem dX8_count_68 : decode cX8_count 68 = .ok (.baload, 1) := by decide +kernel
theorem dX8_count_69 : decode cX8_count 69 = .ok (.ifCond .ne 7, 3) := by decide +kernel
theorem dX8_count_72 : decode cX8_count 72 = .ok (.iconst 0, 1) := by decide +kernel
theorem dX8_count_73 : decode cX8_count 73 = .ok (.goto 18, 3) := by decide +kernel
theorem dX8_count_76 : decode cX8_count 76 = .ok (.iload_n 1, 1) := by decide +kernel
theorem dX8_count_77 : decode cX8_count 77 = .ok (.iconst 2, 1) := by decide +kernel
theorem dX8_count_78 : decode cX8_count 78 = .ok (.if_icmp .ne 7, 3) := by decide +kernel
theorem dX8_count_81 : decode cX8_count 81 = .ok (.iconst 1, 1) := by decide +kernel
theorem dX8_count_82 : decode cX8_count 82 = .ok (.goto 9, 3) := by decide +kernel
theorem dX8_count_85 : decode cX8_count 85 = .ok (.aload_n 0, 1) := by decide +kernel
theorem dX8_count_86 : decode cX8_count 86 = .ok (.getfield 17, 3) := by decide +kernel
theorem dX8_count_89 : decode cX8_count 89 = .ok (.iload_n 3, 1) := by decide +kernel
theorem dX8_count_90 : decode cX8_count 90 = .ok (.iaload, 1) := by decide +kernel
theorem dX8_count_91 : decode cX8_count 91 = .ok (.iadd, 1) := by decide +kernel
theorem dX8_count_92 : decode cX8_count 92 = .ok (.istore_n 2, 1) := by decide +kernel
theorem dX8_count_93 : decode cX8_count 93 = .ok (.iinc 3 1, 3) := by decide +kernel
theorem dX8_count_96 : decode cX8_count 96 = .ok (.goto (-40), 3) := by decide +kernel
theorem dX8_count_99 : decode cX8_count 99 = .ok (.iload_n 2, 1) := by decide +kernel
theorem dX8_count_100 : decode cX8_count 100 = .ok (.ireturn, 1) := by decide +kernel
theorem dX8_count_101 : decode cX8_count 101 = .ok (.iconst 0, 1) := by decide +kernel
theorem dX8_count_102 : decode cX8_count 102 = .ok (.istore_n 3, 1) := by decide +kernel
theorem dX8_count_103 : decode cX8_count 103 = .ok (.iload_n 3, 1) := by decide +kernel
theorem dX8_count_104 : decode cX8_count 104 = .ok (.bipush 100, 2) := by decide +kernel
theorem dX8_count_106 : decode cX8_count 106 = .ok (.if_icmp .ge 18, 3) := by decide +kernel
theorem dX8_count_109 : decode cX8_count 109 = .ok (.iload_n 2, 1) := by decide +kernel
theorem dX8_count_110 : decode cX8_count 110 = .ok (.aload_n 0, 1) := by decide +kernel
theorem dX8_count_111 : decode cX8_count 111 = .ok (.getfield 24, 3) := by decide +kernel
theorem dX8_count_114 : decode cX8_count 114 = .ok (.iload_n 3, 1) := by decide +kernel
theorem dX8_count_115 : decode cX8_count 115 = .ok (.iaload, 1) := by decide +kernel
theorem dX8_count_116 : decode cX8_count 116 = .ok (.iadd, 1) := by decide +kernel
theorem dX8_count_117 : decode cX8_count 117 = .ok (.istore_n 2, 1) := by decide +kernel
theorem dX8_count_118 : decode cX8_count 118 = .ok (.iinc 3 1, 3) := by decide +kernel
theorem dX8_count_121 : decode cX8_count 121 = .ok (.goto (-18), 3) := by decide +kernel
theorem dX8_count_124 : decode cX8_count 124 = .ok (.iload_n 2, 1) := by decide +kernel
theorem dX8_count_125 : decode cX8_count 125 = .ok (.ireturn, 1) := by decide +kernel
theorem dX8_count_126 : decode cX8_count 126 = .ok (.iconst 0, 1) := by decide +kernel
theorem dX8_count_127 : decode cX8_count 127 = .ok (.istore_n 3, 1) := by decide +kernel
theorem dX8_count_128 : decode cX8_count 128 = .ok (.iload_n 3, 1) := by decide +kernel
theorem dX8_count_129 : decode cX8_count 129 = .ok (.aload_n 0, 1) := by decide +kernel
theorem dX8_count_130 : decode cX8_count 130 = .ok (.getfield 7, 3) := by decide +kernel
theorem dX8_count_133 : decode cX8_count 133 = .ok (.if_icmp .ge 27, 3) := by decide +kernel
theorem dX8_count_136 : decode cX8_count 136 = .ok (.iload_n 2, 1) := by decide +kernel
theorem dX8_count_137 : decode cX8_count 137 = .ok (.aload_n 0, 1) := by decide +kernel
theorem dX8_count_138 : decode cX8_count 138 = .ok (.getfield 36, 3) := by decide +kernel
theorem dX8_count_141 : decode cX8_count 141 = .ok (.iload_n 3, 1) := by decide +kernel
theorem dX8_count_142 : decode cX8_count 142 = .ok (.iaload, 1) := by decide +kernel
theorem dX8_count_143 : decode cX8_count 143 = .ok (.iconst (-1), 1) := by decide +kernel
theorem dX8_count_144 : decode cX8_count 144 = .ok (.if_icmp .ne 7, 3) := by decide +kernel
theorem dX8_count_147 : decode cX8_count 147 = .ok (.iconst 0, 1) := by decide +kernel
theorem dX8_count_148 : decode cX8_count 148 = .ok (.goto 4, 3) := by decide +kernel
theorem dX8_count_151 : decode cX8_count 151 = .ok (.iconst 1, 1) := by decide +kernel
theorem dX8_count_152 : decode cX8_count 152 = .ok (.iadd, 1) := by decide +kernel
theorem dX8_count_153 : decode cX8_count 153 = .ok (.istore_n 2, 1) := by decide +kernel
theorem dX8_count_154 : decode cX8_count 154 = .ok (.iinc 3 1, 3) := by decide +kernel
theorem dX8_count_157 : decode cX8_count 157 = .ok (.goto (-29), 3) := by decide +kernel
theorem dX8_count_160 : decode cX8_count 160 = .ok (.iload_n 2, 1) := by decide +kernel
theorem dX8_count_161 : decode cX8_count 161 = .ok (.ireturn, 1) := by decide +kernel
theorem dX8_count_162 : decode cX8_count 162 = .ok (.aload_n 0, 1) := by decide +kernel
theorem dX8_count_163 : decode cX8_count 163 = .ok (.getfield 83, 3) := by decide +kernel
theorem dX8_count_166 : decode cX8_count 166 = .ok (.ifCond .eq 7, 3) := by decide +kernel
theorem dX8_count_169 : decode cX8_count 169 = .ok (.iconst 1, 1) := by decide +kernel
theorem dX8_count_170 : decode cX8_count 170 = .ok (.goto 4, 3) := by decide +kernel
theorem dX8_count_173 : decode cX8_count 173 = .ok (.iconst 0, 1) := by decide +kernel
theorem dX8_count_174 : decode cX8_count 174 = .ok (.ireturn, 1) := by decide +kernel
theorem dX8_count_175 : decode cX8_count 175 = .ok (.bipush (-2), 2) := by decide +kernel
theorem dX8_count_177 : decode cX8_count 177 = .ok (.ireturn, 1) := by decide +kernel
theorem dX8_digest_0 : decode cX8_digest 0 = .ok (.ldc2_w 166, 3) := by decide +kernel
theorem dX8_digest_3 : decode cX8_digest 3 = .ok (.lstore_n 1, 1) := by decide +kernel
theorem dX8_digest_4 : decode cX8_digest 4 = .ok (.iconst 0, 1) := by decide +kernel
theorem dX8_digest_5 : decode cX8_digest 5 = .ok (.istore_n 3, 1) := by decide +kernel
theorem dX8_digest_6 : decode cX8_digest 6 = .ok (.iload_n 3, 1) := by decide +kernel
theorem dX8_digest_7 : decode cX8_digest 7 = .ok (.bipush 7, 2) := by decide +kernel
theorem dX8_digest_9 : decode cX8_digest 9 = .ok (.if_icmp .ge 22, 3) := by decide +kernel
theorem dX8_digest_12 : decode cX8_digest 12 = .ok (.ldc2_w 168, 3) := by decide +kernel
theorem dX8_digest_15 : decode cX8_digest 15 = .ok (.lload_n 1, 1) := by decide +kernel
theorem dX8_digest_16 : decode cX8_digest 16 = .ok (.lmul, 1) := by decide +kernel
theorem dX8_digest_17 : decode cX8_digest 17 = .ok (.aload_n 0, 1) := by decide +kernel
theorem dX8_digest_18 : decode cX8_digest 18 = .ok (.iload_n 3, 1) := by decide +kernel
theorem dX8_digest_19 : decode cX8_digest 19 = .ok (.invokevirtual 170, 3) := by decide +kernel
theorem dX8_digest_22 : decode cX8_digest 22 = .ok (.i2l, 1) := by decide +kernel
theorem dX8_digest_23 : decode cX8_digest 23 = .ok (.ladd, 1) := by decide +kernel
theorem dX8_digest_24 : decode cX8_digest 24 = .ok (.lstore_n 1, 1) := by decide +kernel
theorem dX8_digest_25 : decode cX8_digest 25 = .ok (.iinc 3 1, 3) := by decide +kernel
theorem dX8_digest_28 : decode cX8_digest 28 = .ok (.goto (-22), 3) := by decide +kernel
theorem dX8_digest_31 : decode cX8_digest 31 = .ok (.iconst 0, 1) := by decide +kernel
theorem dX8_digest_32 : decode cX8_digest 32 = .ok (.istore_n 3, 1) := by decide +kernel
theorem dX8_digest_33 : decode cX8_digest 33 = .ok (.iload_n 3, 1) := by decide +kernel
theorem dX8_digest_34 : decode cX8_digest 34 = .ok (.aload_n 0, 1) := by decide +kernel
theorem dX8_digest_35 : decode cX8_digest 35 = .ok (.getfield 7, 3) := by decide +kernel
theorem dX8_digest_38 : decode cX8_digest 38 = .ok (.if_icmp .ge 47, 3) := by decide +kernel
theorem dX8_digest_41 : decode cX8_digest 41 = .ok (.iconst 0, 1) := by decide +kernel
theorem dX8_digest_42 : decode cX8_digest 42 = .ok (.istore 4, 2) := by decide +kernel
theorem dX8_digest_44 : decode cX8_digest 44 = .ok (.iload 4, 2) := by decide +kernel
theorem dX8_digest_46 : decode cX8_digest 46 = .ok (.aload_n 0, 1) := by decide +kernel
theorem dX8_digest_47 : decode cX8_digest 47 = .ok (.getfield 7, 3) := by decide +kernel
theorem dX8_digest_50 : decode cX8_digest 50 = .ok (.if_icmp .ge 29, 3) := by decide +kernel
theorem dX8_digest_53 : decode cX8_digest 53 = .ok (.ldc2_w 168, 3) := by decide +kernel
theorem dX8_digest_56 : decode cX8_digest 56 = .ok (.lload_n 1, 1) := by decide +kernel
theorem dX8_digest_57 : decode cX8_digest 57 = .ok (.lmul, 1) := by decide +kernel
theorem dX8_digest_58 : decode cX8_digest 58 = .ok (.aload_n 0, 1) := by decide +kernel
theorem dX8_digest_59 : decode cX8_digest 59 = .ok (.getfield 24, 3) := by decide +kernel
theorem dX8_digest_62 : decode cX8_digest 62 = .ok (.bipush 10, 2) := by decide +kernel
theorem dX8_digest_64 : decode cX8_digest 64 = .ok (.iload_n 3, 1) := by decide +kernel
theorem dX8_digest_65 : decode cX8_digest 65 = .ok (.imul, 1) := by decide +kernel
theorem dX8_digest_66 : decode cX8_digest 66 = .ok (.iload 4, 2) := by decide +kernel
theorem dX8_digest_68 : decode cX8_digest 68 = .ok (.iadd, 1) := by decide +kernel
theorem dX8_digest_69 : decode cX8_digest 69 = .ok (.iaload, 1) := by decide +kernel
theorem dX8_digest_70 : decode cX8_digest 70 = .ok (.i2l, 1) := by decide +kernel
theorem dX8_digest_71 : decode cX8_digest 71 = .ok (.ladd, 1) := by decide +kernel
theorem dX8_digest_72 : decode cX8_digest 72 = .ok (.lstore_n 1, 1) := by decide +kernel
theorem dX8_digest_73 : decode cX8_digest 73 = .ok (.iinc 4 1, 3) := by decide +kernel
theorem dX8_digest_76 : decode cX8_digest 76 = .ok (.goto (-32), 3) := by decide +kernel
theorem dX8_digest_79 : decode cX8_digest 79 = .ok (.iinc 3 1, 3) := by decide +kernel
theorem dX8_digest_82 : decode cX8_digest 82 = .ok (.goto (-49), 3) := by decide +kernel
theorem dX8_digest_85 : decode cX8_digest 85 = .ok (.iconst 0, 1) := by decide +kernel
theorem dX8_digest_86 : decode cX8_digest 86 = .ok (.istore_n 3, 1) := by decide +kernel
theorem dX8_digest_87 : decode cX8_digest 87 = .ok (.iload_n 3, 1) := by decide +kernel
theorem dX8_digest_88 : decode cX8_digest 88 = .ok (.aload_n 0, 1) := by decide +kernel
theorem dX8_digest_89 : decode cX8_digest 89 = .ok (.getfield 80, 3) := by decide +kernel
theorem dX8_digest_92 : decode cX8_digest 92 = .ok (.if_icmp .ge 42, 3) := by decide +kernel
theorem dX8_digest_95 : decode cX8_digest 95 = .ok (.iconst 0, 1) := by decide +kernel
theorem dX8_digest_96 : decode cX8_digest 96 = .ok (.istore 4, 2) := by decide +kernel
theorem dX8_digest_98 : decode cX8_digest 98 = .ok (.iload 4, 2) := by decide +kernel
theorem dX8_digest_100 : decode cX8_digest 100 = .ok (.aload_n 0, 1) := by decide +kernel
theorem dX8_digest_101 : decode cX8_digest 101 = .ok (.getfield 80, 3) := by decide +kernel
theorem dX8_digest_104 : decode cX8_digest 104 = .ok (.if_icmp .ge 24, 3) := by decide +kernel
theorem dX8_digest_107 : decode cX8_digest 107 = .ok (.ldc2_w 168, 3) := by decide +kernel
theorem dX8_digest_110 : decode cX8_digest 110 = .ok (.lload_n 1, 1) := by decide +kernel
theorem dX8_digest_111 : decode cX8_digest 111 = .ok (.lmul, 1) := by decide +kernel
theorem dX8_digest_112 : decode cX8_digest 112 = .ok (.aload_n 0, 1) := by decide +kernel
theorem dX8_digest_113 : decode cX8_digest 113 = .ok (.iload_n 3, 1) := by decide +kernel
theorem dX8_digest_114 : decode cX8_digest 114 = .ok (.iload 4, 2) := by decide +kernel
theorem dX8_digest_116 : decode cX8_digest 116 = .ok (.invokevirtual 107, 3) := by decide +kernel
theorem dX8_digest_119 : decode cX8_digest 119 = .ok (.i2l, 1) := by decide +kernel
theorem dX8_digest_120 : decode cX8_digest 120 = .ok (.ladd, 1) := by decide +kernel
theorem dX8_digest_121 : decode cX8_digest 121 = .ok (.lstore_n 1, 1) := by decide +kernel
theorem dX8_digest_122 : decode cX8_digest 122 = .ok (.iinc 4 1, 3) := by decide +kernel
theorem dX8_digest_125 : decode cX8_digest 125 = .ok (.goto (-27), 3) := by decide +kernel
theorem dX8_digest_128 : decode cX8_digest 128 = .ok (.iinc 3 1, 3) := by decide +kernel
theorem dX8_digest_131 : decode cX8_digest 131 = .ok (.goto (-44), 3) := by decide +kernel
theorem dX8_digest_134 : decode cX8_digest 134 = .ok (.iconst 0, 1) := by decide +kernel
theorem dX8_digest_135 : decode cX8_digest 135 = .ok (.istore_n 3, 1) := by decide +kernel
theorem dX8_digest_136 : decode cX8_digest 136 = .ok (.iload_n 3, 1) := by decide +kernel
theorem dX8_digest_137 : decode cX8_digest 137 = .ok (.aload_n 0, 1) := by decide +kernel
theorem dX8_digest_138 : decode cX8_digest 138 = .ok (.getfield 7, 3) := by decide +kernel
theorem dX8_digest_141 : decode cX8_digest 141 = .ok (.if_icmp .ge 30, 3) := by decide +kernel
theorem dX8_digest_144 : decode cX8_digest 144 = .ok (.aload_n 0, 1) := by decide +kernel
theorem dX8_digest_145 : decode cX8_digest 145 = .ok (.getfield 83, 3) := by decide +kernel
theorem dX8_digest_148 : decode cX8_digest 148 = .ok (.ifCond .eq 23, 3) := by decide +kernel
theorem dX8_digest_151 : decode cX8_digest 151 = .ok (.ldc2_w 168, 3) := by decide +kernel
theorem dX8_digest_154 : decode cX8_digest 154 = .ok (.lload_n 1, 1) := by decide +kernel
theorem dX8_digest_155 : decode cX8_digest 155 = .ok (.lmul, 1) := by decide +kernel
theorem dX8_digest_156 : decode cX8_digest 156 = .ok (.aload_n 0, 1) := by decide +kernel
theorem dX8_digest_157 : decode cX8_digest 157 = .ok (.getfield 39, 3) := by decide +kernel
theorem dX8_digest_160 : decode cX8_digest 160 = .ok (.iload_n 3, 1) := by decide +kernel
theorem dX8_digest_161 : decode cX8_digest 161 = .ok (.iaload, 1) := by decide +kernel
theorem dX8_digest_162 : decode cX8_digest 162 = .ok (.i2l, 1) := by decide +kernel
theorem dX8_digest_163 : decode cX8_digest 163 = .ok (.ladd, 1) := by decide +kernel
theorem dX8_digest_164 : decode cX8_digest 164 = .ok (.lstore_n 1, 1) := by decide +kernel
theorem dX8_digest_165 : decode cX8_digest 165 = .ok (.iinc 3 1, 3) := by decide +kernel
theorem dX8_digest_168 : decode cX8_digest 168 = .ok (.goto (-32), 3) := by decide +kernel
theorem dX8_digest_171 : decode cX8_digest 171 = .ok (.ldc2_w 168, 3) := by decide +kernel
theorem dX8_digest_174 : decode cX8_digest 174 = .ok (.lload_n 1, 1) := by decide +kernel
theorem dX8_digest_175 : decode cX8_digest 175 = .ok (.lmul, 1) := by decide +kernel
theorem dX8_digest_176 : decode cX8_digest 176 = .ok (.aload_n 0, 1) := by decide +kernel
theorem dX8_digest_177 : decode cX8_digest 177 = .ok (.invokevirtual 173, 3) := by decide +kernel
theorem dX8_digest_180 : decode cX8_digest 180 = .ok (.ladd, 1) := by decide +kernel
theorem dX8_digest_181 : decode cX8_digest 181 = .ok (.lreturn, 1) := by decide +kernel
