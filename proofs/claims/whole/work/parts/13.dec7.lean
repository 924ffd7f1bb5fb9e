theorem dX7_init_0 : decode cX7_init 0 = .ok (.aload_n 0, 1) := by decide +kernel
theorem dX7_init_1 : decode cX7_init 1 = .ok (.invokespecial 1, 3) := by decide +kernel
theorem dX7_init_4 : decode cX7_init 4 = .ok (.aload_n 0, 1) := by decide +kernel
theorem dX7_init_5 : decode cX7_init 5 = .ok (.new 7, 3) := by decide +kernel
theorem dX7_init_8 : decode cX7_init 8 = .ok (.dup, 1) := by decide +kernel
theorem dX7_init_9 : decode cX7_init 9 = .ok (.invokespecial 9, 3) := by decide +kernel
theorem dX7_init_12 : decode cX7_init 12 = .ok (.putfield 10, 3) := by decide +kernel
theorem dX7_init_15 : decode cX7_init 15 = .ok (.aload_n 0, 1) := by decide +kernel
theorem dX7_init_16 : decode cX7_init 16 = .ok (.new 16, 3) := by decide +kernel
theorem dX7_init_19 : decode cX7_init 19 = .ok (.dup, 1) := by decide +kernel
theorem dX7_init_20 : decode cX7_init 20 = .ok (.invokespecial 18, 3) := by decide +kernel
theorem dX7_init_23 : decode cX7_init 23 = .ok (.putfield 19, 3) := by decide +kernel
theorem dX7_init_26 : decode cX7_init 26 = .ok (.aload_n 0, 1) := by decide +kernel
theorem dX7_init_27 : decode cX7_init 27 = .ok (.new 23, 3) := by decide +kernel
theorem dX7_init_30 : decode cX7_init 30 = .ok (.dup, 1) := by decide +kernel
theorem dX7_init_31 : decode cX7_init 31 = .ok (.invokespecial 25, 3) := by decide +kernel
theorem dX7_init_34 : decode cX7_init 34 = .ok (.putfield 26, 3) := by decide +kernel
theorem dX7_init_37 : decode cX7_init 37 = .ok (.aload_n 0, 1) := by decide +kernel
theorem dX7_init_38 : decode cX7_init 38 = .ok (.new 30, 3) := by decide +kernel
theorem dX7_init_41 : decode cX7_init 41 = .ok (.dup, 1) := by decide +kernel
theorem dX7_init_42 : decode cX7_init 42 = .ok (.aload_n 0, 1) := by decide +kernel
theorem dX7_init_43 : decode cX7_init 43 = .ok (.getfield 10, 3) := by decide +kernel
theorem dX7_init_46 : decode cX7_init 46 = .ok (.aload_n 0, 1) := by decide +kernel
theorem dX7_init_47 : decode cX7_init 47 = .ok (.getfield 26, 3) := by decide +kernel
theorem dX7_init_50 : decode cX7_init 50 = .ok (.aload_n 0, 1) := by decide +kernel
theorem dX7_init_51 : decode cX7_init 51 = .ok (.getfield 19, 3) := by decide +kernel
theorem dX7_init_54 : decode cX7_init 54 = .ok (.getfield 32, 3) := by decide +kernel
theorem dX7_init_57 : decode cX7_init 57 = .ok (.invokespecial 36, 3) := by decide +kernel
theorem dX7_init_60 : decode cX7_init 60 = .ok (.putfield 39, 3) := by decide +kernel
theorem dX7_init_63 : decode cX7_init 63 = .ok (.aload_n 0, 1) := by decide +kernel
theorem dX7_init_64 : decode cX7_init 64 = .ok (.new 43, 3) := by decide +kernel
theorem dX7_init_67 : decode cX7_init 67 = .ok (.dup, 1) := by decide +kernel
theorem dX7_init_68 : decode cX7_init 68 = .ok (.aload_n 0, 1) := by decide +kernel
theorem dX7_init_69 : decode cX7_init 69 = .ok (.getfield 10, 3) := by decide +kernel
theorem dX7_init_72 : decode cX7_init 72 = .ok (.aload_n 0, 1) := by decide +kernel
theorem dX7_init_73 : decode cX7_init 73 = .ok (.getfield 26, 3) := by decide +kernel
theorem dX7_init_76 : decode cX7_init 76 = .ok (.aload_n 0, 1) := by decide +kernel
theorem dX7_init_77 : decode cX7_init 77 = .ok (.getfield 19, 3) := by decide +kernel
theorem dX7_init_80 : decode cX7_init 80 = .ok (.getfield 32, 3) := by decide +kernel
theorem dX7_init_83 : decode cX7_init 83 = .ok (.invokespecial 45, 3) := by decide +kernel
theorem dX7_init_86 : decode cX7_init 86 = .ok (.putfield 46, 3) := by decide +kernel
theorem dX7_init_89 : decode cX7_init 89 = .ok (.aload_n 0, 1) := by decide +kernel
theorem dX7_init_90 : decode cX7_init 90 = .ok (.new 50, 3) := by decide +kernel
theorem dX7_init_93 : decode cX7_init 93 = .ok (.dup, 1) := by decide +kernel
theorem dX7_init_94 : decode cX7_init 94 = .ok (.aload_n 0, 1) := by decide +kernel
theorem dX7_init_95 : decode cX7_init 95 = .ok (.getfield 10, 3) := by decide +kernel
theorem dX7_init_98 : decode cX7_init 98 = .ok (.aload_n 0, 1) := by decide +kernel
theorem dX7_init_99 : decode cX7_init 99 = .ok (.getfield 26, 3) := by decide +kernel
theorem dX7_init_102 : decode cX7_init 102 = .ok (.aload_n 0, 1) := by decide +kernel
theorem dX7_init_103 : decode cX7_init 103 = .ok (.getfield 19, 3) := by decide +kernel
theorem dX7_init_106 : decode cX7_init 106 = .ok (.getfield 32, 3) := by decide +kernel
theorem dX7_init_109 : decode cX7_init 109 = .ok (.invokespecial 52, 3) := by decide +kernel
theorem dX7_init_112 : decode cX7_init 112 = .ok (.putfield 53, 3) := by decide +kernel
theorem dX7_init_115 : decode cX7_init 115 = .ok (.aload_n 0, 1) := by decide +kernel
theorem dX7_init_116 : decode cX7_init 116 = .ok (.new 57, 3) := by decide +kernel
theorem dX7_init_119 : decode cX7_init 119 = .ok (.dup, 1) := by decide +kernel
theorem dX7_init_120 : decode cX7_init 120 = .ok (.aload_n 0, 1) := by decide +kernel
theorem dX7_init_121 : decode cX7_init 121 = .ok (.getfield 26, 3) := by decide +kernel
theorem dX7_init_124 : decode cX7_init 124 = .ok (.invokespecial 59, 3) := by decide +kernel
theorem dX7_init_127 : decode cX7_init 127 = .ok (.putfield 62, 3) := by decide +kernel
theorem dX7_init_130 : decode cX7_init 130 = .ok (.return_, 1) := by decide +kernel
theorem dX7_letters_0 : decode cX7_letters 0 = .ok (.iload_n 1, 1) := by decide +kernel
theorem dX7_letters_1 : decode cX7_letters 1 = .ok (.iconst 1, 1) := by decide +kernel
theorem dX7_letters_2 : decode cX7_letters 2 = .ok (.if_icmp .lt 9, 3) := by decide +kernel
theorem dX7_letters_5 : decode cX7_letters 5 = .ok (.iload_n 1, 1) := by decide +kernel
theorem dX7_letters_6 : decode cX7_letters 6 = .ok (.bipush 10, 2) := by decide +kernel
theorem dX7_letters_8 : decode cX7_letters 8 = .ok (.if_icmp .le 6, 3) := by decide +kernel
theorem dX7_letters_11 : decode cX7_letters 11 = .ok (.bipush (-2), 2) := by decide +kernel
theorem dX7_letters_13 : decode cX7_letters 13 = .ok (.ireturn, 1) := by decide +kernel
theorem dX7_letters_14 : decode cX7_letters 14 = .ok (.aload_n 0, 1) := by decide +kernel
theorem dX7_letters_15 : decode cX7_letters 15 = .ok (.getfield 10, 3) := by decide +kernel
theorem dX7_letters_18 : decode cX7_letters 18 = .ok (.getfield 66, 3) := by decide +kernel
theorem dX7_letters_21 : decode cX7_letters 21 = .ok (.istore_n 2, 1) := by decide +kernel
theorem dX7_letters_22 : decode cX7_letters 22 = .ok (.aload_n 0, 1) := by decide +kernel
theorem dX7_letters_23 : decode cX7_letters 23 = .ok (.getfield 10, 3) := by decide +kernel
theorem dX7_letters_26 : decode cX7_letters 26 = .ok (.iload_n 1, 1) := by decide +kernel
theorem dX7_letters_27 : decode cX7_letters 27 = .ok (.invokevirtual 70, 3) := by decide +kernel
theorem dX7_letters_30 : decode cX7_letters 30 = .ok (.aload_n 0, 1) := by decide +kernel
theorem dX7_letters_31 : decode cX7_letters 31 = .ok (.getfield 39, 3) := by decide +kernel
theorem dX7_letters_34 : decode cX7_letters 34 = .ok (.iconst 0, 1) := by decide +kernel
theorem dX7_letters_35 : decode cX7_letters 35 = .ok (.putfield 74, 3) := by decide +kernel
theorem dX7_letters_38 : decode cX7_letters 38 = .ok (.aload_n 0, 1) := by decide +kernel
theorem dX7_letters_39 : decode cX7_letters 39 = .ok (.getfield 46, 3) := by decide +kernel
theorem dX7_letters_42 : decode cX7_letters 42 = .ok (.invokevirtual 78, 3) := by decide +kernel
theorem dX7_letters_45 : decode cX7_letters 45 = .ok (.iload_n 2, 1) := by decide +kernel
theorem dX7_letters_46 : decode cX7_letters 46 = .ok (.ireturn, 1) := by decide +kernel
theorem dX7_feed_0 : decode cX7_feed 0 = .ok (.iload_n 1, 1) := by decide +kernel
theorem dX7_feed_1 : decode cX7_feed 1 = .ok (.invokestatic 81, 3) := by decide +kernel
theorem dX7_feed_4 : decode cX7_feed 4 = .ok (.ifCond .eq 16, 3) := by decide +kernel
theorem dX7_feed_7 : decode cX7_feed 7 = .ok (.iload 4, 2) := by decide +kernel
theorem dX7_feed_9 : decode cX7_feed 9 = .ok (.iconst 1, 1) := by decide +kernel
theorem dX7_feed_10 : decode cX7_feed 10 = .ok (.if_icmp .lt 10, 3) := by decide +kernel
theorem dX7_feed_13 : decode cX7_feed 13 = .ok (.iload 4, 2) := by decide +kernel
theorem dX7_feed_15 : decode cX7_feed 15 = .ok (.bipush 8, 2) := by decide +kernel
theorem dX7_feed_17 : decode cX7_feed 17 = .ok (.if_icmp .le 6, 3) := by decide +kernel
theorem dX7_feed_20 : decode cX7_feed 20 = .ok (.bipush (-2), 2) := by decide +kernel
theorem dX7_feed_22 : decode cX7_feed 22 = .ok (.ireturn, 1) := by decide +kernel
theorem dX7_feed_23 : decode cX7_feed 23 = .ok (.aload_n 0, 1) := by decide +kernel
theorem dX7_feed_24 : decode cX7_feed 24 = .ok (.getfield 19, 3) := by decide +kernel
theorem dX7_feed_27 : decode cX7_feed 27 = .ok (.getfield 85, 3) := by decide +kernel
theorem dX7_feed_30 : decode cX7_feed 30 = .ok (.iload_n 1, 1) := by decide +kernel
theorem dX7_feed_31 : decode cX7_feed 31 = .ok (.iaload, 1) := by decide +kernel
theorem dX7_feed_32 : decode cX7_feed 32 = .ok (.iload 4, 2) := by decide +kernel
theorem dX7_feed_34 : decode cX7_feed 34 = .ok (.iadd, 1) := by decide +kernel
theorem dX7_feed_35 : decode cX7_feed 35 = .ok (.sipush 300, 3) := by decide +kernel
theorem dX7_feed_38 : decode cX7_feed 38 = .ok (.if_icmp .le 6, 3) := by decide +kernel
theorem dX7_feed_41 : decode cX7_feed 41 = .ok (.bipush (-4), 2) := by decide +kernel
theorem dX7_feed_43 : decode cX7_feed 43 = .ok (.ireturn, 1) := by decide +kernel
theorem dX7_feed_44 : decode cX7_feed 44 = .ok (.aload_n 0, 1) := by decide +kernel
theorem dX7_feed_45 : decode cX7_feed 45 = .ok (.getfield 46, 3) := by decide +kernel
theorem dX7_feed_48 : decode cX7_feed 48 = .ok (.invokevirtual 78, 3) := by decide +kernel
theorem dX7_feed_51 : decode cX7_feed 51 = .ok (.aload_n 0, 1) := by decide +kernel
theorem dX7_feed_52 : decode cX7_feed 52 = .ok (.getfield 19, 3) := by decide +kernel
theorem dX7_feed_55 : decode cX7_feed 55 = .ok (.iload_n 1, 1) := by decide +kernel
theorem dX7_feed_56 : decode cX7_feed 56 = .ok (.lload_n 2, 1) := by decide +kernel
theorem dX7_feed_57 : decode cX7_feed 57 = .ok (.iload 4, 2) := by decide +kernel
theorem dX7_feed_59 : decode cX7_feed 59 = .ok (.invokevirtual 89, 3) := by decide +kernel
theorem dX7_feed_62 : decode cX7_feed 62 = .ok (.aload_n 0, 1) := by decide +kernel
theorem dX7_feed_63 : decode cX7_feed 63 = .ok (.getfield 19, 3) := by decide +kernel
theorem dX7_feed_66 : decode cX7_feed 66 = .ok (.getfield 85, 3) := by decide +kernel
theorem dX7_feed_69 : decode cX7_feed 69 = .ok (.iload_n 1, 1) := by decide +kernel
theorem dX7_feed_70 : decode cX7_feed 70 = .ok (.iaload, 1) := by decide +kernel
theorem dX7_feed_71 : decode cX7_feed 71 = .ok (.ireturn, 1) := by decide +kernel
theorem dX7_tear_0 : decode cX7_tear 0 = .ok (.iload_n 1, 1) := by decide +kernel
theorem dX7_tear_1 : decode cX7_tear 1 = .ok (.invokestatic 81, 3) := by decide +kernel
theorem dX7_tear_4 : decode cX7_tear 4 = .ok (.ifCond .ne 6, 3) := by decide +kernel
theorem dX7_tear_7 : decode cX7_tear 7 = .ok (.bipush (-2), 2) := by decide +kernel
theorem dX7_tear_9 : decode cX7_tear 9 = .ok (.ireturn, 1) := by decide +kernel
theorem dX7_tear_10 : decode cX7_tear 10 = .ok (.aload_n 0, 1) := by decide +kernel
theorem dX7_tear_11 : decode cX7_tear 11 = .ok (.getfield 19, 3) := by decide +kernel
theorem dX7_tear_14 : decode cX7_tear 14 = .ok (.getfield 85, 3) := by decide +kernel
theorem dX7_tear_17 : decode cX7_tear 17 = .ok (.iload_n 1, 1) := by decide +kernel
theorem dX7_tear_18 : decode cX7_tear 18 = .ok (.iaload, 1) := by decide +kernel
theorem dX7_tear_19 : decode cX7_tear 19 = .ok (.istore_n 2, 1) := by decide +kernel
theorem dX7_tear_20 : decode cX7_tear 20 = .ok (.iload_n 2, 1) := by decide +kernel
theorem dX7_tear_21 : decode cX7_tear 21 = .ok (.ifCond .ne 6, 3) := by decide +kernel
theorem dX7_tear_24 : decode cX7_tear 24 = .ok (.bipush (-3), 2) := by decide +kernel
theorem dX7_tear_26 : decode cX7_tear 26 = .ok (.ireturn, 1) := by decide +kernel
theorem dX7_tear_27 : decode cX7_tear 27 = .ok (.aload_n 0, 1) := by decide +kernel
theorem dX7_tear_28 : decode cX7_tear 28 = .ok (.getfield 46, 3) := by decide +kernel
theorem dX7_tear_31 : decode cX7_tear 31 = .ok (.invokevirtual 78, 3) := by decide +kernel
theorem dX7_tear_34 : decode cX7_tear 34 = .ok (.aload_n 0, 1) := by decide +kernel
theorem dX7_tear_35 : decode cX7_tear 35 = .ok (.getfield 19, 3) := by decide +kernel
theorem dX7_tear_38 : decode cX7_tear 38 = .ok (.iload_n 1, 1) := by decide +kernel
theorem dX7_tear_39 : decode cX7_tear 39 = .ok (.invokevirtual 93, 3) := by decide +kernel
theorem dX7_tear_42 : decode cX7_tear 42 = .ok (.iload_n 2, 1) := by decide +kernel
theorem dX7_tear_43 : decode cX7_tear 43 = .ok (.ireturn, 1) := by decide +kernel
theorem dX7_often_0 : decode cX7_often 0 = .ok (.aload_n 0, 1) := by decide +kernel
theorem dX7_often_1 : decode cX7_often 1 = .ok (.getfield 10, 3) := by decide +kernel
theorem dX7_often_4 : decode cX7_often 4 = .ok (.iload_n 1, 1) := by decide +kernel
theorem dX7_often_5 : decode cX7_often 5 = .ok (.invokevirtual 96, 3) := by decide +kernel
theorem dX7_often_8 : decode cX7_often 8 = .ok (.ifCond .eq 14, 3) := by decide +kernel
theorem dX7_often_11 : decode cX7_often 11 = .ok (.aload_n 0, 1) := by decide +kernel
theorem dX7_often_12 : decode cX7_often 12 = .ok (.getfield 10, 3) := by decide +kernel
theorem dX7_often_15 : decode cX7_often 15 = .ok (.iload_n 2, 1) := by decide +kernel
theorem dX7_often_16 : decode cX7_often 16 = .ok (.invokevirtual 96, 3) := by decide +kernel
theorem dX7_often_19 : decode cX7_often 19 = .ok (.ifCond .ne 6, 3) := by decide +kernel
theorem dX7_often_22 : decode cX7_often 22 = .ok (.bipush (-2), 2) := by decide +kernel
theorem dX7_often_24 : decode cX7_often 24 = .ok (.ireturn, 1) := by decide +kernel
theorem dX7_often_25 : decode cX7_often 25 = .ok (.aload_n 0, 1) := by decide +kernel
theorem dX7_often_26 : decode cX7_often 26 = .ok (.getfield 19, 3) := by decide +kernel
theorem dX7_often_29 : decode cX7_often 29 = .ok (.getfield 32, 3) := by decide +kernel
theorem dX7_often_32 : decode cX7_often 32 = .ok (.iload_n 1, 1) := by decide +kernel
theorem dX7_often_33 : decode cX7_often 33 = .ok (.aaload, 1) := by decide +kernel
theorem dX7_often_34 : decode cX7_often 34 = .ok (.iload_n 2, 1) := by decide +kernel
theorem dX7_often_35 : decode cX7_often 35 = .ok (.iaload, 1) := by decide +kernel
theorem dX7_often_36 : decode cX7_often 36 = .ok (.ireturn, 1) := by decide +kernel
theorem dX7_key_0 : decode cX7_key 0 = .ok (.iload_n 1, 1) := by decide +kernel
theorem dX7_key_1 : decode cX7_key 1 = .ok (.ifCond .lt 19, 3) := by decide +kernel
theorem dX7_key_4 : decode cX7_key 4 = .ok (.iload_n 1, 1) := by decide +kernel
theorem dX7_key_5 : decode cX7_key 5 = .ok (.iconst 3, 1) := by decide +kernel
theorem dX7_key_6 : decode cX7_key 6 = .ok (.if_icmp .gt 14, 3) := by decide +kernel
theorem dX7_key_9 : decode cX7_key 9 = .ok (.iload_n 2, 1) := by decide +kernel
theorem dX7_key_10 : decode cX7_key 10 = .ok (.ifCond .lt 10, 3) := by decide +kernel
theorem dX7_key_13 : decode cX7_key 13 = .ok (.iload_n 2, 1) := by decide +kernel
theorem dX7_key_14 : decode cX7_key 14 = .ok (.sipush 1000, 3) := by decide +kernel
theorem dX7_key_17 : decode cX7_key 17 = .ok (.if_icmp .le 6, 3) := by decide +kernel
theorem dX7_key_20 : decode cX7_key 20 = .ok (.bipush (-2), 2) := by decide +kernel
theorem dX7_key_22 : decode cX7_key 22 = .ok (.ireturn, 1) := by decide +kernel
theorem dX7_key_23 : decode cX7_key 23 = .ok (.aload_n 0, 1) := by decide +kernel
theorem dX7_key_24 : decode cX7_key 24 = .ok (.getfield 26, 3) := by decide +kernel
theorem dX7_key_27 : decode cX7_key 27 = .ok (.getfield 99, 3) := by decide +kernel
theorem dX7_key_30 : decode cX7_key 30 = .ok (.bipush 12, 2) := by decide +kernel
theorem dX7_key_32 : decode cX7_key 32 = .ok (.if_icmp .lt 6, 3) := by decide +kernel
theorem dX7_key_35 : decode cX7_key 35 = .ok (.bipush (-4), 2) := by decide +kernel
theorem dX7_key_37 : decode cX7_key 37 = .ok (.ireturn, 1) := by decide +kernel
theorem dX7_key_38 : decode cX7_key 38 = .ok (.aload_n 0, 1) := by decide +kernel
theorem dX7_key_39 : decode cX7_key 39 = .ok (.getfield 46, 3) := by decide +kernel
theorem dX7_key_42 : decode cX7_key 42 = .ok (.invokevirtual 78, 3) := by decide +kernel
theorem dX7_key_45 : decode cX7_key 45 = .ok (.aload_n 0, 1) := by decide +kernel
theorem dX7_key_46 : decode cX7_key 46 = .ok (.getfield 26, 3) := by decide +kernel
theorem dX7_key_49 : decode cX7_key 49 = .ok (.iload_n 1, 1) := by decide +kernel
theorem dX7_key_50 : decode cX7_key 50 = .ok (.iload_n 2, 1) := by decide +kernel
theorem dX7_key_51 : decode cX7_key 51 = .ok (.invokevirtual 100, 3) := by decide +kernel
theorem dX7_key_54 : decode cX7_key 54 = .ok (.ireturn, 1) := by decide +kernel
theorem dX7_go_0 : decode cX7_go 0 = .ok (.aload_n 0, 1) := by decide +kernel
theorem dX7_go_1 : decode cX7_go 1 = .ok (.getfield 26, 3) := by decide +kernel
theorem dX7_go_4 : decode cX7_go 4 = .ok (.iload_n 1, 1) := by decide +kernel
theorem dX7_go_5 : decode cX7_go 5 = .ok (.invokevirtual 104, 3) := by decide +kernel
theorem dX7_go_8 : decode cX7_go 8 = .ok (.ifCond .eq 25, 3) := by decide +kernel
theorem dX7_go_11 : decode cX7_go 11 = .ok (.aload_n 0, 1) := by decide +kernel
theorem dX7_go_12 : decode cX7_go 12 = .ok (.getfield 26, 3) := by decide +kernel
theorem dX7_go_15 : decode cX7_go 15 = .ok (.iload_n 2, 1) := by decide +kernel
theorem dX7_go_16 : decode cX7_go 16 = .ok (.invokevirtual 104, 3) := by decide +kernel
theorem dX7_go_19 : decode cX7_go 19 = .ok (.ifCond .eq 14, 3) := by decide +kernel
theorem dX7_go_22 : decode cX7_go 22 = .ok (.iload_n 3, 1) := by decide +kernel
theorem dX7_go_23 : decode cX7_go 23 = .ok (.ifCond .lt 10, 3) := by decide +kernel
theorem dX7_go_26 : decode cX7_go 26 = .ok (.iload_n 3, 1) := by decide +kernel
theorem dX7_go_27 : decode cX7_go 27 = .ok (.sipush 1000, 3) := by decide +kernel
theorem dX7_go_30 : decode cX7_go 30 = .ok (.if_icmp .le 6, 3) := by decide +kernel
theorem dX7_go_33 : decode cX7_go 33 = .ok (.bipush (-2), 2) := by decide +kernel
theorem dX7_go_35 : decode cX7_go 35 = .ok (.ireturn, 1) := by decide +kernel
theorem dX7_go_36 : decode cX7_go 36 = .ok (.aload_n 0, 1) := by decide +kernel
theorem dX7_go_37 : decode cX7_go 37 = .ok (.getfield 46, 3) := by decide +kernel
theorem dX7_go_40 : decode cX7_go 40 = .ok (.invokevirtual 78, 3) := by decide +kernel
theorem dX7_go_43 : decode cX7_go 43 = .ok (.aload_n 0, 1) := by decide +kernel
theorem dX7_go_44 : decode cX7_go 44 = .ok (.getfield 26, 3) := by decide +kernel
theorem dX7_go_47 : decode cX7_go 47 = .ok (.iload_n 1, 1) := by decide +kernel
theorem dX7_go_48 : decode cX7_go 48 = .ok (.iload_n 2, 1) := by decide +kernel
theorem dX7_go_49 : decode cX7_go 49 = .ok (.iload_n 3, 1) := by decide +kernel
theorem dX7_go_50 : decode cX7_go 50 = .ok (.invokevirtual 105, 3) := by decide +kernel
theorem dX7_go_53 : decode cX7_go 53 = .ok (.ireturn, 1) := by decide +kernel
theorem dX7_cost_0 : decode cX7_cost 0 = .ok (.aload_n 0, 1) := by decide +kernel
theorem dX7_cost_1 : decode cX7_cost 1 = .ok (.getfield 26, 3) := by decide +kernel
theorem dX7_cost_4 : decode cX7_cost 4 = .ok (.iload_n 1, 1) := by decide +kernel
theorem dX7_cost_5 : decode cX7_cost 5 = .ok (.invokevirtual 104, 3) := by decide +kernel
theorem dX7_cost_8 : decode cX7_cost 8 = .ok (.ifCond .eq 14, 3) := by decide +kernel
theorem dX7_cost_11 : decode cX7_cost 11 = .ok (.aload_n 0, 1) := by decide +kernel
theorem dX7_cost_12 : decode cX7_cost 12 = .ok (.getfield 26, 3) := by decide +kernel
theorem dX7_cost_15 : decode cX7_cost 15 = .ok (.iload_n 2, 1) := by decide +kernel
theorem dX7_cost_16 : decode cX7_cost 16 = .ok (.invokevirtual 104, 3) := by decide +kernel
theorem dX7_cost_19 : decode cX7_cost 19 = .ok (.ifCond .ne 6, 3) := by decide +kernel
theorem dX7_cost_22 : decode cX7_cost 22 = .ok (.bipush (-2), 2) := by decide +kernel
theorem dX7_cost_24 : decode cX7_cost 24 = .ok (.ireturn, 1) := by decide +kernel
theorem dX7_cost_25 : decode cX7_cost 25 = .ok (.aload_n 0, 1) := by decide +kernel
theorem dX7_cost_26 : decode cX7_cost 26 = .ok (.getfield 26, 3) := by decide +kernel
theorem dX7_cost_29 : decode cX7_cost 29 = .ok (.iload_n 2, 1) := by decide +kernel
theorem dX7_cost_30 : decode cX7_cost 30 = .ok (.invokevirtual 109, 3) := by decide +kernel
theorem dX7_cost_33 : decode cX7_cost 33 = .ok (.aload_n 0, 1) := by decide +kernel
theorem dX7_cost_34 : decode cX7_cost 34 = .ok (.getfield 26, 3) := by decide +kernel
theorem dX7_cost_37 : decode cX7_cost 37 = .ok (.getfield 112, 3) := by decide +kernel
theorem dX7_cost_40 : decode cX7_cost 40 = .ok (.iload_n 1, 1) := by decide +kernel
theorem dX7_cost_41 : decode cX7_cost 41 = .ok (.aaload, 1) := by decide +kernel
theorem dX7_cost_42 : decode cX7_cost 42 = .ok (.iload_n 2, 1) := by decide +kernel
theorem dX7_cost_43 : decode cX7_cost 43 = .ok (.iaload, 1) := by decide +kernel
theorem dX7_cost_44 : decode cX7_cost 44 = .ok (.ireturn, 1) := by decide +kernel
theorem dX7_body_0 : decode cX7_body 0 = .ok (.iload_n 1, 1) := by decide +kernel
theorem dX7_body_1 : decode cX7_body 1 = .ok (.ifCond .lt 14, 3) := by decide +kernel
theorem dX7_body_4 : decode cX7_body 4 = .ok (.iload_n 1, 1) := by decide +kernel
theorem dX7_body_5 : decode cX7_body 5 = .ok (.aload_n 0, 1) := by decide +kernel
theorem dX7_body_6 : decode cX7_body 6 = .ok (.getfield 26, 3) := by decide +kernel
theorem dX7_body_9 : decode cX7_body 9 = .ok (.getfield 115, 3) := by decide +kernel
theorem dX7_body_12 : decode cX7_body 12 = .ok (.if_icmp .lt 5, 3) := by decide +kernel
theorem dX7_body_15 : decode cX7_body 15 = .ok (.iconst (-1), 1) := by decide +kernel
theorem dX7_body_16 : decode cX7_body 16 = .ok (.ireturn, 1) := by decide +kernel
theorem dX7_body_17 : decode cX7_body 17 = .ok (.aload_n 0, 1) := by decide +kernel
theorem dX7_body_18 : decode cX7_body 18 = .ok (.getfield 26, 3) := by decide +kernel
theorem dX7_body_21 : decode cX7_body 21 = .ok (.getfield 118, 3) := by decide +kernel
theorem dX7_body_24 : decode cX7_body 24 = .ok (.iload_n 1, 1) := by decide +kernel
theorem dX7_body_25 : decode cX7_body 25 = .ok (.iaload, 1) := by decide +kernel
theorem dX7_body_26 : decode cX7_body 26 = .ok (.ireturn, 1) := by decide +kernel
theorem dX7_fix_0 : decode cX7_fix 0 = .ok (.aload_n 0, 1) := by decide +kernel
theorem dX7_fix_1 : decode cX7_fix 1 = .ok (.getfield 10, 3) := by decide +kernel
theorem dX7_fix_4 : decode cX7_fix 4 = .ok (.iload_n 1, 1) := by decide +kernel
theorem dX7_fix_5 : decode cX7_fix 5 = .ok (.invokevirtual 96, 3) := by decide +kernel
theorem dX7_fix_8 : decode cX7_fix 8 = .ok (.ifCond .eq 19, 3) := by decide +kernel
theorem dX7_fix_11 : decode cX7_fix 11 = .ok (.iload_n 2, 1) := by decide +kernel
theorem dX7_fix_12 : decode cX7_fix 12 = .ok (.iconst (-1), 1) := by decide +kernel
theorem dX7_fix_13 : decode cX7_fix 13 = .ok (.if_icmp .eq 17, 3) := by decide +kernel
theorem dX7_fix_16 : decode cX7_fix 16 = .ok (.aload_n 0, 1) := by decide +kernel
theorem dX7_fix_17 : decode cX7_fix 17 = .ok (.getfield 26, 3) := by decide +kernel
theorem dX7_fix_20 : decode cX7_fix 20 = .ok (.iload_n 2, 1) := by decide +kernel
theorem dX7_fix_21 : decode cX7_fix 21 = .ok (.invokevirtual 104, 3) := by decide +kernel
theorem dX7_fix_24 : decode cX7_fix 24 = .ok (.ifCond .ne 6, 3) := by decide +kernel
theorem dX7_fix_27 : decode cX7_fix 27 = .ok (.bipush (-2), 2) := by decide +kernel
theorem dX7_fix_29 : decode cX7_fix 29 = .ok (.ireturn, 1) := by decide +kernel
theorem dX7_fix_30 : decode cX7_fix 30 = .ok (.iload_n 2, 1) := by decide +kernel
theorem dX7_fix_31 : decode cX7_fix 31 = .ok (.iconst (-1), 1) := by decide +kernel
theorem dX7_fix_32 : decode cX7_fix 32 = .ok (.if_icmp .eq 18, 3) := by decide +kernel
theorem dX7_fix_35 : decode cX7_fix 35 = .ok (.aload_n 0, 1) := by decide +kernel
theorem dX7_fix_36 : decode cX7_fix 36 = .ok (.getfield 10, 3) := by decide +kernel
theorem dX7_fix_39 : decode cX7_fix 39 = .ok (.iload_n 1, 1) := by decide +kernel
theorem dX7_fix_40 : decode cX7_fix 40 = .ok (.iload_n 2, 1) := by decide +kernel
theorem dX7_fix_41 : decode cX7_fix 41 = .ok (.invokevirtual 121, 3) := by decide +kernel
theorem dX7_fix_44 : decode cX7_fix 44 = .ok (.ifCond .eq 6, 3) := by decide +kernel
theorem dX7_fix_47 : decode cX7_fix 47 = .ok (.bipush (-3), 2) := by decide +kernel
theorem dX7_fix_49 : decode cX7_fix 49 = .ok (.ireturn, 1) := by decide +kernel
theorem dX7_fix_50 : decode cX7_fix 50 = .ok (.aload_n 0, 1) := by decide +kernel
theorem dX7_fix_51 : decode cX7_fix 51 = .ok (.getfield 39, 3) := by decide +kernel
theorem dX7_fix_54 : decode cX7_fix 54 = .ok (.iconst 0, 1) := by decide +kernel
theorem dX7_fix_55 : decode cX7_fix 55 = .ok (.putfield 74, 3) := by decide +kernel
theorem dX7_fix_58 : decode cX7_fix 58 = .ok (.aload_n 0, 1) := by decide +kernel
theorem dX7_fix_59 : decode cX7_fix 59 = .ok (.getfield 46, 3) := by decide +kernel
theorem dX7_fix_62 : decode cX7_fix 62 = .ok (.invokevirtual 78, 3) := by decide +kernel
theorem dX7_fix_65 : decode cX7_fix 65 = .ok (.aload_n 0, 1) := by decide +kernel
theorem dX7_fix_66 : decode cX7_fix 66 = .ok (.getfield 10, 3) := by decide +kernel
theorem dX7_fix_69 : decode cX7_fix 69 = .ok (.iload_n 1, 1) := by decide +kernel
theorem dX7_fix_70 : decode cX7_fix 70 = .ok (.iload_n 2, 1) := by decide +kernel
theorem dX7_fix_71 : decode cX7_fix 71 = .ok (.invokevirtual 125, 3) := by decide +kernel
theorem dX7_fix_74 : decode cX7_fix 74 = .ok (.ireturn, 1) := by decide +kernel
theorem dX7_first_0 : decode cX7_first 0 = .ok (.aload_n 0, 1) := by decide +kernel
theorem dX7_first_1 : decode cX7_first 1 = .ok (.invokevirtual 128, 3) := by decide +kernel
theorem dX7_first_4 : decode cX7_first 4 = .ok (.ifCond .eq 6, 3) := by decide +kernel
theorem dX7_first_7 : decode cX7_first 7 = .ok (.bipush (-3), 2) := by decide +kernel
theorem dX7_first_9 : decode cX7_first 9 = .ok (.ireturn, 1) := by decide +kernel
theorem dX7_first_10 : decode cX7_first 10 = .ok (.aload_n 0, 1) := by decide +kernel
theorem dX7_first_11 : decode cX7_first 11 = .ok (.getfield 39, 3) := by decide +kernel
theorem dX7_first_14 : decode cX7_first 14 = .ok (.invokevirtual 132, 3) := by decide +kernel
theorem dX7_first_17 : decode cX7_first 17 = .ok (.iconst 1, 1) := by decide +kernel
theorem dX7_first_18 : decode cX7_first 18 = .ok (.ireturn, 1) := by decide +kernel
theorem dX7_put_0 : decode cX7_put 0 = .ok (.aload_n 0, 1) := by decide +kernel
theorem dX7_put_1 : decode cX7_put 1 = .ok (.getfield 10, 3) := by decide +kernel
theorem dX7_put_4 : decode cX7_put 4 = .ok (.iload_n 1, 1) := by decide +kernel
theorem dX7_put_5 : decode cX7_put 5 = .ok (.invokevirtual 96, 3) := by decide +kernel
theorem dX7_put_8 : decode cX7_put 8 = .ok (.ifCond .eq 14, 3) := by decide +kernel
theorem dX7_put_11 : decode cX7_put 11 = .ok (.aload_n 0, 1) := by decide +kernel
theorem dX7_put_12 : decode cX7_put 12 = .ok (.getfield 26, 3) := by decide +kernel
theorem dX7_put_15 : decode cX7_put 15 = .ok (.iload_n 2, 1) := by decide +kernel
theorem dX7_put_16 : decode cX7_put 16 = .ok (.invokevirtual 104, 3) := by decide +kernel
theorem dX7_put_19 : decode cX7_put 19 = .ok (.ifCond .ne 6, 3) := by decide +kernel
theorem dX7_put_22 : decode cX7_put 22 = .ok (.bipush (-2), 2) := by decide +kernel
theorem dX7_put_24 : decode cX7_put 24 = .ok (.ireturn, 1) := by decide +kernel
theorem dX7_put_25 : decode cX7_put 25 = .ok (.aload_n 0, 1) := by decide +kernel
theorem dX7_put_26 : decode cX7_put 26 = .ok (.getfield 39, 3) := by decide +kernel
theorem dX7_put_29 : decode cX7_put 29 = .ok (.getfield 74, 3) := by decide +kernel
theorem dX7_put_32 : decode cX7_put 32 = .ok (.ifCond .eq 27, 3) := by decide +kernel
theorem dX7_put_35 : decode cX7_put 35 = .ok (.aload_n 0, 1) := by decide +kernel
theorem dX7_put_36 : decode cX7_put 36 = .ok (.getfield 10, 3) := by decide +kernel
theorem dX7_put_39 : decode cX7_put 39 = .ok (.iload_n 1, 1) := by decide +kernel
theorem dX7_put_40 : decode cX7_put 40 = .ok (.invokevirtual 135, 3) := by decide +kernel
theorem dX7_put_43 : decode cX7_put 43 = .ok (.ifCond .ne 16, 3) := by decide +kernel
theorem dX7_put_46 : decode cX7_put 46 = .ok (.aload_n 0, 1) := by decide +kernel
theorem dX7_put_47 : decode cX7_put 47 = .ok (.getfield 10, 3) := by decide +kernel
theorem dX7_put_50 : decode cX7_put 50 = .ok (.getfield 138, 3) := by decide +kernel
theorem dX7_put_53 : decode cX7_put 53 = .ok (.iload_n 2, 1) := by decide +kernel
theorem dX7_put_54 : decode cX7_put 54 = .ok (.iaload, 1) := by decide +kernel
theorem dX7_put_55 : decode cX7_put 55 = .ok (.iconst (-1), 1) := by decide +kernel
theorem dX7_put_56 : decode cX7_put 56 = .ok (.if_icmp .eq 6, 3) := by decide +kernel
theorem dX7_put_59 : decode cX7_put 59 = .ok (.bipush (-3), 2) := by decide +kernel
theorem dX7_put_61 : decode cX7_put 61 = .ok (.ireturn, 1) := by decide +kernel
theorem dX7_put_62 : decode cX7_put 62 = .ok (.aload_n 0, 1) := by decide +kernel
theorem dX7_put_63 : decode cX7_put 63 = .ok (.getfield 39, 3) := by decide +kernel
theorem dX7_put_66 : decode cX7_put 66 = .ok (.iload_n 1, 1) := by decide +kernel
theorem dX7_put_67 : decode cX7_put 67 = .ok (.iload_n 2, 1) := by decide +kernel
theorem dX7_put_68 : decode cX7_put 68 = .ok (.invokevirtual 141, 3) := by decide +kernel
theorem dX7_put_71 : decode cX7_put 71 = .ok (.iconst 1, 1) := by decide +kernel
theorem dX7_put_72 : decode cX7_put 72 = .ok (.ireturn, 1) := by decide +kernel
theorem dX7_at_0 : decode cX7_at 0 = .ok (.aload_n 0, 1) := by decide +kernel
theorem dX7_at_1 : decode cX7_at 1 = .ok (.getfield 10, 3) := by decide +kernel
theorem dX7_at_4 : decode cX7_at 4 = .ok (.iload_n 1, 1) := by decide +kernel
theorem dX7_at_5 : decode cX7_at 5 = .ok (.invokevirtual 96, 3) := by decide +kernel
theorem dX7_at_8 : decode cX7_at 8 = .ok (.ifCond .ne 6, 3) := by decide +kernel
theorem dX7_at_11 : decode cX7_at 11 = .ok (.bipush (-2), 2) := by decide +kernel
theorem dX7_at_13 : decode cX7_at 13 = .ok (.ireturn, 1) := by decide +kernel
theorem dX7_at_14 : decode cX7_at 14 = .ok (.aload_n 0, 1) := by decide +kernel
theorem dX7_at_15 : decode cX7_at 15 = .ok (.getfield 39, 3) := by decide +kernel
theorem dX7_at_18 : decode cX7_at 18 = .ok (.getfield 74, 3) := by decide +kernel
theorem dX7_at_21 : decode cX7_at 21 = .ok (.ifCond .eq 15, 3) := by decide +kernel
theorem dX7_at_24 : decode cX7_at 24 = .ok (.aload_n 0, 1) := by decide +kernel
theorem dX7_at_25 : decode cX7_at 25 = .ok (.getfield 39, 3) := by decide +kernel
theorem dX7_at_28 : decode cX7_at 28 = .ok (.getfield 145, 3) := by decide +kernel
theorem dX7_at_31 : decode cX7_at 31 = .ok (.iload_n 1, 1) := by decide +kernel
theorem dX7_at_32 : decode cX7_at 32 = .ok (.iaload, 1) := by decide +kernel
theorem dX7_at_33 : decode cX7_at 33 = .ok (.goto 5, 3) := by decide +kernel
theorem dX7_at_36 : decode cX7_at 36 = .ok (.bipush (-3), 2) := by decide +kernel
theorem dX7_at_38 : decode cX7_at 38 = .ok (.ireturn, 1) := by decide +kernel
theorem dX7_all_0 : decode cX7_all 0 = .ok (.aload_n 0, 1) := by decide +kernel
theorem dX7_all_1 : decode cX7_all 1 = .ok (.getfield 39, 3) := by decide +kernel
theorem dX7_all_4 : decode cX7_all 4 = .ok (.getfield 74, 3) := by decide +kernel
theorem dX7_all_7 : decode cX7_all 7 = .ok (.ifCond .eq 13, 3) := by decide +kernel
theorem dX7_all_10 : decode cX7_all 10 = .ok (.aload_n 0, 1) := by decide +kernel
theorem dX7_all_11 : decode cX7_all 11 = .ok (.getfield 39, 3) := by decide +kernel
theorem dX7_all_14 : decode cX7_all 14 = .ok (.invokevirtual 148, 3) := by decide +kernel
theorem dX7_all_17 : decode cX7_all 17 = .ok (.goto 6, 3) := by decide +kernel
theorem dX7_all_20 : decode cX7_all 20 = .ok (.ldc2_w 152, 3) := by decide +kernel
theorem dX7_all_23 : decode cX7_all 23 = .ok (.lreturn, 1) := by decide +kernel
theorem dX7_share_0 : decode cX7_share 0 = .ok (.aload_n 0, 1) := by decide +kernel
theorem dX7_share_1 : decode cX7_share 1 = .ok (.getfield 10, 3) := by decide +kernel
theorem dX7_share_4 : decode cX7_share 4 = .ok (.iload_n 1, 1) := by decide +kernel
theorem dX7_share_5 : decode cX7_share 5 = .ok (.invokevirtual 96, 3) := by decide +kernel
theorem dX7_share_8 : decode cX7_share 8 = .ok (.ifCond .ne 7, 3) := by decide +kernel
theorem dX7_share_11 : decode cX7_share 11 = .ok (.ldc2_w 154, 3) := by decide +kernel
theorem dX7_share_14 : decode cX7_share 14 = .ok (.lreturn, 1) := by decide +kernel
theorem dX7_share_15 : decode cX7_share 15 = .ok (.aload_n 0, 1) := by decide +kernel
theorem dX7_share_16 : decode cX7_share 16 = .ok (.getfield 39, 3) := by decide +kernel
theorem dX7_share_19 : decode cX7_share 19 = .ok (.getfield 74, 3) := by decide +kernel
theorem dX7_share_22 : decode cX7_share 22 = .ok (.ifCond .eq 15, 3) := by decide +kernel
theorem dX7_share_25 : decode cX7_share 25 = .ok (.aload_n 0, 1) := by decide +kernel
theorem dX7_share_26 : decode cX7_share 26 = .ok (.getfield 39, 3) := by decide +kernel
theorem dX7_share_29 : decode cX7_share 29 = .ok (.iload_n 1, 1) := by decide +kernel
theorem dX7_share_30 : decode cX7_share 30 = .ok (.iconst (-1), 1) := by decide +kernel
theorem dX7_share_31 : decode cX7_share 31 = .ok (.invokevirtual 156, 3) := by decide +kernel
theorem dX7_share_34 : decode cX7_share 34 = .ok (.goto 6, 3) := by decide +kernel
theorem dX7_share_37 : decode cX7_share 37 = .ok (.ldc2_w 152, 3) := by decide +kernel
theorem dX7_share_40 : decode cX7_share 40 = .ok (.lreturn, 1) := by decide +kernel
theorem dX7_better_0 : decode cX7_better 0 = .ok (.aload_n 0, 1) := by decide +kernel
theorem dX7_better_1 : decode cX7_better 1 = .ok (.getfield 39, 3) := by decide +kernel
theorem dX7_better_4 : decode cX7_better 4 = .ok (.getfield 74, 3) := by decide +kernel
theorem dX7_better_7 : decode cX7_better 7 = .ok (.ifCond .eq 13, 3) := by decide +kernel
theorem dX7_better_10 : decode cX7_better 10 = .ok (.aload_n 0, 1) := by decide +kernel
theorem dX7_better_11 : decode cX7_better 11 = .ok (.getfield 39, 3) := by decide +kernel
theorem dX7_better_14 : decode cX7_better 14 = .ok (.invokevirtual 160, 3) := by decide +kernel
theorem dX7_better_17 : decode cX7_better 17 = .ok (.goto 5, 3) := by decide +kernel
theorem dX7_better_20 : decode cX7_better 20 = .ok (.bipush (-3), 2) := by decide +kernel
theorem dX7_better_22 : decode cX7_better 22 = .ok (.ireturn, 1) := by decide +kernel
theorem dX7_change_0 : decode cX7_change 0 = .ok (.aload_n 0, 1) := by decide +kernel
theorem dX7_change_1 : decode cX7_change 1 = .ok (.getfield 10, 3) := by decide +kernel
theorem dX7_change_4 : decode cX7_change 4 = .ok (.iload_n 1, 1) := by decide +kernel
theorem dX7_change_5 : decode cX7_change 5 = .ok (.invokevirtual 96, 3) := by decide +kernel
theorem dX7_change_8 : decode cX7_change 8 = .ok (.ifCond .eq 19, 3) := by decide +kernel
theorem dX7_change_11 : decode cX7_change 11 = .ok (.aload_n 0, 1) := by decide +kernel
theorem dX7_change_12 : decode cX7_change 12 = .ok (.getfield 10, 3) := by decide +kernel
theorem dX7_change_15 : decode cX7_change 15 = .ok (.iload_n 2, 1) := by decide +kernel
theorem dX7_change_16 : decode cX7_change 16 = .ok (.invokevirtual 96, 3) := by decide +kernel
theorem dX7_change_19 : decode cX7_change 19 = .ok (.ifCond .eq 8, 3) := by decide +kernel
theorem dX7_change_22 : decode cX7_change 22 = .ok (.iload_n 1, 1) := by decide +kernel
theorem dX7_change_23 : decode cX7_change 23 = .ok (.iload_n 2, 1) := by decide +kernel
theorem dX7_change_24 : decode cX7_change 24 = .ok (.if_icmp .ne 7, 3) := by decide +kernel
theorem dX7_change_27 : decode cX7_change 27 = .ok (.ldc2_w 164, 3) := by decide +kernel
theorem dX7_change_30 : decode cX7_change 30 = .ok (.lreturn, 1) := by decide +kernel
theorem dX7_change_31 : decode cX7_change 31 = .ok (.aload_n 0, 1) := by decide +kernel
theorem dX7_change_32 : decode cX7_change 32 = .ok (.getfield 39, 3) := by decide +kernel
theorem dX7_change_35 : decode cX7_change 35 = .ok (.getfield 74, 3) := by decide +kernel
theorem dX7_change_38 : decode cX7_change 38 = .ok (.ifCond .eq 25, 3) := by decide +kernel
theorem dX7_change_41 : decode cX7_change 41 = .ok (.aload_n 0, 1) := by decide +kernel
theorem dX7_change_42 : decode cX7_change 42 = .ok (.getfield 10, 3) := by decide +kernel
theorem dX7_change_45 : decode cX7_change 45 = .ok (.iload_n 1, 1) := by decide +kernel
theorem dX7_change_46 : decode cX7_change 46 = .ok (.invokevirtual 135, 3) := by decide +kernel
theorem dX7_change_49 : decode cX7_change 49 = .ok (.ifCond .ne 14, 3) := by decide +kernel
theorem dX7_change_52 : decode cX7_change 52 = .ok (.aload_n 0, 1) := by decide +kernel
theorem dX7_change_53 : decode cX7_change 53 = .ok (.getfield 10, 3) := by decide +kernel
theorem dX7_change_56 : decode cX7_change 56 = .ok (.iload_n 2, 1) := by decide +kernel
theorem dX7_change_57 : decode cX7_change 57 = .ok (.invokevirtual 135, 3) := by decide +kernel
theorem dX7_change_60 : decode cX7_change 60 = .ok (.ifCond .eq 7, 3) := by decide +kernel
theorem dX7_change_63 : decode cX7_change 63 = .ok (.ldc2_w 166, 3) := by decide +kernel
theorem dX7_change_66 : decode cX7_change 66 = .ok (.lreturn, 1) := by decide +kernel
theorem dX7_change_67 : decode cX7_change 67 = .ok (.aload_n 0, 1) := by decide +kernel
theorem dX7_change_68 : decode cX7_change 68 = .ok (.getfield 39, 3) := by decide +kernel
theorem dX7_change_71 : decode cX7_change 71 = .ok (.iload_n 1, 1) := by decide +kernel
theorem dX7_change_72 : decode cX7_change 72 = .ok (.aload_n 0, 1) := by decide +kernel
theorem dX7_change_73 : decode cX7_change 73 = .ok (.getfield 39, 3) := by decide +kernel
theorem dX7_change_76 : decode cX7_change 76 = .ok (.getfield 145, 3) := by decide +kernel
theorem dX7_change_79 : decode cX7_change 79 = .ok (.iload_n 2, 1) := by decide +kernel
theorem dX7_change_80 : decode cX7_change 80 = .ok (.iaload, 1) := by decide +kernel
theorem dX7_change_81 : decode cX7_change 81 = .ok (.invokevirtual 168, 3) := by decide +kernel
theorem dX7_change_84 : decode cX7_change 84 = .ok (.lreturn, 1) := by decide +kernel
theorem dX7_search_0 : decode cX7_search 0 = .ok (.aload_n 0, 1) := by decide +kernel
theorem dX7_search_1 : decode cX7_search 1 = .ok (.invokevirtual 128, 3) := by decide +kernel
theorem dX7_search_4 : decode cX7_search 4 = .ok (.ifCond .eq 6, 3) := by decide +kernel
theorem dX7_search_7 : decode cX7_search 7 = .ok (.bipush (-3), 2) := by decide +kernel
theorem dX7_search_9 : decode cX7_search 9 = .ok (.ireturn, 1) := by decide +kernel
theorem dX7_search_10 : decode cX7_search 10 = .ok (.aload_n 0, 1) := by decide +kernel
theorem dX7_search_11 : decode cX7_search 11 = .ok (.getfield 46, 3) := by decide +kernel
theorem dX7_search_14 : decode cX7_search 14 = .ok (.invokevirtual 171, 3) := by decide +kernel
theorem dX7_search_17 : decode cX7_search 17 = .ok (.ifCond .eq 7, 3) := by decide +kernel
theorem dX7_search_20 : decode cX7_search 20 = .ok (.iconst 1, 1) := by decide +kernel
theorem dX7_search_21 : decode cX7_search 21 = .ok (.goto 5, 3) := by decide +kernel
theorem dX7_search_24 : decode cX7_search 24 = .ok (.bipush (-5), 2) := by decide +kernel
theorem dX7_search_26 : decode cX7_search 26 = .ok (.ireturn, 1) := by decide +kernel
theorem dX7_least_0 : decode cX7_least 0 = .ok (.aload_n 0, 1) := by decide +kernel
theorem dX7_least_1 : decode cX7_least 1 = .ok (.getfield 46, 3) := by decide +kernel
theorem dX7_least_4 : decode cX7_least 4 = .ok (.getfield 174, 3) := by decide +kernel
theorem dX7_least_7 : decode cX7_least 7 = .ok (.ifCond .eq 13, 3) := by decide +kernel
theorem dX7_least_10 : decode cX7_least 10 = .ok (.aload_n 0, 1) := by decide +kernel
theorem dX7_least_11 : decode cX7_least 11 = .ok (.getfield 46, 3) := by decide +kernel
theorem dX7_least_14 : decode cX7_least 14 = .ok (.getfield 177, 3) := by decide +kernel
theorem dX7_least_17 : decode cX7_least 17 = .ok (.goto 6, 3) := by decide +kernel
theorem dX7_least_20 : decode cX7_least 20 = .ok (.ldc2_w 181, 3) := by decide +kernel
theorem dX7_least_23 : decode cX7_least 23 = .ok (.lreturn, 1) := by decide +kernel
theorem dX7_take_0 : decode cX7_take 0 = .ok (.aload_n 0, 1) := by decide +kernel
theorem dX7_take_1 : decode cX7_take 1 = .ok (.getfield 46, 3) := by decide +kernel
theorem dX7_take_4 : decode cX7_take 4 = .ok (.getfield 174, 3) := by decide +kernel
theorem dX7_take_7 : decode cX7_take 7 = .ok (.ifCond .ne 6, 3) := by decide +kernel
theorem dX7_take_10 : decode cX7_take 10 = .ok (.bipush (-3), 2) := by decide +kernel
theorem dX7_take_12 : decode cX7_take 12 = .ok (.ireturn, 1) := by decide +kernel
theorem dX7_take_13 : decode cX7_take 13 = .ok (.aload_n 0, 1) := by decide +kernel
theorem dX7_take_14 : decode cX7_take 14 = .ok (.getfield 39, 3) := by decide +kernel
theorem dX7_take_17 : decode cX7_take 17 = .ok (.aload_n 0, 1) := by decide +kernel
theorem dX7_take_18 : decode cX7_take 18 = .ok (.getfield 46, 3) := by decide +kernel
theorem dX7_take_21 : decode cX7_take 21 = .ok (.getfield 183, 3) := by decide +kernel
theorem dX7_take_24 : decode cX7_take 24 = .ok (.invokevirtual 186, 3) := by decide +kernel
theorem dX7_take_27 : decode cX7_take 27 = .ok (.iconst 1, 1) := by decide +kernel
theorem dX7_take_28 : decode cX7_take 28 = .ok (.ireturn, 1) := by decide +kernel
theorem dX7_tries_0 : decode cX7_tries 0 = .ok (.aload_n 0, 1) := by decide +kernel
theorem dX7_tries_1 : decode cX7_tries 1 = .ok (.getfield 46, 3) := by decide +kernel
theorem dX7_tries_4 : decode cX7_tries 4 = .ok (.getfield 190, 3) := by decide +kernel
theorem dX7_tries_7 : decode cX7_tries 7 = .ok (.ireturn, 1) := by decide +kernel
theorem dX7_bound_0 : decode cX7_bound 0 = .ok (.aload_n 0, 1) := by decide +kernel
theorem dX7_bound_1 : decode cX7_bound 1 = .ok (.invokevirtual 128, 3) := by decide +kernel
theorem dX7_bound_4 : decode cX7_bound 4 = .ok (.ifCond .eq 9, 3) := by decide +kernel
theorem dX7_bound_7 : decode cX7_bound 7 = .ok (.ldc2_w 152, 3) := by decide +kernel
theorem dX7_bound_10 : decode cX7_bound 10 = .ok (.goto 10, 3) := by decide +kernel
theorem dX7_bound_13 : decode cX7_bound 13 = .ok (.aload_n 0, 1) := by decide +kernel
theorem dX7_bound_14 : decode cX7_bound 14 = .ok (.getfield 53, 3) := by decide +kernel
theorem dX7_bound_17 : decode cX7_bound 17 = .ok (.invokevirtual 193, 3) := by decide +kernel
theorem dX7_bound_20 : decode cX7_bound 20 = .ok (.lreturn, 1) := by decide +kernel
theorem dX7_price_0 : decode cX7_price 0 = .ok (.aload_n 0, 1) := by decide +kernel
theorem dX7_price_1 : decode cX7_price 1 = .ok (.getfield 10, 3) := by decide +kernel
theorem dX7_price_4 : decode cX7_price 4 = .ok (.iload_n 1, 1) := by decide +kernel
theorem dX7_price_5 : decode cX7_price 5 = .ok (.invokevirtual 96, 3) := by decide +kernel
theorem dX7_price_8 : decode cX7_price 8 = .ok (.ifCond .eq 14, 3) := by decide +kernel
theorem dX7_price_11 : decode cX7_price 11 = .ok (.aload_n 0, 1) := by decide +kernel
theorem dX7_price_12 : decode cX7_price 12 = .ok (.getfield 26, 3) := by decide +kernel
theorem dX7_price_15 : decode cX7_price 15 = .ok (.iload_n 2, 1) := by decide +kernel
theorem dX7_price_16 : decode cX7_price 16 = .ok (.invokevirtual 104, 3) := by decide +kernel
theorem dX7_price_19 : decode cX7_price 19 = .ok (.ifCond .ne 7, 3) := by decide +kernel
theorem dX7_price_22 : decode cX7_price 22 = .ok (.ldc2_w 154, 3) := by decide +kernel
theorem dX7_price_25 : decode cX7_price 25 = .ok (.lreturn, 1) := by decide +kernel
theorem dX7_price_26 : decode cX7_price 26 = .ok (.aload_n 0, 1) := by decide +kernel
theorem dX7_price_27 : decode cX7_price 27 = .ok (.invokevirtual 128, 3) := by decide +kernel
theorem dX7_price_30 : decode cX7_price 30 = .ok (.ifCond .eq 9, 3) := by decide +kernel
theorem dX7_price_33 : decode cX7_price 33 = .ok (.ldc2_w 152, 3) := by decide +kernel
theorem dX7_price_36 : decode cX7_price 36 = .ok (.goto 12, 3) := by decide +kernel
theorem dX7_price_39 : decode cX7_price 39 = .ok (.aload_n 0, 1) := by decide +kernel
theorem dX7_price_40 : decode cX7_price 40 = .ok (.getfield 53, 3) := by decide +kernel
theorem dX7_price_43 : decode cX7_price 43 = .ok (.iload_n 1, 1) := by decide +kernel
theorem dX7_price_44 : decode cX7_price 44 = .ok (.iload_n 2, 1) := by decide +kernel
theorem dX7_price_45 : decode cX7_price 45 = .ok (.invokevirtual 196, 3) := by decide +kernel
theorem dX7_price_48 : decode cX7_price 48 = .ok (.lreturn, 1) := by decide +kernel
theorem dX7_turns_0 : decode cX7_turns 0 = .ok (.aload_n 0, 1) := by decide +kernel
theorem dX7_turns_1 : decode cX7_turns 1 = .ok (.getfield 26, 3) := by decide +kernel
theorem dX7_turns_4 : decode cX7_turns 4 = .ok (.getfield 99, 3) := by decide +kernel
theorem dX7_turns_7 : decode cX7_turns 7 = .ok (.iconst 1, 1) := by decide +kernel
theorem dX7_turns_8 : decode cX7_turns 8 = .ok (.if_icmp .lt 15, 3) := by decide +kernel
theorem dX7_turns_11 : decode cX7_turns 11 = .ok (.aload_n 0, 1) := by decide +kernel
theorem dX7_turns_12 : decode cX7_turns 12 = .ok (.getfield 26, 3) := by decide +kernel
theorem dX7_turns_15 : decode cX7_turns 15 = .ok (.getfield 99, 3) := by decide +kernel
theorem dX7_turns_18 : decode cX7_turns 18 = .ok (.bipush 7, 2) := by decide +kernel
theorem dX7_turns_20 : decode cX7_turns 20 = .ok (.if_icmp .le 6, 3) := by decide +kernel
theorem dX7_turns_23 : decode cX7_turns 23 = .ok (.bipush (-3), 2) := by decide +kernel
theorem dX7_turns_25 : decode cX7_turns 25 = .ok (.ireturn, 1) := by decide +kernel
theorem dX7_turns_26 : decode cX7_turns 26 = .ok (.aload_n 0, 1) := by decide +kernel
theorem dX7_turns_27 : decode cX7_turns 27 = .ok (.getfield 62, 3) := by decide +kernel
theorem dX7_turns_30 : decode cX7_turns 30 = .ok (.invokevirtual 199, 3) := by decide +kernel
theorem dX7_turns_33 : decode cX7_turns 33 = .ok (.ireturn, 1) := by decide +kernel
theorem dX7_alike_0 : decode cX7_alike 0 = .ok (.aload_n 0, 1) := by decide +kernel
theorem dX7_alike_1 : decode cX7_alike 1 = .ok (.getfield 39, 3) := by decide +kernel
theorem dX7_alike_4 : decode cX7_alike 4 = .ok (.getfield 74, 3) := by decide +kernel
theorem dX7_alike_7 : decode cX7_alike 7 = .ok (.ifCond .eq 25, 3) := by decide +kernel
theorem dX7_alike_10 : decode cX7_alike 10 = .ok (.aload_n 0, 1) := by decide +kernel
theorem dX7_alike_11 : decode cX7_alike 11 = .ok (.getfield 46, 3) := by decide +kernel
theorem dX7_alike_14 : decode cX7_alike 14 = .ok (.getfield 174, 3) := by decide +kernel
theorem dX7_alike_17 : decode cX7_alike 17 = .ok (.ifCond .eq 15, 3) := by decide +kernel
theorem dX7_alike_20 : decode cX7_alike 20 = .ok (.aload_n 0, 1) := by decide +kernel
theorem dX7_alike_21 : decode cX7_alike 21 = .ok (.getfield 26, 3) := by decide +kernel
theorem dX7_alike_24 : decode cX7_alike 24 = .ok (.getfield 99, 3) := by decide +kernel
theorem dX7_alike_27 : decode cX7_alike 27 = .ok (.bipush 7, 2) := by decide +kernel
theorem dX7_alike_29 : decode cX7_alike 29 = .ok (.if_icmp .le 6, 3) := by decide +kernel
theorem dX7_alike_32 : decode cX7_alike 32 = .ok (.bipush (-3), 2) := by decide +kernel
theorem dX7_alike_34 : decode cX7_alike 34 = .ok (.ireturn, 1) := by decide +kernel
theorem dX7_alike_35 : decode cX7_alike 35 = .ok (.aload_n 0, 1) := by decide +kernel
theorem dX7_alike_36 : decode cX7_alike 36 = .ok (.getfield 62, 3) := by decide +kernel
theorem dX7_alike_39 : decode cX7_alike 39 = .ok (.aload_n 0, 1) := by decide +kernel
theorem dX7_alike_40 : decode cX7_alike 40 = .ok (.getfield 39, 3) := by decide +kernel
theorem dX7_alike_43 : decode cX7_alike 43 = .ok (.getfield 145, 3) := by decide +kernel
theorem dX7_alike_46 : decode cX7_alike 46 = .ok (.aload_n 0, 1) := by decide +kernel
theorem dX7_alike_47 : decode cX7_alike 47 = .ok (.getfield 46, 3) := by decide +kernel
theorem dX7_alike_50 : decode cX7_alike 50 = .ok (.getfield 183, 3) := by decide +kernel
theorem dX7_alike_53 : decode cX7_alike 53 = .ok (.aload_n 0, 1) := by decide +kernel
theorem dX7_alike_54 : decode cX7_alike 54 = .ok (.getfield 10, 3) := by decide +kernel
theorem dX7_alike_57 : decode cX7_alike 57 = .ok (.getfield 66, 3) := by decide +kernel
theorem dX7_alike_60 : decode cX7_alike 60 = .ok (.invokevirtual 202, 3) := by decide +kernel
theorem dX7_alike_63 : decode cX7_alike 63 = .ok (.ifCond .eq 7, 3) := by decide +kernel
theorem dX7_alike_66 : decode cX7_alike 66 = .ok (.iconst 1, 1) := by decide +kernel
theorem dX7_alike_67 : decode cX7_alike 67 = .ok (.goto 4, 3) := by decide +kernel
theorem dX7_alike_70 : decode cX7_alike 70 = .ok (.iconst 0, 1) := by decide +kernel
theorem dX7_alike_71 : decode cX7_alike 71 = .ok (.ireturn, 1) := by decide +kernel
theorem dX7_count_0 : decode cX7_count 0 = .ok (.iload_n 1, 1) := by decide +kernel
theorem dX7_count_1 : decode cX7_count 1 = .ok (.tableswitch 114 0 6 #[43, 51, 59, 67, 75, 90, 98], 43) := by decide +kernel
theorem dX7_count_44 : decode cX7_count 44 = .ok (.aload_n 0, 1) := by decide +kernel
theorem dX7_count_45 : decode cX7_count 45 = .ok (.getfield 10, 3) := by decide +kernel
theorem dX7_count_48 : decode cX7_count 48 = .ok (.getfield 66, 3) := by decide +kernel
theorem dX7_count_51 : decode cX7_count 51 = .ok (.ireturn, 1) := by decide +kernel
theorem dX7_count_52 : decode cX7_count 52 = .ok (.aload_n 0, 1) := by decide +kernel
theorem dX7_count_53 : decode cX7_count 53 = .ok (.getfield 26, 3) := by decide +kernel
theorem dX7_count_56 : decode cX7_count 56 = .ok (.getfield 99, 3) := by decide +kernel
theorem dX7_count_59 : decode cX7_count 59 = .ok (.ireturn, 1) := by decide +kernel
theorem dX7_count_60 : decode cX7_count 60 = .ok (.aload_n 0, 1) := by decide +kernel
theorem dX7_count_61 : decode cX7_count 61 = .ok (.getfield 19, 3) := by decide +kernel
theorem dX7_count_64 : decode cX7_count 64 = .ok (.invokevirtual 206, 3) := by decide +kernel
theorem dX7_count_67 : decode cX7_count 67 = .ok (.ireturn, 1) := by decide +kernel
theorem dX7_count_68 : decode cX7_count 68 = .ok (.aload_n 0, 1) := by decide +kernel
theorem dX7_count_69 : decode cX7_count 69 = .ok (.getfield 19, 3) := by decide +kernel
theorem dX7_count_72 : decode cX7_count 72 = .ok (.invokevirtual 208, 3) := by decide +kernel
theorem dX7_count_75 : decode cX7_count 75 = .ok (.ireturn, 1) := by decide +kernel
theorem dX7_count_76 : decode cX7_count 76 = .ok (.aload_n 0, 1) := by decide +kernel
theorem dX7_count_77 : decode cX7_count 77 = .ok (.getfield 19, 3) := by decide +kernel
theorem dX7_count_80 : decode cX7_count 80 = .ok (.aload_n 0, 1) := by decide +kernel
theorem dX7_count_81 : decode cX7_count 81 = .ok (.getfield 10, 3) := by decide +kernel
theorem dX7_count_84 : decode cX7_count 84 = .ok (.getfield 66, 3) := by decide +kernel
theorem dX7_count_87 : decode cX7_count 87 = .ok (.invokevirtual 211, 3) := by decide +kernel
theorem dX7_count_90 : decode cX7_count 90 = .ok (.ireturn, 1) := by decide +kernel
theorem dX7_count_91 : decode cX7_count 91 = .ok (.aload_n 0, 1) := by decide +kernel
theorem dX7_count_92 : decode cX7_count 92 = .ok (.getfield 10, 3) := by decide +kernel
theorem dX7_count_95 : decode cX7_count 95 = .ok (.invokevirtual 215, 3) := by decide +kernel
theorem dX7_count_98 : decode cX7_count 98 = .ok (.ireturn, 1) := by decide +kernel
theorem dX7_count_99 : decode cX7_count 99 = .ok (.aload_n 0, 1) := by decide +kernel
theorem dX7_count_100 : decode cX7_count 100 = .ok (.getfield 39, 3) := by decide +kernel
theorem dX7_count_103 : decode cX7_count 103 = .ok (.getfield 74, 3) := by decide +kernel
theorem dX7_count_106 : decode cX7_count 106 = .ok (.ifCond .eq 7, 3) := by decide +kernel
theorem dX7_count_109 : decode cX7_count 109 = .ok (.iconst 1, 1) := by decide +kernel
theorem dX7_count_110 : decode cX7_count 110 = .ok (.goto 4, 3) := by decide +kernel
theorem dX7_count_113 : decode cX7_count 113 = .ok (.iconst 0, 1) := by decide +kernel
theorem dX7_count_114 : decode cX7_count 114 = .ok (.ireturn, 1) := by decide +kernel
theorem dX7_count_115 : decode cX7_count 115 = .ok (.bipush (-2), 2) := by decide +kernel
theorem dX7_count_117 : decode cX7_count 117 = .ok (.ireturn, 1) := by decide +kernel
theorem dX7_digest_0 : decode cX7_digest 0 = .ok (.ldc2_w 218, 3) := by decide +kernel
theorem dX7_digest_3 : decode cX7_digest 3 = .ok (.lstore_n 1, 1) := by decide +kernel
theorem dX7_digest_4 : decode cX7_digest 4 = .ok (.iconst 0, 1) := by decide +kernel
theorem dX7_digest_5 : decode cX7_digest 5 = .ok (.istore_n 3, 1) := by decide +kernel
theorem dX7_digest_6 : decode cX7_digest 6 = .ok (.iload_n 3, 1) := by decide +kernel
theorem dX7_digest_7 : decode cX7_digest 7 = .ok (.bipush 7, 2) := by decide +kernel
theorem dX7_digest_9 : decode cX7_digest 9 = .ok (.if_icmp .ge 22, 3) := by decide +kernel
theorem dX7_digest_12 : decode cX7_digest 12 = .ok (.ldc2_w 220, 3) := by decide +kernel
theorem dX7_digest_15 : decode cX7_digest 15 = .ok (.lload_n 1, 1) := by decide +kernel
theorem dX7_digest_16 : decode cX7_digest 16 = .ok (.lmul, 1) := by decide +kernel
theorem dX7_digest_17 : decode cX7_digest 17 = .ok (.aload_n 0, 1) := by decide +kernel
theorem dX7_digest_18 : decode cX7_digest 18 = .ok (.iload_n 3, 1) := by decide +kernel
theorem dX7_digest_19 : decode cX7_digest 19 = .ok (.invokevirtual 222, 3) := by decide +kernel
theorem dX7_digest_22 : decode cX7_digest 22 = .ok (.i2l, 1) := by decide +kernel
theorem dX7_digest_23 : decode cX7_digest 23 = .ok (.ladd, 1) := by decide +kernel
theorem dX7_digest_24 : decode cX7_digest 24 = .ok (.lstore_n 1, 1) := by decide +kernel
theorem dX7_digest_25 : decode cX7_digest 25 = .ok (.iinc 3 1, 3) := by decide +kernel
theorem dX7_digest_28 : decode cX7_digest 28 = .ok (.goto (-22), 3) := by decide +kernel
theorem dX7_digest_31 : decode cX7_digest 31 = .ok (.lload_n 1, 1) := by decide +kernel
theorem dX7_digest_32 : decode cX7_digest 32 = .ok (.aload_n 0, 1) := by decide +kernel
theorem dX7_digest_33 : decode cX7_digest 33 = .ok (.getfield 19, 3) := by decide +kernel
theorem dX7_digest_36 : decode cX7_digest 36 = .ok (.getfield 32, 3) := by decide +kernel
theorem dX7_digest_39 : decode cX7_digest 39 = .ok (.aload_n 0, 1) := by decide +kernel
theorem dX7_digest_40 : decode cX7_digest 40 = .ok (.getfield 10, 3) := by decide +kernel
theorem dX7_digest_43 : decode cX7_digest 43 = .ok (.getfield 66, 3) := by decide +kernel
theorem dX7_digest_46 : decode cX7_digest 46 = .ok (.invokestatic 225, 3) := by decide +kernel
theorem dX7_digest_49 : decode cX7_digest 49 = .ok (.lstore_n 1, 1) := by decide +kernel
theorem dX7_digest_50 : decode cX7_digest 50 = .ok (.lload_n 1, 1) := by decide +kernel
theorem dX7_digest_51 : decode cX7_digest 51 = .ok (.aload_n 0, 1) := by decide +kernel
theorem dX7_digest_52 : decode cX7_digest 52 = .ok (.getfield 26, 3) := by decide +kernel
theorem dX7_digest_55 : decode cX7_digest 55 = .ok (.getfield 112, 3) := by decide +kernel
theorem dX7_digest_58 : decode cX7_digest 58 = .ok (.aload_n 0, 1) := by decide +kernel
theorem dX7_digest_59 : decode cX7_digest 59 = .ok (.getfield 26, 3) := by decide +kernel
theorem dX7_digest_62 : decode cX7_digest 62 = .ok (.getfield 99, 3) := by decide +kernel
theorem dX7_digest_65 : decode cX7_digest 65 = .ok (.invokestatic 225, 3) := by decide +kernel
theorem dX7_digest_68 : decode cX7_digest 68 = .ok (.lstore_n 1, 1) := by decide +kernel
theorem dX7_digest_69 : decode cX7_digest 69 = .ok (.aload_n 0, 1) := by decide +kernel
theorem dX7_digest_70 : decode cX7_digest 70 = .ok (.getfield 39, 3) := by decide +kernel
theorem dX7_digest_73 : decode cX7_digest 73 = .ok (.getfield 74, 3) := by decide +kernel
theorem dX7_digest_76 : decode cX7_digest 76 = .ok (.ifCond .eq 39, 3) := by decide +kernel
theorem dX7_digest_79 : decode cX7_digest 79 = .ok (.iconst 0, 1) := by decide +kernel
theorem dX7_digest_80 : decode cX7_digest 80 = .ok (.istore_n 3, 1) := by decide +kernel
theorem dX7_digest_81 : decode cX7_digest 81 = .ok (.iload_n 3, 1) := by decide +kernel
theorem dX7_digest_82 : decode cX7_digest 82 = .ok (.aload_n 0, 1) := by decide +kernel
theorem dX7_digest_83 : decode cX7_digest 83 = .ok (.getfield 10, 3) := by decide +kernel
theorem dX7_digest_86 : decode cX7_digest 86 = .ok (.getfield 66, 3) := by decide +kernel
theorem dX7_digest_89 : decode cX7_digest 89 = .ok (.if_icmp .ge 26, 3) := by decide +kernel
theorem dX7_digest_92 : decode cX7_digest 92 = .ok (.ldc2_w 220, 3) := by decide +kernel
theorem dX7_digest_95 : decode cX7_digest 95 = .ok (.lload_n 1, 1) := by decide +kernel
theorem dX7_digest_96 : decode cX7_digest 96 = .ok (.lmul, 1) := by decide +kernel
theorem dX7_digest_97 : decode cX7_digest 97 = .ok (.aload_n 0, 1) := by decide +kernel
theorem dX7_digest_98 : decode cX7_digest 98 = .ok (.getfield 39, 3) := by decide +kernel
theorem dX7_digest_101 : decode cX7_digest 101 = .ok (.getfield 145, 3) := by decide +kernel
theorem dX7_digest_104 : decode cX7_digest 104 = .ok (.iload_n 3, 1) := by decide +kernel
theorem dX7_digest_105 : decode cX7_digest 105 = .ok (.iaload, 1) := by decide +kernel
theorem dX7_digest_106 : decode cX7_digest 106 = .ok (.i2l, 1) := by decide +kernel
theorem dX7_digest_107 : decode cX7_digest 107 = .ok (.ladd, 1) := by decide +kernel
theorem dX7_digest_108 : decode cX7_digest 108 = .ok (.lstore_n 1, 1) := by decide +kernel
theorem dX7_digest_109 : decode cX7_digest 109 = .ok (.iinc 3 1, 3) := by decide +kernel
theorem dX7_digest_112 : decode cX7_digest 112 = .ok (.goto (-31), 3) := by decide +kernel
theorem dX7_digest_115 : decode cX7_digest 115 = .ok (.ldc2_w 220, 3) := by decide +kernel
theorem dX7_digest_118 : decode cX7_digest 118 = .ok (.lload_n 1, 1) := by decide +kernel
theorem dX7_digest_119 : decode cX7_digest 119 = .ok (.lmul, 1) := by decide +kernel
theorem dX7_digest_120 : decode cX7_digest 120 = .ok (.aload_n 0, 1) := by decide +kernel
theorem dX7_digest_121 : decode cX7_digest 121 = .ok (.invokevirtual 229, 3) := by decide +kernel
theorem dX7_digest_124 : decode cX7_digest 124 = .ok (.ladd, 1) := by decide +kernel
theorem dX7_digest_125 : decode cX7_digest 125 = .ok (.lreturn, 1) := by decide +kernel
theorem dX7_mixSquare_0 : decode cX7_mixSquare 0 = .ok (.lload_n 0, 1) := by decide +kernel
theorem dX7_mixSquare_1 : decode cX7_mixSquare 1 = .ok (.lstore 4, 2) := by decide +kernel
theorem dX7_mixSquare_3 : decode cX7_mixSquare 3 = .ok (.iconst 0, 1) := by decide +kernel
theorem dX7_mixSquare_4 : decode cX7_mixSquare 4 = .ok (.istore 6, 2) := by decide +kernel
theorem dX7_mixSquare_6 : decode cX7_mixSquare 6 = .ok (.iload 6, 2) := by decide +kernel
theorem dX7_mixSquare_8 : decode cX7_mixSquare 8 = .ok (.iload_n 3, 1) := by decide +kernel
theorem dX7_mixSquare_9 : decode cX7_mixSquare 9 = .ok (.if_icmp .ge 41, 3) := by decide +kernel
theorem dX7_mixSquare_12 : decode cX7_mixSquare 12 = .ok (.iconst 0, 1) := by decide +kernel
theorem dX7_mixSquare_13 : decode cX7_mixSquare 13 = .ok (.istore 7, 2) := by decide +kernel
theorem dX7_mixSquare_15 : decode cX7_mixSquare 15 = .ok (.iload 7, 2) := by decide +kernel
theorem dX7_mixSquare_17 : decode cX7_mixSquare 17 = .ok (.iload_n 3, 1) := by decide +kernel
theorem dX7_mixSquare_18 : decode cX7_mixSquare 18 = .ok (.if_icmp .ge 26, 3) := by decide +kernel
theorem dX7_mixSquare_21 : decode cX7_mixSquare 21 = .ok (.ldc2_w 220, 3) := by decide +kernel
theorem dX7_mixSquare_24 : decode cX7_mixSquare 24 = .ok (.lload 4, 2) := by decide +kernel
theorem dX7_mixSquare_26 : decode cX7_mixSquare 26 = .ok (.lmul, 1) := by decide +kernel
theorem dX7_mixSquare_27 : decode cX7_mixSquare 27 = .ok (.aload_n 2, 1) := by decide +kernel
theorem dX7_mixSquare_28 : decode cX7_mixSquare 28 = .ok (.iload 6, 2) := by decide +kernel
theorem dX7_mixSquare_30 : decode cX7_mixSquare 30 = .ok (.aaload, 1) := by decide +kernel
theorem dX7_mixSquare_31 : decode cX7_mixSquare 31 = .ok (.iload 7, 2) := by decide +kernel
theorem dX7_mixSquare_33 : decode cX7_mixSquare 33 = .ok (.iaload, 1) := by decide +kernel
theorem dX7_mixSquare_34 : decode cX7_mixSquare 34 = .ok (.i2l, 1) := by decide +kernel
theorem dX7_mixSquare_35 : decode cX7_mixSquare 35 = .ok (.ladd, 1) := by decide +kernel
theorem dX7_mixSquare_36 : decode cX7_mixSquare 36 = .ok (.lstore 4, 2) := by decide +kernel
theorem dX7_mixSquare_38 : decode cX7_mixSquare 38 = .ok (.iinc 7 1, 3) := by decide +kernel
theorem dX7_mixSquare_41 : decode cX7_mixSquare 41 = .ok (.goto (-26), 3) := by decide +kernel
theorem dX7_mixSquare_44 : decode cX7_mixSquare 44 = .ok (.iinc 6 1, 3) := by decide +kernel
theorem dX7_mixSquare_47 : decode cX7_mixSquare 47 = .ok (.goto (-41), 3) := by decide +kernel
theorem dX7_mixSquare_50 : decode cX7_mixSquare 50 = .ok (.lload 4, 2) := by decide +kernel
theorem dX7_mixSquare_52 : decode cX7_mixSquare 52 = .ok (.lreturn, 1) := by decide +kernel
theorem dX7_isPage_0 : decode cX7_isPage 0 = .ok (.iload_n 0, 1) := by decide +kernel
theorem dX7_isPage_1 : decode cX7_isPage 1 = .ok (.ifCond .lt 13, 3) := by decide +kernel
theorem dX7_isPage_4 : decode cX7_isPage 4 = .ok (.iload_n 0, 1) := by decide +kernel
theorem dX7_isPage_5 : decode cX7_isPage 5 = .ok (.bipush 6, 2) := by decide +kernel
theorem dX7_isPage_7 : decode cX7_isPage 7 = .ok (.if_icmp .ge 7, 3) := by decide +kernel
theorem dX7_isPage_10 : decode cX7_isPage 10 = .ok (.iconst 1, 1) := by decide +kernel
theorem dX7_isPage_11 : decode cX7_isPage 11 = .ok (.goto 4, 3) := by decide +kernel
theorem dX7_isPage_14 : decode cX7_isPage 14 = .ok (.iconst 0, 1) := by decide +kernel
theorem dX7_isPage_15 : decode cX7_isPage 15 = .ok (.ireturn, 1) := by decide +kernel
theorem dX7_tooFewKeys_0 : decode cX7_tooFewKeys 0 = .ok (.aload_n 0, 1) := by decide +kernel
theorem dX7_tooFewKeys_1 : decode cX7_tooFewKeys 1 = .ok (.getfield 26, 3) := by decide +kernel
theorem dX7_tooFewKeys_4 : decode cX7_tooFewKeys 4 = .ok (.getfield 99, 3) := by decide +kernel
theorem dX7_tooFewKeys_7 : decode cX7_tooFewKeys 7 = .ok (.aload_n 0, 1) := by decide +kernel
theorem dX7_tooFewKeys_8 : decode cX7_tooFewKeys 8 = .ok (.getfield 10, 3) := by decide +kernel
theorem dX7_tooFewKeys_11 : decode cX7_tooFewKeys 11 = .ok (.getfield 66, 3) := by decide +kernel
theorem dX7_tooFewKeys_14 : decode cX7_tooFewKeys 14 = .ok (.if_icmp .ge 7, 3) := by decide +kernel
theorem dX7_tooFewKeys_17 : decode cX7_tooFewKeys 17 = .ok (.iconst 1, 1) := by decide +kernel
theorem dX7_tooFewKeys_18 : decode cX7_tooFewKeys 18 = .ok (.goto 4, 3) := by decide +kernel
theorem dX7_tooFewKeys_21 : decode cX7_tooFewKeys 21 = .ok (.iconst 0, 1) := by decide +kernel
theorem dX7_tooFewKeys_22 : decode cX7_tooFewKeys 22 = .ok (.ireturn, 1) := by decide +kernel
