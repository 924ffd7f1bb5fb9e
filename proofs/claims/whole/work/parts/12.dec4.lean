theorem dX4_init_0 : decode cX4_init 0 = .ok (.aload_n 0, 1) := by decide +kernel
theorem dX4_init_1 : decode cX4_init 1 = .ok (.invokespecial 3, 3) := by decide +kernel
theorem dX4_init_4 : decode cX4_init 4 = .ok (.aload_n 0, 1) := by decide +kernel
theorem dX4_init_5 : decode cX4_init 5 = .ok (.bipush 6, 2) := by decide +kernel
theorem dX4_init_7 : decode cX4_init 7 = .ok (.sipush 300, 3) := by decide +kernel
theorem dX4_init_10 : decode cX4_init 10 = .ok (.multianewarray 9 2, 4) := by decide +kernel
theorem dX4_init_14 : decode cX4_init 14 = .ok (.putfield 11, 3) := by decide +kernel
theorem dX4_init_17 : decode cX4_init 17 = .ok (.aload_n 0, 1) := by decide +kernel
theorem dX4_init_18 : decode cX4_init 18 = .ok (.bipush 6, 2) := by decide +kernel
theorem dX4_init_20 : decode cX4_init 20 = .ok (.newarray .int, 2) := by decide +kernel
theorem dX4_init_22 : decode cX4_init 22 = .ok (.putfield 16, 3) := by decide +kernel
theorem dX4_init_25 : decode cX4_init 25 = .ok (.aload_n 0, 1) := by decide +kernel
theorem dX4_init_26 : decode cX4_init 26 = .ok (.bipush 10, 2) := by decide +kernel
theorem dX4_init_28 : decode cX4_init 28 = .ok (.bipush 10, 2) := by decide +kernel
theorem dX4_init_30 : decode cX4_init 30 = .ok (.multianewarray 9 2, 4) := by decide +kernel
theorem dX4_init_34 : decode cX4_init 34 = .ok (.putfield 20, 3) := by decide +kernel
theorem dX4_init_37 : decode cX4_init 37 = .ok (.return_, 1) := by decide +kernel
theorem dX4_write_0 : decode cX4_write 0 = .ok (.iload 4, 2) := by decide +kernel
theorem dX4_write_2 : decode cX4_write 2 = .ok (.iconst 1, 1) := by decide +kernel
theorem dX4_write_3 : decode cX4_write 3 = .ok (.isub, 1) := by decide +kernel
theorem dX4_write_4 : decode cX4_write 4 = .ok (.istore 5, 2) := by decide +kernel
theorem dX4_write_6 : decode cX4_write 6 = .ok (.iload 5, 2) := by decide +kernel
theorem dX4_write_8 : decode cX4_write 8 = .ok (.ifCond .lt 26, 3) := by decide +kernel
theorem dX4_write_11 : decode cX4_write 11 = .ok (.aload_n 0, 1) := by decide +kernel
theorem dX4_write_12 : decode cX4_write 12 = .ok (.iload_n 1, 1) := by decide +kernel
theorem dX4_write_13 : decode cX4_write 13 = .ok (.lload_n 2, 1) := by decide +kernel
theorem dX4_write_14 : decode cX4_write 14 = .ok (.bipush 8, 2) := by decide +kernel
theorem dX4_write_16 : decode cX4_write 16 = .ok (.iload 5, 2) := by decide +kernel
theorem dX4_write_18 : decode cX4_write 18 = .ok (.imul, 1) := by decide +kernel
theorem dX4_write_19 : decode cX4_write 19 = .ok (.lushr, 1) := by decide +kernel
theorem dX4_write_20 : decode cX4_write 20 = .ok (.ldc2_w 23, 3) := by decide +kernel
theorem dX4_write_23 : decode cX4_write 23 = .ok (.land, 1) := by decide +kernel
theorem dX4_write_24 : decode cX4_write 24 = .ok (.l2i, 1) := by decide +kernel
theorem dX4_write_25 : decode cX4_write 25 = .ok (.invokevirtual 25, 3) := by decide +kernel
theorem dX4_write_28 : decode cX4_write 28 = .ok (.iinc 5 (-1), 3) := by decide +kernel
theorem dX4_write_31 : decode cX4_write 31 = .ok (.goto (-25), 3) := by decide +kernel
theorem dX4_write_34 : decode cX4_write 34 = .ok (.return_, 1) := by decide +kernel
theorem dX4_append_0 : decode cX4_append 0 = .ok (.aload_n 0, 1) := by decide +kernel
theorem dX4_append_1 : decode cX4_append 1 = .ok (.getfield 16, 3) := by decide +kernel
theorem dX4_append_4 : decode cX4_append 4 = .ok (.iload_n 1, 1) := by decide +kernel
theorem dX4_append_5 : decode cX4_append 5 = .ok (.iaload, 1) := by decide +kernel
theorem dX4_append_6 : decode cX4_append 6 = .ok (.istore_n 3, 1) := by decide +kernel
theorem dX4_append_7 : decode cX4_append 7 = .ok (.iload_n 3, 1) := by decide +kernel
theorem dX4_append_8 : decode cX4_append 8 = .ok (.sipush 300, 3) := by decide +kernel
theorem dX4_append_11 : decode cX4_append 11 = .ok (.if_icmp .lt 4, 3) := by decide +kernel
theorem dX4_append_14 : decode cX4_append 14 = .ok (.return_, 1) := by decide +kernel
theorem dX4_append_15 : decode cX4_append 15 = .ok (.iload_n 3, 1) := by decide +kernel
theorem dX4_append_16 : decode cX4_append 16 = .ok (.ifCond .le 19, 3) := by decide +kernel
theorem dX4_append_19 : decode cX4_append 19 = .ok (.aload_n 0, 1) := by decide +kernel
theorem dX4_append_20 : decode cX4_append 20 = .ok (.aload_n 0, 1) := by decide +kernel
theorem dX4_append_21 : decode cX4_append 21 = .ok (.getfield 11, 3) := by decide +kernel
theorem dX4_append_24 : decode cX4_append 24 = .ok (.iload_n 1, 1) := by decide +kernel
theorem dX4_append_25 : decode cX4_append 25 = .ok (.aaload, 1) := by decide +kernel
theorem dX4_append_26 : decode cX4_append 26 = .ok (.iload_n 3, 1) := by decide +kernel
theorem dX4_append_27 : decode cX4_append 27 = .ok (.iconst 1, 1) := by decide +kernel
theorem dX4_append_28 : decode cX4_append 28 = .ok (.isub, 1) := by decide +kernel
theorem dX4_append_29 : decode cX4_append 29 = .ok (.iaload, 1) := by decide +kernel
theorem dX4_append_30 : decode cX4_append 30 = .ok (.iload_n 2, 1) := by decide +kernel
theorem dX4_append_31 : decode cX4_append 31 = .ok (.iconst 1, 1) := by decide +kernel
theorem dX4_append_32 : decode cX4_append 32 = .ok (.invokevirtual 29, 3) := by decide +kernel
theorem dX4_append_35 : decode cX4_append 35 = .ok (.aload_n 0, 1) := by decide +kernel
theorem dX4_append_36 : decode cX4_append 36 = .ok (.getfield 11, 3) := by decide +kernel
theorem dX4_append_39 : decode cX4_append 39 = .ok (.iload_n 1, 1) := by decide +kernel
theorem dX4_append_40 : decode cX4_append 40 = .ok (.aaload, 1) := by decide +kernel
theorem dX4_append_41 : decode cX4_append 41 = .ok (.iload_n 3, 1) := by decide +kernel
theorem dX4_append_42 : decode cX4_append 42 = .ok (.iload_n 2, 1) := by decide +kernel
theorem dX4_append_43 : decode cX4_append 43 = .ok (.iastore, 1) := by decide +kernel
theorem dX4_append_44 : decode cX4_append 44 = .ok (.aload_n 0, 1) := by decide +kernel
theorem dX4_append_45 : decode cX4_append 45 = .ok (.getfield 16, 3) := by decide +kernel
theorem dX4_append_48 : decode cX4_append 48 = .ok (.iload_n 1, 1) := by decide +kernel
theorem dX4_append_49 : decode cX4_append 49 = .ok (.iload_n 3, 1) := by decide +kernel
theorem dX4_append_50 : decode cX4_append 50 = .ok (.iconst 1, 1) := by decide +kernel
theorem dX4_append_51 : decode cX4_append 51 = .ok (.iadd, 1) := by decide +kernel
theorem dX4_append_52 : decode cX4_append 52 = .ok (.iastore, 1) := by decide +kernel
theorem dX4_append_53 : decode cX4_append 53 = .ok (.return_, 1) := by decide +kernel
theorem dX4_wipe_0 : decode cX4_wipe 0 = .ok (.iconst 1, 1) := by decide +kernel
theorem dX4_wipe_1 : decode cX4_wipe 1 = .ok (.istore_n 2, 1) := by decide +kernel
theorem dX4_wipe_2 : decode cX4_wipe 2 = .ok (.iload_n 2, 1) := by decide +kernel
theorem dX4_wipe_3 : decode cX4_wipe 3 = .ok (.aload_n 0, 1) := by decide +kernel
theorem dX4_wipe_4 : decode cX4_wipe 4 = .ok (.getfield 16, 3) := by decide +kernel
theorem dX4_wipe_7 : decode cX4_wipe 7 = .ok (.iload_n 1, 1) := by decide +kernel
theorem dX4_wipe_8 : decode cX4_wipe 8 = .ok (.iaload, 1) := by decide +kernel
theorem dX4_wipe_9 : decode cX4_wipe 9 = .ok (.if_icmp .ge 32, 3) := by decide +kernel
theorem dX4_wipe_12 : decode cX4_wipe 12 = .ok (.aload_n 0, 1) := by decide +kernel
theorem dX4_wipe_13 : decode cX4_wipe 13 = .ok (.aload_n 0, 1) := by decide +kernel
theorem dX4_wipe_14 : decode cX4_wipe 14 = .ok (.getfield 11, 3) := by decide +kernel
theorem dX4_wipe_17 : decode cX4_wipe 17 = .ok (.iload_n 1, 1) := by decide +kernel
theorem dX4_wipe_18 : decode cX4_wipe 18 = .ok (.aaload, 1) := by decide +kernel
theorem dX4_wipe_19 : decode cX4_wipe 19 = .ok (.iload_n 2, 1) := by decide +kernel
theorem dX4_wipe_20 : decode cX4_wipe 20 = .ok (.iconst 1, 1) := by decide +kernel
theorem dX4_wipe_21 : decode cX4_wipe 21 = .ok (.isub, 1) := by decide +kernel
theorem dX4_wipe_22 : decode cX4_wipe 22 = .ok (.iaload, 1) := by decide +kernel
theorem dX4_wipe_23 : decode cX4_wipe 23 = .ok (.aload_n 0, 1) := by decide +kernel
theorem dX4_wipe_24 : decode cX4_wipe 24 = .ok (.getfield 11, 3) := by decide +kernel
theorem dX4_wipe_27 : decode cX4_wipe 27 = .ok (.iload_n 1, 1) := by decide +kernel
theorem dX4_wipe_28 : decode cX4_wipe 28 = .ok (.aaload, 1) := by decide +kernel
theorem dX4_wipe_29 : decode cX4_wipe 29 = .ok (.iload_n 2, 1) := by decide +kernel
theorem dX4_wipe_30 : decode cX4_wipe 30 = .ok (.iaload, 1) := by decide +kernel
theorem dX4_wipe_31 : decode cX4_wipe 31 = .ok (.iconst (-1), 1) := by decide +kernel
theorem dX4_wipe_32 : decode cX4_wipe 32 = .ok (.invokevirtual 29, 3) := by decide +kernel
theorem dX4_wipe_35 : decode cX4_wipe 35 = .ok (.iinc 2 1, 3) := by decide +kernel
theorem dX4_wipe_38 : decode cX4_wipe 38 = .ok (.goto (-36), 3) := by decide +kernel
theorem dX4_wipe_41 : decode cX4_wipe 41 = .ok (.aload_n 0, 1) := by decide +kernel
theorem dX4_wipe_42 : decode cX4_wipe 42 = .ok (.getfield 16, 3) := by decide +kernel
theorem dX4_wipe_45 : decode cX4_wipe 45 = .ok (.iload_n 1, 1) := by decide +kernel
theorem dX4_wipe_46 : decode cX4_wipe 46 = .ok (.iconst 0, 1) := by decide +kernel
theorem dX4_wipe_47 : decode cX4_wipe 47 = .ok (.iastore, 1) := by decide +kernel
theorem dX4_wipe_48 : decode cX4_wipe 48 = .ok (.return_, 1) := by decide +kernel
theorem dX4_countPair_0 : decode cX4_countPair 0 = .ok (.iload_n 1, 1) := by decide +kernel
theorem dX4_countPair_1 : decode cX4_countPair 1 = .ok (.bipush 97, 2) := by decide +kernel
theorem dX4_countPair_3 : decode cX4_countPair 3 = .ok (.isub, 1) := by decide +kernel
theorem dX4_countPair_4 : decode cX4_countPair 4 = .ok (.istore 4, 2) := by decide +kernel
theorem dX4_countPair_6 : decode cX4_countPair 6 = .ok (.iload_n 2, 1) := by decide +kernel
theorem dX4_countPair_7 : decode cX4_countPair 7 = .ok (.bipush 97, 2) := by decide +kernel
theorem dX4_countPair_9 : decode cX4_countPair 9 = .ok (.isub, 1) := by decide +kernel
theorem dX4_countPair_10 : decode cX4_countPair 10 = .ok (.istore 5, 2) := by decide +kernel
theorem dX4_countPair_12 : decode cX4_countPair 12 = .ok (.iload 4, 2) := by decide +kernel
theorem dX4_countPair_14 : decode cX4_countPair 14 = .ok (.ifCond .lt 36, 3) := by decide +kernel
theorem dX4_countPair_17 : decode cX4_countPair 17 = .ok (.iload 4, 2) := by decide +kernel
theorem dX4_countPair_19 : decode cX4_countPair 19 = .ok (.bipush 10, 2) := by decide +kernel
theorem dX4_countPair_21 : decode cX4_countPair 21 = .ok (.if_icmp .ge 29, 3) := by decide +kernel
theorem dX4_countPair_24 : decode cX4_countPair 24 = .ok (.iload 5, 2) := by decide +kernel
theorem dX4_countPair_26 : decode cX4_countPair 26 = .ok (.ifCond .lt 24, 3) := by decide +kernel
theorem dX4_countPair_29 : decode cX4_countPair 29 = .ok (.iload 5, 2) := by decide +kernel
theorem dX4_countPair_31 : decode cX4_countPair 31 = .ok (.bipush 10, 2) := by decide +kernel
theorem dX4_countPair_33 : decode cX4_countPair 33 = .ok (.if_icmp .ge 17, 3) := by decide +kernel
theorem dX4_countPair_36 : decode cX4_countPair 36 = .ok (.aload_n 0, 1) := by decide +kernel
theorem dX4_countPair_37 : decode cX4_countPair 37 = .ok (.getfield 20, 3) := by decide +kernel
theorem dX4_countPair_40 : decode cX4_countPair 40 = .ok (.iload 4, 2) := by decide +kernel
theorem dX4_countPair_42 : decode cX4_countPair 42 = .ok (.aaload, 1) := by decide +kernel
theorem dX4_countPair_43 : decode cX4_countPair 43 = .ok (.iload 5, 2) := by decide +kernel
theorem dX4_countPair_45 : decode cX4_countPair 45 = .ok (.dup2, 1) := by decide +kernel
theorem dX4_countPair_46 : decode cX4_countPair 46 = .ok (.iaload, 1) := by decide +kernel
theorem dX4_countPair_47 : decode cX4_countPair 47 = .ok (.iload_n 3, 1) := by decide +kernel
theorem dX4_countPair_48 : decode cX4_countPair 48 = .ok (.iadd, 1) := by decide +kernel
theorem dX4_countPair_49 : decode cX4_countPair 49 = .ok (.iastore, 1) := by decide +kernel
theorem dX4_countPair_50 : decode cX4_countPair 50 = .ok (.return_, 1) := by decide +kernel
theorem dX4_present_0 : decode cX4_present 0 = .ok (.iconst 0, 1) := by decide +kernel
theorem dX4_present_1 : decode cX4_present 1 = .ok (.istore_n 1, 1) := by decide +kernel
theorem dX4_present_2 : decode cX4_present 2 = .ok (.aload_n 0, 1) := by decide +kernel
theorem dX4_present_3 : decode cX4_present 3 = .ok (.getfield 16, 3) := by decide +kernel
theorem dX4_present_6 : decode cX4_present 6 = .ok (.astore_n 2, 1) := by decide +kernel
theorem dX4_present_7 : decode cX4_present 7 = .ok (.aload_n 2, 1) := by decide +kernel
theorem dX4_present_8 : decode cX4_present 8 = .ok (.arraylength, 1) := by decide +kernel
theorem dX4_present_9 : decode cX4_present 9 = .ok (.istore_n 3, 1) := by decide +kernel
theorem dX4_present_10 : decode cX4_present 10 = .ok (.iconst 0, 1) := by decide +kernel
theorem dX4_present_11 : decode cX4_present 11 = .ok (.istore 4, 2) := by decide +kernel
theorem dX4_present_13 : decode cX4_present 13 = .ok (.iload 4, 2) := by decide +kernel
theorem dX4_present_15 : decode cX4_present 15 = .ok (.iload_n 3, 1) := by decide +kernel
theorem dX4_present_16 : decode cX4_present 16 = .ok (.if_icmp .ge 23, 3) := by decide +kernel
theorem dX4_present_19 : decode cX4_present 19 = .ok (.aload_n 2, 1) := by decide +kernel
theorem dX4_present_20 : decode cX4_present 20 = .ok (.iload 4, 2) := by decide +kernel
theorem dX4_present_22 : decode cX4_present 22 = .ok (.iaload, 1) := by decide +kernel
theorem dX4_present_23 : decode cX4_present 23 = .ok (.istore 5, 2) := by decide +kernel
theorem dX4_present_25 : decode cX4_present 25 = .ok (.iload 5, 2) := by decide +kernel
theorem dX4_present_27 : decode cX4_present 27 = .ok (.ifCond .le 6, 3) := by decide +kernel
theorem dX4_present_30 : decode cX4_present 30 = .ok (.iinc 1 1, 3) := by decide +kernel
theorem dX4_present_33 : decode cX4_present 33 = .ok (.iinc 4 1, 3) := by decide +kernel
theorem dX4_present_36 : decode cX4_present 36 = .ok (.goto (-23), 3) := by decide +kernel
theorem dX4_present_39 : decode cX4_present 39 = .ok (.iload_n 1, 1) := by decide +kernel
theorem dX4_present_40 : decode cX4_present 40 = .ok (.ireturn, 1) := by decide +kernel
theorem dX4_signsTogether_0 : decode cX4_signsTogether 0 = .ok (.iconst 0, 1) := by decide +kernel
theorem dX4_signsTogether_1 : decode cX4_signsTogether 1 = .ok (.istore_n 1, 1) := by decide +kernel
theorem dX4_signsTogether_2 : decode cX4_signsTogether 2 = .ok (.aload_n 0, 1) := by decide +kernel
theorem dX4_signsTogether_3 : decode cX4_signsTogether 3 = .ok (.getfield 16, 3) := by decide +kernel
theorem dX4_signsTogether_6 : decode cX4_signsTogether 6 = .ok (.astore_n 2, 1) := by decide +kernel
theorem dX4_signsTogether_7 : decode cX4_signsTogether 7 = .ok (.aload_n 2, 1) := by decide +kernel
theorem dX4_signsTogether_8 : decode cX4_signsTogether 8 = .ok (.arraylength, 1) := by decide +kernel
theorem dX4_signsTogether_9 : decode cX4_signsTogether 9 = .ok (.istore_n 3, 1) := by decide +kernel
theorem dX4_signsTogether_10 : decode cX4_signsTogether 10 = .ok (.iconst 0, 1) := by decide +kernel
theorem dX4_signsTogether_11 : decode cX4_signsTogether 11 = .ok (.istore 4, 2) := by decide +kernel
theorem dX4_signsTogether_13 : decode cX4_signsTogether 13 = .ok (.iload 4, 2) := by decide +kernel
theorem dX4_signsTogether_15 : decode cX4_signsTogether 15 = .ok (.iload_n 3, 1) := by decide +kernel
theorem dX4_signsTogether_16 : decode cX4_signsTogether 16 = .ok (.if_icmp .ge 20, 3) := by decide +kernel
theorem dX4_signsTogether_19 : decode cX4_signsTogether 19 = .ok (.aload_n 2, 1) := by decide +kernel
theorem dX4_signsTogether_20 : decode cX4_signsTogether 20 = .ok (.iload 4, 2) := by decide +kernel
theorem dX4_signsTogether_22 : decode cX4_signsTogether 22 = .ok (.iaload, 1) := by decide +kernel
theorem dX4_signsTogether_23 : decode cX4_signsTogether 23 = .ok (.istore 5, 2) := by decide +kernel
theorem dX4_signsTogether_25 : decode cX4_signsTogether 25 = .ok (.iload_n 1, 1) := by decide +kernel
theorem dX4_signsTogether_26 : decode cX4_signsTogether 26 = .ok (.iload 5, 2) := by decide +kernel
theorem dX4_signsTogether_28 : decode cX4_signsTogether 28 = .ok (.iadd, 1) := by decide +kernel
theorem dX4_signsTogether_29 : decode cX4_signsTogether 29 = .ok (.istore_n 1, 1) := by decide +kernel
theorem dX4_signsTogether_30 : decode cX4_signsTogether 30 = .ok (.iinc 4 1, 3) := by decide +kernel
theorem dX4_signsTogether_33 : decode cX4_signsTogether 33 = .ok (.goto (-20), 3) := by decide +kernel
theorem dX4_signsTogether_36 : decode cX4_signsTogether 36 = .ok (.iload_n 1, 1) := by decide +kernel
theorem dX4_signsTogether_37 : decode cX4_signsTogether 37 = .ok (.ireturn, 1) := by decide +kernel
theorem dX4_pairsOf_0 : decode cX4_pairsOf 0 = .ok (.iconst 0, 1) := by decide +kernel
theorem dX4_pairsOf_1 : decode cX4_pairsOf 1 = .ok (.istore_n 2, 1) := by decide +kernel
theorem dX4_pairsOf_2 : decode cX4_pairsOf 2 = .ok (.iconst 0, 1) := by decide +kernel
theorem dX4_pairsOf_3 : decode cX4_pairsOf 3 = .ok (.istore_n 3, 1) := by decide +kernel
theorem dX4_pairsOf_4 : decode cX4_pairsOf 4 = .ok (.iload_n 3, 1) := by decide +kernel
theorem dX4_pairsOf_5 : decode cX4_pairsOf 5 = .ok (.iload_n 1, 1) := by decide +kernel
theorem dX4_pairsOf_6 : decode cX4_pairsOf 6 = .ok (.if_icmp .ge 36, 3) := by decide +kernel
theorem dX4_pairsOf_9 : decode cX4_pairsOf 9 = .ok (.iconst 0, 1) := by decide +kernel
theorem dX4_pairsOf_10 : decode cX4_pairsOf 10 = .ok (.istore 4, 2) := by decide +kernel
theorem dX4_pairsOf_12 : decode cX4_pairsOf 12 = .ok (.iload 4, 2) := by decide +kernel
theorem dX4_pairsOf_14 : decode cX4_pairsOf 14 = .ok (.iload_n 1, 1) := by decide +kernel
theorem dX4_pairsOf_15 : decode cX4_pairsOf 15 = .ok (.if_icmp .ge 21, 3) := by decide +kernel
theorem dX4_pairsOf_18 : decode cX4_pairsOf 18 = .ok (.iload_n 2, 1) := by decide +kernel
theorem dX4_pairsOf_19 : decode cX4_pairsOf 19 = .ok (.aload_n 0, 1) := by decide +kernel
theorem dX4_pairsOf_20 : decode cX4_pairsOf 20 = .ok (.getfield 20, 3) := by decide +kernel
theorem dX4_pairsOf_23 : decode cX4_pairsOf 23 = .ok (.iload_n 3, 1) := by decide +kernel
theorem dX4_pairsOf_24 : decode cX4_pairsOf 24 = .ok (.aaload, 1) := by decide +kernel
theorem dX4_pairsOf_25 : decode cX4_pairsOf 25 = .ok (.iload 4, 2) := by decide +kernel
theorem dX4_pairsOf_27 : decode cX4_pairsOf 27 = .ok (.iaload, 1) := by decide +kernel
theorem dX4_pairsOf_28 : decode cX4_pairsOf 28 = .ok (.iadd, 1) := by decide +kernel
theorem dX4_pairsOf_29 : decode cX4_pairsOf 29 = .ok (.istore_n 2, 1) := by decide +kernel
theorem dX4_pairsOf_30 : decode cX4_pairsOf 30 = .ok (.iinc 4 1, 3) := by decide +kernel
theorem dX4_pairsOf_33 : decode cX4_pairsOf 33 = .ok (.goto (-21), 3) := by decide +kernel
theorem dX4_pairsOf_36 : decode cX4_pairsOf 36 = .ok (.iinc 3 1, 3) := by decide +kernel
theorem dX4_pairsOf_39 : decode cX4_pairsOf 39 = .ok (.goto (-35), 3) := by decide +kernel
theorem dX4_pairsOf_42 : decode cX4_pairsOf 42 = .ok (.iload_n 2, 1) := by decide +kernel
theorem dX4_pairsOf_43 : decode cX4_pairsOf 43 = .ok (.ireturn, 1) := by decide +kernel
theorem dX5_init_0 : decode cX5_init 0 = .ok (.aload_n 0, 1) := by decide +kernel
theorem dX5_init_1 : decode cX5_init 1 = .ok (.invokespecial 3, 3) := by decide +kernel
theorem dX5_init_4 : decode cX5_init 4 = .ok (.aload_n 0, 1) := by decide +kernel
theorem dX5_init_5 : decode cX5_init 5 = .ok (.bipush 10, 2) := by decide +kernel
theorem dX5_init_7 : decode cX5_init 7 = .ok (.newarray .int, 2) := by decide +kernel
theorem dX5_init_9 : decode cX5_init 9 = .ok (.putfield 9, 3) := by decide +kernel
theorem dX5_init_12 : decode cX5_init 12 = .ok (.aload_n 0, 1) := by decide +kernel
theorem dX5_init_13 : decode cX5_init 13 = .ok (.aload_n 1, 1) := by decide +kernel
theorem dX5_init_14 : decode cX5_init 14 = .ok (.putfield 15, 3) := by decide +kernel
theorem dX5_init_17 : decode cX5_init 17 = .ok (.aload_n 0, 1) := by decide +kernel
theorem dX5_init_18 : decode cX5_init 18 = .ok (.aload_n 2, 1) := by decide +kernel
theorem dX5_init_19 : decode cX5_init 19 = .ok (.putfield 19, 3) := by decide +kernel
theorem dX5_init_22 : decode cX5_init 22 = .ok (.aload_n 0, 1) := by decide +kernel
theorem dX5_init_23 : decode cX5_init 23 = .ok (.aload_n 3, 1) := by decide +kernel
theorem dX5_init_24 : decode cX5_init 24 = .ok (.putfield 23, 3) := by decide +kernel
theorem dX5_init_27 : decode cX5_init 27 = .ok (.return_, 1) := by decide +kernel
theorem dX5_become_0 : decode cX5_become 0 = .ok (.iconst 0, 1) := by decide +kernel
theorem dX5_become_1 : decode cX5_become 1 = .ok (.istore_n 2, 1) := by decide +kernel
theorem dX5_become_2 : decode cX5_become 2 = .ok (.iload_n 2, 1) := by decide +kernel
theorem dX5_become_3 : decode cX5_become 3 = .ok (.aload_n 0, 1) := by decide +kernel
theorem dX5_become_4 : decode cX5_become 4 = .ok (.getfield 15, 3) := by decide +kernel
theorem dX5_become_7 : decode cX5_become 7 = .ok (.getfield 27, 3) := by decide +kernel
theorem dX5_become_10 : decode cX5_become 10 = .ok (.if_icmp .ge 18, 3) := by decide +kernel
theorem dX5_become_13 : decode cX5_become 13 = .ok (.aload_n 0, 1) := by decide +kernel
theorem dX5_become_14 : decode cX5_become 14 = .ok (.getfield 9, 3) := by decide +kernel
theorem dX5_become_17 : decode cX5_become 17 = .ok (.iload_n 2, 1) := by decide +kernel
theorem dX5_become_18 : decode cX5_become 18 = .ok (.aload_n 1, 1) := by decide +kernel
theorem dX5_become_19 : decode cX5_become 19 = .ok (.iload_n 2, 1) := by decide +kernel
theorem dX5_become_20 : decode cX5_become 20 = .ok (.iaload, 1) := by decide +kernel
theorem dX5_become_21 : decode cX5_become 21 = .ok (.iastore, 1) := by decide +kernel
theorem dX5_become_22 : decode cX5_become 22 = .ok (.iinc 2 1, 3) := by decide +kernel
theorem dX5_become_25 : decode cX5_become 25 = .ok (.goto (-23), 3) := by decide +kernel
theorem dX5_become_28 : decode cX5_become 28 = .ok (.aload_n 0, 1) := by decide +kernel
theorem dX5_become_29 : decode cX5_become 29 = .ok (.iconst 1, 1) := by decide +kernel
theorem dX5_become_30 : decode cX5_become 30 = .ok (.putfield 33, 3) := by decide +kernel
theorem dX5_become_33 : decode cX5_become 33 = .ok (.return_, 1) := by decide +kernel
theorem dX5_becomeFirst_0 : decode cX5_becomeFirst 0 = .ok (.iconst 0, 1) := by decide +kernel
theorem dX5_becomeFirst_1 : decode cX5_becomeFirst 1 = .ok (.istore_n 1, 1) := by decide +kernel
theorem dX5_becomeFirst_2 : decode cX5_becomeFirst 2 = .ok (.iconst 0, 1) := by decide +kernel
theorem dX5_becomeFirst_3 : decode cX5_becomeFirst 3 = .ok (.istore_n 2, 1) := by decide +kernel
theorem dX5_becomeFirst_4 : decode cX5_becomeFirst 4 = .ok (.iload_n 2, 1) := by decide +kernel
theorem dX5_becomeFirst_5 : decode cX5_becomeFirst 5 = .ok (.aload_n 0, 1) := by decide +kernel
theorem dX5_becomeFirst_6 : decode cX5_becomeFirst 6 = .ok (.getfield 15, 3) := by decide +kernel
theorem dX5_becomeFirst_9 : decode cX5_becomeFirst 9 = .ok (.getfield 27, 3) := by decide +kernel
theorem dX5_becomeFirst_12 : decode cX5_becomeFirst 12 = .ok (.if_icmp .ge 54, 3) := by decide +kernel
theorem dX5_becomeFirst_15 : decode cX5_becomeFirst 15 = .ok (.aload_n 0, 1) := by decide +kernel
theorem dX5_becomeFirst_16 : decode cX5_becomeFirst 16 = .ok (.getfield 15, 3) := by decide +kernel
theorem dX5_becomeFirst_19 : decode cX5_becomeFirst 19 = .ok (.iload_n 2, 1) := by decide +kernel
theorem dX5_becomeFirst_20 : decode cX5_becomeFirst 20 = .ok (.invokevirtual 37, 3) := by decide +kernel
theorem dX5_becomeFirst_23 : decode cX5_becomeFirst 23 = .ok (.ifCond .eq 21, 3) := by decide +kernel
theorem dX5_becomeFirst_26 : decode cX5_becomeFirst 26 = .ok (.aload_n 0, 1) := by decide +kernel
theorem dX5_becomeFirst_27 : decode cX5_becomeFirst 27 = .ok (.getfield 9, 3) := by decide +kernel
theorem dX5_becomeFirst_30 : decode cX5_becomeFirst 30 = .ok (.iload_n 2, 1) := by decide +kernel
theorem dX5_becomeFirst_31 : decode cX5_becomeFirst 31 = .ok (.aload_n 0, 1) := by decide +kernel
theorem dX5_becomeFirst_32 : decode cX5_becomeFirst 32 = .ok (.getfield 15, 3) := by decide +kernel
theorem dX5_becomeFirst_35 : decode cX5_becomeFirst 35 = .ok (.getfield 41, 3) := by decide +kernel
theorem dX5_becomeFirst_38 : decode cX5_becomeFirst 38 = .ok (.iload_n 2, 1) := by decide +kernel
theorem dX5_becomeFirst_39 : decode cX5_becomeFirst 39 = .ok (.iaload, 1) := by decide +kernel
theorem dX5_becomeFirst_40 : decode cX5_becomeFirst 40 = .ok (.iastore, 1) := by decide +kernel
theorem dX5_becomeFirst_41 : decode cX5_becomeFirst 41 = .ok (.goto 19, 3) := by decide +kernel
theorem dX5_becomeFirst_44 : decode cX5_becomeFirst 44 = .ok (.aload_n 0, 1) := by decide +kernel
theorem dX5_becomeFirst_45 : decode cX5_becomeFirst 45 = .ok (.iload_n 1, 1) := by decide +kernel
theorem dX5_becomeFirst_46 : decode cX5_becomeFirst 46 = .ok (.invokevirtual 44, 3) := by decide +kernel
theorem dX5_becomeFirst_49 : decode cX5_becomeFirst 49 = .ok (.istore_n 1, 1) := by decide +kernel
theorem dX5_becomeFirst_50 : decode cX5_becomeFirst 50 = .ok (.aload_n 0, 1) := by decide +kernel
theorem dX5_becomeFirst_51 : decode cX5_becomeFirst 51 = .ok (.getfield 9, 3) := by decide +kernel
theorem dX5_becomeFirst_54 : decode cX5_becomeFirst 54 = .ok (.iload_n 2, 1) := by decide +kernel
theorem dX5_becomeFirst_55 : decode cX5_becomeFirst 55 = .ok (.iload_n 1, 1) := by decide +kernel
theorem dX5_becomeFirst_56 : decode cX5_becomeFirst 56 = .ok (.iastore, 1) := by decide +kernel
theorem dX5_becomeFirst_57 : decode cX5_becomeFirst 57 = .ok (.iinc 1 1, 3) := by decide +kernel
theorem dX5_becomeFirst_60 : decode cX5_becomeFirst 60 = .ok (.iinc 2 1, 3) := by decide +kernel
theorem dX5_becomeFirst_63 : decode cX5_becomeFirst 63 = .ok (.goto (-59), 3) := by decide +kernel
theorem dX5_becomeFirst_66 : decode cX5_becomeFirst 66 = .ok (.aload_n 0, 1) := by decide +kernel
theorem dX5_becomeFirst_67 : decode cX5_becomeFirst 67 = .ok (.iconst 1, 1) := by decide +kernel
theorem dX5_becomeFirst_68 : decode cX5_becomeFirst 68 = .ok (.putfield 33, 3) := by decide +kernel
theorem dX5_becomeFirst_71 : decode cX5_becomeFirst 71 = .ok (.return_, 1) := by decide +kernel
theorem dX5_unfixedFrom_0 : decode cX5_unfixedFrom 0 = .ok (.iload_n 1, 1) := by decide +kernel
theorem dX5_unfixedFrom_1 : decode cX5_unfixedFrom 1 = .ok (.istore_n 2, 1) := by decide +kernel
theorem dX5_unfixedFrom_2 : decode cX5_unfixedFrom 2 = .ok (.iload_n 2, 1) := by decide +kernel
theorem dX5_unfixedFrom_3 : decode cX5_unfixedFrom 3 = .ok (.aload_n 0, 1) := by decide +kernel
theorem dX5_unfixedFrom_4 : decode cX5_unfixedFrom 4 = .ok (.getfield 19, 3) := by decide +kernel
theorem dX5_unfixedFrom_7 : decode cX5_unfixedFrom 7 = .ok (.getfield 48, 3) := by decide +kernel
theorem dX5_unfixedFrom_10 : decode cX5_unfixedFrom 10 = .ok (.iconst 1, 1) := by decide +kernel
theorem dX5_unfixedFrom_11 : decode cX5_unfixedFrom 11 = .ok (.isub, 1) := by decide +kernel
theorem dX5_unfixedFrom_12 : decode cX5_unfixedFrom 12 = .ok (.if_icmp .ge 22, 3) := by decide +kernel
theorem dX5_unfixedFrom_15 : decode cX5_unfixedFrom 15 = .ok (.aload_n 0, 1) := by decide +kernel
theorem dX5_unfixedFrom_16 : decode cX5_unfixedFrom 16 = .ok (.getfield 15, 3) := by decide +kernel
theorem dX5_unfixedFrom_19 : decode cX5_unfixedFrom 19 = .ok (.getfield 51, 3) := by decide +kernel
theorem dX5_unfixedFrom_22 : decode cX5_unfixedFrom 22 = .ok (.iload_n 2, 1) := by decide +kernel
theorem dX5_unfixedFrom_23 : decode cX5_unfixedFrom 23 = .ok (.iaload, 1) := by decide +kernel
theorem dX5_unfixedFrom_24 : decode cX5_unfixedFrom 24 = .ok (.iconst (-1), 1) := by decide +kernel
theorem dX5_unfixedFrom_25 : decode cX5_unfixedFrom 25 = .ok (.if_icmp .eq 9, 3) := by decide +kernel
theorem dX5_unfixedFrom_28 : decode cX5_unfixedFrom 28 = .ok (.iinc 2 1, 3) := by decide +kernel
theorem dX5_unfixedFrom_31 : decode cX5_unfixedFrom 31 = .ok (.goto (-29), 3) := by decide +kernel
theorem dX5_unfixedFrom_34 : decode cX5_unfixedFrom 34 = .ok (.iload_n 2, 1) := by decide +kernel
theorem dX5_unfixedFrom_35 : decode cX5_unfixedFrom 35 = .ok (.ireturn, 1) := by decide +kernel
theorem dX5_letterOn_0 : decode cX5_letterOn 0 = .ok (.iconst 0, 1) := by decide +kernel
theorem dX5_letterOn_1 : decode cX5_letterOn 1 = .ok (.istore_n 2, 1) := by decide +kernel
theorem dX5_letterOn_2 : decode cX5_letterOn 2 = .ok (.iload_n 2, 1) := by decide +kernel
theorem dX5_letterOn_3 : decode cX5_letterOn 3 = .ok (.aload_n 0, 1) := by decide +kernel
theorem dX5_letterOn_4 : decode cX5_letterOn 4 = .ok (.getfield 15, 3) := by decide +kernel
theorem dX5_letterOn_7 : decode cX5_letterOn 7 = .ok (.getfield 27, 3) := by decide +kernel
theorem dX5_letterOn_10 : decode cX5_letterOn 10 = .ok (.if_icmp .ge 21, 3) := by decide +kernel
theorem dX5_letterOn_13 : decode cX5_letterOn 13 = .ok (.aload_n 0, 1) := by decide +kernel
theorem dX5_letterOn_14 : decode cX5_letterOn 14 = .ok (.getfield 9, 3) := by decide +kernel
theorem dX5_letterOn_17 : decode cX5_letterOn 17 = .ok (.iload_n 2, 1) := by decide +kernel
theorem dX5_letterOn_18 : decode cX5_letterOn 18 = .ok (.iaload, 1) := by decide +kernel
theorem dX5_letterOn_19 : decode cX5_letterOn 19 = .ok (.iload_n 1, 1) := by decide +kernel
theorem dX5_letterOn_20 : decode cX5_letterOn 20 = .ok (.if_icmp .ne 5, 3) := by decide +kernel
theorem dX5_letterOn_23 : decode cX5_letterOn 23 = .ok (.iload_n 2, 1) := by decide +kernel
theorem dX5_letterOn_24 : decode cX5_letterOn 24 = .ok (.ireturn, 1) := by decide +kernel
theorem dX5_letterOn_25 : decode cX5_letterOn 25 = .ok (.iinc 2 1, 3) := by decide +kernel
theorem dX5_letterOn_28 : decode cX5_letterOn 28 = .ok (.goto (-26), 3) := by decide +kernel
theorem dX5_letterOn_31 : decode cX5_letterOn 31 = .ok (.iconst (-1), 1) := by decide +kernel
theorem dX5_letterOn_32 : decode cX5_letterOn 32 = .ok (.ireturn, 1) := by decide +kernel
theorem dX5_move_0 : decode cX5_move 0 = .ok (.aload_n 0, 1) := by decide +kernel
theorem dX5_move_1 : decode cX5_move 1 = .ok (.iload_n 2, 1) := by decide +kernel
theorem dX5_move_2 : decode cX5_move 2 = .ok (.invokevirtual 54, 3) := by decide +kernel
theorem dX5_move_5 : decode cX5_move 5 = .ok (.istore_n 3, 1) := by decide +kernel
theorem dX5_move_6 : decode cX5_move 6 = .ok (.iload_n 3, 1) := by decide +kernel
theorem dX5_move_7 : decode cX5_move 7 = .ok (.iconst (-1), 1) := by decide +kernel
theorem dX5_move_8 : decode cX5_move 8 = .ok (.if_icmp .eq 15, 3) := by decide +kernel
theorem dX5_move_11 : decode cX5_move 11 = .ok (.aload_n 0, 1) := by decide +kernel
theorem dX5_move_12 : decode cX5_move 12 = .ok (.getfield 9, 3) := by decide +kernel
theorem dX5_move_15 : decode cX5_move 15 = .ok (.iload_n 3, 1) := by decide +kernel
theorem dX5_move_16 : decode cX5_move 16 = .ok (.aload_n 0, 1) := by decide +kernel
theorem dX5_move_17 : decode cX5_move 17 = .ok (.getfield 9, 3) := by decide +kernel
theorem dX5_move_20 : decode cX5_move 20 = .ok (.iload_n 1, 1) := by decide +kernel
theorem dX5_move_21 : decode cX5_move 21 = .ok (.iaload, 1) := by decide +kernel
theorem dX5_move_22 : decode cX5_move 22 = .ok (.iastore, 1) := by decide +kernel
theorem dX5_move_23 : decode cX5_move 23 = .ok (.aload_n 0, 1) := by decide +kernel
theorem dX5_move_24 : decode cX5_move 24 = .ok (.getfield 9, 3) := by decide +kernel
theorem dX5_move_27 : decode cX5_move 27 = .ok (.iload_n 1, 1) := by decide +kernel
theorem dX5_move_28 : decode cX5_move 28 = .ok (.iload_n 2, 1) := by decide +kernel
theorem dX5_move_29 : decode cX5_move 29 = .ok (.iastore, 1) := by decide +kernel
theorem dX5_move_30 : decode cX5_move 30 = .ok (.return_, 1) := by decide +kernel
theorem dX5_pairCost_0 : decode cX5_pairCost 0 = .ok (.aload_n 0, 1) := by decide +kernel
theorem dX5_pairCost_1 : decode cX5_pairCost 1 = .ok (.getfield 23, 3) := by decide +kernel
theorem dX5_pairCost_4 : decode cX5_pairCost 4 = .ok (.iload_n 1, 1) := by decide +kernel
theorem dX5_pairCost_5 : decode cX5_pairCost 5 = .ok (.aaload, 1) := by decide +kernel
theorem dX5_pairCost_6 : decode cX5_pairCost 6 = .ok (.iload_n 2, 1) := by decide +kernel
theorem dX5_pairCost_7 : decode cX5_pairCost 7 = .ok (.iaload, 1) := by decide +kernel
theorem dX5_pairCost_8 : decode cX5_pairCost 8 = .ok (.i2l, 1) := by decide +kernel
theorem dX5_pairCost_9 : decode cX5_pairCost 9 = .ok (.aload_n 0, 1) := by decide +kernel
theorem dX5_pairCost_10 : decode cX5_pairCost 10 = .ok (.getfield 19, 3) := by decide +kernel
theorem dX5_pairCost_13 : decode cX5_pairCost 13 = .ok (.getfield 57, 3) := by decide +kernel
theorem dX5_pairCost_16 : decode cX5_pairCost 16 = .ok (.aload_n 0, 1) := by decide +kernel
theorem dX5_pairCost_17 : decode cX5_pairCost 17 = .ok (.getfield 9, 3) := by decide +kernel
theorem dX5_pairCost_20 : decode cX5_pairCost 20 = .ok (.iload_n 1, 1) := by decide +kernel
theorem dX5_pairCost_21 : decode cX5_pairCost 21 = .ok (.iaload, 1) := by decide +kernel
theorem dX5_pairCost_22 : decode cX5_pairCost 22 = .ok (.aaload, 1) := by decide +kernel
theorem dX5_pairCost_23 : decode cX5_pairCost 23 = .ok (.aload_n 0, 1) := by decide +kernel
theorem dX5_pairCost_24 : decode cX5_pairCost 24 = .ok (.getfield 9, 3) := by decide +kernel
theorem dX5_pairCost_27 : decode cX5_pairCost 27 = .ok (.iload_n 2, 1) := by decide +kernel
theorem dX5_pairCost_28 : decode cX5_pairCost 28 = .ok (.iaload, 1) := by decide +kernel
theorem dX5_pairCost_29 : decode cX5_pairCost 29 = .ok (.iaload, 1) := by decide +kernel
theorem dX5_pairCost_30 : decode cX5_pairCost 30 = .ok (.i2l, 1) := by decide +kernel
theorem dX5_pairCost_31 : decode cX5_pairCost 31 = .ok (.lmul, 1) := by decide +kernel
theorem dX5_pairCost_32 : decode cX5_pairCost 32 = .ok (.lreturn, 1) := by decide +kernel
theorem dX5_wholeCost_0 : decode cX5_wholeCost 0 = .ok (.lconst 0, 1) := by decide +kernel
theorem dX5_wholeCost_1 : decode cX5_wholeCost 1 = .ok (.lstore_n 1, 1) := by decide +kernel
theorem dX5_wholeCost_2 : decode cX5_wholeCost 2 = .ok (.iconst 0, 1) := by decide +kernel
theorem dX5_wholeCost_3 : decode cX5_wholeCost 3 = .ok (.istore_n 3, 1) := by decide +kernel
theorem dX5_wholeCost_4 : decode cX5_wholeCost 4 = .ok (.iload_n 3, 1) := by decide +kernel
theorem dX5_wholeCost_5 : decode cX5_wholeCost 5 = .ok (.aload_n 0, 1) := by decide +kernel
theorem dX5_wholeCost_6 : decode cX5_wholeCost 6 = .ok (.getfield 15, 3) := by decide +kernel
theorem dX5_wholeCost_9 : decode cX5_wholeCost 9 = .ok (.getfield 27, 3) := by decide +kernel
theorem dX5_wholeCost_12 : decode cX5_wholeCost 12 = .ok (.if_icmp .ge 46, 3) := by decide +kernel
theorem dX5_wholeCost_15 : decode cX5_wholeCost 15 = .ok (.iconst 0, 1) := by decide +kernel
theorem dX5_wholeCost_16 : decode cX5_wholeCost 16 = .ok (.istore 4, 2) := by decide +kernel
theorem dX5_wholeCost_18 : decode cX5_wholeCost 18 = .ok (.iload 4, 2) := by decide +kernel
theorem dX5_wholeCost_20 : decode cX5_wholeCost 20 = .ok (.aload_n 0, 1) := by decide +kernel
theorem dX5_wholeCost_21 : decode cX5_wholeCost 21 = .ok (.getfield 15, 3) := by decide +kernel
theorem dX5_wholeCost_24 : decode cX5_wholeCost 24 = .ok (.getfield 27, 3) := by decide +kernel
theorem dX5_wholeCost_27 : decode cX5_wholeCost 27 = .ok (.if_icmp .ge 25, 3) := by decide +kernel
theorem dX5_wholeCost_30 : decode cX5_wholeCost 30 = .ok (.iload_n 3, 1) := by decide +kernel
theorem dX5_wholeCost_31 : decode cX5_wholeCost 31 = .ok (.iload 4, 2) := by decide +kernel
theorem dX5_wholeCost_33 : decode cX5_wholeCost 33 = .ok (.if_icmp .eq 13, 3) := by decide +kernel
theorem dX5_wholeCost_36 : decode cX5_wholeCost 36 = .ok (.lload_n 1, 1) := by decide +kernel
theorem dX5_wholeCost_37 : decode cX5_wholeCost 37 = .ok (.aload_n 0, 1) := by decide +kernel
theorem dX5_wholeCost_38 : decode cX5_wholeCost 38 = .ok (.iload_n 3, 1) := by decide +kernel
theorem dX5_wholeCost_39 : decode cX5_wholeCost 39 = .ok (.iload 4, 2) := by decide +kernel
theorem dX5_wholeCost_41 : decode cX5_wholeCost 41 = .ok (.invokevirtual 60, 3) := by decide +kernel
theorem dX5_wholeCost_44 : decode cX5_wholeCost 44 = .ok (.ladd, 1) := by decide +kernel
theorem dX5_wholeCost_45 : decode cX5_wholeCost 45 = .ok (.lstore_n 1, 1) := by decide +kernel
theorem dX5_wholeCost_46 : decode cX5_wholeCost 46 = .ok (.iinc 4 1, 3) := by decide +kernel
theorem dX5_wholeCost_49 : decode cX5_wholeCost 49 = .ok (.goto (-31), 3) := by decide +kernel
theorem dX5_wholeCost_52 : decode cX5_wholeCost 52 = .ok (.iinc 3 1, 3) := by decide +kernel
theorem dX5_wholeCost_55 : decode cX5_wholeCost 55 = .ok (.goto (-51), 3) := by decide +kernel
theorem dX5_wholeCost_58 : decode cX5_wholeCost 58 = .ok (.lload_n 1, 1) := by decide +kernel
theorem dX5_wholeCost_59 : decode cX5_wholeCost 59 = .ok (.lreturn, 1) := by decide +kernel
theorem dX5_shareOf_0 : decode cX5_shareOf 0 = .ok (.aload_n 0, 1) := by decide +kernel
theorem dX5_shareOf_1 : decode cX5_shareOf 1 = .ok (.getfield 15, 3) := by decide +kernel
theorem dX5_shareOf_4 : decode cX5_shareOf 4 = .ok (.iload_n 1, 1) := by decide +kernel
theorem dX5_shareOf_5 : decode cX5_shareOf 5 = .ok (.invokevirtual 64, 3) := by decide +kernel
theorem dX5_shareOf_8 : decode cX5_shareOf 8 = .ok (.ifCond .ne 5, 3) := by decide +kernel
theorem dX5_shareOf_11 : decode cX5_shareOf 11 = .ok (.lconst 0, 1) := by decide +kernel
theorem dX5_shareOf_12 : decode cX5_shareOf 12 = .ok (.lreturn, 1) := by decide +kernel
theorem dX5_shareOf_13 : decode cX5_shareOf 13 = .ok (.lconst 0, 1) := by decide +kernel
theorem dX5_shareOf_14 : decode cX5_shareOf 14 = .ok (.lstore_n 3, 1) := by decide +kernel
theorem dX5_shareOf_15 : decode cX5_shareOf 15 = .ok (.iconst 0, 1) := by decide +kernel
theorem dX5_shareOf_16 : decode cX5_shareOf 16 = .ok (.istore 5, 2) := by decide +kernel
theorem dX5_shareOf_18 : decode cX5_shareOf 18 = .ok (.iload 5, 2) := by decide +kernel
theorem dX5_shareOf_20 : decode cX5_shareOf 20 = .ok (.aload_n 0, 1) := by decide +kernel
theorem dX5_shareOf_21 : decode cX5_shareOf 21 = .ok (.getfield 15, 3) := by decide +kernel
theorem dX5_shareOf_24 : decode cX5_shareOf 24 = .ok (.getfield 27, 3) := by decide +kernel
theorem dX5_shareOf_27 : decode cX5_shareOf 27 = .ok (.if_icmp .ge 39, 3) := by decide +kernel
theorem dX5_shareOf_30 : decode cX5_shareOf 30 = .ok (.iload 5, 2) := by decide +kernel
theorem dX5_shareOf_32 : decode cX5_shareOf 32 = .ok (.iload_n 1, 1) := by decide +kernel
theorem dX5_shareOf_33 : decode cX5_shareOf 33 = .ok (.if_icmp .eq 27, 3) := by decide +kernel
theorem dX5_shareOf_36 : decode cX5_shareOf 36 = .ok (.iload 5, 2) := by decide +kernel
theorem dX5_shareOf_38 : decode cX5_shareOf 38 = .ok (.iload_n 2, 1) := by decide +kernel
theorem dX5_shareOf_39 : decode cX5_shareOf 39 = .ok (.if_icmp .eq 21, 3) := by decide +kernel
theorem dX5_shareOf_42 : decode cX5_shareOf 42 = .ok (.lload_n 3, 1) := by decide +kernel
theorem dX5_shareOf_43 : decode cX5_shareOf 43 = .ok (.aload_n 0, 1) := by decide +kernel
theorem dX5_shareOf_44 : decode cX5_shareOf 44 = .ok (.iload_n 1, 1) := by decide +kernel
theorem dX5_shareOf_45 : decode cX5_shareOf 45 = .ok (.iload 5, 2) := by decide +kernel
theorem dX5_shareOf_47 : decode cX5_shareOf 47 = .ok (.invokevirtual 60, 3) := by decide +kernel
theorem dX5_shareOf_50 : decode cX5_shareOf 50 = .ok (.aload_n 0, 1) := by decide +kernel
theorem dX5_shareOf_51 : decode cX5_shareOf 51 = .ok (.iload 5, 2) := by decide +kernel
theorem dX5_shareOf_53 : decode cX5_shareOf 53 = .ok (.iload_n 1, 1) := by decide +kernel
theorem dX5_shareOf_54 : decode cX5_shareOf 54 = .ok (.invokevirtual 60, 3) := by decide +kernel
theorem dX5_shareOf_57 : decode cX5_shareOf 57 = .ok (.ladd, 1) := by decide +kernel
theorem dX5_shareOf_58 : decode cX5_shareOf 58 = .ok (.ladd, 1) := by decide +kernel
theorem dX5_shareOf_59 : decode cX5_shareOf 59 = .ok (.lstore_n 3, 1) := by decide +kernel
theorem dX5_shareOf_60 : decode cX5_shareOf 60 = .ok (.iinc 5 1, 3) := by decide +kernel
theorem dX5_shareOf_63 : decode cX5_shareOf 63 = .ok (.goto (-45), 3) := by decide +kernel
theorem dX5_shareOf_66 : decode cX5_shareOf 66 = .ok (.lload_n 3, 1) := by decide +kernel
theorem dX5_shareOf_67 : decode cX5_shareOf 67 = .ok (.lreturn, 1) := by decide +kernel
theorem dX5_changeByMove_0 : decode cX5_changeByMove 0 = .ok (.aload_n 0, 1) := by decide +kernel
theorem dX5_changeByMove_1 : decode cX5_changeByMove 1 = .ok (.iload_n 2, 1) := by decide +kernel
theorem dX5_changeByMove_2 : decode cX5_changeByMove 2 = .ok (.invokevirtual 54, 3) := by decide +kernel
theorem dX5_changeByMove_5 : decode cX5_changeByMove 5 = .ok (.istore_n 3, 1) := by decide +kernel
theorem dX5_changeByMove_6 : decode cX5_changeByMove 6 = .ok (.aload_n 0, 1) := by decide +kernel
theorem dX5_changeByMove_7 : decode cX5_changeByMove 7 = .ok (.getfield 9, 3) := by decide +kernel
theorem dX5_changeByMove_10 : decode cX5_changeByMove 10 = .ok (.iload_n 1, 1) := by decide +kernel
theorem dX5_changeByMove_11 : decode cX5_changeByMove 11 = .ok (.iaload, 1) := by decide +kernel
theorem dX5_changeByMove_12 : decode cX5_changeByMove 12 = .ok (.istore 4, 2) := by decide +kernel
theorem dX5_changeByMove_14 : decode cX5_changeByMove 14 = .ok (.aload_n 0, 1) := by decide +kernel
theorem dX5_changeByMove_15 : decode cX5_changeByMove 15 = .ok (.iload_n 1, 1) := by decide +kernel
theorem dX5_changeByMove_16 : decode cX5_changeByMove 16 = .ok (.iconst (-1), 1) := by decide +kernel
theorem dX5_changeByMove_17 : decode cX5_changeByMove 17 = .ok (.invokevirtual 67, 3) := by decide +kernel
theorem dX5_changeByMove_20 : decode cX5_changeByMove 20 = .ok (.aload_n 0, 1) := by decide +kernel
theorem dX5_changeByMove_21 : decode cX5_changeByMove 21 = .ok (.iload_n 3, 1) := by decide +kernel
theorem dX5_changeByMove_22 : decode cX5_changeByMove 22 = .ok (.iload_n 1, 1) := by decide +kernel
theorem dX5_changeByMove_23 : decode cX5_changeByMove 23 = .ok (.invokevirtual 67, 3) := by decide +kernel
theorem dX5_changeByMove_26 : decode cX5_changeByMove 26 = .ok (.ladd, 1) := by decide +kernel
theorem dX5_changeByMove_27 : decode cX5_changeByMove 27 = .ok (.lstore 5, 2) := by decide +kernel
theorem dX5_changeByMove_29 : decode cX5_changeByMove 29 = .ok (.aload_n 0, 1) := by decide +kernel
theorem dX5_changeByMove_30 : decode cX5_changeByMove 30 = .ok (.iload_n 1, 1) := by decide +kernel
theorem dX5_changeByMove_31 : decode cX5_changeByMove 31 = .ok (.iload_n 2, 1) := by decide +kernel
theorem dX5_changeByMove_32 : decode cX5_changeByMove 32 = .ok (.invokevirtual 70, 3) := by decide +kernel
theorem dX5_changeByMove_35 : decode cX5_changeByMove 35 = .ok (.aload_n 0, 1) := by decide +kernel
theorem dX5_changeByMove_36 : decode cX5_changeByMove 36 = .ok (.iload_n 1, 1) := by decide +kernel
theorem dX5_changeByMove_37 : decode cX5_changeByMove 37 = .ok (.iconst (-1), 1) := by decide +kernel
theorem dX5_changeByMove_38 : decode cX5_changeByMove 38 = .ok (.invokevirtual 67, 3) := by decide +kernel
theorem dX5_changeByMove_41 : decode cX5_changeByMove 41 = .ok (.aload_n 0, 1) := by decide +kernel
theorem dX5_changeByMove_42 : decode cX5_changeByMove 42 = .ok (.iload_n 3, 1) := by decide +kernel
theorem dX5_changeByMove_43 : decode cX5_changeByMove 43 = .ok (.iload_n 1, 1) := by decide +kernel
theorem dX5_changeByMove_44 : decode cX5_changeByMove 44 = .ok (.invokevirtual 67, 3) := by decide +kernel
theorem dX5_changeByMove_47 : decode cX5_changeByMove 47 = .ok (.ladd, 1) := by decide +kernel
theorem dX5_changeByMove_48 : decode cX5_changeByMove 48 = .ok (.lstore 7, 2) := by decide +kernel
theorem dX5_changeByMove_50 : decode cX5_changeByMove 50 = .ok (.aload_n 0, 1) := by decide +kernel
theorem dX5_changeByMove_51 : decode cX5_changeByMove 51 = .ok (.iload_n 1, 1) := by decide +kernel
theorem dX5_changeByMove_52 : decode cX5_changeByMove 52 = .ok (.iload 4, 2) := by decide +kernel
theorem dX5_changeByMove_54 : decode cX5_changeByMove 54 = .ok (.invokevirtual 70, 3) := by decide +kernel
theorem dX5_changeByMove_57 : decode cX5_changeByMove 57 = .ok (.lload 7, 2) := by decide +kernel
theorem dX5_changeByMove_59 : decode cX5_changeByMove 59 = .ok (.lload 5, 2) := by decide +kernel
theorem dX5_changeByMove_61 : decode cX5_changeByMove 61 = .ok (.lsub, 1) := by decide +kernel
theorem dX5_changeByMove_62 : decode cX5_changeByMove 62 = .ok (.lreturn, 1) := by decide +kernel
theorem dX5_betterToTheEnd_0 : decode cX5_betterToTheEnd 0 = .ok (.iconst 0, 1) := by decide +kernel
theorem dX5_betterToTheEnd_1 : decode cX5_betterToTheEnd 1 = .ok (.istore_n 1, 1) := by decide +kernel
theorem dX5_betterToTheEnd_2 : decode cX5_betterToTheEnd 2 = .ok (.iload_n 1, 1) := by decide +kernel
theorem dX5_betterToTheEnd_3 : decode cX5_betterToTheEnd 3 = .ok (.ldc 74, 2) := by decide +kernel
theorem dX5_betterToTheEnd_5 : decode cX5_betterToTheEnd 5 = .ok (.if_icmp .ge 28, 3) := by decide +kernel
theorem dX5_betterToTheEnd_8 : decode cX5_betterToTheEnd 8 = .ok (.aload_n 0, 1) := by decide +kernel
theorem dX5_betterToTheEnd_9 : decode cX5_betterToTheEnd 9 = .ok (.invokevirtual 75, 3) := by decide +kernel
theorem dX5_betterToTheEnd_12 : decode cX5_betterToTheEnd 12 = .ok (.ifCond .eq 21, 3) := by decide +kernel
theorem dX5_betterToTheEnd_15 : decode cX5_betterToTheEnd 15 = .ok (.aload_n 0, 1) := by decide +kernel
theorem dX5_betterToTheEnd_16 : decode cX5_betterToTheEnd 16 = .ok (.aload_n 0, 1) := by decide +kernel
theorem dX5_betterToTheEnd_17 : decode cX5_betterToTheEnd 17 = .ok (.getfield 79, 3) := by decide +kernel
theorem dX5_betterToTheEnd_20 : decode cX5_betterToTheEnd 20 = .ok (.aload_n 0, 1) := by decide +kernel
theorem dX5_betterToTheEnd_21 : decode cX5_betterToTheEnd 21 = .ok (.getfield 82, 3) := by decide +kernel
theorem dX5_betterToTheEnd_24 : decode cX5_betterToTheEnd 24 = .ok (.invokevirtual 70, 3) := by decide +kernel
theorem dX5_betterToTheEnd_27 : decode cX5_betterToTheEnd 27 = .ok (.iinc 1 1, 3) := by decide +kernel
theorem dX5_betterToTheEnd_30 : decode cX5_betterToTheEnd 30 = .ok (.goto (-28), 3) := by decide +kernel
theorem dX5_betterToTheEnd_33 : decode cX5_betterToTheEnd 33 = .ok (.iload_n 1, 1) := by decide +kernel
theorem dX5_betterToTheEnd_34 : decode cX5_betterToTheEnd 34 = .ok (.ireturn, 1) := by decide +kernel
theorem dX5_findBestChange_0 : decode cX5_findBestChange 0 = .ok (.aload_n 0, 1) := by decide +kernel
theorem dX5_findBestChange_1 : decode cX5_findBestChange 1 = .ok (.lconst 0, 1) := by decide +kernel
theorem dX5_findBestChange_2 : decode cX5_findBestChange 2 = .ok (.putfield 85, 3) := by decide +kernel
theorem dX5_findBestChange_5 : decode cX5_findBestChange 5 = .ok (.iconst 0, 1) := by decide +kernel
theorem dX5_findBestChange_6 : decode cX5_findBestChange 6 = .ok (.istore_n 1, 1) := by decide +kernel
theorem dX5_findBestChange_7 : decode cX5_findBestChange 7 = .ok (.iload_n 1, 1) := by decide +kernel
theorem dX5_findBestChange_8 : decode cX5_findBestChange 8 = .ok (.aload_n 0, 1) := by decide +kernel
theorem dX5_findBestChange_9 : decode cX5_findBestChange 9 = .ok (.getfield 15, 3) := by decide +kernel
theorem dX5_findBestChange_12 : decode cX5_findBestChange 12 = .ok (.getfield 27, 3) := by decide +kernel
theorem dX5_findBestChange_15 : decode cX5_findBestChange 15 = .ok (.if_icmp .ge 14, 3) := by decide +kernel
theorem dX5_findBestChange_18 : decode cX5_findBestChange 18 = .ok (.aload_n 0, 1) := by decide +kernel
theorem dX5_findBestChange_19 : decode cX5_findBestChange 19 = .ok (.iload_n 1, 1) := by decide +kernel
theorem dX5_findBestChange_20 : decode cX5_findBestChange 20 = .ok (.invokevirtual 89, 3) := by decide +kernel
theorem dX5_findBestChange_23 : decode cX5_findBestChange 23 = .ok (.iinc 1 1, 3) := by decide +kernel
theorem dX5_findBestChange_26 : decode cX5_findBestChange 26 = .ok (.goto (-19), 3) := by decide +kernel
theorem dX5_findBestChange_29 : decode cX5_findBestChange 29 = .ok (.iconst 0, 1) := by decide +kernel
theorem dX5_findBestChange_30 : decode cX5_findBestChange 30 = .ok (.istore_n 1, 1) := by decide +kernel
theorem dX5_findBestChange_31 : decode cX5_findBestChange 31 = .ok (.iload_n 1, 1) := by decide +kernel
theorem dX5_findBestChange_32 : decode cX5_findBestChange 32 = .ok (.aload_n 0, 1) := by decide +kernel
theorem dX5_findBestChange_33 : decode cX5_findBestChange 33 = .ok (.getfield 15, 3) := by decide +kernel
theorem dX5_findBestChange_36 : decode cX5_findBestChange 36 = .ok (.getfield 27, 3) := by decide +kernel
theorem dX5_findBestChange_39 : decode cX5_findBestChange 39 = .ok (.if_icmp .ge 14, 3) := by decide +kernel
theorem dX5_findBestChange_42 : decode cX5_findBestChange 42 = .ok (.aload_n 0, 1) := by decide +kernel
theorem dX5_findBestChange_43 : decode cX5_findBestChange 43 = .ok (.iload_n 1, 1) := by decide +kernel
theorem dX5_findBestChange_44 : decode cX5_findBestChange 44 = .ok (.invokevirtual 93, 3) := by decide +kernel
theorem dX5_findBestChange_47 : decode cX5_findBestChange 47 = .ok (.iinc 1 1, 3) := by decide +kernel
theorem dX5_findBestChange_50 : decode cX5_findBestChange 50 = .ok (.goto (-19), 3) := by decide +kernel
theorem dX5_findBestChange_53 : decode cX5_findBestChange 53 = .ok (.aload_n 0, 1) := by decide +kernel
theorem dX5_findBestChange_54 : decode cX5_findBestChange 54 = .ok (.getfield 85, 3) := by decide +kernel
theorem dX5_findBestChange_57 : decode cX5_findBestChange 57 = .ok (.lconst 0, 1) := by decide +kernel
theorem dX5_findBestChange_58 : decode cX5_findBestChange 58 = .ok (.lcmp, 1) := by decide +kernel
theorem dX5_findBestChange_59 : decode cX5_findBestChange 59 = .ok (.ifCond .ge 7, 3) := by decide +kernel
theorem dX5_findBestChange_62 : decode cX5_findBestChange 62 = .ok (.iconst 1, 1) := by decide +kernel
theorem dX5_findBestChange_63 : decode cX5_findBestChange 63 = .ok (.goto 4, 3) := by decide +kernel
theorem dX5_findBestChange_66 : decode cX5_findBestChange 66 = .ok (.iconst 0, 1) := by decide +kernel
theorem dX5_findBestChange_67 : decode cX5_findBestChange 67 = .ok (.ireturn, 1) := by decide +kernel
theorem dX5_weighExchanges_0 : decode cX5_weighExchanges 0 = .ok (.aload_n 0, 1) := by decide +kernel
theorem dX5_weighExchanges_1 : decode cX5_weighExchanges 1 = .ok (.getfield 15, 3) := by decide +kernel
theorem dX5_weighExchanges_4 : decode cX5_weighExchanges 4 = .ok (.iload_n 1, 1) := by decide +kernel
theorem dX5_weighExchanges_5 : decode cX5_weighExchanges 5 = .ok (.invokevirtual 37, 3) := by decide +kernel
theorem dX5_weighExchanges_8 : decode cX5_weighExchanges 8 = .ok (.ifCond .eq 4, 3) := by decide +kernel
theorem dX5_weighExchanges_11 : decode cX5_weighExchanges 11 = .ok (.return_, 1) := by decide +kernel
theorem dX5_weighExchanges_12 : decode cX5_weighExchanges 12 = .ok (.iload_n 1, 1) := by decide +kernel
theorem dX5_weighExchanges_13 : decode cX5_weighExchanges 13 = .ok (.iconst 1, 1) := by decide +kernel
theorem dX5_weighExchanges_14 : decode cX5_weighExchanges 14 = .ok (.iadd, 1) := by decide +kernel
theorem dX5_weighExchanges_15 : decode cX5_weighExchanges 15 = .ok (.istore_n 2, 1) := by decide +kernel
theorem dX5_weighExchanges_16 : decode cX5_weighExchanges 16 = .ok (.iload_n 2, 1) := by decide +kernel
theorem dX5_weighExchanges_17 : decode cX5_weighExchanges 17 = .ok (.aload_n 0, 1) := by decide +kernel
theorem dX5_weighExchanges_18 : decode cX5_weighExchanges 18 = .ok (.getfield 15, 3) := by decide +kernel
theorem dX5_weighExchanges_21 : decode cX5_weighExchanges 21 = .ok (.getfield 27, 3) := by decide +kernel
theorem dX5_weighExchanges_24 : decode cX5_weighExchanges 24 = .ok (.if_icmp .ge 31, 3) := by decide +kernel
theorem dX5_weighExchanges_27 : decode cX5_weighExchanges 27 = .ok (.aload_n 0, 1) := by decide +kernel
theorem dX5_weighExchanges_28 : decode cX5_weighExchanges 28 = .ok (.getfield 15, 3) := by decide +kernel
theorem dX5_weighExchanges_31 : decode cX5_weighExchanges 31 = .ok (.iload_n 2, 1) := by decide +kernel
theorem dX5_weighExchanges_32 : decode cX5_weighExchanges 32 = .ok (.invokevirtual 37, 3) := by decide +kernel
theorem dX5_weighExchanges_35 : decode cX5_weighExchanges 35 = .ok (.ifCond .ne 14, 3) := by decide +kernel
theorem dX5_weighExchanges_38 : decode cX5_weighExchanges 38 = .ok (.aload_n 0, 1) := by decide +kernel
theorem dX5_weighExchanges_39 : decode cX5_weighExchanges 39 = .ok (.iload_n 1, 1) := by decide +kernel
theorem dX5_weighExchanges_40 : decode cX5_weighExchanges 40 = .ok (.aload_n 0, 1) := by decide +kernel
theorem dX5_weighExchanges_41 : decode cX5_weighExchanges 41 = .ok (.getfield 9, 3) := by decide +kernel
theorem dX5_weighExchanges_44 : decode cX5_weighExchanges 44 = .ok (.iload_n 2, 1) := by decide +kernel
theorem dX5_weighExchanges_45 : decode cX5_weighExchanges 45 = .ok (.iaload, 1) := by decide +kernel
theorem dX5_weighExchanges_46 : decode cX5_weighExchanges 46 = .ok (.invokevirtual 96, 3) := by decide +kernel
theorem dX5_weighExchanges_49 : decode cX5_weighExchanges 49 = .ok (.iinc 2 1, 3) := by decide +kernel
theorem dX5_weighExchanges_52 : decode cX5_weighExchanges 52 = .ok (.goto (-36), 3) := by decide +kernel
theorem dX5_weighExchanges_55 : decode cX5_weighExchanges 55 = .ok (.return_, 1) := by decide +kernel
theorem dX5_weighGoings_0 : decode cX5_weighGoings 0 = .ok (.aload_n 0, 1) := by decide +kernel
theorem dX5_weighGoings_1 : decode cX5_weighGoings 1 = .ok (.getfield 15, 3) := by decide +kernel
theorem dX5_weighGoings_4 : decode cX5_weighGoings 4 = .ok (.iload_n 1, 1) := by decide +kernel
theorem dX5_weighGoings_5 : decode cX5_weighGoings 5 = .ok (.invokevirtual 37, 3) := by decide +kernel
theorem dX5_weighGoings_8 : decode cX5_weighGoings 8 = .ok (.ifCond .eq 4, 3) := by decide +kernel
theorem dX5_weighGoings_11 : decode cX5_weighGoings 11 = .ok (.return_, 1) := by decide +kernel
theorem dX5_weighGoings_12 : decode cX5_weighGoings 12 = .ok (.iconst 0, 1) := by decide +kernel
theorem dX5_weighGoings_13 : decode cX5_weighGoings 13 = .ok (.istore_n 2, 1) := by decide +kernel
theorem dX5_weighGoings_14 : decode cX5_weighGoings 14 = .ok (.iload_n 2, 1) := by decide +kernel
theorem dX5_weighGoings_15 : decode cX5_weighGoings 15 = .ok (.aload_n 0, 1) := by decide +kernel
theorem dX5_weighGoings_16 : decode cX5_weighGoings 16 = .ok (.getfield 19, 3) := by decide +kernel
theorem dX5_weighGoings_19 : decode cX5_weighGoings 19 = .ok (.getfield 48, 3) := by decide +kernel
theorem dX5_weighGoings_22 : decode cX5_weighGoings 22 = .ok (.if_icmp .ge 36, 3) := by decide +kernel
theorem dX5_weighGoings_25 : decode cX5_weighGoings 25 = .ok (.aload_n 0, 1) := by decide +kernel
theorem dX5_weighGoings_26 : decode cX5_weighGoings 26 = .ok (.getfield 15, 3) := by decide +kernel
theorem dX5_weighGoings_29 : decode cX5_weighGoings 29 = .ok (.iload_n 1, 1) := by decide +kernel
theorem dX5_weighGoings_30 : decode cX5_weighGoings 30 = .ok (.iload_n 2, 1) := by decide +kernel
theorem dX5_weighGoings_31 : decode cX5_weighGoings 31 = .ok (.invokevirtual 99, 3) := by decide +kernel
theorem dX5_weighGoings_34 : decode cX5_weighGoings 34 = .ok (.ifCond .eq 18, 3) := by decide +kernel
theorem dX5_weighGoings_37 : decode cX5_weighGoings 37 = .ok (.aload_n 0, 1) := by decide +kernel
theorem dX5_weighGoings_38 : decode cX5_weighGoings 38 = .ok (.iload_n 2, 1) := by decide +kernel
theorem dX5_weighGoings_39 : decode cX5_weighGoings 39 = .ok (.invokevirtual 54, 3) := by decide +kernel
theorem dX5_weighGoings_42 : decode cX5_weighGoings 42 = .ok (.iconst (-1), 1) := by decide +kernel
theorem dX5_weighGoings_43 : decode cX5_weighGoings 43 = .ok (.if_icmp .ne 9, 3) := by decide +kernel
theorem dX5_weighGoings_46 : decode cX5_weighGoings 46 = .ok (.aload_n 0, 1) := by decide +kernel
theorem dX5_weighGoings_47 : decode cX5_weighGoings 47 = .ok (.iload_n 1, 1) := by decide +kernel
theorem dX5_weighGoings_48 : decode cX5_weighGoings 48 = .ok (.iload_n 2, 1) := by decide +kernel
theorem dX5_weighGoings_49 : decode cX5_weighGoings 49 = .ok (.invokevirtual 96, 3) := by decide +kernel
theorem dX5_weighGoings_52 : decode cX5_weighGoings 52 = .ok (.iinc 2 1, 3) := by decide +kernel
theorem dX5_weighGoings_55 : decode cX5_weighGoings 55 = .ok (.goto (-41), 3) := by decide +kernel
theorem dX5_weighGoings_58 : decode cX5_weighGoings 58 = .ok (.return_, 1) := by decide +kernel
theorem dX5_weigh_0 : decode cX5_weigh 0 = .ok (.aload_n 0, 1) := by decide +kernel
theorem dX5_weigh_1 : decode cX5_weigh 1 = .ok (.iload_n 1, 1) := by decide +kernel
theorem dX5_weigh_2 : decode cX5_weigh 2 = .ok (.iload_n 2, 1) := by decide +kernel
theorem dX5_weigh_3 : decode cX5_weigh 3 = .ok (.invokevirtual 103, 3) := by decide +kernel
theorem dX5_weigh_6 : decode cX5_weigh 6 = .ok (.lstore_n 3, 1) := by decide +kernel
theorem dX5_weigh_7 : decode cX5_weigh 7 = .ok (.lload_n 3, 1) := by decide +kernel
theorem dX5_weigh_8 : decode cX5_weigh 8 = .ok (.aload_n 0, 1) := by decide +kernel
theorem dX5_weigh_9 : decode cX5_weigh 9 = .ok (.getfield 85, 3) := by decide +kernel
theorem dX5_weigh_12 : decode cX5_weigh 12 = .ok (.lcmp, 1) := by decide +kernel
theorem dX5_weigh_13 : decode cX5_weigh 13 = .ok (.ifCond .ge 18, 3) := by decide +kernel
theorem dX5_weigh_16 : decode cX5_weigh 16 = .ok (.aload_n 0, 1) := by decide +kernel
theorem dX5_weigh_17 : decode cX5_weigh 17 = .ok (.lload_n 3, 1) := by decide +kernel
theorem dX5_weigh_18 : decode cX5_weigh 18 = .ok (.putfield 85, 3) := by decide +kernel
theorem dX5_weigh_21 : decode cX5_weigh 21 = .ok (.aload_n 0, 1) := by decide +kernel
theorem dX5_weigh_22 : decode cX5_weigh 22 = .ok (.iload_n 1, 1) := by decide +kernel
theorem dX5_weigh_23 : decode cX5_weigh 23 = .ok (.putfield 79, 3) := by decide +kernel
theorem dX5_weigh_26 : decode cX5_weigh 26 = .ok (.aload_n 0, 1) := by decide +kernel
theorem dX5_weigh_27 : decode cX5_weigh 27 = .ok (.iload_n 2, 1) := by decide +kernel
theorem dX5_weigh_28 : decode cX5_weigh 28 = .ok (.putfield 82, 3) := by decide +kernel
theorem dX5_weigh_31 : decode cX5_weigh 31 = .ok (.return_, 1) := by decide +kernel
theorem dX6_init_0 : decode cX6_init 0 = .ok (.aload_n 0, 1) := by decide +kernel
theorem dX6_init_1 : decode cX6_init 1 = .ok (.invokespecial 3, 3) := by decide +kernel
theorem dX6_init_4 : decode cX6_init 4 = .ok (.aload_n 0, 1) := by decide +kernel
theorem dX6_init_5 : decode cX6_init 5 = .ok (.bipush 7, 2) := by decide +kernel
theorem dX6_init_7 : decode cX6_init 7 = .ok (.newarray .int, 2) := by decide +kernel
theorem dX6_init_9 : decode cX6_init 9 = .ok (.putfield 9, 3) := by decide +kernel
theorem dX6_init_12 : decode cX6_init 12 = .ok (.aload_n 0, 1) := by decide +kernel
theorem dX6_init_13 : decode cX6_init 13 = .ok (.bipush 7, 2) := by decide +kernel
theorem dX6_init_15 : decode cX6_init 15 = .ok (.newarray .int, 2) := by decide +kernel
theorem dX6_init_17 : decode cX6_init 17 = .ok (.putfield 15, 3) := by decide +kernel
theorem dX6_init_20 : decode cX6_init 20 = .ok (.aload_n 0, 1) := by decide +kernel
theorem dX6_init_21 : decode cX6_init 21 = .ok (.bipush 7, 2) := by decide +kernel
theorem dX6_init_23 : decode cX6_init 23 = .ok (.newarray .boolean, 2) := by decide +kernel
theorem dX6_init_25 : decode cX6_init 25 = .ok (.putfield 18, 3) := by decide +kernel
theorem dX6_init_28 : decode cX6_init 28 = .ok (.aload_n 0, 1) := by decide +kernel
theorem dX6_init_29 : decode cX6_init 29 = .ok (.aload_n 1, 1) := by decide +kernel
theorem dX6_init_30 : decode cX6_init 30 = .ok (.putfield 22, 3) := by decide +kernel
theorem dX6_init_33 : decode cX6_init 33 = .ok (.return_, 1) := by decide +kernel
theorem dX6_countTurns_0 : decode cX6_countTurns 0 = .ok (.aload_n 0, 1) := by decide +kernel
theorem dX6_countTurns_1 : decode cX6_countTurns 1 = .ok (.getfield 15, 3) := by decide +kernel
theorem dX6_countTurns_4 : decode cX6_countTurns 4 = .ok (.iconst (-1), 1) := by decide +kernel
theorem dX6_countTurns_5 : decode cX6_countTurns 5 = .ok (.invokestatic 26, 3) := by decide +kernel
theorem dX6_countTurns_8 : decode cX6_countTurns 8 = .ok (.aload_n 0, 1) := by decide +kernel
theorem dX6_countTurns_9 : decode cX6_countTurns 9 = .ok (.iconst 0, 1) := by decide +kernel
theorem dX6_countTurns_10 : decode cX6_countTurns 10 = .ok (.invokevirtual 32, 3) := by decide +kernel
theorem dX6_countTurns_13 : decode cX6_countTurns 13 = .ok (.ireturn, 1) := by decide +kernel
theorem dX6_leads_0 : decode cX6_leads 0 = .ok (.aload_n 0, 1) := by decide +kernel
theorem dX6_leads_1 : decode cX6_leads 1 = .ok (.getfield 15, 3) := by decide +kernel
theorem dX6_leads_4 : decode cX6_leads 4 = .ok (.iconst (-1), 1) := by decide +kernel
theorem dX6_leads_5 : decode cX6_leads 5 = .ok (.invokestatic 26, 3) := by decide +kernel
theorem dX6_leads_8 : decode cX6_leads 8 = .ok (.iconst 0, 1) := by decide +kernel
theorem dX6_leads_9 : decode cX6_leads 9 = .ok (.istore 4, 2) := by decide +kernel
theorem dX6_leads_11 : decode cX6_leads 11 = .ok (.iload 4, 2) := by decide +kernel
theorem dX6_leads_13 : decode cX6_leads 13 = .ok (.iload_n 3, 1) := by decide +kernel
theorem dX6_leads_14 : decode cX6_leads 14 = .ok (.if_icmp .ge 22, 3) := by decide +kernel
theorem dX6_leads_17 : decode cX6_leads 17 = .ok (.aload_n 0, 1) := by decide +kernel
theorem dX6_leads_18 : decode cX6_leads 18 = .ok (.getfield 15, 3) := by decide +kernel
theorem dX6_leads_21 : decode cX6_leads 21 = .ok (.aload_n 1, 1) := by decide +kernel
theorem dX6_leads_22 : decode cX6_leads 22 = .ok (.iload 4, 2) := by decide +kernel
theorem dX6_leads_24 : decode cX6_leads 24 = .ok (.iaload, 1) := by decide +kernel
theorem dX6_leads_25 : decode cX6_leads 25 = .ok (.aload_n 2, 1) := by decide +kernel
theorem dX6_leads_26 : decode cX6_leads 26 = .ok (.iload 4, 2) := by decide +kernel
theorem dX6_leads_28 : decode cX6_leads 28 = .ok (.iaload, 1) := by decide +kernel
theorem dX6_leads_29 : decode cX6_leads 29 = .ok (.iastore, 1) := by decide +kernel
theorem dX6_leads_30 : decode cX6_leads 30 = .ok (.iinc 4 1, 3) := by decide +kernel
theorem dX6_leads_33 : decode cX6_leads 33 = .ok (.goto (-22), 3) := by decide +kernel
theorem dX6_leads_36 : decode cX6_leads 36 = .ok (.aload_n 0, 1) := by decide +kernel
theorem dX6_leads_37 : decode cX6_leads 37 = .ok (.iconst 0, 1) := by decide +kernel
theorem dX6_leads_38 : decode cX6_leads 38 = .ok (.invokevirtual 32, 3) := by decide +kernel
theorem dX6_leads_41 : decode cX6_leads 41 = .ok (.ifCond .le 7, 3) := by decide +kernel
theorem dX6_leads_44 : decode cX6_leads 44 = .ok (.iconst 1, 1) := by decide +kernel
theorem dX6_leads_45 : decode cX6_leads 45 = .ok (.goto 4, 3) := by decide +kernel
theorem dX6_leads_48 : decode cX6_leads 48 = .ok (.iconst 0, 1) := by decide +kernel
theorem dX6_leads_49 : decode cX6_leads 49 = .ok (.ireturn, 1) := by decide +kernel
theorem dX6_turnsFrom_0 : decode cX6_turnsFrom 0 = .ok (.iload_n 1, 1) := by decide +kernel
theorem dX6_turnsFrom_1 : decode cX6_turnsFrom 1 = .ok (.aload_n 0, 1) := by decide +kernel
theorem dX6_turnsFrom_2 : decode cX6_turnsFrom 2 = .ok (.getfield 22, 3) := by decide +kernel
theorem dX6_turnsFrom_5 : decode cX6_turnsFrom 5 = .ok (.getfield 36, 3) := by decide +kernel
theorem dX6_turnsFrom_8 : decode cX6_turnsFrom 8 = .ok (.if_icmp .ge 9, 3) := by decide +kernel
theorem dX6_turnsFrom_11 : decode cX6_turnsFrom 11 = .ok (.iload_n 1, 1) := by decide +kernel
theorem dX6_turnsFrom_12 : decode cX6_turnsFrom 12 = .ok (.bipush 7, 2) := by decide +kernel
theorem dX6_turnsFrom_14 : decode cX6_turnsFrom 14 = .ok (.if_icmp .lt 5, 3) := by decide +kernel
theorem dX6_turnsFrom_17 : decode cX6_turnsFrom 17 = .ok (.iconst 1, 1) := by decide +kernel
theorem dX6_turnsFrom_18 : decode cX6_turnsFrom 18 = .ok (.ireturn, 1) := by decide +kernel
theorem dX6_turnsFrom_19 : decode cX6_turnsFrom 19 = .ok (.iconst 0, 1) := by decide +kernel
theorem dX6_turnsFrom_20 : decode cX6_turnsFrom 20 = .ok (.istore_n 2, 1) := by decide +kernel
theorem dX6_turnsFrom_21 : decode cX6_turnsFrom 21 = .ok (.iconst 0, 1) := by decide +kernel
theorem dX6_turnsFrom_22 : decode cX6_turnsFrom 22 = .ok (.istore_n 3, 1) := by decide +kernel
theorem dX6_turnsFrom_23 : decode cX6_turnsFrom 23 = .ok (.iload_n 3, 1) := by decide +kernel
theorem dX6_turnsFrom_24 : decode cX6_turnsFrom 24 = .ok (.aload_n 0, 1) := by decide +kernel
theorem dX6_turnsFrom_25 : decode cX6_turnsFrom 25 = .ok (.getfield 22, 3) := by decide +kernel
theorem dX6_turnsFrom_28 : decode cX6_turnsFrom 28 = .ok (.getfield 36, 3) := by decide +kernel
theorem dX6_turnsFrom_31 : decode cX6_turnsFrom 31 = .ok (.if_icmp .ge 33, 3) := by decide +kernel
theorem dX6_turnsFrom_34 : decode cX6_turnsFrom 34 = .ok (.iload_n 3, 1) := by decide +kernel
theorem dX6_turnsFrom_35 : decode cX6_turnsFrom 35 = .ok (.bipush 7, 2) := by decide +kernel
theorem dX6_turnsFrom_37 : decode cX6_turnsFrom 37 = .ok (.if_icmp .ge 27, 3) := by decide +kernel
theorem dX6_turnsFrom_40 : decode cX6_turnsFrom 40 = .ok (.aload_n 0, 1) := by decide +kernel
theorem dX6_turnsFrom_41 : decode cX6_turnsFrom 41 = .ok (.iload_n 1, 1) := by decide +kernel
theorem dX6_turnsFrom_42 : decode cX6_turnsFrom 42 = .ok (.iload_n 3, 1) := by decide +kernel
theorem dX6_turnsFrom_43 : decode cX6_turnsFrom 43 = .ok (.invokevirtual 42, 3) := by decide +kernel
theorem dX6_turnsFrom_46 : decode cX6_turnsFrom 46 = .ok (.ifCond .eq 12, 3) := by decide +kernel
theorem dX6_turnsFrom_49 : decode cX6_turnsFrom 49 = .ok (.iload_n 2, 1) := by decide +kernel
theorem dX6_turnsFrom_50 : decode cX6_turnsFrom 50 = .ok (.aload_n 0, 1) := by decide +kernel
theorem dX6_turnsFrom_51 : decode cX6_turnsFrom 51 = .ok (.iload_n 1, 1) := by decide +kernel
theorem dX6_turnsFrom_52 : decode cX6_turnsFrom 52 = .ok (.iload_n 3, 1) := by decide +kernel
theorem dX6_turnsFrom_53 : decode cX6_turnsFrom 53 = .ok (.invokevirtual 46, 3) := by decide +kernel
theorem dX6_turnsFrom_56 : decode cX6_turnsFrom 56 = .ok (.iadd, 1) := by decide +kernel
theorem dX6_turnsFrom_57 : decode cX6_turnsFrom 57 = .ok (.istore_n 2, 1) := by decide +kernel
theorem dX6_turnsFrom_58 : decode cX6_turnsFrom 58 = .ok (.iinc 3 1, 3) := by decide +kernel
theorem dX6_turnsFrom_61 : decode cX6_turnsFrom 61 = .ok (.goto (-38), 3) := by decide +kernel
theorem dX6_turnsFrom_64 : decode cX6_turnsFrom 64 = .ok (.iload_n 2, 1) := by decide +kernel
theorem dX6_turnsFrom_65 : decode cX6_turnsFrom 65 = .ok (.ireturn, 1) := by decide +kernel
theorem dX6_turnsWith_0 : decode cX6_turnsWith 0 = .ok (.aload_n 0, 1) := by decide +kernel
theorem dX6_turnsWith_1 : decode cX6_turnsWith 1 = .ok (.getfield 9, 3) := by decide +kernel
theorem dX6_turnsWith_4 : decode cX6_turnsWith 4 = .ok (.iload_n 1, 1) := by decide +kernel
theorem dX6_turnsWith_5 : decode cX6_turnsWith 5 = .ok (.iload_n 2, 1) := by decide +kernel
theorem dX6_turnsWith_6 : decode cX6_turnsWith 6 = .ok (.iastore, 1) := by decide +kernel
theorem dX6_turnsWith_7 : decode cX6_turnsWith 7 = .ok (.aload_n 0, 1) := by decide +kernel
theorem dX6_turnsWith_8 : decode cX6_turnsWith 8 = .ok (.getfield 18, 3) := by decide +kernel
theorem dX6_turnsWith_11 : decode cX6_turnsWith 11 = .ok (.iload_n 2, 1) := by decide +kernel
theorem dX6_turnsWith_12 : decode cX6_turnsWith 12 = .ok (.iconst 1, 1) := by decide +kernel
theorem dX6_turnsWith_13 : decode cX6_turnsWith 13 = .ok (.bastore, 1) := by decide +kernel
theorem dX6_turnsWith_14 : decode cX6_turnsWith 14 = .ok (.aload_n 0, 1) := by decide +kernel
theorem dX6_turnsWith_15 : decode cX6_turnsWith 15 = .ok (.iload_n 1, 1) := by decide +kernel
theorem dX6_turnsWith_16 : decode cX6_turnsWith 16 = .ok (.iconst 1, 1) := by decide +kernel
theorem dX6_turnsWith_17 : decode cX6_turnsWith 17 = .ok (.iadd, 1) := by decide +kernel
theorem dX6_turnsWith_18 : decode cX6_turnsWith 18 = .ok (.invokevirtual 32, 3) := by decide +kernel
theorem dX6_turnsWith_21 : decode cX6_turnsWith 21 = .ok (.istore_n 3, 1) := by decide +kernel
theorem dX6_turnsWith_22 : decode cX6_turnsWith 22 = .ok (.aload_n 0, 1) := by decide +kernel
theorem dX6_turnsWith_23 : decode cX6_turnsWith 23 = .ok (.getfield 18, 3) := by decide +kernel
theorem dX6_turnsWith_26 : decode cX6_turnsWith 26 = .ok (.iload_n 2, 1) := by decide +kernel
theorem dX6_turnsWith_27 : decode cX6_turnsWith 27 = .ok (.iconst 0, 1) := by decide +kernel
theorem dX6_turnsWith_28 : decode cX6_turnsWith 28 = .ok (.bastore, 1) := by decide +kernel
theorem dX6_turnsWith_29 : decode cX6_turnsWith 29 = .ok (.iload_n 3, 1) := by decide +kernel
theorem dX6_turnsWith_30 : decode cX6_turnsWith 30 = .ok (.ireturn, 1) := by decide +kernel
theorem dX6_mayGo_0 : decode cX6_mayGo 0 = .ok (.aload_n 0, 1) := by decide +kernel
theorem dX6_mayGo_1 : decode cX6_mayGo 1 = .ok (.getfield 18, 3) := by decide +kernel
theorem dX6_mayGo_4 : decode cX6_mayGo 4 = .ok (.iload_n 2, 1) := by decide +kernel
theorem dX6_mayGo_5 : decode cX6_mayGo 5 = .ok (.baload, 1) := by decide +kernel
theorem dX6_mayGo_6 : decode cX6_mayGo 6 = .ok (.ifCond .ne 23, 3) := by decide +kernel
theorem dX6_mayGo_9 : decode cX6_mayGo 9 = .ok (.aload_n 0, 1) := by decide +kernel
theorem dX6_mayGo_10 : decode cX6_mayGo 10 = .ok (.getfield 15, 3) := by decide +kernel
theorem dX6_mayGo_13 : decode cX6_mayGo 13 = .ok (.iload_n 1, 1) := by decide +kernel
theorem dX6_mayGo_14 : decode cX6_mayGo 14 = .ok (.iaload, 1) := by decide +kernel
theorem dX6_mayGo_15 : decode cX6_mayGo 15 = .ok (.iconst (-1), 1) := by decide +kernel
theorem dX6_mayGo_16 : decode cX6_mayGo 16 = .ok (.if_icmp .eq 15, 3) := by decide +kernel
theorem dX6_mayGo_19 : decode cX6_mayGo 19 = .ok (.aload_n 0, 1) := by decide +kernel
theorem dX6_mayGo_20 : decode cX6_mayGo 20 = .ok (.getfield 15, 3) := by decide +kernel
theorem dX6_mayGo_23 : decode cX6_mayGo 23 = .ok (.iload_n 1, 1) := by decide +kernel
theorem dX6_mayGo_24 : decode cX6_mayGo 24 = .ok (.iaload, 1) := by decide +kernel
theorem dX6_mayGo_25 : decode cX6_mayGo 25 = .ok (.iload_n 2, 1) := by decide +kernel
theorem dX6_mayGo_26 : decode cX6_mayGo 26 = .ok (.if_icmp .eq 5, 3) := by decide +kernel
theorem dX6_mayGo_29 : decode cX6_mayGo 29 = .ok (.iconst 0, 1) := by decide +kernel
theorem dX6_mayGo_30 : decode cX6_mayGo 30 = .ok (.ireturn, 1) := by decide +kernel
theorem dX6_mayGo_31 : decode cX6_mayGo 31 = .ok (.aload_n 0, 1) := by decide +kernel
theorem dX6_mayGo_32 : decode cX6_mayGo 32 = .ok (.getfield 22, 3) := by decide +kernel
theorem dX6_mayGo_35 : decode cX6_mayGo 35 = .ok (.getfield 50, 3) := by decide +kernel
theorem dX6_mayGo_38 : decode cX6_mayGo 38 = .ok (.iload_n 1, 1) := by decide +kernel
theorem dX6_mayGo_39 : decode cX6_mayGo 39 = .ok (.iaload, 1) := by decide +kernel
theorem dX6_mayGo_40 : decode cX6_mayGo 40 = .ok (.aload_n 0, 1) := by decide +kernel
theorem dX6_mayGo_41 : decode cX6_mayGo 41 = .ok (.getfield 22, 3) := by decide +kernel
theorem dX6_mayGo_44 : decode cX6_mayGo 44 = .ok (.getfield 50, 3) := by decide +kernel
theorem dX6_mayGo_47 : decode cX6_mayGo 47 = .ok (.iload_n 2, 1) := by decide +kernel
theorem dX6_mayGo_48 : decode cX6_mayGo 48 = .ok (.iaload, 1) := by decide +kernel
theorem dX6_mayGo_49 : decode cX6_mayGo 49 = .ok (.if_icmp .ne 24, 3) := by decide +kernel
theorem dX6_mayGo_52 : decode cX6_mayGo 52 = .ok (.aload_n 0, 1) := by decide +kernel
theorem dX6_mayGo_53 : decode cX6_mayGo 53 = .ok (.getfield 22, 3) := by decide +kernel
theorem dX6_mayGo_56 : decode cX6_mayGo 56 = .ok (.getfield 53, 3) := by decide +kernel
theorem dX6_mayGo_59 : decode cX6_mayGo 59 = .ok (.iload_n 1, 1) := by decide +kernel
theorem dX6_mayGo_60 : decode cX6_mayGo 60 = .ok (.iaload, 1) := by decide +kernel
theorem dX6_mayGo_61 : decode cX6_mayGo 61 = .ok (.aload_n 0, 1) := by decide +kernel
theorem dX6_mayGo_62 : decode cX6_mayGo 62 = .ok (.getfield 22, 3) := by decide +kernel
theorem dX6_mayGo_65 : decode cX6_mayGo 65 = .ok (.getfield 53, 3) := by decide +kernel
theorem dX6_mayGo_68 : decode cX6_mayGo 68 = .ok (.iload_n 2, 1) := by decide +kernel
theorem dX6_mayGo_69 : decode cX6_mayGo 69 = .ok (.iaload, 1) := by decide +kernel
theorem dX6_mayGo_70 : decode cX6_mayGo 70 = .ok (.if_icmp .eq 5, 3) := by decide +kernel
theorem dX6_mayGo_73 : decode cX6_mayGo 73 = .ok (.iconst 0, 1) := by decide +kernel
theorem dX6_mayGo_74 : decode cX6_mayGo 74 = .ok (.ireturn, 1) := by decide +kernel
theorem dX6_mayGo_75 : decode cX6_mayGo 75 = .ok (.aload_n 0, 1) := by decide +kernel
theorem dX6_mayGo_76 : decode cX6_mayGo 76 = .ok (.getfield 22, 3) := by decide +kernel
theorem dX6_mayGo_79 : decode cX6_mayGo 79 = .ok (.getfield 56, 3) := by decide +kernel
theorem dX6_mayGo_82 : decode cX6_mayGo 82 = .ok (.iload_n 1, 1) := by decide +kernel
theorem dX6_mayGo_83 : decode cX6_mayGo 83 = .ok (.aaload, 1) := by decide +kernel
theorem dX6_mayGo_84 : decode cX6_mayGo 84 = .ok (.iload_n 1, 1) := by decide +kernel
theorem dX6_mayGo_85 : decode cX6_mayGo 85 = .ok (.iaload, 1) := by decide +kernel
theorem dX6_mayGo_86 : decode cX6_mayGo 86 = .ok (.aload_n 0, 1) := by decide +kernel
theorem dX6_mayGo_87 : decode cX6_mayGo 87 = .ok (.getfield 22, 3) := by decide +kernel
theorem dX6_mayGo_90 : decode cX6_mayGo 90 = .ok (.getfield 56, 3) := by decide +kernel
theorem dX6_mayGo_93 : decode cX6_mayGo 93 = .ok (.iload_n 2, 1) := by decide +kernel
theorem dX6_mayGo_94 : decode cX6_mayGo 94 = .ok (.aaload, 1) := by decide +kernel
theorem dX6_mayGo_95 : decode cX6_mayGo 95 = .ok (.iload_n 2, 1) := by decide +kernel
theorem dX6_mayGo_96 : decode cX6_mayGo 96 = .ok (.iaload, 1) := by decide +kernel
theorem dX6_mayGo_97 : decode cX6_mayGo 97 = .ok (.if_icmp .eq 5, 3) := by decide +kernel
theorem dX6_mayGo_100 : decode cX6_mayGo 100 = .ok (.iconst 0, 1) := by decide +kernel
theorem dX6_mayGo_101 : decode cX6_mayGo 101 = .ok (.ireturn, 1) := by decide +kernel
theorem dX6_mayGo_102 : decode cX6_mayGo 102 = .ok (.iconst 0, 1) := by decide +kernel
theorem dX6_mayGo_103 : decode cX6_mayGo 103 = .ok (.istore_n 3, 1) := by decide +kernel
theorem dX6_mayGo_104 : decode cX6_mayGo 104 = .ok (.iload_n 3, 1) := by decide +kernel
theorem dX6_mayGo_105 : decode cX6_mayGo 105 = .ok (.iload_n 1, 1) := by decide +kernel
theorem dX6_mayGo_106 : decode cX6_mayGo 106 = .ok (.if_icmp .ge 27, 3) := by decide +kernel
theorem dX6_mayGo_109 : decode cX6_mayGo 109 = .ok (.aload_n 0, 1) := by decide +kernel
theorem dX6_mayGo_110 : decode cX6_mayGo 110 = .ok (.iload_n 1, 1) := by decide +kernel
theorem dX6_mayGo_111 : decode cX6_mayGo 111 = .ok (.iload_n 3, 1) := by decide +kernel
theorem dX6_mayGo_112 : decode cX6_mayGo 112 = .ok (.iload_n 2, 1) := by decide +kernel
theorem dX6_mayGo_113 : decode cX6_mayGo 113 = .ok (.aload_n 0, 1) := by decide +kernel
theorem dX6_mayGo_114 : decode cX6_mayGo 114 = .ok (.getfield 9, 3) := by decide +kernel
theorem dX6_mayGo_117 : decode cX6_mayGo 117 = .ok (.iload_n 3, 1) := by decide +kernel
theorem dX6_mayGo_118 : decode cX6_mayGo 118 = .ok (.iaload, 1) := by decide +kernel
theorem dX6_mayGo_119 : decode cX6_mayGo 119 = .ok (.invokevirtual 60, 3) := by decide +kernel
theorem dX6_mayGo_122 : decode cX6_mayGo 122 = .ok (.ifCond .ne 5, 3) := by decide +kernel
theorem dX6_mayGo_125 : decode cX6_mayGo 125 = .ok (.iconst 0, 1) := by decide +kernel
theorem dX6_mayGo_126 : decode cX6_mayGo 126 = .ok (.ireturn, 1) := by decide +kernel
theorem dX6_mayGo_127 : decode cX6_mayGo 127 = .ok (.iinc 3 1, 3) := by decide +kernel
theorem dX6_mayGo_130 : decode cX6_mayGo 130 = .ok (.goto (-26), 3) := by decide +kernel
theorem dX6_mayGo_133 : decode cX6_mayGo 133 = .ok (.iconst 1, 1) := by decide +kernel
theorem dX6_mayGo_134 : decode cX6_mayGo 134 = .ok (.ireturn, 1) := by decide +kernel
theorem dX6_sameGoings_0 : decode cX6_sameGoings 0 = .ok (.aload_n 0, 1) := by decide +kernel
theorem dX6_sameGoings_1 : decode cX6_sameGoings 1 = .ok (.getfield 22, 3) := by decide +kernel
theorem dX6_sameGoings_4 : decode cX6_sameGoings 4 = .ok (.getfield 56, 3) := by decide +kernel
theorem dX6_sameGoings_7 : decode cX6_sameGoings 7 = .ok (.iload_n 1, 1) := by decide +kernel
theorem dX6_sameGoings_8 : decode cX6_sameGoings 8 = .ok (.aaload, 1) := by decide +kernel
theorem dX6_sameGoings_9 : decode cX6_sameGoings 9 = .ok (.iload_n 2, 1) := by decide +kernel
theorem dX6_sameGoings_10 : decode cX6_sameGoings 10 = .ok (.iaload, 1) := by decide +kernel
theorem dX6_sameGoings_11 : decode cX6_sameGoings 11 = .ok (.aload_n 0, 1) := by decide +kernel
theorem dX6_sameGoings_12 : decode cX6_sameGoings 12 = .ok (.getfield 22, 3) := by decide +kernel
theorem dX6_sameGoings_15 : decode cX6_sameGoings 15 = .ok (.getfield 56, 3) := by decide +kernel
theorem dX6_sameGoings_18 : decode cX6_sameGoings 18 = .ok (.iload_n 3, 1) := by decide +kernel
theorem dX6_sameGoings_19 : decode cX6_sameGoings 19 = .ok (.aaload, 1) := by decide +kernel
theorem dX6_sameGoings_20 : decode cX6_sameGoings 20 = .ok (.iload 4, 2) := by decide +kernel
theorem dX6_sameGoings_22 : decode cX6_sameGoings 22 = .ok (.iaload, 1) := by decide +kernel
theorem dX6_sameGoings_23 : decode cX6_sameGoings 23 = .ok (.if_icmp .ne 33, 3) := by decide +kernel
theorem dX6_sameGoings_26 : decode cX6_sameGoings 26 = .ok (.aload_n 0, 1) := by decide +kernel
theorem dX6_sameGoings_27 : decode cX6_sameGoings 27 = .ok (.getfield 22, 3) := by decide +kernel
theorem dX6_sameGoings_30 : decode cX6_sameGoings 30 = .ok (.getfield 56, 3) := by decide +kernel
theorem dX6_sameGoings_33 : decode cX6_sameGoings 33 = .ok (.iload_n 2, 1) := by decide +kernel
theorem dX6_sameGoings_34 : decode cX6_sameGoings 34 = .ok (.aaload, 1) := by decide +kernel
theorem dX6_sameGoings_35 : decode cX6_sameGoings 35 = .ok (.iload_n 1, 1) := by decide +kernel
theorem dX6_sameGoings_36 : decode cX6_sameGoings 36 = .ok (.iaload, 1) := by decide +kernel
theorem dX6_sameGoings_37 : decode cX6_sameGoings 37 = .ok (.aload_n 0, 1) := by decide +kernel
theorem dX6_sameGoings_38 : decode cX6_sameGoings 38 = .ok (.getfield 22, 3) := by decide +kernel
theorem dX6_sameGoings_41 : decode cX6_sameGoings 41 = .ok (.getfield 56, 3) := by decide +kernel
theorem dX6_sameGoings_44 : decode cX6_sameGoings 44 = .ok (.iload 4, 2) := by decide +kernel
theorem dX6_sameGoings_46 : decode cX6_sameGoings 46 = .ok (.aaload, 1) := by decide +kernel
theorem dX6_sameGoings_47 : decode cX6_sameGoings 47 = .ok (.iload_n 3, 1) := by decide +kernel
theorem dX6_sameGoings_48 : decode cX6_sameGoings 48 = .ok (.iaload, 1) := by decide +kernel
theorem dX6_sameGoings_49 : decode cX6_sameGoings 49 = .ok (.if_icmp .ne 7, 3) := by decide +kernel
theorem dX6_sameGoings_52 : decode cX6_sameGoings 52 = .ok (.iconst 1, 1) := by decide +kernel
theorem dX6_sameGoings_53 : decode cX6_sameGoings 53 = .ok (.goto 4, 3) := by decide +kernel
theorem dX6_sameGoings_56 : decode cX6_sameGoings 56 = .ok (.iconst 0, 1) := by decide +kernel
theorem dX6_sameGoings_57 : decode cX6_sameGoings 57 = .ok (.ireturn, 1) := by decide +kernel
theorem dJ7_fill_d0a16_0 : decode cJ7_fill_d0a16 0 = .ok (.iconst 0, 1) := by decide +kernel
theorem dJ7_fill_d0a16_1 : decode cJ7_fill_d0a16 1 = .ok (.istore_n 3, 1) := by decide +kernel
theorem dJ7_fill_d0a16_2 : decode cJ7_fill_d0a16 2 = .ok (.aload_n 0, 1) := by decide +kernel
theorem dJ7_fill_d0a16_3 : decode cJ7_fill_d0a16 3 = .ok (.arraylength, 1) := by decide +kernel
theorem dJ7_fill_d0a16_4 : decode cJ7_fill_d0a16 4 = .ok (.istore 4, 2) := by decide +kernel
theorem dJ7_fill_d0a16_6 : decode cJ7_fill_d0a16 6 = .ok (.iload_n 3, 1) := by decide +kernel
theorem dJ7_fill_d0a16_7 : decode cJ7_fill_d0a16 7 = .ok (.iload 4, 2) := by decide +kernel
theorem dJ7_fill_d0a16_9 : decode cJ7_fill_d0a16 9 = .ok (.if_icmp .ge 13, 3) := by decide +kernel
theorem dJ7_fill_d0a16_12 : decode cJ7_fill_d0a16 12 = .ok (.aload_n 0, 1) := by decide +kernel
theorem dJ7_fill_d0a16_13 : decode cJ7_fill_d0a16 13 = .ok (.iload_n 3, 1) := by decide +kernel
theorem dJ7_fill_d0a16_14 : decode cJ7_fill_d0a16 14 = .ok (.lload_n 1, 1) := by decide +kernel
theorem dJ7_fill_d0a16_15 : decode cJ7_fill_d0a16 15 = .ok (.lastore, 1) := by decide +kernel
theorem dJ7_fill_d0a16_16 : decode cJ7_fill_d0a16 16 = .ok (.iinc 3 1, 3) := by decide +kernel
theorem dJ7_fill_d0a16_19 : decode cJ7_fill_d0a16 19 = .ok (.goto (-13), 3) := by decide +kernel
theorem dJ7_fill_d0a16_22 : decode cJ7_fill_d0a16 22 = .ok (.return_, 1) := by decide +kernel
theorem dJ7_fill_53178_0 : decode cJ7_fill_53178 0 = .ok (.iconst 0, 1) := by decide +kernel
theorem dJ7_fill_53178_1 : decode cJ7_fill_53178 1 = .ok (.istore_n 2, 1) := by decide +kernel
theorem dJ7_fill_53178_2 : decode cJ7_fill_53178 2 = .ok (.aload_n 0, 1) := by decide +kernel
theorem dJ7_fill_53178_3 : decode cJ7_fill_53178 3 = .ok (.arraylength, 1) := by decide +kernel
theorem dJ7_fill_53178_4 : decode cJ7_fill_53178 4 = .ok (.istore_n 3, 1) := by decide +kernel
theorem dJ7_fill_53178_5 : decode cJ7_fill_53178 5 = .ok (.iload_n 2, 1) := by decide +kernel
theorem dJ7_fill_53178_6 : decode cJ7_fill_53178 6 = .ok (.iload_n 3, 1) := by decide +kernel
theorem dJ7_fill_53178_7 : decode cJ7_fill_53178 7 = .ok (.if_icmp .ge 13, 3) := by decide +kernel
theorem dJ7_fill_53178_10 : decode cJ7_fill_53178 10 = .ok (.aload_n 0, 1) := by decide +kernel
theorem dJ7_fill_53178_11 : decode cJ7_fill_53178 11 = .ok (.iload_n 2, 1) := by decide +kernel
theorem dJ7_fill_53178_12 : decode cJ7_fill_53178 12 = .ok (.iload_n 1, 1) := by decide +kernel
theorem dJ7_fill_53178_13 : decode cJ7_fill_53178 13 = .ok (.iastore, 1) := by decide +kernel
theorem dJ7_fill_53178_14 : decode cJ7_fill_53178 14 = .ok (.iinc 2 1, 3) := by decide +kernel
theorem dJ7_fill_53178_17 : decode cJ7_fill_53178 17 = .ok (.goto (-12), 3) := by decide +kernel
theorem dJ7_fill_53178_20 : decode cJ7_fill_53178 20 = .ok (.return_, 1) := by decide +kernel
theorem dJ9_min_f86c9_0 : decode cJ9_min_f86c9 0 = .ok (.lload_n 0, 1) := by decide +kernel
theorem dJ9_min_f86c9_1 : decode cJ9_min_f86c9 1 = .ok (.lload_n 2, 1) := by decide +kernel
theorem dJ9_min_f86c9_2 : decode cJ9_min_f86c9 2 = .ok (.lcmp, 1) := by decide +kernel
theorem dJ9_min_f86c9_3 : decode cJ9_min_f86c9 3 = .ok (.ifCond .gt 7, 3) := by decide +kernel
theorem dJ9_min_f86c9_6 : decode cJ9_min_f86c9 6 = .ok (.lload_n 0, 1) := by decide +kernel
theorem dJ9_min_f86c9_7 : decode cJ9_min_f86c9 7 = .ok (.goto 4, 3) := by decide +kernel
theorem dJ9_min_f86c9_10 : decode cJ9_min_f86c9 10 = .ok (.lload_n 2, 1) := by decide +kernel
theorem dJ9_min_f86c9_11 : decode cJ9_min_f86c9 11 = .ok (.lreturn, 1) := by decide +kernel
