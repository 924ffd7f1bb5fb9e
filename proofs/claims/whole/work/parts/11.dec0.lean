theorem dX0_init_0 : decode cX0_init 0 = .ok (.aload_n 0, 1) := by decide +kernel
theorem dX0_init_1 : decode cX0_init 1 = .ok (.invokespecial 3, 3) := by decide +kernel
theorem dX0_init_4 : decode cX0_init 4 = .ok (.aload_n 0, 1) := by decide +kernel
theorem dX0_init_5 : decode cX0_init 5 = .ok (.bipush 10, 2) := by decide +kernel
theorem dX0_init_7 : decode cX0_init 7 = .ok (.newarray .int, 2) := by decide +kernel
theorem dX0_init_9 : decode cX0_init 9 = .ok (.putfield 9, 3) := by decide +kernel
theorem dX0_init_12 : decode cX0_init 12 = .ok (.aload_n 0, 1) := by decide +kernel
theorem dX0_init_13 : decode cX0_init 13 = .ok (.bipush 12, 2) := by decide +kernel
theorem dX0_init_15 : decode cX0_init 15 = .ok (.newarray .int, 2) := by decide +kernel
theorem dX0_init_17 : decode cX0_init 17 = .ok (.putfield 15, 3) := by decide +kernel
theorem dX0_init_20 : decode cX0_init 20 = .ok (.aload_n 0, 1) := by decide +kernel
theorem dX0_init_21 : decode cX0_init 21 = .ok (.bipush 10, 2) := by decide +kernel
theorem dX0_init_23 : decode cX0_init 23 = .ok (.newarray .long, 2) := by decide +kernel
theorem dX0_init_25 : decode cX0_init 25 = .ok (.putfield 18, 3) := by decide +kernel
theorem dX0_init_28 : decode cX0_init 28 = .ok (.aload_n 0, 1) := by decide +kernel
theorem dX0_init_29 : decode cX0_init 29 = .ok (.sipush 1024, 3) := by decide +kernel
theorem dX0_init_32 : decode cX0_init 32 = .ok (.newarray .long, 2) := by decide +kernel
theorem dX0_init_34 : decode cX0_init 34 = .ok (.putfield 22, 3) := by decide +kernel
theorem dX0_init_37 : decode cX0_init 37 = .ok (.aload_n 0, 1) := by decide +kernel
theorem dX0_init_38 : decode cX0_init 38 = .ok (.aload_n 1, 1) := by decide +kernel
theorem dX0_init_39 : decode cX0_init 39 = .ok (.putfield 25, 3) := by decide +kernel
theorem dX0_init_42 : decode cX0_init 42 = .ok (.aload_n 0, 1) := by decide +kernel
theorem dX0_init_43 : decode cX0_init 43 = .ok (.aload_n 2, 1) := by decide +kernel
theorem dX0_init_44 : decode cX0_init 44 = .ok (.putfield 29, 3) := by decide +kernel
theorem dX0_init_47 : decode cX0_init 47 = .ok (.aload_n 0, 1) := by decide +kernel
theorem dX0_init_48 : decode cX0_init 48 = .ok (.aload_n 3, 1) := by decide +kernel
theorem dX0_init_49 : decode cX0_init 49 = .ok (.putfield 33, 3) := by decide +kernel
theorem dX0_init_52 : decode cX0_init 52 = .ok (.return_, 1) := by decide +kernel
theorem dX0_priceOn_0 : decode cX0_priceOn 0 = .ok (.aload_n 0, 1) := by decide +kernel
theorem dX0_priceOn_1 : decode cX0_priceOn 1 = .ok (.iload_n 1, 1) := by decide +kernel
theorem dX0_priceOn_2 : decode cX0_priceOn 2 = .ok (.invokevirtual 37, 3) := by decide +kernel
theorem dX0_priceOn_5 : decode cX0_priceOn 5 = .ok (.istore_n 3, 1) := by decide +kernel
theorem dX0_priceOn_6 : decode cX0_priceOn 6 = .ok (.aload_n 0, 1) := by decide +kernel
theorem dX0_priceOn_7 : decode cX0_priceOn 7 = .ok (.iload_n 2, 1) := by decide +kernel
theorem dX0_priceOn_8 : decode cX0_priceOn 8 = .ok (.invokevirtual 41, 3) := by decide +kernel
theorem dX0_priceOn_11 : decode cX0_priceOn 11 = .ok (.istore 4, 2) := by decide +kernel
theorem dX0_priceOn_13 : decode cX0_priceOn 13 = .ok (.lconst 0, 1) := by decide +kernel
theorem dX0_priceOn_14 : decode cX0_priceOn 14 = .ok (.lstore 5, 2) := by decide +kernel
theorem dX0_priceOn_16 : decode cX0_priceOn 16 = .ok (.iconst 0, 1) := by decide +kernel
theorem dX0_priceOn_17 : decode cX0_priceOn 17 = .ok (.istore 7, 2) := by decide +kernel
theorem dX0_priceOn_19 : decode cX0_priceOn 19 = .ok (.iload 7, 2) := by decide +kernel
theorem dX0_priceOn_21 : decode cX0_priceOn 21 = .ok (.iload_n 3, 1) := by decide +kernel
theorem dX0_priceOn_22 : decode cX0_priceOn 22 = .ok (.if_icmp .ge 42, 3) := by decide +kernel
theorem dX0_priceOn_25 : decode cX0_priceOn 25 = .ok (.iload 7, 2) := by decide +kernel
theorem dX0_priceOn_27 : decode cX0_priceOn 27 = .ok (.iload 4, 2) := by decide +kernel
theorem dX0_priceOn_29 : decode cX0_priceOn 29 = .ok (.if_icmp .ge 35, 3) := by decide +kernel
theorem dX0_priceOn_32 : decode cX0_priceOn 32 = .ok (.lload 5, 2) := by decide +kernel
theorem dX0_priceOn_34 : decode cX0_priceOn 34 = .ok (.aload_n 0, 1) := by decide +kernel
theorem dX0_priceOn_35 : decode cX0_priceOn 35 = .ok (.getfield 9, 3) := by decide +kernel
theorem dX0_priceOn_38 : decode cX0_priceOn 38 = .ok (.iload_n 3, 1) := by decide +kernel
theorem dX0_priceOn_39 : decode cX0_priceOn 39 = .ok (.iconst 1, 1) := by decide +kernel
theorem dX0_priceOn_40 : decode cX0_priceOn 40 = .ok (.isub, 1) := by decide +kernel
theorem dX0_priceOn_41 : decode cX0_priceOn 41 = .ok (.iload 7, 2) := by decide +kernel
theorem dX0_priceOn_43 : decode cX0_priceOn 43 = .ok (.isub, 1) := by decide +kernel
theorem dX0_priceOn_44 : decode cX0_priceOn 44 = .ok (.iaload, 1) := by decide +kernel
theorem dX0_priceOn_45 : decode cX0_priceOn 45 = .ok (.i2l, 1) := by decide +kernel
theorem dX0_priceOn_46 : decode cX0_priceOn 46 = .ok (.aload_n 0, 1) := by decide +kernel
theorem dX0_priceOn_47 : decode cX0_priceOn 47 = .ok (.getfield 15, 3) := by decide +kernel
theorem dX0_priceOn_50 : decode cX0_priceOn 50 = .ok (.iload 7, 2) := by decide +kernel
theorem dX0_priceOn_52 : decode cX0_priceOn 52 = .ok (.iaload, 1) := by decide +kernel
theorem dX0_priceOn_53 : decode cX0_priceOn 53 = .ok (.i2l, 1) := by decide +kernel
theorem dX0_priceOn_54 : decode cX0_priceOn 54 = .ok (.lmul, 1) := by decide +kernel
theorem dX0_priceOn_55 : decode cX0_priceOn 55 = .ok (.ladd, 1) := by decide +kernel
theorem dX0_priceOn_56 : decode cX0_priceOn 56 = .ok (.lstore 5, 2) := by decide +kernel
theorem dX0_priceOn_58 : decode cX0_priceOn 58 = .ok (.iinc 7 1, 3) := by decide +kernel
theorem dX0_priceOn_61 : decode cX0_priceOn 61 = .ok (.goto (-42), 3) := by decide +kernel
theorem dX0_priceOn_64 : decode cX0_priceOn 64 = .ok (.lload 5, 2) := by decide +kernel
theorem dX0_priceOn_66 : decode cX0_priceOn 66 = .ok (.lreturn, 1) := by decide +kernel
theorem dX0_gatherOftens_0 : decode cX0_gatherOftens 0 = .ok (.iconst 0, 1) := by decide +kernel
theorem dX0_gatherOftens_1 : decode cX0_gatherOftens 1 = .ok (.istore_n 2, 1) := by decide +kernel
theorem dX0_gatherOftens_2 : decode cX0_gatherOftens 2 = .ok (.iconst 0, 1) := by decide +kernel
theorem dX0_gatherOftens_3 : decode cX0_gatherOftens 3 = .ok (.istore_n 3, 1) := by decide +kernel
theorem dX0_gatherOftens_4 : decode cX0_gatherOftens 4 = .ok (.iload_n 3, 1) := by decide +kernel
theorem dX0_gatherOftens_5 : decode cX0_gatherOftens 5 = .ok (.aload_n 0, 1) := by decide +kernel
theorem dX0_gatherOftens_6 : decode cX0_gatherOftens 6 = .ok (.getfield 25, 3) := by decide +kernel
theorem dX0_gatherOftens_9 : decode cX0_gatherOftens 9 = .ok (.getfield 44, 3) := by decide +kernel
theorem dX0_gatherOftens_12 : decode cX0_gatherOftens 12 = .ok (.if_icmp .ge 33, 3) := by decide +kernel
theorem dX0_gatherOftens_15 : decode cX0_gatherOftens 15 = .ok (.iload_n 3, 1) := by decide +kernel
theorem dX0_gatherOftens_16 : decode cX0_gatherOftens 16 = .ok (.iload_n 1, 1) := by decide +kernel
theorem dX0_gatherOftens_17 : decode cX0_gatherOftens 17 = .ok (.if_icmp .eq 22, 3) := by decide +kernel
theorem dX0_gatherOftens_20 : decode cX0_gatherOftens 20 = .ok (.aload_n 0, 1) := by decide +kernel
theorem dX0_gatherOftens_21 : decode cX0_gatherOftens 21 = .ok (.getfield 9, 3) := by decide +kernel
theorem dX0_gatherOftens_24 : decode cX0_gatherOftens 24 = .ok (.iload_n 2, 1) := by decide +kernel
theorem dX0_gatherOftens_25 : decode cX0_gatherOftens 25 = .ok (.aload_n 0, 1) := by decide +kernel
theorem dX0_gatherOftens_26 : decode cX0_gatherOftens 26 = .ok (.getfield 33, 3) := by decide +kernel
theorem dX0_gatherOftens_29 : decode cX0_gatherOftens 29 = .ok (.iload_n 1, 1) := by decide +kernel
theorem dX0_gatherOftens_30 : decode cX0_gatherOftens 30 = .ok (.aaload, 1) := by decide +kernel
theorem dX0_gatherOftens_31 : decode cX0_gatherOftens 31 = .ok (.iload_n 3, 1) := by decide +kernel
theorem dX0_gatherOftens_32 : decode cX0_gatherOftens 32 = .ok (.iaload, 1) := by decide +kernel
theorem dX0_gatherOftens_33 : decode cX0_gatherOftens 33 = .ok (.invokestatic 50, 3) := by decide +kernel
theorem dX0_gatherOftens_36 : decode cX0_gatherOftens 36 = .ok (.iinc 2 1, 3) := by decide +kernel
theorem dX0_gatherOftens_39 : decode cX0_gatherOftens 39 = .ok (.iinc 3 1, 3) := by decide +kernel
theorem dX0_gatherOftens_42 : decode cX0_gatherOftens 42 = .ok (.goto (-38), 3) := by decide +kernel
theorem dX0_gatherOftens_45 : decode cX0_gatherOftens 45 = .ok (.iload_n 2, 1) := by decide +kernel
theorem dX0_gatherOftens_46 : decode cX0_gatherOftens 46 = .ok (.ireturn, 1) := by decide +kernel
theorem dX0_gatherWays_0 : decode cX0_gatherWays 0 = .ok (.iconst 0, 1) := by decide +kernel
theorem dX0_gatherWays_1 : decode cX0_gatherWays 1 = .ok (.istore_n 2, 1) := by decide +kernel
theorem dX0_gatherWays_2 : decode cX0_gatherWays 2 = .ok (.iconst 0, 1) := by decide +kernel
theorem dX0_gatherWays_3 : decode cX0_gatherWays 3 = .ok (.istore_n 3, 1) := by decide +kernel
theorem dX0_gatherWays_4 : decode cX0_gatherWays 4 = .ok (.iload_n 3, 1) := by decide +kernel
theorem dX0_gatherWays_5 : decode cX0_gatherWays 5 = .ok (.aload_n 0, 1) := by decide +kernel
theorem dX0_gatherWays_6 : decode cX0_gatherWays 6 = .ok (.getfield 29, 3) := by decide +kernel
theorem dX0_gatherWays_9 : decode cX0_gatherWays 9 = .ok (.getfield 54, 3) := by decide +kernel
theorem dX0_gatherWays_12 : decode cX0_gatherWays 12 = .ok (.if_icmp .ge 36, 3) := by decide +kernel
theorem dX0_gatherWays_15 : decode cX0_gatherWays 15 = .ok (.iload_n 3, 1) := by decide +kernel
theorem dX0_gatherWays_16 : decode cX0_gatherWays 16 = .ok (.iload_n 1, 1) := by decide +kernel
theorem dX0_gatherWays_17 : decode cX0_gatherWays 17 = .ok (.if_icmp .eq 25, 3) := by decide +kernel
theorem dX0_gatherWays_20 : decode cX0_gatherWays 20 = .ok (.aload_n 0, 1) := by decide +kernel
theorem dX0_gatherWays_21 : decode cX0_gatherWays 21 = .ok (.getfield 15, 3) := by decide +kernel
theorem dX0_gatherWays_24 : decode cX0_gatherWays 24 = .ok (.iload_n 2, 1) := by decide +kernel
theorem dX0_gatherWays_25 : decode cX0_gatherWays 25 = .ok (.aload_n 0, 1) := by decide +kernel
theorem dX0_gatherWays_26 : decode cX0_gatherWays 26 = .ok (.getfield 29, 3) := by decide +kernel
theorem dX0_gatherWays_29 : decode cX0_gatherWays 29 = .ok (.getfield 57, 3) := by decide +kernel
theorem dX0_gatherWays_32 : decode cX0_gatherWays 32 = .ok (.iload_n 1, 1) := by decide +kernel
theorem dX0_gatherWays_33 : decode cX0_gatherWays 33 = .ok (.aaload, 1) := by decide +kernel
theorem dX0_gatherWays_34 : decode cX0_gatherWays 34 = .ok (.iload_n 3, 1) := by decide +kernel
theorem dX0_gatherWays_35 : decode cX0_gatherWays 35 = .ok (.iaload, 1) := by decide +kernel
theorem dX0_gatherWays_36 : decode cX0_gatherWays 36 = .ok (.invokestatic 50, 3) := by decide +kernel
theorem dX0_gatherWays_39 : decode cX0_gatherWays 39 = .ok (.iinc 2 1, 3) := by decide +kernel
theorem dX0_gatherWays_42 : decode cX0_gatherWays 42 = .ok (.iinc 3 1, 3) := by decide +kernel
theorem dX0_gatherWays_45 : decode cX0_gatherWays 45 = .ok (.goto (-41), 3) := by decide +kernel
theorem dX0_gatherWays_48 : decode cX0_gatherWays 48 = .ok (.iload_n 2, 1) := by decide +kernel
theorem dX0_gatherWays_49 : decode cX0_gatherWays 49 = .ok (.ireturn, 1) := by decide +kernel
theorem dX0_insert_0 : decode cX0_insert 0 = .ok (.iload_n 1, 1) := by decide +kernel
theorem dX0_insert_1 : decode cX0_insert 1 = .ok (.istore_n 3, 1) := by decide +kernel
theorem dX0_insert_2 : decode cX0_insert 2 = .ok (.iload_n 3, 1) := by decide +kernel
theorem dX0_insert_3 : decode cX0_insert 3 = .ok (.ifCond .le 26, 3) := by decide +kernel
theorem dX0_insert_6 : decode cX0_insert 6 = .ok (.aload_n 0, 1) := by decide +kernel
theorem dX0_insert_7 : decode cX0_insert 7 = .ok (.iload_n 3, 1) := by decide +kernel
theorem dX0_insert_8 : decode cX0_insert 8 = .ok (.iconst 1, 1) := by decide +kernel
theorem dX0_insert_9 : decode cX0_insert 9 = .ok (.isub, 1) := by decide +kernel
theorem dX0_insert_10 : decode cX0_insert 10 = .ok (.iaload, 1) := by decide +kernel
theorem dX0_insert_11 : decode cX0_insert 11 = .ok (.iload_n 2, 1) := by decide +kernel
theorem dX0_insert_12 : decode cX0_insert 12 = .ok (.if_icmp .le 17, 3) := by decide +kernel
theorem dX0_insert_15 : decode cX0_insert 15 = .ok (.aload_n 0, 1) := by decide +kernel
theorem dX0_insert_16 : decode cX0_insert 16 = .ok (.iload_n 3, 1) := by decide +kernel
theorem dX0_insert_17 : decode cX0_insert 17 = .ok (.aload_n 0, 1) := by decide +kernel
theorem dX0_insert_18 : decode cX0_insert 18 = .ok (.iload_n 3, 1) := by decide +kernel
theorem dX0_insert_19 : decode cX0_insert 19 = .ok (.iconst 1, 1) := by decide +kernel
theorem dX0_insert_20 : decode cX0_insert 20 = .ok (.isub, 1) := by decide +kernel
theorem dX0_insert_21 : decode cX0_insert 21 = .ok (.iaload, 1) := by decide +kernel
theorem dX0_insert_22 : decode cX0_insert 22 = .ok (.iastore, 1) := by decide +kernel
theorem dX0_insert_23 : decode cX0_insert 23 = .ok (.iinc 3 (-1), 3) := by decide +kernel
theorem dX0_insert_26 : decode cX0_insert 26 = .ok (.goto (-24), 3) := by decide +kernel
theorem dX0_insert_29 : decode cX0_insert 29 = .ok (.aload_n 0, 1) := by decide +kernel
theorem dX0_insert_30 : decode cX0_insert 30 = .ok (.iload_n 3, 1) := by decide +kernel
theorem dX0_insert_31 : decode cX0_insert 31 = .ok (.iload_n 2, 1) := by decide +kernel
theorem dX0_insert_32 : decode cX0_insert 32 = .ok (.iastore, 1) := by decide +kernel
theorem dX0_insert_33 : decode cX0_insert 33 = .ok (.return_, 1) := by decide +kernel
theorem dX0_leastSum_0 : decode cX0_leastSum 0 = .ok (.aload_n 0, 1) := by decide +kernel
theorem dX0_leastSum_1 : decode cX0_leastSum 1 = .ok (.getfield 22, 3) := by decide +kernel
theorem dX0_leastSum_4 : decode cX0_leastSum 4 = .ok (.ldc2_w 60, 3) := by decide +kernel
theorem dX0_leastSum_7 : decode cX0_leastSum 7 = .ok (.invokestatic 62, 3) := by decide +kernel
theorem dX0_leastSum_10 : decode cX0_leastSum 10 = .ok (.aload_n 0, 1) := by decide +kernel
theorem dX0_leastSum_11 : decode cX0_leastSum 11 = .ok (.getfield 22, 3) := by decide +kernel
theorem dX0_leastSum_14 : decode cX0_leastSum 14 = .ok (.iconst 0, 1) := by decide +kernel
theorem dX0_leastSum_15 : decode cX0_leastSum 15 = .ok (.lconst 0, 1) := by decide +kernel
theorem dX0_leastSum_16 : decode cX0_leastSum 16 = .ok (.lastore, 1) := by decide +kernel
theorem dX0_leastSum_17 : decode cX0_leastSum 17 = .ok (.iconst 1, 1) := by decide +kernel
theorem dX0_leastSum_18 : decode cX0_leastSum 18 = .ok (.aload_n 0, 1) := by decide +kernel
theorem dX0_leastSum_19 : decode cX0_leastSum 19 = .ok (.getfield 25, 3) := by decide +kernel
theorem dX0_leastSum_22 : decode cX0_leastSum 22 = .ok (.getfield 44, 3) := by decide +kernel
theorem dX0_leastSum_25 : decode cX0_leastSum 25 = .ok (.ishl, 1) := by decide +kernel
theorem dX0_leastSum_26 : decode cX0_leastSum 26 = .ok (.iconst 1, 1) := by decide +kernel
theorem dX0_leastSum_27 : decode cX0_leastSum 27 = .ok (.isub, 1) := by decide +kernel
theorem dX0_leastSum_28 : decode cX0_leastSum 28 = .ok (.istore_n 1, 1) := by decide +kernel
theorem dX0_leastSum_29 : decode cX0_leastSum 29 = .ok (.iconst 0, 1) := by decide +kernel
theorem dX0_leastSum_30 : decode cX0_leastSum 30 = .ok (.istore_n 2, 1) := by decide +kernel
theorem dX0_leastSum_31 : decode cX0_leastSum 31 = .ok (.iload_n 2, 1) := by decide +kernel
theorem dX0_leastSum_32 : decode cX0_leastSum 32 = .ok (.aload_n 0, 1) := by decide +kernel
theorem dX0_leastSum_33 : decode cX0_leastSum 33 = .ok (.getfield 29, 3) := by decide +kernel
theorem dX0_leastSum_36 : decode cX0_leastSum 36 = .ok (.getfield 54, 3) := by decide +kernel
theorem dX0_leastSum_39 : decode cX0_leastSum 39 = .ok (.if_icmp .ge 90, 3) := by decide +kernel
theorem dX0_leastSum_42 : decode cX0_leastSum 42 = .ok (.iconst 0, 1) := by decide +kernel
theorem dX0_leastSum_43 : decode cX0_leastSum 43 = .ok (.istore_n 3, 1) := by decide +kernel
theorem dX0_leastSum_44 : decode cX0_leastSum 44 = .ok (.iload_n 3, 1) := by decide +kernel
theorem dX0_leastSum_45 : decode cX0_leastSum 45 = .ok (.aload_n 0, 1) := by decide +kernel
theorem dX0_leastSum_46 : decode cX0_leastSum 46 = .ok (.getfield 25, 3) := by decide +kernel
theorem dX0_leastSum_49 : decode cX0_leastSum 49 = .ok (.getfield 44, 3) := by decide +kernel
theorem dX0_leastSum_52 : decode cX0_leastSum 52 = .ok (.if_icmp .ge 39, 3) := by decide +kernel
theorem dX0_leastSum_55 : decode cX0_leastSum 55 = .ok (.aload_n 0, 1) := by decide +kernel
theorem dX0_leastSum_56 : decode cX0_leastSum 56 = .ok (.getfield 18, 3) := by decide +kernel
theorem dX0_leastSum_59 : decode cX0_leastSum 59 = .ok (.iload_n 3, 1) := by decide +kernel
theorem dX0_leastSum_60 : decode cX0_leastSum 60 = .ok (.aload_n 0, 1) := by decide +kernel
theorem dX0_leastSum_61 : decode cX0_leastSum 61 = .ok (.getfield 25, 3) := by decide +kernel
theorem dX0_leastSum_64 : decode cX0_leastSum 64 = .ok (.iload_n 3, 1) := by decide +kernel
theorem dX0_leastSum_65 : decode cX0_leastSum 65 = .ok (.iload_n 2, 1) := by decide +kernel
theorem dX0_leastSum_66 : decode cX0_leastSum 66 = .ok (.invokevirtual 68, 3) := by decide +kernel
theorem dX0_leastSum_69 : decode cX0_leastSum 69 = .ok (.ifCond .eq 12, 3) := by decide +kernel
theorem dX0_leastSum_72 : decode cX0_leastSum 72 = .ok (.aload_n 0, 1) := by decide +kernel
theorem dX0_leastSum_73 : decode cX0_leastSum 73 = .ok (.iload_n 3, 1) := by decide +kernel
theorem dX0_leastSum_74 : decode cX0_leastSum 74 = .ok (.iload_n 2, 1) := by decide +kernel
theorem dX0_leastSum_75 : decode cX0_leastSum 75 = .ok (.invokevirtual 72, 3) := by decide +kernel
theorem dX0_leastSum_78 : decode cX0_leastSum 78 = .ok (.goto 6, 3) := by decide +kernel
theorem dX0_leastSum_81 : decode cX0_leastSum 81 = .ok (.ldc2_w 60, 3) := by decide +kernel
theorem dX0_leastSum_84 : decode cX0_leastSum 84 = .ok (.lastore, 1) := by decide +kernel
theorem dX0_leastSum_85 : decode cX0_leastSum 85 = .ok (.iinc 3 1, 3) := by decide +kernel
theorem dX0_leastSum_88 : decode cX0_leastSum 88 = .ok (.goto (-44), 3) := by decide +kernel
theorem dX0_leastSum_91 : decode cX0_leastSum 91 = .ok (.iload_n 1, 1) := by decide +kernel
theorem dX0_leastSum_92 : decode cX0_leastSum 92 = .ok (.istore_n 3, 1) := by decide +kernel
theorem dX0_leastSum_93 : decode cX0_leastSum 93 = .ok (.iload_n 3, 1) := by decide +kernel
theorem dX0_leastSum_94 : decode cX0_leastSum 94 = .ok (.ifCond .le 29, 3) := by decide +kernel
theorem dX0_leastSum_97 : decode cX0_leastSum 97 = .ok (.aload_n 0, 1) := by decide +kernel
theorem dX0_leastSum_98 : decode cX0_leastSum 98 = .ok (.getfield 22, 3) := by decide +kernel
theorem dX0_leastSum_101 : decode cX0_leastSum 101 = .ok (.iload_n 3, 1) := by decide +kernel
theorem dX0_leastSum_102 : decode cX0_leastSum 102 = .ok (.aload_n 0, 1) := by decide +kernel
theorem dX0_leastSum_103 : decode cX0_leastSum 103 = .ok (.getfield 22, 3) := by decide +kernel
theorem dX0_leastSum_106 : decode cX0_leastSum 106 = .ok (.iload_n 3, 1) := by decide +kernel
theorem dX0_leastSum_107 : decode cX0_leastSum 107 = .ok (.laload, 1) := by decide +kernel
theorem dX0_leastSum_108 : decode cX0_leastSum 108 = .ok (.aload_n 0, 1) := by decide +kernel
theorem dX0_leastSum_109 : decode cX0_leastSum 109 = .ok (.iload_n 3, 1) := by decide +kernel
theorem dX0_leastSum_110 : decode cX0_leastSum 110 = .ok (.invokevirtual 76, 3) := by decide +kernel
theorem dX0_leastSum_113 : decode cX0_leastSum 113 = .ok (.invokestatic 80, 3) := by decide +kernel
theorem dX0_leastSum_116 : decode cX0_leastSum 116 = .ok (.lastore, 1) := by decide +kernel
theorem dX0_leastSum_117 : decode cX0_leastSum 117 = .ok (.iinc 3 (-1), 3) := by decide +kernel
theorem dX0_leastSum_120 : decode cX0_leastSum 120 = .ok (.goto (-27), 3) := by decide +kernel
theorem dX0_leastSum_123 : decode cX0_leastSum 123 = .ok (.iinc 2 1, 3) := by decide +kernel
theorem dX0_leastSum_126 : decode cX0_leastSum 126 = .ok (.goto (-95), 3) := by decide +kernel
theorem dX0_leastSum_129 : decode cX0_leastSum 129 = .ok (.aload_n 0, 1) := by decide +kernel
theorem dX0_leastSum_130 : decode cX0_leastSum 130 = .ok (.getfield 22, 3) := by decide +kernel
theorem dX0_leastSum_133 : decode cX0_leastSum 133 = .ok (.iload_n 1, 1) := by decide +kernel
theorem dX0_leastSum_134 : decode cX0_leastSum 134 = .ok (.laload, 1) := by decide +kernel
theorem dX0_leastSum_135 : decode cX0_leastSum 135 = .ok (.lreturn, 1) := by decide +kernel
theorem dX0_leastWithLatestKey_0 : decode cX0_leastWithLatestKey 0 = .ok (.ldc2_w 60, 3) := by decide +kernel
theorem dX0_leastWithLatestKey_3 : decode cX0_leastWithLatestKey 3 = .ok (.lstore_n 2, 1) := by decide +kernel
theorem dX0_leastWithLatestKey_4 : decode cX0_leastWithLatestKey 4 = .ok (.iconst 0, 1) := by decide +kernel
theorem dX0_leastWithLatestKey_5 : decode cX0_leastWithLatestKey 5 = .ok (.istore 4, 2) := by decide +kernel
theorem dX0_leastWithLatestKey_7 : decode cX0_leastWithLatestKey 7 = .ok (.iload 4, 2) := by decide +kernel
theorem dX0_leastWithLatestKey_9 : decode cX0_leastWithLatestKey 9 = .ok (.aload_n 0, 1) := by decide +kernel
theorem dX0_leastWithLatestKey_10 : decode cX0_leastWithLatestKey 10 = .ok (.getfield 25, 3) := by decide +kernel
theorem dX0_leastWithLatestKey_13 : decode cX0_leastWithLatestKey 13 = .ok (.getfield 44, 3) := by decide +kernel
theorem dX0_leastWithLatestKey_16 : decode cX0_leastWithLatestKey 16 = .ok (.if_icmp .ge 44, 3) := by decide +kernel
theorem dX0_leastWithLatestKey_19 : decode cX0_leastWithLatestKey 19 = .ok (.iconst 1, 1) := by decide +kernel
theorem dX0_leastWithLatestKey_20 : decode cX0_leastWithLatestKey 20 = .ok (.iload 4, 2) := by decide +kernel
theorem dX0_leastWithLatestKey_22 : decode cX0_leastWithLatestKey 22 = .ok (.ishl, 1) := by decide +kernel
theorem dX0_leastWithLatestKey_23 : decode cX0_leastWithLatestKey 23 = .ok (.istore 5, 2) := by decide +kernel
theorem dX0_leastWithLatestKey_25 : decode cX0_leastWithLatestKey 25 = .ok (.iload_n 1, 1) := by decide +kernel
theorem dX0_leastWithLatestKey_26 : decode cX0_leastWithLatestKey 26 = .ok (.iload 5, 2) := by decide +kernel
theorem dX0_leastWithLatestKey_28 : decode cX0_leastWithLatestKey 28 = .ok (.iand, 1) := by decide +kernel
theorem dX0_leastWithLatestKey_29 : decode cX0_leastWithLatestKey 29 = .ok (.ifCond .eq 25, 3) := by decide +kernel
theorem dX0_leastWithLatestKey_32 : decode cX0_leastWithLatestKey 32 = .ok (.lload_n 2, 1) := by decide +kernel
theorem dX0_leastWithLatestKey_33 : decode cX0_leastWithLatestKey 33 = .ok (.aload_n 0, 1) := by decide +kernel
theorem dX0_leastWithLatestKey_34 : decode cX0_leastWithLatestKey 34 = .ok (.getfield 22, 3) := by decide +kernel
theorem dX0_leastWithLatestKey_37 : decode cX0_leastWithLatestKey 37 = .ok (.iload_n 1, 1) := by decide +kernel
theorem dX0_leastWithLatestKey_38 : decode cX0_leastWithLatestKey 38 = .ok (.iload 5, 2) := by decide +kernel
theorem dX0_leastWithLatestKey_40 : decode cX0_leastWithLatestKey 40 = .ok (.isub, 1) := by decide +kernel
theorem dX0_leastWithLatestKey_41 : decode cX0_leastWithLatestKey 41 = .ok (.laload, 1) := by decide +kernel
theorem dX0_leastWithLatestKey_42 : decode cX0_leastWithLatestKey 42 = .ok (.aload_n 0, 1) := by decide +kernel
theorem dX0_leastWithLatestKey_43 : decode cX0_leastWithLatestKey 43 = .ok (.getfield 18, 3) := by decide +kernel
theorem dX0_leastWithLatestKey_46 : decode cX0_leastWithLatestKey 46 = .ok (.iload 4, 2) := by decide +kernel
theorem dX0_leastWithLatestKey_48 : decode cX0_leastWithLatestKey 48 = .ok (.laload, 1) := by decide +kernel
theorem dX0_leastWithLatestKey_49 : decode cX0_leastWithLatestKey 49 = .ok (.ladd, 1) := by decide +kernel
theorem dX0_leastWithLatestKey_50 : decode cX0_leastWithLatestKey 50 = .ok (.invokestatic 80, 3) := by decide +kernel
theorem dX0_leastWithLatestKey_53 : decode cX0_leastWithLatestKey 53 = .ok (.lstore_n 2, 1) := by decide +kernel
theorem dX0_leastWithLatestKey_54 : decode cX0_leastWithLatestKey 54 = .ok (.iinc 4 1, 3) := by decide +kernel
theorem dX0_leastWithLatestKey_57 : decode cX0_leastWithLatestKey 57 = .ok (.goto (-50), 3) := by decide +kernel
theorem dX0_leastWithLatestKey_60 : decode cX0_leastWithLatestKey 60 = .ok (.lload_n 2, 1) := by decide +kernel
theorem dX0_leastWithLatestKey_61 : decode cX0_leastWithLatestKey 61 = .ok (.lreturn, 1) := by decide +kernel
theorem dX1_init_0 : decode cX1_init 0 = .ok (.aload_n 0, 1) := by decide +kernel
theorem dX1_init_1 : decode cX1_init 1 = .ok (.invokespecial 3, 3) := by decide +kernel
theorem dX1_init_4 : decode cX1_init 4 = .ok (.aload_n 0, 1) := by decide +kernel
theorem dX1_init_5 : decode cX1_init 5 = .ok (.bipush 10, 2) := by decide +kernel
theorem dX1_init_7 : decode cX1_init 7 = .ok (.newarray .int, 2) := by decide +kernel
theorem dX1_init_9 : decode cX1_init 9 = .ok (.putfield 9, 3) := by decide +kernel
theorem dX1_init_12 : decode cX1_init 12 = .ok (.aload_n 0, 1) := by decide +kernel
theorem dX1_init_13 : decode cX1_init 13 = .ok (.bipush 12, 2) := by decide +kernel
theorem dX1_init_15 : decode cX1_init 15 = .ok (.newarray .boolean, 2) := by decide +kernel
theorem dX1_init_17 : decode cX1_init 17 = .ok (.putfield 15, 3) := by decide +kernel
theorem dX1_init_20 : decode cX1_init 20 = .ok (.aload_n 0, 1) := by decide +kernel
theorem dX1_init_21 : decode cX1_init 21 = .ok (.bipush 10, 2) := by decide +kernel
theorem dX1_init_23 : decode cX1_init 23 = .ok (.newarray .int, 2) := by decide +kernel
theorem dX1_init_25 : decode cX1_init 25 = .ok (.putfield 19, 3) := by decide +kernel
theorem dX1_init_28 : decode cX1_init 28 = .ok (.aload_n 0, 1) := by decide +kernel
theorem dX1_init_29 : decode cX1_init 29 = .ok (.aload_n 1, 1) := by decide +kernel
theorem dX1_init_30 : decode cX1_init 30 = .ok (.putfield 22, 3) := by decide +kernel
theorem dX1_init_33 : decode cX1_init 33 = .ok (.aload_n 0, 1) := by decide +kernel
theorem dX1_init_34 : decode cX1_init 34 = .ok (.aload_n 2, 1) := by decide +kernel
theorem dX1_init_35 : decode cX1_init 35 = .ok (.putfield 26, 3) := by decide +kernel
theorem dX1_init_38 : decode cX1_init 38 = .ok (.aload_n 0, 1) := by decide +kernel
theorem dX1_init_39 : decode cX1_init 39 = .ok (.aload_n 3, 1) := by decide +kernel
theorem dX1_init_40 : decode cX1_init 40 = .ok (.putfield 30, 3) := by decide +kernel
theorem dX1_init_43 : decode cX1_init 43 = .ok (.return_, 1) := by decide +kernel
theorem dX1_forget_0 : decode cX1_forget 0 = .ok (.aload_n 0, 1) := by decide +kernel
theorem dX1_forget_1 : decode cX1_forget 1 = .ok (.iconst 0, 1) := by decide +kernel
theorem dX1_forget_2 : decode cX1_forget 2 = .ok (.putfield 34, 3) := by decide +kernel
theorem dX1_forget_5 : decode cX1_forget 5 = .ok (.return_, 1) := by decide +kernel
theorem dX1_findLeast_0 : decode cX1_findLeast 0 = .ok (.aload_n 0, 1) := by decide +kernel
theorem dX1_findLeast_1 : decode cX1_findLeast 1 = .ok (.invokevirtual 38, 3) := by decide +kernel
theorem dX1_findLeast_4 : decode cX1_findLeast 4 = .ok (.aload_n 0, 1) := by decide +kernel
theorem dX1_findLeast_5 : decode cX1_findLeast 5 = .ok (.iconst 0, 1) := by decide +kernel
theorem dX1_findLeast_6 : decode cX1_findLeast 6 = .ok (.putfield 41, 3) := by decide +kernel
theorem dX1_findLeast_9 : decode cX1_findLeast 9 = .ok (.aload_n 0, 1) := by decide +kernel
theorem dX1_findLeast_10 : decode cX1_findLeast 10 = .ok (.iconst 0, 1) := by decide +kernel
theorem dX1_findLeast_11 : decode cX1_findLeast 11 = .ok (.putfield 45, 3) := by decide +kernel
theorem dX1_findLeast_14 : decode cX1_findLeast 14 = .ok (.aload_n 0, 1) := by decide +kernel
theorem dX1_findLeast_15 : decode cX1_findLeast 15 = .ok (.iconst 0, 1) := by decide +kernel
theorem dX1_findLeast_16 : decode cX1_findLeast 16 = .ok (.lconst 0, 1) := by decide +kernel
theorem dX1_findLeast_17 : decode cX1_findLeast 17 = .ok (.invokevirtual 48, 3) := by decide +kernel
theorem dX1_findLeast_20 : decode cX1_findLeast 20 = .ok (.aload_n 0, 1) := by decide +kernel
theorem dX1_findLeast_21 : decode cX1_findLeast 21 = .ok (.getfield 45, 3) := by decide +kernel
theorem dX1_findLeast_24 : decode cX1_findLeast 24 = .ok (.ifCond .ne 7, 3) := by decide +kernel
theorem dX1_findLeast_27 : decode cX1_findLeast 27 = .ok (.iconst 1, 1) := by decide +kernel
theorem dX1_findLeast_28 : decode cX1_findLeast 28 = .ok (.goto 4, 3) := by decide +kernel
theorem dX1_findLeast_31 : decode cX1_findLeast 31 = .ok (.iconst 0, 1) := by decide +kernel
theorem dX1_findLeast_32 : decode cX1_findLeast 32 = .ok (.ireturn, 1) := by decide +kernel
theorem dX1_placeFrom_0 : decode cX1_placeFrom 0 = .ok (.iload_n 1, 1) := by decide +kernel
theorem dX1_placeFrom_1 : decode cX1_placeFrom 1 = .ok (.aload_n 0, 1) := by decide +kernel
theorem dX1_placeFrom_2 : decode cX1_placeFrom 2 = .ok (.getfield 22, 3) := by decide +kernel
theorem dX1_placeFrom_5 : decode cX1_placeFrom 5 = .ok (.getfield 52, 3) := by decide +kernel
theorem dX1_placeFrom_8 : decode cX1_placeFrom 8 = .ok (.if_icmp .lt 9, 3) := by decide +kernel
theorem dX1_placeFrom_11 : decode cX1_placeFrom 11 = .ok (.aload_n 0, 1) := by decide +kernel
theorem dX1_placeFrom_12 : decode cX1_placeFrom 12 = .ok (.lload_n 2, 1) := by decide +kernel
theorem dX1_placeFrom_13 : decode cX1_placeFrom 13 = .ok (.invokevirtual 57, 3) := by decide +kernel
theorem dX1_placeFrom_16 : decode cX1_placeFrom 16 = .ok (.return_, 1) := by decide +kernel
theorem dX1_placeFrom_17 : decode cX1_placeFrom 17 = .ok (.iconst 0, 1) := by decide +kernel
theorem dX1_placeFrom_18 : decode cX1_placeFrom 18 = .ok (.istore 4, 2) := by decide +kernel
theorem dX1_placeFrom_20 : decode cX1_placeFrom 20 = .ok (.iload 4, 2) := by decide +kernel
theorem dX1_placeFrom_22 : decode cX1_placeFrom 22 = .ok (.aload_n 0, 1) := by decide +kernel
theorem dX1_placeFrom_23 : decode cX1_placeFrom 23 = .ok (.getfield 26, 3) := by decide +kernel
theorem dX1_placeFrom_26 : decode cX1_placeFrom 26 = .ok (.getfield 61, 3) := by decide +kernel
theorem dX1_placeFrom_29 : decode cX1_placeFrom 29 = .ok (.if_icmp .ge 47, 3) := by decide +kernel
theorem dX1_placeFrom_32 : decode cX1_placeFrom 32 = .ok (.aload_n 0, 1) := by decide +kernel
theorem dX1_placeFrom_33 : decode cX1_placeFrom 33 = .ok (.getfield 45, 3) := by decide +kernel
theorem dX1_placeFrom_36 : decode cX1_placeFrom 36 = .ok (.ifCond .ne 40, 3) := by decide +kernel
theorem dX1_placeFrom_39 : decode cX1_placeFrom 39 = .ok (.aload_n 0, 1) := by decide +kernel
theorem dX1_placeFrom_40 : decode cX1_placeFrom 40 = .ok (.getfield 15, 3) := by decide +kernel
theorem dX1_placeFrom_43 : decode cX1_placeFrom 43 = .ok (.iload 4, 2) := by decide +kernel
theorem dX1_placeFrom_45 : decode cX1_placeFrom 45 = .ok (.baload, 1) := by decide +kernel
theorem dX1_placeFrom_46 : decode cX1_placeFrom 46 = .ok (.ifCond .ne 24, 3) := by decide +kernel
theorem dX1_placeFrom_49 : decode cX1_placeFrom 49 = .ok (.aload_n 0, 1) := by decide +kernel
theorem dX1_placeFrom_50 : decode cX1_placeFrom 50 = .ok (.getfield 22, 3) := by decide +kernel
theorem dX1_placeFrom_53 : decode cX1_placeFrom 53 = .ok (.iload_n 1, 1) := by decide +kernel
theorem dX1_placeFrom_54 : decode cX1_placeFrom 54 = .ok (.iload 4, 2) := by decide +kernel
theorem dX1_placeFrom_56 : decode cX1_placeFrom 56 = .ok (.invokevirtual 64, 3) := by decide +kernel
theorem dX1_placeFrom_59 : decode cX1_placeFrom 59 = .ok (.ifCond .eq 11, 3) := by decide +kernel
theorem dX1_placeFrom_62 : decode cX1_placeFrom 62 = .ok (.aload_n 0, 1) := by decide +kernel
theorem dX1_placeFrom_63 : decode cX1_placeFrom 63 = .ok (.iload_n 1, 1) := by decide +kernel
theorem dX1_placeFrom_64 : decode cX1_placeFrom 64 = .ok (.iload 4, 2) := by decide +kernel
theorem dX1_placeFrom_66 : decode cX1_placeFrom 66 = .ok (.lload_n 2, 1) := by decide +kernel
theorem dX1_placeFrom_67 : decode cX1_placeFrom 67 = .ok (.invokevirtual 68, 3) := by decide +kernel
theorem dX1_placeFrom_70 : decode cX1_placeFrom 70 = .ok (.iinc 4 1, 3) := by decide +kernel
theorem dX1_placeFrom_73 : decode cX1_placeFrom 73 = .ok (.goto (-53), 3) := by decide +kernel
theorem dX1_placeFrom_76 : decode cX1_placeFrom 76 = .ok (.return_, 1) := by decide +kernel
theorem dX1_tryOn_0 : decode cX1_tryOn 0 = .ok (.aload_n 0, 1) := by decide +kernel
theorem dX1_tryOn_1 : decode cX1_tryOn 1 = .ok (.getfield 41, 3) := by decide +kernel
theorem dX1_tryOn_4 : decode cX1_tryOn 4 = .ok (.sipush 20000, 3) := by decide +kernel
theorem dX1_tryOn_7 : decode cX1_tryOn 7 = .ok (.if_icmp .lt 9, 3) := by decide +kernel
theorem dX1_tryOn_10 : decode cX1_tryOn 10 = .ok (.aload_n 0, 1) := by decide +kernel
theorem dX1_tryOn_11 : decode cX1_tryOn 11 = .ok (.iconst 1, 1) := by decide +kernel
theorem dX1_tryOn_12 : decode cX1_tryOn 12 = .ok (.putfield 45, 3) := by decide +kernel
theorem dX1_tryOn_15 : decode cX1_tryOn 15 = .ok (.return_, 1) := by decide +kernel
theorem dX1_tryOn_16 : decode cX1_tryOn 16 = .ok (.aload_n 0, 1) := by decide +kernel
theorem dX1_tryOn_17 : decode cX1_tryOn 17 = .ok (.dup, 1) := by decide +kernel
theorem dX1_tryOn_18 : decode cX1_tryOn 18 = .ok (.getfield 41, 3) := by decide +kernel
theorem dX1_tryOn_21 : decode cX1_tryOn 21 = .ok (.iconst 1, 1) := by decide +kernel
theorem dX1_tryOn_22 : decode cX1_tryOn 22 = .ok (.iadd, 1) := by decide +kernel
theorem dX1_tryOn_23 : decode cX1_tryOn 23 = .ok (.putfield 41, 3) := by decide +kernel
theorem dX1_tryOn_26 : decode cX1_tryOn 26 = .ok (.aload_n 0, 1) := by decide +kernel
theorem dX1_tryOn_27 : decode cX1_tryOn 27 = .ok (.getfield 9, 3) := by decide +kernel
theorem dX1_tryOn_30 : decode cX1_tryOn 30 = .ok (.iload_n 1, 1) := by decide +kernel
theorem dX1_tryOn_31 : decode cX1_tryOn 31 = .ok (.iload_n 2, 1) := by decide +kernel
theorem dX1_tryOn_32 : decode cX1_tryOn 32 = .ok (.iastore, 1) := by decide +kernel
theorem dX1_tryOn_33 : decode cX1_tryOn 33 = .ok (.lload_n 3, 1) := by decide +kernel
theorem dX1_tryOn_34 : decode cX1_tryOn 34 = .ok (.aload_n 0, 1) := by decide +kernel
theorem dX1_tryOn_35 : decode cX1_tryOn 35 = .ok (.iload_n 1, 1) := by decide +kernel
theorem dX1_tryOn_36 : decode cX1_tryOn 36 = .ok (.invokevirtual 72, 3) := by decide +kernel
theorem dX1_tryOn_39 : decode cX1_tryOn 39 = .ok (.ladd, 1) := by decide +kernel
theorem dX1_tryOn_40 : decode cX1_tryOn 40 = .ok (.lstore 5, 2) := by decide +kernel
theorem dX1_tryOn_42 : decode cX1_tryOn 42 = .ok (.aload_n 0, 1) := by decide +kernel
theorem dX1_tryOn_43 : decode cX1_tryOn 43 = .ok (.getfield 34, 3) := by decide +kernel
theorem dX1_tryOn_46 : decode cX1_tryOn 46 = .ok (.ifCond .eq 14, 3) := by decide +kernel
theorem dX1_tryOn_49 : decode cX1_tryOn 49 = .ok (.lload 5, 2) := by decide +kernel
theorem dX1_tryOn_51 : decode cX1_tryOn 51 = .ok (.aload_n 0, 1) := by decide +kernel
theorem dX1_tryOn_52 : decode cX1_tryOn 52 = .ok (.getfield 76, 3) := by decide +kernel
theorem dX1_tryOn_55 : decode cX1_tryOn 55 = .ok (.lcmp, 1) := by decide +kernel
theorem dX1_tryOn_56 : decode cX1_tryOn 56 = .ok (.ifCond .lt 4, 3) := by decide +kernel
theorem dX1_tryOn_59 : decode cX1_tryOn 59 = .ok (.return_, 1) := by decide +kernel
theorem dX1_tryOn_60 : decode cX1_tryOn 60 = .ok (.aload_n 0, 1) := by decide +kernel
theorem dX1_tryOn_61 : decode cX1_tryOn 61 = .ok (.getfield 15, 3) := by decide +kernel
theorem dX1_tryOn_64 : decode cX1_tryOn 64 = .ok (.iload_n 2, 1) := by decide +kernel
theorem dX1_tryOn_65 : decode cX1_tryOn 65 = .ok (.iconst 1, 1) := by decide +kernel
theorem dX1_tryOn_66 : decode cX1_tryOn 66 = .ok (.bastore, 1) := by decide +kernel
theorem dX1_tryOn_67 : decode cX1_tryOn 67 = .ok (.aload_n 0, 1) := by decide +kernel
theorem dX1_tryOn_68 : decode cX1_tryOn 68 = .ok (.iload_n 1, 1) := by decide +kernel
theorem dX1_tryOn_69 : decode cX1_tryOn 69 = .ok (.iconst 1, 1) := by decide +kernel
theorem dX1_tryOn_70 : decode cX1_tryOn 70 = .ok (.iadd, 1) := by decide +kernel
theorem dX1_tryOn_71 : decode cX1_tryOn 71 = .ok (.lload 5, 2) := by decide +kernel
theorem dX1_tryOn_73 : decode cX1_tryOn 73 = .ok (.invokevirtual 48, 3) := by decide +kernel
theorem dX1_tryOn_76 : decode cX1_tryOn 76 = .ok (.aload_n 0, 1) := by decide +kernel
theorem dX1_tryOn_77 : decode cX1_tryOn 77 = .ok (.getfield 15, 3) := by decide +kernel
theorem dX1_tryOn_80 : decode cX1_tryOn 80 = .ok (.iload_n 2, 1) := by decide +kernel
theorem dX1_tryOn_81 : decode cX1_tryOn 81 = .ok (.iconst 0, 1) := by decide +kernel
theorem dX1_tryOn_82 : decode cX1_tryOn 82 = .ok (.bastore, 1) := by decide +kernel
theorem dX1_tryOn_83 : decode cX1_tryOn 83 = .ok (.return_, 1) := by decide +kernel
theorem dX1_costAddedBy_0 : decode cX1_costAddedBy 0 = .ok (.aload_n 0, 1) := by decide +kernel
theorem dX1_costAddedBy_1 : decode cX1_costAddedBy 1 = .ok (.getfield 9, 3) := by decide +kernel
theorem dX1_costAddedBy_4 : decode cX1_costAddedBy 4 = .ok (.iload_n 1, 1) := by decide +kernel
theorem dX1_costAddedBy_5 : decode cX1_costAddedBy 5 = .ok (.iaload, 1) := by decide +kernel
theorem dX1_costAddedBy_6 : decode cX1_costAddedBy 6 = .ok (.istore_n 2, 1) := by decide +kernel
theorem dX1_costAddedBy_7 : decode cX1_costAddedBy 7 = .ok (.lconst 0, 1) := by decide +kernel
theorem dX1_costAddedBy_8 : decode cX1_costAddedBy 8 = .ok (.lstore_n 3, 1) := by decide +kernel
theorem dX1_costAddedBy_9 : decode cX1_costAddedBy 9 = .ok (.iconst 0, 1) := by decide +kernel
theorem dX1_costAddedBy_10 : decode cX1_costAddedBy 10 = .ok (.istore 5, 2) := by decide +kernel
theorem dX1_costAddedBy_12 : decode cX1_costAddedBy 12 = .ok (.iload 5, 2) := by decide +kernel
theorem dX1_costAddedBy_14 : decode cX1_costAddedBy 14 = .ok (.iload_n 1, 1) := by decide +kernel
theorem dX1_costAddedBy_15 : decode cX1_costAddedBy 15 = .ok (.if_icmp .ge 72, 3) := by decide +kernel
theorem dX1_costAddedBy_18 : decode cX1_costAddedBy 18 = .ok (.aload_n 0, 1) := by decide +kernel
theorem dX1_costAddedBy_19 : decode cX1_costAddedBy 19 = .ok (.getfield 9, 3) := by decide +kernel
theorem dX1_costAddedBy_22 : decode cX1_costAddedBy 22 = .ok (.iload 5, 2) := by decide +kernel
theorem dX1_costAddedBy_24 : decode cX1_costAddedBy 24 = .ok (.iaload, 1) := by decide +kernel
theorem dX1_costAddedBy_25 : decode cX1_costAddedBy 25 = .ok (.istore 6, 2) := by decide +kernel
theorem dX1_costAddedBy_27 : decode cX1_costAddedBy 27 = .ok (.lload_n 3, 1) := by decide +kernel
theorem dX1_costAddedBy_28 : decode cX1_costAddedBy 28 = .ok (.aload_n 0, 1) := by decide +kernel
theorem dX1_costAddedBy_29 : decode cX1_costAddedBy 29 = .ok (.getfield 30, 3) := by decide +kernel
theorem dX1_costAddedBy_32 : decode cX1_costAddedBy 32 = .ok (.iload_n 1, 1) := by decide +kernel
theorem dX1_costAddedBy_33 : decode cX1_costAddedBy 33 = .ok (.aaload, 1) := by decide +kernel
theorem dX1_costAddedBy_34 : decode cX1_costAddedBy 34 = .ok (.iload 5, 2) := by decide +kernel
theorem dX1_costAddedBy_36 : decode cX1_costAddedBy 36 = .ok (.iaload, 1) := by decide +kernel
theorem dX1_costAddedBy_37 : decode cX1_costAddedBy 37 = .ok (.i2l, 1) := by decide +kernel
theorem dX1_costAddedBy_38 : decode cX1_costAddedBy 38 = .ok (.aload_n 0, 1) := by decide +kernel
theorem dX1_costAddedBy_39 : decode cX1_costAddedBy 39 = .ok (.getfield 26, 3) := by decide +kernel
theorem dX1_costAddedBy_42 : decode cX1_costAddedBy 42 = .ok (.getfield 80, 3) := by decide +kernel
theorem dX1_costAddedBy_45 : decode cX1_costAddedBy 45 = .ok (.iload_n 2, 1) := by decide +kernel
theorem dX1_costAddedBy_46 : decode cX1_costAddedBy 46 = .ok (.aaload, 1) := by decide +kernel
theorem dX1_costAddedBy_47 : decode cX1_costAddedBy 47 = .ok (.iload 6, 2) := by decide +kernel
theorem dX1_costAddedBy_49 : decode cX1_costAddedBy 49 = .ok (.iaload, 1) := by decide +kernel
theorem dX1_costAddedBy_50 : decode cX1_costAddedBy 50 = .ok (.i2l, 1) := by decide +kernel
theorem dX1_costAddedBy_51 : decode cX1_costAddedBy 51 = .ok (.lmul, 1) := by decide +kernel
theorem dX1_costAddedBy_52 : decode cX1_costAddedBy 52 = .ok (.ladd, 1) := by decide +kernel
theorem dX1_costAddedBy_53 : decode cX1_costAddedBy 53 = .ok (.lstore_n 3, 1) := by decide +kernel
theorem dX1_costAddedBy_54 : decode cX1_costAddedBy 54 = .ok (.lload_n 3, 1) := by decide +kernel
theorem dX1_costAddedBy_55 : decode cX1_costAddedBy 55 = .ok (.aload_n 0, 1) := by decide +kernel
theorem dX1_costAddedBy_56 : decode cX1_costAddedBy 56 = .ok (.getfield 30, 3) := by decide +kernel
theorem dX1_costAddedBy_59 : decode cX1_costAddedBy 59 = .ok (.iload 5, 2) := by decide +kernel
theorem dX1_costAddedBy_61 : decode cX1_costAddedBy 61 = .ok (.aaload, 1) := by decide +kernel
theorem dX1_costAddedBy_62 : decode cX1_costAddedBy 62 = .ok (.iload_n 1, 1) := by decide +kernel
theorem dX1_costAddedBy_63 : decode cX1_costAddedBy 63 = .ok (.iaload, 1) := by decide +kernel
theorem dX1_costAddedBy_64 : decode cX1_costAddedBy 64 = .ok (.i2l, 1) := by decide +kernel
theorem dX1_costAddedBy_65 : decode cX1_costAddedBy 65 = .ok (.aload_n 0, 1) := by decide +kernel
theorem dX1_costAddedBy_66 : decode cX1_costAddedBy 66 = .ok (.getfield 26, 3) := by decide +kernel
theorem dX1_costAddedBy_69 : decode cX1_costAddedBy 69 = .ok (.getfield 80, 3) := by decide +kernel
theorem dX1_costAddedBy_72 : decode cX1_costAddedBy 72 = .ok (.iload 6, 2) := by decide +kernel
theorem dX1_costAddedBy_74 : decode cX1_costAddedBy 74 = .ok (.aaload, 1) := by decide +kernel
theorem dX1_costAddedBy_75 : decode cX1_costAddedBy 75 = .ok (.iload_n 2, 1) := by decide +kernel
theorem dX1_costAddedBy_76 : decode cX1_costAddedBy 76 = .ok (.iaload, 1) := by decide +kernel
theorem dX1_costAddedBy_77 : decode cX1_costAddedBy 77 = .ok (.i2l, 1) := by decide +kernel
theorem dX1_costAddedBy_78 : decode cX1_costAddedBy 78 = .ok (.lmul, 1) := by decide +kernel
theorem dX1_costAddedBy_79 : decode cX1_costAddedBy 79 = .ok (.ladd, 1) := by decide +kernel
theorem dX1_costAddedBy_80 : decode cX1_costAddedBy 80 = .ok (.lstore_n 3, 1) := by decide +kernel
theorem dX1_costAddedBy_81 : decode cX1_costAddedBy 81 = .ok (.iinc 5 1, 3) := by decide +kernel
theorem dX1_costAddedBy_84 : decode cX1_costAddedBy 84 = .ok (.goto (-72), 3) := by decide +kernel
theorem dX1_costAddedBy_87 : decode cX1_costAddedBy 87 = .ok (.lload_n 3, 1) := by decide +kernel
theorem dX1_costAddedBy_88 : decode cX1_costAddedBy 88 = .ok (.lreturn, 1) := by decide +kernel
theorem dX1_keep_0 : decode cX1_keep 0 = .ok (.iconst 0, 1) := by decide +kernel
theorem dX1_keep_1 : decode cX1_keep 1 = .ok (.istore_n 3, 1) := by decide +kernel
theorem dX1_keep_2 : decode cX1_keep 2 = .ok (.iload_n 3, 1) := by decide +kernel
theorem dX1_keep_3 : decode cX1_keep 3 = .ok (.aload_n 0, 1) := by decide +kernel
theorem dX1_keep_4 : decode cX1_keep 4 = .ok (.getfield 22, 3) := by decide +kernel
theorem dX1_keep_7 : decode cX1_keep 7 = .ok (.getfield 52, 3) := by decide +kernel
theorem dX1_keep_10 : decode cX1_keep 10 = .ok (.if_icmp .ge 21, 3) := by decide +kernel
theorem dX1_keep_13 : decode cX1_keep 13 = .ok (.aload_n 0, 1) := by decide +kernel
theorem dX1_keep_14 : decode cX1_keep 14 = .ok (.getfield 19, 3) := by decide +kernel
theorem dX1_keep_17 : decode cX1_keep 17 = .ok (.iload_n 3, 1) := by decide +kernel
theorem dX1_keep_18 : decode cX1_keep 18 = .ok (.aload_n 0, 1) := by decide +kernel
theorem dX1_keep_19 : decode cX1_keep 19 = .ok (.getfield 9, 3) := by decide +kernel
theorem dX1_keep_22 : decode cX1_keep 22 = .ok (.iload_n 3, 1) := by decide +kernel
theorem dX1_keep_23 : decode cX1_keep 23 = .ok (.iaload, 1) := by decide +kernel
theorem dX1_keep_24 : decode cX1_keep 24 = .ok (.iastore, 1) := by decide +kernel
theorem dX1_keep_25 : decode cX1_keep 25 = .ok (.iinc 3 1, 3) := by decide +kernel
theorem dX1_keep_28 : decode cX1_keep 28 = .ok (.goto (-26), 3) := by decide +kernel
theorem dX1_keep_31 : decode cX1_keep 31 = .ok (.aload_n 0, 1) := by decide +kernel
theorem dX1_keep_32 : decode cX1_keep 32 = .ok (.lload_n 1, 1) := by decide +kernel
theorem dX1_keep_33 : decode cX1_keep 33 = .ok (.putfield 76, 3) := by decide +kernel
theorem dX1_keep_36 : decode cX1_keep 36 = .ok (.aload_n 0, 1) := by decide +kernel
theorem dX1_keep_37 : decode cX1_keep 37 = .ok (.iconst 1, 1) := by decide +kernel
theorem dX1_keep_38 : decode cX1_keep 38 = .ok (.putfield 34, 3) := by decide +kernel
theorem dX1_keep_41 : decode cX1_keep 41 = .ok (.return_, 1) := by decide +kernel
theorem dX2_init_0 : decode cX2_init 0 = .ok (.aload_n 0, 1) := by decide +kernel
theorem dX2_init_1 : decode cX2_init 1 = .ok (.invokespecial 3, 3) := by decide +kernel
theorem dX2_init_4 : decode cX2_init 4 = .ok (.aload_n 0, 1) := by decide +kernel
theorem dX2_init_5 : decode cX2_init 5 = .ok (.bipush 12, 2) := by decide +kernel
theorem dX2_init_7 : decode cX2_init 7 = .ok (.newarray .int, 2) := by decide +kernel
theorem dX2_init_9 : decode cX2_init 9 = .ok (.putfield 9, 3) := by decide +kernel
theorem dX2_init_12 : decode cX2_init 12 = .ok (.aload_n 0, 1) := by decide +kernel
theorem dX2_init_13 : decode cX2_init 13 = .ok (.bipush 12, 2) := by decide +kernel
theorem dX2_init_15 : decode cX2_init 15 = .ok (.newarray .int, 2) := by decide +kernel
theorem dX2_init_17 : decode cX2_init 17 = .ok (.putfield 15, 3) := by decide +kernel
theorem dX2_init_20 : decode cX2_init 20 = .ok (.aload_n 0, 1) := by decide +kernel
theorem dX2_init_21 : decode cX2_init 21 = .ok (.bipush 12, 2) := by decide +kernel
theorem dX2_init_23 : decode cX2_init 23 = .ok (.bipush 12, 2) := by decide +kernel
theorem dX2_init_25 : decode cX2_init 25 = .ok (.multianewarray 18 2, 4) := by decide +kernel
theorem dX2_init_29 : decode cX2_init 29 = .ok (.putfield 20, 3) := by decide +kernel
theorem dX2_init_32 : decode cX2_init 32 = .ok (.aload_n 0, 1) := by decide +kernel
theorem dX2_init_33 : decode cX2_init 33 = .ok (.bipush 12, 2) := by decide +kernel
theorem dX2_init_35 : decode cX2_init 35 = .ok (.bipush 12, 2) := by decide +kernel
theorem dX2_init_37 : decode cX2_init 37 = .ok (.multianewarray 18 2, 4) := by decide +kernel
theorem dX2_init_41 : decode cX2_init 41 = .ok (.putfield 23, 3) := by decide +kernel
theorem dX2_init_44 : decode cX2_init 44 = .ok (.aload_n 0, 1) := by decide +kernel
theorem dX2_init_45 : decode cX2_init 45 = .ok (.iconst 3, 1) := by decide +kernel
theorem dX2_init_46 : decode cX2_init 46 = .ok (.newarray .int, 2) := by decide +kernel
theorem dX2_init_48 : decode cX2_init 48 = .ok (.putfield 26, 3) := by decide +kernel
theorem dX2_init_51 : decode cX2_init 51 = .ok (.return_, 1) := by decide +kernel
theorem dX2_has_0 : decode cX2_has 0 = .ok (.iload_n 1, 1) := by decide +kernel
theorem dX2_has_1 : decode cX2_has 1 = .ok (.ifCond .lt 15, 3) := by decide +kernel
theorem dX2_has_4 : decode cX2_has 4 = .ok (.iload_n 1, 1) := by decide +kernel
theorem dX2_has_5 : decode cX2_has 5 = .ok (.aload_n 0, 1) := by decide +kernel
theorem dX2_has_6 : decode cX2_has 6 = .ok (.getfield 29, 3) := by decide +kernel
theorem dX2_has_9 : decode cX2_has 9 = .ok (.if_icmp .ge 7, 3) := by decide +kernel
theorem dX2_has_12 : decode cX2_has 12 = .ok (.iconst 1, 1) := by decide +kernel
theorem dX2_has_13 : decode cX2_has 13 = .ok (.goto 4, 3) := by decide +kernel
theorem dX2_has_16 : decode cX2_has 16 = .ok (.iconst 0, 1) := by decide +kernel
theorem dX2_has_17 : decode cX2_has 17 = .ok (.ireturn, 1) := by decide +kernel
theorem dX2_append_0 : decode cX2_append 0 = .ok (.aload_n 0, 1) := by decide +kernel
theorem dX2_append_1 : decode cX2_append 1 = .ok (.getfield 29, 3) := by decide +kernel
theorem dX2_append_4 : decode cX2_append 4 = .ok (.istore_n 3, 1) := by decide +kernel
theorem dX2_append_5 : decode cX2_append 5 = .ok (.aload_n 0, 1) := by decide +kernel
theorem dX2_append_6 : decode cX2_append 6 = .ok (.getfield 9, 3) := by decide +kernel
theorem dX2_append_9 : decode cX2_append 9 = .ok (.iload_n 3, 1) := by decide +kernel
theorem dX2_append_10 : decode cX2_append 10 = .ok (.iload_n 1, 1) := by decide +kernel
theorem dX2_append_11 : decode cX2_append 11 = .ok (.iastore, 1) := by decide +kernel
theorem dX2_append_12 : decode cX2_append 12 = .ok (.aload_n 0, 1) := by decide +kernel
theorem dX2_append_13 : decode cX2_append 13 = .ok (.getfield 15, 3) := by decide +kernel
theorem dX2_append_16 : decode cX2_append 16 = .ok (.iload_n 3, 1) := by decide +kernel
theorem dX2_append_17 : decode cX2_append 17 = .ok (.iload_n 2, 1) := by decide +kernel
theorem dX2_append_18 : decode cX2_append 18 = .ok (.iastore, 1) := by decide +kernel
theorem dX2_append_19 : decode cX2_append 19 = .ok (.aload_n 0, 1) := by decide +kernel
theorem dX2_append_20 : decode cX2_append 20 = .ok (.dup, 1) := by decide +kernel
theorem dX2_append_21 : decode cX2_append 21 = .ok (.getfield 29, 3) := by decide +kernel
theorem dX2_append_24 : decode cX2_append 24 = .ok (.iconst 1, 1) := by decide +kernel
theorem dX2_append_25 : decode cX2_append 25 = .ok (.iadd, 1) := by decide +kernel
theorem dX2_append_26 : decode cX2_append 26 = .ok (.putfield 29, 3) := by decide +kernel
theorem dX2_append_29 : decode cX2_append 29 = .ok (.iconst 0, 1) := by decide +kernel
theorem dX2_append_30 : decode cX2_append 30 = .ok (.istore 4, 2) := by decide +kernel
theorem dX2_append_32 : decode cX2_append 32 = .ok (.iload 4, 2) := by decide +kernel
theorem dX2_append_34 : decode cX2_append 34 = .ok (.aload_n 0, 1) := by decide +kernel
theorem dX2_append_35 : decode cX2_append 35 = .ok (.getfield 29, 3) := by decide +kernel
theorem dX2_append_38 : decode cX2_append 38 = .ok (.if_icmp .ge 41, 3) := by decide +kernel
theorem dX2_append_41 : decode cX2_append 41 = .ok (.aload_n 0, 1) := by decide +kernel
theorem dX2_append_42 : decode cX2_append 42 = .ok (.getfield 23, 3) := by decide +kernel
theorem dX2_append_45 : decode cX2_append 45 = .ok (.iload_n 3, 1) := by decide +kernel
theorem dX2_append_46 : decode cX2_append 46 = .ok (.aaload, 1) := by decide +kernel
theorem dX2_append_47 : decode cX2_append 47 = .ok (.iload 4, 2) := by decide +kernel
theorem dX2_append_49 : decode cX2_append 49 = .ok (.aload_n 0, 1) := by decide +kernel
theorem dX2_append_50 : decode cX2_append 50 = .ok (.iload_n 3, 1) := by decide +kernel
theorem dX2_append_51 : decode cX2_append 51 = .ok (.iload 4, 2) := by decide +kernel
theorem dX2_append_53 : decode cX2_append 53 = .ok (.invokevirtual 33, 3) := by decide +kernel
theorem dX2_append_56 : decode cX2_append 56 = .ok (.iastore, 1) := by decide +kernel
theorem dX2_append_57 : decode cX2_append 57 = .ok (.aload_n 0, 1) := by decide +kernel
theorem dX2_append_58 : decode cX2_append 58 = .ok (.getfield 23, 3) := by decide +kernel
theorem dX2_append_61 : decode cX2_append 61 = .ok (.iload 4, 2) := by decide +kernel
theorem dX2_append_63 : decode cX2_append 63 = .ok (.aaload, 1) := by decide +kernel
theorem dX2_append_64 : decode cX2_append 64 = .ok (.iload_n 3, 1) := by decide +kernel
theorem dX2_append_65 : decode cX2_append 65 = .ok (.aload_n 0, 1) := by decide +kernel
theorem dX2_append_66 : decode cX2_append 66 = .ok (.iload 4, 2) := by decide +kernel
theorem dX2_append_68 : decode cX2_append 68 = .ok (.iload_n 3, 1) := by decide +kernel
theorem dX2_append_69 : decode cX2_append 69 = .ok (.invokevirtual 33, 3) := by decide +kernel
theorem dX2_append_72 : decode cX2_append 72 = .ok (.iastore, 1) := by decide +kernel
theorem dX2_append_73 : decode cX2_append 73 = .ok (.iinc 4 1, 3) := by decide +kernel
theorem dX2_append_76 : decode cX2_append 76 = .ok (.goto (-44), 3) := by decide +kernel
theorem dX2_append_79 : decode cX2_append 79 = .ok (.iload_n 3, 1) := by decide +kernel
theorem dX2_append_80 : decode cX2_append 80 = .ok (.ireturn, 1) := by decide +kernel
theorem dX2_setGoing_0 : decode cX2_setGoing 0 = .ok (.aload_n 0, 1) := by decide +kernel
theorem dX2_setGoing_1 : decode cX2_setGoing 1 = .ok (.getfield 20, 3) := by decide +kernel
theorem dX2_setGoing_4 : decode cX2_setGoing 4 = .ok (.iload_n 1, 1) := by decide +kernel
theorem dX2_setGoing_5 : decode cX2_setGoing 5 = .ok (.aaload, 1) := by decide +kernel
theorem dX2_setGoing_6 : decode cX2_setGoing 6 = .ok (.iload_n 2, 1) := by decide +kernel
theorem dX2_setGoing_7 : decode cX2_setGoing 7 = .ok (.iaload, 1) := by decide +kernel
theorem dX2_setGoing_8 : decode cX2_setGoing 8 = .ok (.istore 4, 2) := by decide +kernel
theorem dX2_setGoing_10 : decode cX2_setGoing 10 = .ok (.aload_n 0, 1) := by decide +kernel
theorem dX2_setGoing_11 : decode cX2_setGoing 11 = .ok (.getfield 20, 3) := by decide +kernel
theorem dX2_setGoing_14 : decode cX2_setGoing 14 = .ok (.iload_n 1, 1) := by decide +kernel
theorem dX2_setGoing_15 : decode cX2_setGoing 15 = .ok (.aaload, 1) := by decide +kernel
theorem dX2_setGoing_16 : decode cX2_setGoing 16 = .ok (.iload_n 2, 1) := by decide +kernel
theorem dX2_setGoing_17 : decode cX2_setGoing 17 = .ok (.iload_n 3, 1) := by decide +kernel
theorem dX2_setGoing_18 : decode cX2_setGoing 18 = .ok (.iastore, 1) := by decide +kernel
theorem dX2_setGoing_19 : decode cX2_setGoing 19 = .ok (.aload_n 0, 1) := by decide +kernel
theorem dX2_setGoing_20 : decode cX2_setGoing 20 = .ok (.getfield 23, 3) := by decide +kernel
theorem dX2_setGoing_23 : decode cX2_setGoing 23 = .ok (.iload_n 1, 1) := by decide +kernel
theorem dX2_setGoing_24 : decode cX2_setGoing 24 = .ok (.aaload, 1) := by decide +kernel
theorem dX2_setGoing_25 : decode cX2_setGoing 25 = .ok (.iload_n 2, 1) := by decide +kernel
theorem dX2_setGoing_26 : decode cX2_setGoing 26 = .ok (.aload_n 0, 1) := by decide +kernel
theorem dX2_setGoing_27 : decode cX2_setGoing 27 = .ok (.iload_n 1, 1) := by decide +kernel
theorem dX2_setGoing_28 : decode cX2_setGoing 28 = .ok (.iload_n 2, 1) := by decide +kernel
theorem dX2_setGoing_29 : decode cX2_setGoing 29 = .ok (.invokevirtual 33, 3) := by decide +kernel
theorem dX2_setGoing_32 : decode cX2_setGoing 32 = .ok (.iastore, 1) := by decide +kernel
theorem dX2_setGoing_33 : decode cX2_setGoing 33 = .ok (.iload 4, 2) := by decide +kernel
theorem dX2_setGoing_35 : decode cX2_setGoing 35 = .ok (.ireturn, 1) := by decide +kernel
theorem dX2_reckonCost_0 : decode cX2_reckonCost 0 = .ok (.aload_n 0, 1) := by decide +kernel
theorem dX2_reckonCost_1 : decode cX2_reckonCost 1 = .ok (.getfield 20, 3) := by decide +kernel
theorem dX2_reckonCost_4 : decode cX2_reckonCost 4 = .ok (.iload_n 1, 1) := by decide +kernel
theorem dX2_reckonCost_5 : decode cX2_reckonCost 5 = .ok (.aaload, 1) := by decide +kernel
theorem dX2_reckonCost_6 : decode cX2_reckonCost 6 = .ok (.iload_n 2, 1) := by decide +kernel
theorem dX2_reckonCost_7 : decode cX2_reckonCost 7 = .ok (.iaload, 1) := by decide +kernel
theorem dX2_reckonCost_8 : decode cX2_reckonCost 8 = .ok (.istore_n 3, 1) := by decide +kernel
theorem dX2_reckonCost_9 : decode cX2_reckonCost 9 = .ok (.aload_n 0, 1) := by decide +kernel
theorem dX2_reckonCost_10 : decode cX2_reckonCost 10 = .ok (.getfield 9, 3) := by decide +kernel
theorem dX2_reckonCost_13 : decode cX2_reckonCost 13 = .ok (.iload_n 2, 1) := by decide +kernel
theorem dX2_reckonCost_14 : decode cX2_reckonCost 14 = .ok (.iaload, 1) := by decide +kernel
theorem dX2_reckonCost_15 : decode cX2_reckonCost 15 = .ok (.tableswitch 49 1 3 #[25, 29, 38], 25) := by decide +kernel
theorem dX2_reckonCost_40 : decode cX2_reckonCost 40 = .ok (.iload_n 3, 1) := by decide +kernel
theorem dX2_reckonCost_41 : decode cX2_reckonCost 41 = .ok (.iconst 2, 1) := by decide +kernel
theorem dX2_reckonCost_42 : decode cX2_reckonCost 42 = .ok (.idiv, 1) := by decide +kernel
theorem dX2_reckonCost_43 : decode cX2_reckonCost 43 = .ok (.ireturn, 1) := by decide +kernel
theorem dX2_reckonCost_44 : decode cX2_reckonCost 44 = .ok (.iload_n 3, 1) := by decide +kernel
theorem dX2_reckonCost_45 : decode cX2_reckonCost 45 = .ok (.aload_n 0, 1) := by decide +kernel
theorem dX2_reckonCost_46 : decode cX2_reckonCost 46 = .ok (.getfield 15, 3) := by decide +kernel
theorem dX2_reckonCost_49 : decode cX2_reckonCost 49 = .ok (.iload_n 2, 1) := by decide +kernel
theorem dX2_reckonCost_50 : decode cX2_reckonCost 50 = .ok (.iaload, 1) := by decide +kernel
theorem dX2_reckonCost_51 : decode cX2_reckonCost 51 = .ok (.iadd, 1) := by decide +kernel
theorem dX2_reckonCost_52 : decode cX2_reckonCost 52 = .ok (.ireturn, 1) := by decide +kernel
theorem dX2_reckonCost_53 : decode cX2_reckonCost 53 = .ok (.iconst 2, 1) := by decide +kernel
theorem dX2_reckonCost_54 : decode cX2_reckonCost 54 = .ok (.iload_n 3, 1) := by decide +kernel
theorem dX2_reckonCost_55 : decode cX2_reckonCost 55 = .ok (.aload_n 0, 1) := by decide +kernel
theorem dX2_reckonCost_56 : decode cX2_reckonCost 56 = .ok (.getfield 15, 3) := by decide +kernel
theorem dX2_reckonCost_59 : decode cX2_reckonCost 59 = .ok (.iload_n 2, 1) := by decide +kernel
theorem dX2_reckonCost_60 : decode cX2_reckonCost 60 = .ok (.iaload, 1) := by decide +kernel
theorem dX2_reckonCost_61 : decode cX2_reckonCost 61 = .ok (.iadd, 1) := by decide +kernel
theorem dX2_reckonCost_62 : decode cX2_reckonCost 62 = .ok (.imul, 1) := by decide +kernel
theorem dX2_reckonCost_63 : decode cX2_reckonCost 63 = .ok (.ireturn, 1) := by decide +kernel
theorem dX2_reckonCost_64 : decode cX2_reckonCost 64 = .ok (.iload_n 3, 1) := by decide +kernel
theorem dX2_reckonCost_65 : decode cX2_reckonCost 65 = .ok (.ireturn, 1) := by decide +kernel
theorem dX2_writeBodies_0 : decode cX2_writeBodies 0 = .ok (.aload_n 0, 1) := by decide +kernel
theorem dX2_writeBodies_1 : decode cX2_writeBodies 1 = .ok (.iconst 0, 1) := by decide +kernel
theorem dX2_writeBodies_2 : decode cX2_writeBodies 2 = .ok (.putfield 37, 3) := by decide +kernel
theorem dX2_writeBodies_5 : decode cX2_writeBodies 5 = .ok (.aload_n 0, 1) := by decide +kernel
theorem dX2_writeBodies_6 : decode cX2_writeBodies 6 = .ok (.getfield 9, 3) := by decide +kernel
theorem dX2_writeBodies_9 : decode cX2_writeBodies 9 = .ok (.iload_n 1, 1) := by decide +kernel
theorem dX2_writeBodies_10 : decode cX2_writeBodies 10 = .ok (.iaload, 1) := by decide +kernel
theorem dX2_writeBodies_11 : decode cX2_writeBodies 11 = .ok (.istore_n 2, 1) := by decide +kernel
theorem dX2_writeBodies_12 : decode cX2_writeBodies 12 = .ok (.iload_n 2, 1) := by decide +kernel
theorem dX2_writeBodies_13 : decode cX2_writeBodies 13 = .ok (.iconst 1, 1) := by decide +kernel
theorem dX2_writeBodies_14 : decode cX2_writeBodies 14 = .ok (.if_icmp .ne 8, 3) := by decide +kernel
theorem dX2_writeBodies_17 : decode cX2_writeBodies 17 = .ok (.aload_n 0, 1) := by decide +kernel
theorem dX2_writeBodies_18 : decode cX2_writeBodies 18 = .ok (.iconst 2, 1) := by decide +kernel
theorem dX2_writeBodies_19 : decode cX2_writeBodies 19 = .ok (.invokevirtual 40, 3) := by decide +kernel
theorem dX2_writeBodies_22 : decode cX2_writeBodies 22 = .ok (.iload_n 2, 1) := by decide +kernel
theorem dX2_writeBodies_23 : decode cX2_writeBodies 23 = .ok (.iconst 3, 1) := by decide +kernel
theorem dX2_writeBodies_24 : decode cX2_writeBodies 24 = .ok (.if_icmp .ne 8, 3) := by decide +kernel
theorem dX2_writeBodies_27 : decode cX2_writeBodies 27 = .ok (.aload_n 0, 1) := by decide +kernel
theorem dX2_writeBodies_28 : decode cX2_writeBodies 28 = .ok (.iconst 4, 1) := by decide +kernel
theorem dX2_writeBodies_29 : decode cX2_writeBodies 29 = .ok (.invokevirtual 40, 3) := by decide +kernel
theorem dX2_writeBodies_32 : decode cX2_writeBodies 32 = .ok (.iload_n 2, 1) := by decide +kernel
theorem dX2_writeBodies_33 : decode cX2_writeBodies 33 = .ok (.iconst 3, 1) := by decide +kernel
theorem dX2_writeBodies_34 : decode cX2_writeBodies 34 = .ok (.if_icmp .eq 8, 3) := by decide +kernel
theorem dX2_writeBodies_37 : decode cX2_writeBodies 37 = .ok (.iload_n 2, 1) := by decide +kernel
theorem dX2_writeBodies_38 : decode cX2_writeBodies 38 = .ok (.iconst 2, 1) := by decide +kernel
theorem dX2_writeBodies_39 : decode cX2_writeBodies 39 = .ok (.if_icmp .ne 8, 3) := by decide +kernel
theorem dX2_writeBodies_42 : decode cX2_writeBodies 42 = .ok (.aload_n 0, 1) := by decide +kernel
theorem dX2_writeBodies_43 : decode cX2_writeBodies 43 = .ok (.iconst 3, 1) := by decide +kernel
theorem dX2_writeBodies_44 : decode cX2_writeBodies 44 = .ok (.invokevirtual 40, 3) := by decide +kernel
theorem dX2_writeBodies_47 : decode cX2_writeBodies 47 = .ok (.aload_n 0, 1) := by decide +kernel
theorem dX2_writeBodies_48 : decode cX2_writeBodies 48 = .ok (.iconst 1, 1) := by decide +kernel
theorem dX2_writeBodies_49 : decode cX2_writeBodies 49 = .ok (.invokevirtual 40, 3) := by decide +kernel
theorem dX2_writeBodies_52 : decode cX2_writeBodies 52 = .ok (.return_, 1) := by decide +kernel
theorem dX2_writeBody_0 : decode cX2_writeBody 0 = .ok (.aload_n 0, 1) := by decide +kernel
theorem dX2_writeBody_1 : decode cX2_writeBody 1 = .ok (.getfield 37, 3) := by decide +kernel
theorem dX2_writeBody_4 : decode cX2_writeBody 4 = .ok (.iconst 3, 1) := by decide +kernel
theorem dX2_writeBody_5 : decode cX2_writeBody 5 = .ok (.if_icmp .ge 23, 3) := by decide +kernel
theorem dX2_writeBody_8 : decode cX2_writeBody 8 = .ok (.aload_n 0, 1) := by decide +kernel
theorem dX2_writeBody_9 : decode cX2_writeBody 9 = .ok (.getfield 26, 3) := by decide +kernel
theorem dX2_writeBody_12 : decode cX2_writeBody 12 = .ok (.aload_n 0, 1) := by decide +kernel
theorem dX2_writeBody_13 : decode cX2_writeBody 13 = .ok (.getfield 37, 3) := by decide +kernel
theorem dX2_writeBody_16 : decode cX2_writeBody 16 = .ok (.iload_n 1, 1) := by decide +kernel
theorem dX2_writeBody_17 : decode cX2_writeBody 17 = .ok (.iastore, 1) := by decide +kernel
theorem dX2_writeBody_18 : decode cX2_writeBody 18 = .ok (.aload_n 0, 1) := by decide +kernel
theorem dX2_writeBody_19 : decode cX2_writeBody 19 = .ok (.dup, 1) := by decide +kernel
theorem dX2_writeBody_20 : decode cX2_writeBody 20 = .ok (.getfield 37, 3) := by decide +kernel
theorem dX2_writeBody_23 : decode cX2_writeBody 23 = .ok (.iconst 1, 1) := by decide +kernel
theorem dX2_writeBody_24 : decode cX2_writeBody 24 = .ok (.iadd, 1) := by decide +kernel
theorem dX2_writeBody_25 : decode cX2_writeBody 25 = .ok (.putfield 37, 3) := by decide +kernel
theorem dX2_writeBody_28 : decode cX2_writeBody 28 = .ok (.return_, 1) := by decide +kernel
theorem dX3_init_0 : decode cX3_init 0 = .ok (.aload_n 0, 1) := by decide +kernel
theorem dX3_init_1 : decode cX3_init 1 = .ok (.invokespecial 3, 3) := by decide +kernel
theorem dX3_init_4 : decode cX3_init 4 = .ok (.aload_n 0, 1) := by decide +kernel
theorem dX3_init_5 : decode cX3_init 5 = .ok (.bipush 6, 2) := by decide +kernel
theorem dX3_init_7 : decode cX3_init 7 = .ok (.putfield 9, 3) := by decide +kernel
theorem dX3_init_10 : decode cX3_init 10 = .ok (.aload_n 0, 1) := by decide +kernel
theorem dX3_init_11 : decode cX3_init 11 = .ok (.bipush 10, 2) := by decide +kernel
theorem dX3_init_13 : decode cX3_init 13 = .ok (.newarray .int, 2) := by decide +kernel
theorem dX3_init_15 : decode cX3_init 15 = .ok (.putfield 15, 3) := by decide +kernel
theorem dX3_init_18 : decode cX3_init 18 = .ok (.aload_n 0, 1) := by decide +kernel
theorem dX3_init_19 : decode cX3_init 19 = .ok (.bipush 12, 2) := by decide +kernel
theorem dX3_init_21 : decode cX3_init 21 = .ok (.newarray .int, 2) := by decide +kernel
theorem dX3_init_23 : decode cX3_init 23 = .ok (.putfield 19, 3) := by decide +kernel
theorem dX3_init_26 : decode cX3_init 26 = .ok (.aload_n 0, 1) := by decide +kernel
theorem dX3_init_27 : decode cX3_init 27 = .ok (.getfield 15, 3) := by decide +kernel
theorem dX3_init_30 : decode cX3_init 30 = .ok (.iconst (-1), 1) := by decide +kernel
theorem dX3_init_31 : decode cX3_init 31 = .ok (.invokestatic 22, 3) := by decide +kernel
theorem dX3_init_34 : decode cX3_init 34 = .ok (.aload_n 0, 1) := by decide +kernel
theorem dX3_init_35 : decode cX3_init 35 = .ok (.getfield 19, 3) := by decide +kernel
theorem dX3_init_38 : decode cX3_init 38 = .ok (.iconst (-1), 1) := by decide +kernel
theorem dX3_init_39 : decode cX3_init 39 = .ok (.invokestatic 22, 3) := by decide +kernel
theorem dX3_init_42 : decode cX3_init 42 = .ok (.return_, 1) := by decide +kernel
theorem dX3_startAnew_0 : decode cX3_startAnew 0 = .ok (.aload_n 0, 1) := by decide +kernel
theorem dX3_startAnew_1 : decode cX3_startAnew 1 = .ok (.iload_n 1, 1) := by decide +kernel
theorem dX3_startAnew_2 : decode cX3_startAnew 2 = .ok (.putfield 9, 3) := by decide +kernel
theorem dX3_startAnew_5 : decode cX3_startAnew 5 = .ok (.aload_n 0, 1) := by decide +kernel
theorem dX3_startAnew_6 : decode cX3_startAnew 6 = .ok (.getfield 15, 3) := by decide +kernel
theorem dX3_startAnew_9 : decode cX3_startAnew 9 = .ok (.iconst (-1), 1) := by decide +kernel
theorem dX3_startAnew_10 : decode cX3_startAnew 10 = .ok (.invokestatic 22, 3) := by decide +kernel
theorem dX3_startAnew_13 : decode cX3_startAnew 13 = .ok (.aload_n 0, 1) := by decide +kernel
theorem dX3_startAnew_14 : decode cX3_startAnew 14 = .ok (.getfield 19, 3) := by decide +kernel
theorem dX3_startAnew_17 : decode cX3_startAnew 17 = .ok (.iconst (-1), 1) := by decide +kernel
theorem dX3_startAnew_18 : decode cX3_startAnew 18 = .ok (.invokestatic 22, 3) := by decide +kernel
theorem dX3_startAnew_21 : decode cX3_startAnew 21 = .ok (.return_, 1) := by decide +kernel
theorem dX3_has_0 : decode cX3_has 0 = .ok (.iload_n 1, 1) := by decide +kernel
theorem dX3_has_1 : decode cX3_has 1 = .ok (.ifCond .lt 15, 3) := by decide +kernel
theorem dX3_has_4 : decode cX3_has 4 = .ok (.iload_n 1, 1) := by decide +kernel
theorem dX3_has_5 : decode cX3_has 5 = .ok (.aload_n 0, 1) := by decide +kernel
theorem dX3_has_6 : decode cX3_has 6 = .ok (.getfield 9, 3) := by decide +kernel
theorem dX3_has_9 : decode cX3_has 9 = .ok (.if_icmp .ge 7, 3) := by decide +kernel
theorem dX3_has_12 : decode cX3_has 12 = .ok (.iconst 1, 1) := by decide +kernel
theorem dX3_has_13 : decode cX3_has 13 = .ok (.goto 4, 3) := by decide +kernel
theorem dX3_has_16 : decode cX3_has 16 = .ok (.iconst 0, 1) := by decide +kernel
theorem dX3_has_17 : decode cX3_has 17 = .ok (.ireturn, 1) := by decide +kernel
theorem dX3_isFixed_0 : decode cX3_isFixed 0 = .ok (.aload_n 0, 1) := by decide +kernel
theorem dX3_isFixed_1 : decode cX3_isFixed 1 = .ok (.getfield 15, 3) := by decide +kernel
theorem dX3_isFixed_4 : decode cX3_isFixed 4 = .ok (.iload_n 1, 1) := by decide +kernel
theorem dX3_isFixed_5 : decode cX3_isFixed 5 = .ok (.iaload, 1) := by decide +kernel
theorem dX3_isFixed_6 : decode cX3_isFixed 6 = .ok (.iconst (-1), 1) := by decide +kernel
theorem dX3_isFixed_7 : decode cX3_isFixed 7 = .ok (.if_icmp .eq 7, 3) := by decide +kernel
theorem dX3_isFixed_10 : decode cX3_isFixed 10 = .ok (.iconst 1, 1) := by decide +kernel
theorem dX3_isFixed_11 : decode cX3_isFixed 11 = .ok (.goto 4, 3) := by decide +kernel
theorem dX3_isFixed_14 : decode cX3_isFixed 14 = .ok (.iconst 0, 1) := by decide +kernel
theorem dX3_isFixed_15 : decode cX3_isFixed 15 = .ok (.ireturn, 1) := by decide +kernel
theorem dX3_isFixedByOther_0 : decode cX3_isFixedByOther 0 = .ok (.aload_n 0, 1) := by decide +kernel
theorem dX3_isFixedByOther_1 : decode cX3_isFixedByOther 1 = .ok (.getfield 19, 3) := by decide +kernel
theorem dX3_isFixedByOther_4 : decode cX3_isFixedByOther 4 = .ok (.iload_n 2, 1) := by decide +kernel
theorem dX3_isFixedByOther_5 : decode cX3_isFixedByOther 5 = .ok (.iaload, 1) := by decide +kernel
theorem dX3_isFixedByOther_6 : decode cX3_isFixedByOther 6 = .ok (.iconst (-1), 1) := by decide +kernel
theorem dX3_isFixedByOther_7 : decode cX3_isFixedByOther 7 = .ok (.if_icmp .eq 17, 3) := by decide +kernel
theorem dX3_isFixedByOther_10 : decode cX3_isFixedByOther 10 = .ok (.aload_n 0, 1) := by decide +kernel
theorem dX3_isFixedByOther_11 : decode cX3_isFixedByOther 11 = .ok (.getfield 19, 3) := by decide +kernel
theorem dX3_isFixedByOther_14 : decode cX3_isFixedByOther 14 = .ok (.iload_n 2, 1) := by decide +kernel
theorem dX3_isFixedByOther_15 : decode cX3_isFixedByOther 15 = .ok (.iaload, 1) := by decide +kernel
theorem dX3_isFixedByOther_16 : decode cX3_isFixedByOther 16 = .ok (.iload_n 1, 1) := by decide +kernel
theorem dX3_isFixedByOther_17 : decode cX3_isFixedByOther 17 = .ok (.if_icmp .eq 7, 3) := by decide +kernel
theorem dX3_isFixedByOther_20 : decode cX3_isFixedByOther 20 = .ok (.iconst 1, 1) := by decide +kernel
theorem dX3_isFixedByOther_21 : decode cX3_isFixedByOther 21 = .ok (.goto 4, 3) := by decide +kernel
theorem dX3_isFixedByOther_24 : decode cX3_isFixedByOther 24 = .ok (.iconst 0, 1) := by decide +kernel
theorem dX3_isFixedByOther_25 : decode cX3_isFixedByOther 25 = .ok (.ireturn, 1) := by decide +kernel
theorem dX3_allow_0 : decode cX3_allow 0 = .ok (.aload_n 0, 1) := by decide +kernel
theorem dX3_allow_1 : decode cX3_allow 1 = .ok (.iload_n 1, 1) := by decide +kernel
theorem dX3_allow_2 : decode cX3_allow 2 = .ok (.invokevirtual 28, 3) := by decide +kernel
theorem dX3_allow_5 : decode cX3_allow 5 = .ok (.ifCond .eq 21, 3) := by decide +kernel
theorem dX3_allow_8 : decode cX3_allow 8 = .ok (.aload_n 0, 1) := by decide +kernel
theorem dX3_allow_9 : decode cX3_allow 9 = .ok (.getfield 15, 3) := by decide +kernel
theorem dX3_allow_12 : decode cX3_allow 12 = .ok (.iload_n 1, 1) := by decide +kernel
theorem dX3_allow_13 : decode cX3_allow 13 = .ok (.iaload, 1) := by decide +kernel
theorem dX3_allow_14 : decode cX3_allow 14 = .ok (.iload_n 2, 1) := by decide +kernel
theorem dX3_allow_15 : decode cX3_allow 15 = .ok (.if_icmp .ne 7, 3) := by decide +kernel
theorem dX3_allow_18 : decode cX3_allow 18 = .ok (.iconst 1, 1) := by decide +kernel
theorem dX3_allow_19 : decode cX3_allow 19 = .ok (.goto 22, 3) := by decide +kernel
theorem dX3_allow_22 : decode cX3_allow 22 = .ok (.iconst 0, 1) := by decide +kernel
theorem dX3_allow_23 : decode cX3_allow 23 = .ok (.goto 18, 3) := by decide +kernel
theorem dX3_allow_26 : decode cX3_allow 26 = .ok (.aload_n 0, 1) := by decide +kernel
theorem dX3_allow_27 : decode cX3_allow 27 = .ok (.getfield 19, 3) := by decide +kernel
theorem dX3_allow_30 : decode cX3_allow 30 = .ok (.iload_n 2, 1) := by decide +kernel
theorem dX3_allow_31 : decode cX3_allow 31 = .ok (.iaload, 1) := by decide +kernel
theorem dX3_allow_32 : decode cX3_allow 32 = .ok (.iconst (-1), 1) := by decide +kernel
theorem dX3_allow_33 : decode cX3_allow 33 = .ok (.if_icmp .ne 7, 3) := by decide +kernel
theorem dX3_allow_36 : decode cX3_allow 36 = .ok (.iconst 1, 1) := by decide +kernel
theorem dX3_allow_37 : decode cX3_allow 37 = .ok (.goto 4, 3) := by decide +kernel
theorem dX3_allow_40 : decode cX3_allow 40 = .ok (.iconst 0, 1) := by decide +kernel
theorem dX3_allow_41 : decode cX3_allow 41 = .ok (.ireturn, 1) := by decide +kernel
theorem dX3_fixOn_0 : decode cX3_fixOn 0 = .ok (.aload_n 0, 1) := by decide +kernel
theorem dX3_fixOn_1 : decode cX3_fixOn 1 = .ok (.getfield 15, 3) := by decide +kernel
theorem dX3_fixOn_4 : decode cX3_fixOn 4 = .ok (.iload_n 1, 1) := by decide +kernel
theorem dX3_fixOn_5 : decode cX3_fixOn 5 = .ok (.iaload, 1) := by decide +kernel
theorem dX3_fixOn_6 : decode cX3_fixOn 6 = .ok (.istore_n 3, 1) := by decide +kernel
theorem dX3_fixOn_7 : decode cX3_fixOn 7 = .ok (.iload_n 3, 1) := by decide +kernel
theorem dX3_fixOn_8 : decode cX3_fixOn 8 = .ok (.iconst (-1), 1) := by decide +kernel
theorem dX3_fixOn_9 : decode cX3_fixOn 9 = .ok (.if_icmp .eq 10, 3) := by decide +kernel
theorem dX3_fixOn_12 : decode cX3_fixOn 12 = .ok (.aload_n 0, 1) := by decide +kernel
theorem dX3_fixOn_13 : decode cX3_fixOn 13 = .ok (.getfield 19, 3) := by decide +kernel
theorem dX3_fixOn_16 : decode cX3_fixOn 16 = .ok (.iload_n 3, 1) := by decide +kernel
theorem dX3_fixOn_17 : decode cX3_fixOn 17 = .ok (.iconst (-1), 1) := by decide +kernel
theorem dX3_fixOn_18 : decode cX3_fixOn 18 = .ok (.iastore, 1) := by decide +kernel
theorem dX3_fixOn_19 : decode cX3_fixOn 19 = .ok (.aload_n 0, 1) := by decide +kernel
theorem dX3_fixOn_20 : decode cX3_fixOn 20 = .ok (.getfield 15, 3) := by decide +kernel
theorem dX3_fixOn_23 : decode cX3_fixOn 23 = .ok (.iload_n 1, 1) := by decide +kernel
theorem dX3_fixOn_24 : decode cX3_fixOn 24 = .ok (.iload_n 2, 1) := by decide +kernel
theorem dX3_fixOn_25 : decode cX3_fixOn 25 = .ok (.iastore, 1) := by decide +kernel
theorem dX3_fixOn_26 : decode cX3_fixOn 26 = .ok (.iload_n 2, 1) := by decide +kernel
theorem dX3_fixOn_27 : decode cX3_fixOn 27 = .ok (.iconst (-1), 1) := by decide +kernel
theorem dX3_fixOn_28 : decode cX3_fixOn 28 = .ok (.if_icmp .eq 10, 3) := by decide +kernel
theorem dX3_fixOn_31 : decode cX3_fixOn 31 = .ok (.aload_n 0, 1) := by decide +kernel
theorem dX3_fixOn_32 : decode cX3_fixOn 32 = .ok (.getfield 19, 3) := by decide +kernel
theorem dX3_fixOn_35 : decode cX3_fixOn 35 = .ok (.iload_n 2, 1) := by decide +kernel
theorem dX3_fixOn_36 : decode cX3_fixOn 36 = .ok (.iload_n 1, 1) := by decide +kernel
theorem dX3_fixOn_37 : decode cX3_fixOn 37 = .ok (.iastore, 1) := by decide +kernel
theorem dX3_fixOn_38 : decode cX3_fixOn 38 = .ok (.iload_n 3, 1) := by decide +kernel
theorem dX3_fixOn_39 : decode cX3_fixOn 39 = .ok (.ireturn, 1) := by decide +kernel
theorem dX3_fixedTogether_0 : decode cX3_fixedTogether 0 = .ok (.iconst 0, 1) := by decide +kernel
theorem dX3_fixedTogether_1 : decode cX3_fixedTogether 1 = .ok (.istore_n 1, 1) := by decide +kernel
theorem dX3_fixedTogether_2 : decode cX3_fixedTogether 2 = .ok (.iconst 0, 1) := by decide +kernel
theorem dX3_fixedTogether_3 : decode cX3_fixedTogether 3 = .ok (.istore_n 2, 1) := by decide +kernel
theorem dX3_fixedTogether_4 : decode cX3_fixedTogether 4 = .ok (.iload_n 2, 1) := by decide +kernel
theorem dX3_fixedTogether_5 : decode cX3_fixedTogether 5 = .ok (.aload_n 0, 1) := by decide +kernel
theorem dX3_fixedTogether_6 : decode cX3_fixedTogether 6 = .ok (.getfield 9, 3) := by decide +kernel
theorem dX3_fixedTogether_9 : decode cX3_fixedTogether 9 = .ok (.if_icmp .ge 20, 3) := by decide +kernel
theorem dX3_fixedTogether_12 : decode cX3_fixedTogether 12 = .ok (.aload_n 0, 1) := by decide +kernel
theorem dX3_fixedTogether_13 : decode cX3_fixedTogether 13 = .ok (.iload_n 2, 1) := by decide +kernel
theorem dX3_fixedTogether_14 : decode cX3_fixedTogether 14 = .ok (.invokevirtual 28, 3) := by decide +kernel
theorem dX3_fixedTogether_17 : decode cX3_fixedTogether 17 = .ok (.ifCond .eq 6, 3) := by decide +kernel
theorem dX3_fixedTogether_20 : decode cX3_fixedTogether 20 = .ok (.iinc 1 1, 3) := by decide +kernel
theorem dX3_fixedTogether_23 : decode cX3_fixedTogether 23 = .ok (.iinc 2 1, 3) := by decide +kernel
theorem dX3_fixedTogether_26 : decode cX3_fixedTogether 26 = .ok (.goto (-22), 3) := by decide +kernel
theorem dX3_fixedTogether_29 : decode cX3_fixedTogether 29 = .ok (.iload_n 1, 1) := by decide +kernel
theorem dX3_fixedTogether_30 : decode cX3_fixedTogether 30 = .ok (.ireturn, 1) := by decide +kernel
