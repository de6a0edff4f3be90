theorem dX0_init_0 : decode cX0_init 0 = .ok (.aload_n 0, 1) := by decide +kernel
theorem dX0_init_1 : decode cX0_init 1 = .ok (.invokespecial 3, 3) := by decide +kernel
theorem dX0_init_4 : decode cX0_init 4 = .ok (.aload_n 0, 1) := by decide +kernel
theorem dX0_init_5 : decode cX0_init 5 = .ok (.bipush 64, 2) := by decide +kernel
theorem dX0_init_7 : decode cX0_init 7 = .ok (.newarray .int, 2) := by decide +kernel
theorem dX0_init_9 : decode cX0_init 9 = .ok (.putfield 9, 3) := by decide +kernel
theorem dX0_init_12 : decode cX0_init 12 = .ok (.aload_n 0, 1) := by decide +kernel
theorem dX0_init_13 : decode cX0_init 13 = .ok (.bipush 8, 2) := by decide +kernel
theorem dX0_init_15 : decode cX0_init 15 = .ok (.newarray .int, 2) := by decide +kernel
theorem dX0_init_17 : decode cX0_init 17 = .ok (.putfield 15, 3) := by decide +kernel
theorem dX0_init_20 : decode cX0_init 20 = .ok (.aload_n 0, 1) := by decide +kernel
theorem dX0_init_21 : decode cX0_init 21 = .ok (.bipush 8, 2) := by decide +kernel
theorem dX0_init_23 : decode cX0_init 23 = .ok (.newarray .int, 2) := by decide +kernel
theorem dX0_init_25 : decode cX0_init 25 = .ok (.putfield 18, 3) := by decide +kernel
theorem dX0_init_28 : decode cX0_init 28 = .ok (.aload_n 0, 1) := by decide +kernel
theorem dX0_init_29 : decode cX0_init 29 = .ok (.sipush 2048, 3) := by decide +kernel
theorem dX0_init_32 : decode cX0_init 32 = .ok (.newarray .int, 2) := by decide +kernel
theorem dX0_init_34 : decode cX0_init 34 = .ok (.putfield 21, 3) := by decide +kernel
theorem dX0_init_37 : decode cX0_init 37 = .ok (.return_, 1) := by decide +kernel
theorem dX0_leastSum_0 : decode cX0_leastSum 0 = .ok (.aload_n 1, 1) := by decide +kernel
theorem dX0_leastSum_1 : decode cX0_leastSum 1 = .ok (.getfield 24, 3) := by decide +kernel
theorem dX0_leastSum_4 : decode cX0_leastSum 4 = .ok (.ifCond .ne 5, 3) := by decide +kernel
theorem dX0_leastSum_7 : decode cX0_leastSum 7 = .ok (.iconst 0, 1) := by decide +kernel
theorem dX0_leastSum_8 : decode cX0_leastSum 8 = .ok (.ireturn, 1) := by decide +kernel
theorem dX0_leastSum_9 : decode cX0_leastSum 9 = .ok (.aload_n 0, 1) := by decide +kernel
theorem dX0_leastSum_10 : decode cX0_leastSum 10 = .ok (.aload_n 1, 1) := by decide +kernel
theorem dX0_leastSum_11 : decode cX0_leastSum 11 = .ok (.invokevirtual 30, 3) := by decide +kernel
theorem dX0_leastSum_14 : decode cX0_leastSum 14 = .ok (.aload_n 0, 1) := by decide +kernel
theorem dX0_leastSum_15 : decode cX0_leastSum 15 = .ok (.aload_n 1, 1) := by decide +kernel
theorem dX0_leastSum_16 : decode cX0_leastSum 16 = .ok (.getfield 24, 3) := by decide +kernel
theorem dX0_leastSum_19 : decode cX0_leastSum 19 = .ok (.invokevirtual 34, 3) := by decide +kernel
theorem dX0_leastSum_22 : decode cX0_leastSum 22 = .ok (.aload_n 0, 1) := by decide +kernel
theorem dX0_leastSum_23 : decode cX0_leastSum 23 = .ok (.aload_n 1, 1) := by decide +kernel
theorem dX0_leastSum_24 : decode cX0_leastSum 24 = .ok (.getfield 24, 3) := by decide +kernel
theorem dX0_leastSum_27 : decode cX0_leastSum 27 = .ok (.iconst 0, 1) := by decide +kernel
theorem dX0_leastSum_28 : decode cX0_leastSum 28 = .ok (.iconst (-1), 1) := by decide +kernel
theorem dX0_leastSum_29 : decode cX0_leastSum 29 = .ok (.invokevirtual 38, 3) := by decide +kernel
theorem dX0_leastSum_32 : decode cX0_leastSum 32 = .ok (.istore_n 2, 1) := by decide +kernel
theorem dX0_leastSum_33 : decode cX0_leastSum 33 = .ok (.aload_n 0, 1) := by decide +kernel
theorem dX0_leastSum_34 : decode cX0_leastSum 34 = .ok (.iconst 0, 1) := by decide +kernel
theorem dX0_leastSum_35 : decode cX0_leastSum 35 = .ok (.iconst (-1), 1) := by decide +kernel
theorem dX0_leastSum_36 : decode cX0_leastSum 36 = .ok (.iload_n 2, 1) := by decide +kernel
theorem dX0_leastSum_37 : decode cX0_leastSum 37 = .ok (.invokevirtual 42, 3) := by decide +kernel
theorem dX0_leastSum_40 : decode cX0_leastSum 40 = .ok (.ireturn, 1) := by decide +kernel
theorem dX0_pieceAt_0 : decode cX0_pieceAt 0 = .ok (.aload_n 0, 1) := by decide +kernel
theorem dX0_pieceAt_1 : decode cX0_pieceAt 1 = .ok (.aload_n 1, 1) := by decide +kernel
theorem dX0_pieceAt_2 : decode cX0_pieceAt 2 = .ok (.invokevirtual 30, 3) := by decide +kernel
theorem dX0_pieceAt_5 : decode cX0_pieceAt 5 = .ok (.aload_n 0, 1) := by decide +kernel
theorem dX0_pieceAt_6 : decode cX0_pieceAt 6 = .ok (.aload_n 1, 1) := by decide +kernel
theorem dX0_pieceAt_7 : decode cX0_pieceAt 7 = .ok (.getfield 24, 3) := by decide +kernel
theorem dX0_pieceAt_10 : decode cX0_pieceAt 10 = .ok (.invokevirtual 34, 3) := by decide +kernel
theorem dX0_pieceAt_13 : decode cX0_pieceAt 13 = .ok (.iconst 0, 1) := by decide +kernel
theorem dX0_pieceAt_14 : decode cX0_pieceAt 14 = .ok (.istore_n 3, 1) := by decide +kernel
theorem dX0_pieceAt_15 : decode cX0_pieceAt 15 = .ok (.iconst (-1), 1) := by decide +kernel
theorem dX0_pieceAt_16 : decode cX0_pieceAt 16 = .ok (.istore 4, 2) := by decide +kernel
theorem dX0_pieceAt_18 : decode cX0_pieceAt 18 = .ok (.iconst 0, 1) := by decide +kernel
theorem dX0_pieceAt_19 : decode cX0_pieceAt 19 = .ok (.istore 5, 2) := by decide +kernel
theorem dX0_pieceAt_21 : decode cX0_pieceAt 21 = .ok (.iload 5, 2) := by decide +kernel
theorem dX0_pieceAt_23 : decode cX0_pieceAt 23 = .ok (.iload_n 2, 1) := by decide +kernel
theorem dX0_pieceAt_24 : decode cX0_pieceAt 24 = .ok (.if_icmp .gt 29, 3) := by decide +kernel
theorem dX0_pieceAt_27 : decode cX0_pieceAt 27 = .ok (.aload_n 0, 1) := by decide +kernel
theorem dX0_pieceAt_28 : decode cX0_pieceAt 28 = .ok (.aload_n 1, 1) := by decide +kernel
theorem dX0_pieceAt_29 : decode cX0_pieceAt 29 = .ok (.getfield 24, 3) := by decide +kernel
theorem dX0_pieceAt_32 : decode cX0_pieceAt 32 = .ok (.iload_n 3, 1) := by decide +kernel
theorem dX0_pieceAt_33 : decode cX0_pieceAt 33 = .ok (.iload 4, 2) := by decide +kernel
theorem dX0_pieceAt_35 : decode cX0_pieceAt 35 = .ok (.invokevirtual 38, 3) := by decide +kernel
theorem dX0_pieceAt_38 : decode cX0_pieceAt 38 = .ok (.istore 4, 2) := by decide +kernel
theorem dX0_pieceAt_40 : decode cX0_pieceAt 40 = .ok (.iload_n 3, 1) := by decide +kernel
theorem dX0_pieceAt_41 : decode cX0_pieceAt 41 = .ok (.iconst 1, 1) := by decide +kernel
theorem dX0_pieceAt_42 : decode cX0_pieceAt 42 = .ok (.iload 4, 2) := by decide +kernel
theorem dX0_pieceAt_44 : decode cX0_pieceAt 44 = .ok (.ishl, 1) := by decide +kernel
theorem dX0_pieceAt_45 : decode cX0_pieceAt 45 = .ok (.ior, 1) := by decide +kernel
theorem dX0_pieceAt_46 : decode cX0_pieceAt 46 = .ok (.istore_n 3, 1) := by decide +kernel
theorem dX0_pieceAt_47 : decode cX0_pieceAt 47 = .ok (.iinc 5 1, 3) := by decide +kernel
theorem dX0_pieceAt_50 : decode cX0_pieceAt 50 = .ok (.goto (-29), 3) := by decide +kernel
theorem dX0_pieceAt_53 : decode cX0_pieceAt 53 = .ok (.iload 4, 2) := by decide +kernel
theorem dX0_pieceAt_55 : decode cX0_pieceAt 55 = .ok (.ireturn, 1) := by decide +kernel
theorem dX0_weigh_0 : decode cX0_weigh 0 = .ok (.iconst 0, 1) := by decide +kernel
theorem dX0_weigh_1 : decode cX0_weigh 1 = .ok (.istore_n 2, 1) := by decide +kernel
theorem dX0_weigh_2 : decode cX0_weigh 2 = .ok (.iload_n 2, 1) := by decide +kernel
theorem dX0_weigh_3 : decode cX0_weigh 3 = .ok (.aload_n 1, 1) := by decide +kernel
theorem dX0_weigh_4 : decode cX0_weigh 4 = .ok (.getfield 24, 3) := by decide +kernel
theorem dX0_weigh_7 : decode cX0_weigh 7 = .ok (.if_icmp .ge 66, 3) := by decide +kernel
theorem dX0_weigh_10 : decode cX0_weigh 10 = .ok (.aload_n 0, 1) := by decide +kernel
theorem dX0_weigh_11 : decode cX0_weigh 11 = .ok (.getfield 15, 3) := by decide +kernel
theorem dX0_weigh_14 : decode cX0_weigh 14 = .ok (.iload_n 2, 1) := by decide +kernel
theorem dX0_weigh_15 : decode cX0_weigh 15 = .ok (.aload_n 1, 1) := by decide +kernel
theorem dX0_weigh_16 : decode cX0_weigh 16 = .ok (.iload_n 2, 1) := by decide +kernel
theorem dX0_weigh_17 : decode cX0_weigh 17 = .ok (.iconst 0, 1) := by decide +kernel
theorem dX0_weigh_18 : decode cX0_weigh 18 = .ok (.invokevirtual 45, 3) := by decide +kernel
theorem dX0_weigh_21 : decode cX0_weigh 21 = .ok (.iastore, 1) := by decide +kernel
theorem dX0_weigh_22 : decode cX0_weigh 22 = .ok (.aload_n 0, 1) := by decide +kernel
theorem dX0_weigh_23 : decode cX0_weigh 23 = .ok (.getfield 18, 3) := by decide +kernel
theorem dX0_weigh_26 : decode cX0_weigh 26 = .ok (.iload_n 2, 1) := by decide +kernel
theorem dX0_weigh_27 : decode cX0_weigh 27 = .ok (.aload_n 1, 1) := by decide +kernel
theorem dX0_weigh_28 : decode cX0_weigh 28 = .ok (.iload_n 2, 1) := by decide +kernel
theorem dX0_weigh_29 : decode cX0_weigh 29 = .ok (.iconst 1, 1) := by decide +kernel
theorem dX0_weigh_30 : decode cX0_weigh 30 = .ok (.invokevirtual 45, 3) := by decide +kernel
theorem dX0_weigh_33 : decode cX0_weigh 33 = .ok (.iastore, 1) := by decide +kernel
theorem dX0_weigh_34 : decode cX0_weigh 34 = .ok (.iconst 0, 1) := by decide +kernel
theorem dX0_weigh_35 : decode cX0_weigh 35 = .ok (.istore_n 3, 1) := by decide +kernel
theorem dX0_weigh_36 : decode cX0_weigh 36 = .ok (.iload_n 3, 1) := by decide +kernel
theorem dX0_weigh_37 : decode cX0_weigh 37 = .ok (.aload_n 1, 1) := by decide +kernel
theorem dX0_weigh_38 : decode cX0_weigh 38 = .ok (.getfield 24, 3) := by decide +kernel
theorem dX0_weigh_41 : decode cX0_weigh 41 = .ok (.if_icmp .ge 26, 3) := by decide +kernel
theorem dX0_weigh_44 : decode cX0_weigh 44 = .ok (.aload_n 0, 1) := by decide +kernel
theorem dX0_weigh_45 : decode cX0_weigh 45 = .ok (.getfield 9, 3) := by decide +kernel
theorem dX0_weigh_48 : decode cX0_weigh 48 = .ok (.iload_n 2, 1) := by decide +kernel
theorem dX0_weigh_49 : decode cX0_weigh 49 = .ok (.bipush 8, 2) := by decide +kernel
theorem dX0_weigh_51 : decode cX0_weigh 51 = .ok (.imul, 1) := by decide +kernel
theorem dX0_weigh_52 : decode cX0_weigh 52 = .ok (.iload_n 3, 1) := by decide +kernel
theorem dX0_weigh_53 : decode cX0_weigh 53 = .ok (.iadd, 1) := by decide +kernel
theorem dX0_weigh_54 : decode cX0_weigh 54 = .ok (.aload_n 1, 1) := by decide +kernel
theorem dX0_weigh_55 : decode cX0_weigh 55 = .ok (.iload_n 2, 1) := by decide +kernel
theorem dX0_weigh_56 : decode cX0_weigh 56 = .ok (.iload_n 3, 1) := by decide +kernel
theorem dX0_weigh_57 : decode cX0_weigh 57 = .ok (.invokevirtual 49, 3) := by decide +kernel
theorem dX0_weigh_60 : decode cX0_weigh 60 = .ok (.iastore, 1) := by decide +kernel
theorem dX0_weigh_61 : decode cX0_weigh 61 = .ok (.iinc 3 1, 3) := by decide +kernel
theorem dX0_weigh_64 : decode cX0_weigh 64 = .ok (.goto (-28), 3) := by decide +kernel
theorem dX0_weigh_67 : decode cX0_weigh 67 = .ok (.iinc 2 1, 3) := by decide +kernel
theorem dX0_weigh_70 : decode cX0_weigh 70 = .ok (.goto (-68), 3) := by decide +kernel
theorem dX0_weigh_73 : decode cX0_weigh 73 = .ok (.return_, 1) := by decide +kernel
theorem dX0_fillRests_0 : decode cX0_fillRests 0 = .ok (.iconst 1, 1) := by decide +kernel
theorem dX0_fillRests_1 : decode cX0_fillRests 1 = .ok (.iload_n 1, 1) := by decide +kernel
theorem dX0_fillRests_2 : decode cX0_fillRests 2 = .ok (.ishl, 1) := by decide +kernel
theorem dX0_fillRests_3 : decode cX0_fillRests 3 = .ok (.iconst 1, 1) := by decide +kernel
theorem dX0_fillRests_4 : decode cX0_fillRests 4 = .ok (.isub, 1) := by decide +kernel
theorem dX0_fillRests_5 : decode cX0_fillRests 5 = .ok (.istore_n 2, 1) := by decide +kernel
theorem dX0_fillRests_6 : decode cX0_fillRests 6 = .ok (.iload_n 2, 1) := by decide +kernel
theorem dX0_fillRests_7 : decode cX0_fillRests 7 = .ok (.istore_n 3, 1) := by decide +kernel
theorem dX0_fillRests_8 : decode cX0_fillRests 8 = .ok (.iload_n 3, 1) := by decide +kernel
theorem dX0_fillRests_9 : decode cX0_fillRests 9 = .ok (.ifCond .le 69, 3) := by decide +kernel
theorem dX0_fillRests_12 : decode cX0_fillRests 12 = .ok (.iconst 0, 1) := by decide +kernel
theorem dX0_fillRests_13 : decode cX0_fillRests 13 = .ok (.istore 4, 2) := by decide +kernel
theorem dX0_fillRests_15 : decode cX0_fillRests 15 = .ok (.iload 4, 2) := by decide +kernel
theorem dX0_fillRests_17 : decode cX0_fillRests 17 = .ok (.iload_n 1, 1) := by decide +kernel
theorem dX0_fillRests_18 : decode cX0_fillRests 18 = .ok (.if_icmp .ge 54, 3) := by decide +kernel
theorem dX0_fillRests_21 : decode cX0_fillRests 21 = .ok (.iload_n 3, 1) := by decide +kernel
theorem dX0_fillRests_22 : decode cX0_fillRests 22 = .ok (.iload 4, 2) := by decide +kernel
theorem dX0_fillRests_24 : decode cX0_fillRests 24 = .ok (.ishr, 1) := by decide +kernel
theorem dX0_fillRests_25 : decode cX0_fillRests 25 = .ok (.iconst 1, 1) := by decide +kernel
theorem dX0_fillRests_26 : decode cX0_fillRests 26 = .ok (.iand, 1) := by decide +kernel
theorem dX0_fillRests_27 : decode cX0_fillRests 27 = .ok (.iconst 1, 1) := by decide +kernel
theorem dX0_fillRests_28 : decode cX0_fillRests 28 = .ok (.if_icmp .ne 38, 3) := by decide +kernel
theorem dX0_fillRests_31 : decode cX0_fillRests 31 = .ok (.aload_n 0, 1) := by decide +kernel
theorem dX0_fillRests_32 : decode cX0_fillRests 32 = .ok (.getfield 21, 3) := by decide +kernel
theorem dX0_fillRests_35 : decode cX0_fillRests 35 = .ok (.iload_n 3, 1) := by decide +kernel
theorem dX0_fillRests_36 : decode cX0_fillRests 36 = .ok (.bipush 8, 2) := by decide +kernel
theorem dX0_fillRests_38 : decode cX0_fillRests 38 = .ok (.imul, 1) := by decide +kernel
theorem dX0_fillRests_39 : decode cX0_fillRests 39 = .ok (.iload 4, 2) := by decide +kernel
theorem dX0_fillRests_41 : decode cX0_fillRests 41 = .ok (.iadd, 1) := by decide +kernel
theorem dX0_fillRests_42 : decode cX0_fillRests 42 = .ok (.iload_n 3, 1) := by decide +kernel
theorem dX0_fillRests_43 : decode cX0_fillRests 43 = .ok (.iload_n 2, 1) := by decide +kernel
theorem dX0_fillRests_44 : decode cX0_fillRests 44 = .ok (.if_icmp .ne 13, 3) := by decide +kernel
theorem dX0_fillRests_47 : decode cX0_fillRests 47 = .ok (.aload_n 0, 1) := by decide +kernel
theorem dX0_fillRests_48 : decode cX0_fillRests 48 = .ok (.getfield 18, 3) := by decide +kernel
theorem dX0_fillRests_51 : decode cX0_fillRests 51 = .ok (.iload 4, 2) := by decide +kernel
theorem dX0_fillRests_53 : decode cX0_fillRests 53 = .ok (.iaload, 1) := by decide +kernel
theorem dX0_fillRests_54 : decode cX0_fillRests 54 = .ok (.goto 11, 3) := by decide +kernel
theorem dX0_fillRests_57 : decode cX0_fillRests 57 = .ok (.aload_n 0, 1) := by decide +kernel
theorem dX0_fillRests_58 : decode cX0_fillRests 58 = .ok (.iload_n 1, 1) := by decide +kernel
theorem dX0_fillRests_59 : decode cX0_fillRests 59 = .ok (.iload_n 3, 1) := by decide +kernel
theorem dX0_fillRests_60 : decode cX0_fillRests 60 = .ok (.iload 4, 2) := by decide +kernel
theorem dX0_fillRests_62 : decode cX0_fillRests 62 = .ok (.invokevirtual 52, 3) := by decide +kernel
theorem dX0_fillRests_65 : decode cX0_fillRests 65 = .ok (.iastore, 1) := by decide +kernel
theorem dX0_fillRests_66 : decode cX0_fillRests 66 = .ok (.iinc 4 1, 3) := by decide +kernel
theorem dX0_fillRests_69 : decode cX0_fillRests 69 = .ok (.goto (-54), 3) := by decide +kernel
theorem dX0_fillRests_72 : decode cX0_fillRests 72 = .ok (.iinc 3 (-1), 3) := by decide +kernel
theorem dX0_fillRests_75 : decode cX0_fillRests 75 = .ok (.goto (-67), 3) := by decide +kernel
theorem dX0_fillRests_78 : decode cX0_fillRests 78 = .ok (.return_, 1) := by decide +kernel
theorem dX0_leastRest_0 : decode cX0_leastRest 0 = .ok (.ldc 55, 2) := by decide +kernel
theorem dX0_leastRest_2 : decode cX0_leastRest 2 = .ok (.istore 4, 2) := by decide +kernel
theorem dX0_leastRest_4 : decode cX0_leastRest 4 = .ok (.iconst 0, 1) := by decide +kernel
theorem dX0_leastRest_5 : decode cX0_leastRest 5 = .ok (.istore 5, 2) := by decide +kernel
theorem dX0_leastRest_7 : decode cX0_leastRest 7 = .ok (.iload 5, 2) := by decide +kernel
theorem dX0_leastRest_9 : decode cX0_leastRest 9 = .ok (.iload_n 1, 1) := by decide +kernel
theorem dX0_leastRest_10 : decode cX0_leastRest 10 = .ok (.if_icmp .ge 33, 3) := by decide +kernel
theorem dX0_leastRest_13 : decode cX0_leastRest 13 = .ok (.iload_n 2, 1) := by decide +kernel
theorem dX0_leastRest_14 : decode cX0_leastRest 14 = .ok (.iload 5, 2) := by decide +kernel
theorem dX0_leastRest_16 : decode cX0_leastRest 16 = .ok (.ishr, 1) := by decide +kernel
theorem dX0_leastRest_17 : decode cX0_leastRest 17 = .ok (.iconst 1, 1) := by decide +kernel
theorem dX0_leastRest_18 : decode cX0_leastRest 18 = .ok (.iand, 1) := by decide +kernel
theorem dX0_leastRest_19 : decode cX0_leastRest 19 = .ok (.ifCond .ne 18, 3) := by decide +kernel
theorem dX0_leastRest_22 : decode cX0_leastRest 22 = .ok (.iload 4, 2) := by decide +kernel
theorem dX0_leastRest_24 : decode cX0_leastRest 24 = .ok (.aload_n 0, 1) := by decide +kernel
theorem dX0_leastRest_25 : decode cX0_leastRest 25 = .ok (.iload_n 2, 1) := by decide +kernel
theorem dX0_leastRest_26 : decode cX0_leastRest 26 = .ok (.iload_n 3, 1) := by decide +kernel
theorem dX0_leastRest_27 : decode cX0_leastRest 27 = .ok (.iload 5, 2) := by decide +kernel
theorem dX0_leastRest_29 : decode cX0_leastRest 29 = .ok (.invokevirtual 42, 3) := by decide +kernel
theorem dX0_leastRest_32 : decode cX0_leastRest 32 = .ok (.invokestatic 56, 3) := by decide +kernel
theorem dX0_leastRest_35 : decode cX0_leastRest 35 = .ok (.istore 4, 2) := by decide +kernel
theorem dX0_leastRest_37 : decode cX0_leastRest 37 = .ok (.iinc 5 1, 3) := by decide +kernel
theorem dX0_leastRest_40 : decode cX0_leastRest 40 = .ok (.goto (-33), 3) := by decide +kernel
theorem dX0_leastRest_43 : decode cX0_leastRest 43 = .ok (.iload 4, 2) := by decide +kernel
theorem dX0_leastRest_45 : decode cX0_leastRest 45 = .ok (.ireturn, 1) := by decide +kernel
theorem dX0_bestNext_0 : decode cX0_bestNext 0 = .ok (.ldc 55, 2) := by decide +kernel
theorem dX0_bestNext_2 : decode cX0_bestNext 2 = .ok (.istore 4, 2) := by decide +kernel
theorem dX0_bestNext_4 : decode cX0_bestNext 4 = .ok (.iconst 0, 1) := by decide +kernel
theorem dX0_bestNext_5 : decode cX0_bestNext 5 = .ok (.istore 5, 2) := by decide +kernel
theorem dX0_bestNext_7 : decode cX0_bestNext 7 = .ok (.iconst 0, 1) := by decide +kernel
theorem dX0_bestNext_8 : decode cX0_bestNext 8 = .ok (.istore 6, 2) := by decide +kernel
theorem dX0_bestNext_10 : decode cX0_bestNext 10 = .ok (.iload 6, 2) := by decide +kernel
theorem dX0_bestNext_12 : decode cX0_bestNext 12 = .ok (.iload_n 1, 1) := by decide +kernel
theorem dX0_bestNext_13 : decode cX0_bestNext 13 = .ok (.if_icmp .ge 43, 3) := by decide +kernel
theorem dX0_bestNext_16 : decode cX0_bestNext 16 = .ok (.iload_n 2, 1) := by decide +kernel
theorem dX0_bestNext_17 : decode cX0_bestNext 17 = .ok (.iload 6, 2) := by decide +kernel
theorem dX0_bestNext_19 : decode cX0_bestNext 19 = .ok (.ishr, 1) := by decide +kernel
theorem dX0_bestNext_20 : decode cX0_bestNext 20 = .ok (.iconst 1, 1) := by decide +kernel
theorem dX0_bestNext_21 : decode cX0_bestNext 21 = .ok (.iand, 1) := by decide +kernel
theorem dX0_bestNext_22 : decode cX0_bestNext 22 = .ok (.ifCond .ne 28, 3) := by decide +kernel
theorem dX0_bestNext_25 : decode cX0_bestNext 25 = .ok (.aload_n 0, 1) := by decide +kernel
theorem dX0_bestNext_26 : decode cX0_bestNext 26 = .ok (.iload_n 2, 1) := by decide +kernel
theorem dX0_bestNext_27 : decode cX0_bestNext 27 = .ok (.iload_n 3, 1) := by decide +kernel
theorem dX0_bestNext_28 : decode cX0_bestNext 28 = .ok (.iload 6, 2) := by decide +kernel
theorem dX0_bestNext_30 : decode cX0_bestNext 30 = .ok (.invokevirtual 42, 3) := by decide +kernel
theorem dX0_bestNext_33 : decode cX0_bestNext 33 = .ok (.istore 7, 2) := by decide +kernel
theorem dX0_bestNext_35 : decode cX0_bestNext 35 = .ok (.iload 7, 2) := by decide +kernel
theorem dX0_bestNext_37 : decode cX0_bestNext 37 = .ok (.iload 4, 2) := by decide +kernel
theorem dX0_bestNext_39 : decode cX0_bestNext 39 = .ok (.if_icmp .ge 11, 3) := by decide +kernel
theorem dX0_bestNext_42 : decode cX0_bestNext 42 = .ok (.iload 7, 2) := by decide +kernel
theorem dX0_bestNext_44 : decode cX0_bestNext 44 = .ok (.istore 4, 2) := by decide +kernel
theorem dX0_bestNext_46 : decode cX0_bestNext 46 = .ok (.iload 6, 2) := by decide +kernel
theorem dX0_bestNext_48 : decode cX0_bestNext 48 = .ok (.istore 5, 2) := by decide +kernel
theorem dX0_bestNext_50 : decode cX0_bestNext 50 = .ok (.iinc 6 1, 3) := by decide +kernel
theorem dX0_bestNext_53 : decode cX0_bestNext 53 = .ok (.goto (-43), 3) := by decide +kernel
theorem dX0_bestNext_56 : decode cX0_bestNext 56 = .ok (.iload 5, 2) := by decide +kernel
theorem dX0_bestNext_58 : decode cX0_bestNext 58 = .ok (.ireturn, 1) := by decide +kernel
theorem dX0_costOfNext_0 : decode cX0_costOfNext 0 = .ok (.iload_n 2, 1) := by decide +kernel
theorem dX0_costOfNext_1 : decode cX0_costOfNext 1 = .ok (.ifCond .ge 12, 3) := by decide +kernel
theorem dX0_costOfNext_4 : decode cX0_costOfNext 4 = .ok (.aload_n 0, 1) := by decide +kernel
theorem dX0_costOfNext_5 : decode cX0_costOfNext 5 = .ok (.getfield 15, 3) := by decide +kernel
theorem dX0_costOfNext_8 : decode cX0_costOfNext 8 = .ok (.iload_n 3, 1) := by decide +kernel
theorem dX0_costOfNext_9 : decode cX0_costOfNext 9 = .ok (.iaload, 1) := by decide +kernel
theorem dX0_costOfNext_10 : decode cX0_costOfNext 10 = .ok (.goto 14, 3) := by decide +kernel
theorem dX0_costOfNext_13 : decode cX0_costOfNext 13 = .ok (.aload_n 0, 1) := by decide +kernel
theorem dX0_costOfNext_14 : decode cX0_costOfNext 14 = .ok (.getfield 9, 3) := by decide +kernel
theorem dX0_costOfNext_17 : decode cX0_costOfNext 17 = .ok (.iload_n 2, 1) := by decide +kernel
theorem dX0_costOfNext_18 : decode cX0_costOfNext 18 = .ok (.bipush 8, 2) := by decide +kernel
theorem dX0_costOfNext_20 : decode cX0_costOfNext 20 = .ok (.imul, 1) := by decide +kernel
theorem dX0_costOfNext_21 : decode cX0_costOfNext 21 = .ok (.iload_n 3, 1) := by decide +kernel
theorem dX0_costOfNext_22 : decode cX0_costOfNext 22 = .ok (.iadd, 1) := by decide +kernel
theorem dX0_costOfNext_23 : decode cX0_costOfNext 23 = .ok (.iaload, 1) := by decide +kernel
theorem dX0_costOfNext_24 : decode cX0_costOfNext 24 = .ok (.istore 4, 2) := by decide +kernel
theorem dX0_costOfNext_26 : decode cX0_costOfNext 26 = .ok (.iload 4, 2) := by decide +kernel
theorem dX0_costOfNext_28 : decode cX0_costOfNext 28 = .ok (.aload_n 0, 1) := by decide +kernel
theorem dX0_costOfNext_29 : decode cX0_costOfNext 29 = .ok (.getfield 21, 3) := by decide +kernel
theorem dX0_costOfNext_32 : decode cX0_costOfNext 32 = .ok (.iload_n 1, 1) := by decide +kernel
theorem dX0_costOfNext_33 : decode cX0_costOfNext 33 = .ok (.iconst 1, 1) := by decide +kernel
theorem dX0_costOfNext_34 : decode cX0_costOfNext 34 = .ok (.iload_n 3, 1) := by decide +kernel
theorem dX0_costOfNext_35 : decode cX0_costOfNext 35 = .ok (.ishl, 1) := by decide +kernel
theorem dX0_costOfNext_36 : decode cX0_costOfNext 36 = .ok (.ior, 1) := by decide +kernel
theorem dX0_costOfNext_37 : decode cX0_costOfNext 37 = .ok (.bipush 8, 2) := by decide +kernel
theorem dX0_costOfNext_39 : decode cX0_costOfNext 39 = .ok (.imul, 1) := by decide +kernel
theorem dX0_costOfNext_40 : decode cX0_costOfNext 40 = .ok (.iload_n 3, 1) := by decide +kernel
theorem dX0_costOfNext_41 : decode cX0_costOfNext 41 = .ok (.iadd, 1) := by decide +kernel
theorem dX0_costOfNext_42 : decode cX0_costOfNext 42 = .ok (.iaload, 1) := by decide +kernel
theorem dX0_costOfNext_43 : decode cX0_costOfNext 43 = .ok (.iadd, 1) := by decide +kernel
theorem dX0_costOfNext_44 : decode cX0_costOfNext 44 = .ok (.ireturn, 1) := by decide +kernel
theorem dX1_init_0 : decode cX1_init 0 = .ok (.aload_n 0, 1) := by decide +kernel
theorem dX1_init_1 : decode cX1_init 1 = .ok (.invokespecial 3, 3) := by decide +kernel
theorem dX1_init_4 : decode cX1_init 4 = .ok (.aload_n 0, 1) := by decide +kernel
theorem dX1_init_5 : decode cX1_init 5 = .ok (.bipush 8, 2) := by decide +kernel
theorem dX1_init_7 : decode cX1_init 7 = .ok (.newarray .int, 2) := by decide +kernel
theorem dX1_init_9 : decode cX1_init 9 = .ok (.putfield 9, 3) := by decide +kernel
theorem dX1_init_12 : decode cX1_init 12 = .ok (.aload_n 0, 1) := by decide +kernel
theorem dX1_init_13 : decode cX1_init 13 = .ok (.bipush 8, 2) := by decide +kernel
theorem dX1_init_15 : decode cX1_init 15 = .ok (.newarray .int, 2) := by decide +kernel
theorem dX1_init_17 : decode cX1_init 17 = .ok (.putfield 15, 3) := by decide +kernel
theorem dX1_init_20 : decode cX1_init 20 = .ok (.aload_n 0, 1) := by decide +kernel
theorem dX1_init_21 : decode cX1_init 21 = .ok (.bipush 8, 2) := by decide +kernel
theorem dX1_init_23 : decode cX1_init 23 = .ok (.newarray .int, 2) := by decide +kernel
theorem dX1_init_25 : decode cX1_init 25 = .ok (.putfield 18, 3) := by decide +kernel
theorem dX1_init_28 : decode cX1_init 28 = .ok (.aload_n 0, 1) := by decide +kernel
theorem dX1_init_29 : decode cX1_init 29 = .ok (.bipush 8, 2) := by decide +kernel
theorem dX1_init_31 : decode cX1_init 31 = .ok (.newarray .int, 2) := by decide +kernel
theorem dX1_init_33 : decode cX1_init 33 = .ok (.putfield 21, 3) := by decide +kernel
theorem dX1_init_36 : decode cX1_init 36 = .ok (.aload_n 0, 1) := by decide +kernel
theorem dX1_init_37 : decode cX1_init 37 = .ok (.bipush 8, 2) := by decide +kernel
theorem dX1_init_39 : decode cX1_init 39 = .ok (.newarray .int, 2) := by decide +kernel
theorem dX1_init_41 : decode cX1_init 41 = .ok (.putfield 24, 3) := by decide +kernel
theorem dX1_init_44 : decode cX1_init 44 = .ok (.aload_n 0, 1) := by decide +kernel
theorem dX1_init_45 : decode cX1_init 45 = .ok (.bipush 6, 2) := by decide +kernel
theorem dX1_init_47 : decode cX1_init 47 = .ok (.newarray .int, 2) := by decide +kernel
theorem dX1_init_49 : decode cX1_init 49 = .ok (.putfield 27, 3) := by decide +kernel
theorem dX1_init_52 : decode cX1_init 52 = .ok (.aload_n 0, 1) := by decide +kernel
theorem dX1_init_53 : decode cX1_init 53 = .ok (.bipush 10, 2) := by decide +kernel
theorem dX1_init_55 : decode cX1_init 55 = .ok (.newarray .int, 2) := by decide +kernel
theorem dX1_init_57 : decode cX1_init 57 = .ok (.putfield 30, 3) := by decide +kernel
theorem dX1_init_60 : decode cX1_init 60 = .ok (.aload_n 0, 1) := by decide +kernel
theorem dX1_init_61 : decode cX1_init 61 = .ok (.iconst 1, 1) := by decide +kernel
theorem dX1_init_62 : decode cX1_init 62 = .ok (.putfield 33, 3) := by decide +kernel
theorem dX1_init_65 : decode cX1_init 65 = .ok (.iconst 0, 1) := by decide +kernel
theorem dX1_init_66 : decode cX1_init 66 = .ok (.istore_n 1, 1) := by decide +kernel
theorem dX1_init_67 : decode cX1_init 67 = .ok (.iload_n 1, 1) := by decide +kernel
theorem dX1_init_68 : decode cX1_init 68 = .ok (.bipush 10, 2) := by decide +kernel
theorem dX1_init_70 : decode cX1_init 70 = .ok (.if_icmp .ge 16, 3) := by decide +kernel
theorem dX1_init_73 : decode cX1_init 73 = .ok (.aload_n 0, 1) := by decide +kernel
theorem dX1_init_74 : decode cX1_init 74 = .ok (.getfield 30, 3) := by decide +kernel
theorem dX1_init_77 : decode cX1_init 77 = .ok (.iload_n 1, 1) := by decide +kernel
theorem dX1_init_78 : decode cX1_init 78 = .ok (.iconst (-1), 1) := by decide +kernel
theorem dX1_init_79 : decode cX1_init 79 = .ok (.iastore, 1) := by decide +kernel
theorem dX1_init_80 : decode cX1_init 80 = .ok (.iinc 1 1, 3) := by decide +kernel
theorem dX1_init_83 : decode cX1_init 83 = .ok (.goto (-16), 3) := by decide +kernel
theorem dX1_init_86 : decode cX1_init 86 = .ok (.return_, 1) := by decide +kernel
theorem dX1_takeFrom_0 : decode cX1_takeFrom 0 = .ok (.aload_n 1, 1) := by decide +kernel
theorem dX1_takeFrom_1 : decode cX1_takeFrom 1 = .ok (.getfield 9, 3) := by decide +kernel
theorem dX1_takeFrom_4 : decode cX1_takeFrom 4 = .ok (.iconst 0, 1) := by decide +kernel
theorem dX1_takeFrom_5 : decode cX1_takeFrom 5 = .ok (.aload_n 0, 1) := by decide +kernel
theorem dX1_takeFrom_6 : decode cX1_takeFrom 6 = .ok (.getfield 9, 3) := by decide +kernel
theorem dX1_takeFrom_9 : decode cX1_takeFrom 9 = .ok (.iconst 0, 1) := by decide +kernel
theorem dX1_takeFrom_10 : decode cX1_takeFrom 10 = .ok (.bipush 8, 2) := by decide +kernel
theorem dX1_takeFrom_12 : decode cX1_takeFrom 12 = .ok (.invokestatic 37, 3) := by decide +kernel
theorem dX1_takeFrom_15 : decode cX1_takeFrom 15 = .ok (.aload_n 1, 1) := by decide +kernel
theorem dX1_takeFrom_16 : decode cX1_takeFrom 16 = .ok (.getfield 15, 3) := by decide +kernel
theorem dX1_takeFrom_19 : decode cX1_takeFrom 19 = .ok (.iconst 0, 1) := by decide +kernel
theorem dX1_takeFrom_20 : decode cX1_takeFrom 20 = .ok (.aload_n 0, 1) := by decide +kernel
theorem dX1_takeFrom_21 : decode cX1_takeFrom 21 = .ok (.getfield 15, 3) := by decide +kernel
theorem dX1_takeFrom_24 : decode cX1_takeFrom 24 = .ok (.iconst 0, 1) := by decide +kernel
theorem dX1_takeFrom_25 : decode cX1_takeFrom 25 = .ok (.bipush 8, 2) := by decide +kernel
theorem dX1_takeFrom_27 : decode cX1_takeFrom 27 = .ok (.invokestatic 37, 3) := by decide +kernel
theorem dX1_takeFrom_30 : decode cX1_takeFrom 30 = .ok (.aload_n 1, 1) := by decide +kernel
theorem dX1_takeFrom_31 : decode cX1_takeFrom 31 = .ok (.getfield 18, 3) := by decide +kernel
theorem dX1_takeFrom_34 : decode cX1_takeFrom 34 = .ok (.iconst 0, 1) := by decide +kernel
theorem dX1_takeFrom_35 : decode cX1_takeFrom 35 = .ok (.aload_n 0, 1) := by decide +kernel
theorem dX1_takeFrom_36 : decode cX1_takeFrom 36 = .ok (.getfield 18, 3) := by decide +kernel
theorem dX1_takeFrom_39 : decode cX1_takeFrom 39 = .ok (.iconst 0, 1) := by decide +kernel
theorem dX1_takeFrom_40 : decode cX1_takeFrom 40 = .ok (.bipush 8, 2) := by decide +kernel
theorem dX1_takeFrom_42 : decode cX1_takeFrom 42 = .ok (.invokestatic 37, 3) := by decide +kernel
theorem dX1_takeFrom_45 : decode cX1_takeFrom 45 = .ok (.aload_n 1, 1) := by decide +kernel
theorem dX1_takeFrom_46 : decode cX1_takeFrom 46 = .ok (.getfield 21, 3) := by decide +kernel
theorem dX1_takeFrom_49 : decode cX1_takeFrom 49 = .ok (.iconst 0, 1) := by decide +kernel
theorem dX1_takeFrom_50 : decode cX1_takeFrom 50 = .ok (.aload_n 0, 1) := by decide +kernel
theorem dX1_takeFrom_51 : decode cX1_takeFrom 51 = .ok (.getfield 21, 3) := by decide +kernel
theorem dX1_takeFrom_54 : decode cX1_takeFrom 54 = .ok (.iconst 0, 1) := by decide +kernel
theorem dX1_takeFrom_55 : decode cX1_takeFrom 55 = .ok (.bipush 8, 2) := by decide +kernel
theorem dX1_takeFrom_57 : decode cX1_takeFrom 57 = .ok (.invokestatic 37, 3) := by decide +kernel
theorem dX1_takeFrom_60 : decode cX1_takeFrom 60 = .ok (.aload_n 1, 1) := by decide +kernel
theorem dX1_takeFrom_61 : decode cX1_takeFrom 61 = .ok (.getfield 24, 3) := by decide +kernel
theorem dX1_takeFrom_64 : decode cX1_takeFrom 64 = .ok (.iconst 0, 1) := by decide +kernel
theorem dX1_takeFrom_65 : decode cX1_takeFrom 65 = .ok (.aload_n 0, 1) := by decide +kernel
theorem dX1_takeFrom_66 : decode cX1_takeFrom 66 = .ok (.getfield 24, 3) := by decide +kernel
theorem dX1_takeFrom_69 : decode cX1_takeFrom 69 = .ok (.iconst 0, 1) := by decide +kernel
theorem dX1_takeFrom_70 : decode cX1_takeFrom 70 = .ok (.bipush 8, 2) := by decide +kernel
theorem dX1_takeFrom_72 : decode cX1_takeFrom 72 = .ok (.invokestatic 37, 3) := by decide +kernel
theorem dX1_takeFrom_75 : decode cX1_takeFrom 75 = .ok (.aload_n 1, 1) := by decide +kernel
theorem dX1_takeFrom_76 : decode cX1_takeFrom 76 = .ok (.getfield 27, 3) := by decide +kernel
theorem dX1_takeFrom_79 : decode cX1_takeFrom 79 = .ok (.iconst 0, 1) := by decide +kernel
theorem dX1_takeFrom_80 : decode cX1_takeFrom 80 = .ok (.aload_n 0, 1) := by decide +kernel
theorem dX1_takeFrom_81 : decode cX1_takeFrom 81 = .ok (.getfield 27, 3) := by decide +kernel
theorem dX1_takeFrom_84 : decode cX1_takeFrom 84 = .ok (.iconst 0, 1) := by decide +kernel
theorem dX1_takeFrom_85 : decode cX1_takeFrom 85 = .ok (.bipush 6, 2) := by decide +kernel
theorem dX1_takeFrom_87 : decode cX1_takeFrom 87 = .ok (.invokestatic 37, 3) := by decide +kernel
theorem dX1_takeFrom_90 : decode cX1_takeFrom 90 = .ok (.aload_n 1, 1) := by decide +kernel
theorem dX1_takeFrom_91 : decode cX1_takeFrom 91 = .ok (.getfield 30, 3) := by decide +kernel
theorem dX1_takeFrom_94 : decode cX1_takeFrom 94 = .ok (.iconst 0, 1) := by decide +kernel
theorem dX1_takeFrom_95 : decode cX1_takeFrom 95 = .ok (.aload_n 0, 1) := by decide +kernel
theorem dX1_takeFrom_96 : decode cX1_takeFrom 96 = .ok (.getfield 30, 3) := by decide +kernel
theorem dX1_takeFrom_99 : decode cX1_takeFrom 99 = .ok (.iconst 0, 1) := by decide +kernel
theorem dX1_takeFrom_100 : decode cX1_takeFrom 100 = .ok (.bipush 10, 2) := by decide +kernel
theorem dX1_takeFrom_102 : decode cX1_takeFrom 102 = .ok (.invokestatic 37, 3) := by decide +kernel
theorem dX1_takeFrom_105 : decode cX1_takeFrom 105 = .ok (.aload_n 0, 1) := by decide +kernel
theorem dX1_takeFrom_106 : decode cX1_takeFrom 106 = .ok (.aload_n 1, 1) := by decide +kernel
theorem dX1_takeFrom_107 : decode cX1_takeFrom 107 = .ok (.getfield 43, 3) := by decide +kernel
theorem dX1_takeFrom_110 : decode cX1_takeFrom 110 = .ok (.putfield 43, 3) := by decide +kernel
theorem dX1_takeFrom_113 : decode cX1_takeFrom 113 = .ok (.aload_n 0, 1) := by decide +kernel
theorem dX1_takeFrom_114 : decode cX1_takeFrom 114 = .ok (.aload_n 1, 1) := by decide +kernel
theorem dX1_takeFrom_115 : decode cX1_takeFrom 115 = .ok (.getfield 46, 3) := by decide +kernel
theorem dX1_takeFrom_118 : decode cX1_takeFrom 118 = .ok (.putfield 46, 3) := by decide +kernel
theorem dX1_takeFrom_121 : decode cX1_takeFrom 121 = .ok (.aload_n 0, 1) := by decide +kernel
theorem dX1_takeFrom_122 : decode cX1_takeFrom 122 = .ok (.aload_n 1, 1) := by decide +kernel
theorem dX1_takeFrom_123 : decode cX1_takeFrom 123 = .ok (.getfield 49, 3) := by decide +kernel
theorem dX1_takeFrom_126 : decode cX1_takeFrom 126 = .ok (.putfield 49, 3) := by decide +kernel
theorem dX1_takeFrom_129 : decode cX1_takeFrom 129 = .ok (.aload_n 0, 1) := by decide +kernel
theorem dX1_takeFrom_130 : decode cX1_takeFrom 130 = .ok (.aload_n 1, 1) := by decide +kernel
theorem dX1_takeFrom_131 : decode cX1_takeFrom 131 = .ok (.getfield 33, 3) := by decide +kernel
theorem dX1_takeFrom_134 : decode cX1_takeFrom 134 = .ok (.putfield 33, 3) := by decide +kernel
theorem dX1_takeFrom_137 : decode cX1_takeFrom 137 = .ok (.return_, 1) := by decide +kernel
theorem dX1_has_0 : decode cX1_has 0 = .ok (.iload_n 1, 1) := by decide +kernel
theorem dX1_has_1 : decode cX1_has 1 = .ok (.ifCond .lt 15, 3) := by decide +kernel
theorem dX1_has_4 : decode cX1_has 4 = .ok (.iload_n 1, 1) := by decide +kernel
theorem dX1_has_5 : decode cX1_has 5 = .ok (.aload_n 0, 1) := by decide +kernel
theorem dX1_has_6 : decode cX1_has 6 = .ok (.getfield 46, 3) := by decide +kernel
theorem dX1_has_9 : decode cX1_has 9 = .ok (.if_icmp .ge 7, 3) := by decide +kernel
theorem dX1_has_12 : decode cX1_has 12 = .ok (.iconst 1, 1) := by decide +kernel
theorem dX1_has_13 : decode cX1_has 13 = .ok (.goto 4, 3) := by decide +kernel
theorem dX1_has_16 : decode cX1_has 16 = .ok (.iconst 0, 1) := by decide +kernel
theorem dX1_has_17 : decode cX1_has 17 = .ok (.ireturn, 1) := by decide +kernel
theorem dX1_addPiece_0 : decode cX1_addPiece 0 = .ok (.aload_n 0, 1) := by decide +kernel
theorem dX1_addPiece_1 : decode cX1_addPiece 1 = .ok (.getfield 46, 3) := by decide +kernel
theorem dX1_addPiece_4 : decode cX1_addPiece 4 = .ok (.istore 4, 2) := by decide +kernel
theorem dX1_addPiece_6 : decode cX1_addPiece 6 = .ok (.aload_n 0, 1) := by decide +kernel
theorem dX1_addPiece_7 : decode cX1_addPiece 7 = .ok (.getfield 9, 3) := by decide +kernel
theorem dX1_addPiece_10 : decode cX1_addPiece 10 = .ok (.iload 4, 2) := by decide +kernel
theorem dX1_addPiece_12 : decode cX1_addPiece 12 = .ok (.iload_n 1, 1) := by decide +kernel
theorem dX1_addPiece_13 : decode cX1_addPiece 13 = .ok (.iastore, 1) := by decide +kernel
theorem dX1_addPiece_14 : decode cX1_addPiece 14 = .ok (.aload_n 0, 1) := by decide +kernel
theorem dX1_addPiece_15 : decode cX1_addPiece 15 = .ok (.getfield 15, 3) := by decide +kernel
theorem dX1_addPiece_18 : decode cX1_addPiece 18 = .ok (.iload 4, 2) := by decide +kernel
theorem dX1_addPiece_20 : decode cX1_addPiece 20 = .ok (.iload_n 2, 1) := by decide +kernel
theorem dX1_addPiece_21 : decode cX1_addPiece 21 = .ok (.iastore, 1) := by decide +kernel
theorem dX1_addPiece_22 : decode cX1_addPiece 22 = .ok (.aload_n 0, 1) := by decide +kernel
theorem dX1_addPiece_23 : decode cX1_addPiece 23 = .ok (.getfield 18, 3) := by decide +kernel
theorem dX1_addPiece_26 : decode cX1_addPiece 26 = .ok (.iload 4, 2) := by decide +kernel
theorem dX1_addPiece_28 : decode cX1_addPiece 28 = .ok (.iload_n 3, 1) := by decide +kernel
theorem dX1_addPiece_29 : decode cX1_addPiece 29 = .ok (.iastore, 1) := by decide +kernel
theorem dX1_addPiece_30 : decode cX1_addPiece 30 = .ok (.aload_n 0, 1) := by decide +kernel
theorem dX1_addPiece_31 : decode cX1_addPiece 31 = .ok (.getfield 21, 3) := by decide +kernel
theorem dX1_addPiece_34 : decode cX1_addPiece 34 = .ok (.iload 4, 2) := by decide +kernel
theorem dX1_addPiece_36 : decode cX1_addPiece 36 = .ok (.iconst (-1), 1) := by decide +kernel
theorem dX1_addPiece_37 : decode cX1_addPiece 37 = .ok (.iastore, 1) := by decide +kernel
theorem dX1_addPiece_38 : decode cX1_addPiece 38 = .ok (.aload_n 0, 1) := by decide +kernel
theorem dX1_addPiece_39 : decode cX1_addPiece 39 = .ok (.getfield 24, 3) := by decide +kernel
theorem dX1_addPiece_42 : decode cX1_addPiece 42 = .ok (.iload 4, 2) := by decide +kernel
theorem dX1_addPiece_44 : decode cX1_addPiece 44 = .ok (.iload 4, 2) := by decide +kernel
theorem dX1_addPiece_46 : decode cX1_addPiece 46 = .ok (.iastore, 1) := by decide +kernel
theorem dX1_addPiece_47 : decode cX1_addPiece 47 = .ok (.aload_n 0, 1) := by decide +kernel
theorem dX1_addPiece_48 : decode cX1_addPiece 48 = .ok (.dup, 1) := by decide +kernel
theorem dX1_addPiece_49 : decode cX1_addPiece 49 = .ok (.getfield 46, 3) := by decide +kernel
theorem dX1_addPiece_52 : decode cX1_addPiece 52 = .ok (.iconst 1, 1) := by decide +kernel
theorem dX1_addPiece_53 : decode cX1_addPiece 53 = .ok (.iadd, 1) := by decide +kernel
theorem dX1_addPiece_54 : decode cX1_addPiece 54 = .ok (.putfield 46, 3) := by decide +kernel
theorem dX1_addPiece_57 : decode cX1_addPiece 57 = .ok (.iload 4, 2) := by decide +kernel
theorem dX1_addPiece_59 : decode cX1_addPiece 59 = .ok (.ireturn, 1) := by decide +kernel
theorem dX1_told_0 : decode cX1_told 0 = .ok (.iload_n 2, 1) := by decide +kernel
theorem dX1_told_1 : decode cX1_told 1 = .ok (.tableswitch 82 0 5 #[39, 46, 53, 60, 67, 76], 39) := by decide +kernel
theorem dX1_told_40 : decode cX1_told 40 = .ok (.aload_n 0, 1) := by decide +kernel
theorem dX1_told_41 : decode cX1_told 41 = .ok (.getfield 9, 3) := by decide +kernel
theorem dX1_told_44 : decode cX1_told 44 = .ok (.iload_n 1, 1) := by decide +kernel
theorem dX1_told_45 : decode cX1_told 45 = .ok (.iaload, 1) := by decide +kernel
theorem dX1_told_46 : decode cX1_told 46 = .ok (.ireturn, 1) := by decide +kernel
theorem dX1_told_47 : decode cX1_told 47 = .ok (.aload_n 0, 1) := by decide +kernel
theorem dX1_told_48 : decode cX1_told 48 = .ok (.getfield 15, 3) := by decide +kernel
theorem dX1_told_51 : decode cX1_told 51 = .ok (.iload_n 1, 1) := by decide +kernel
theorem dX1_told_52 : decode cX1_told 52 = .ok (.iaload, 1) := by decide +kernel
theorem dX1_told_53 : decode cX1_told 53 = .ok (.ireturn, 1) := by decide +kernel
theorem dX1_told_54 : decode cX1_told 54 = .ok (.aload_n 0, 1) := by decide +kernel
theorem dX1_told_55 : decode cX1_told 55 = .ok (.getfield 18, 3) := by decide +kernel
theorem dX1_told_58 : decode cX1_told 58 = .ok (.iload_n 1, 1) := by decide +kernel
theorem dX1_told_59 : decode cX1_told 59 = .ok (.iaload, 1) := by decide +kernel
theorem dX1_told_60 : decode cX1_told 60 = .ok (.ireturn, 1) := by decide +kernel
theorem dX1_told_61 : decode cX1_told 61 = .ok (.aload_n 0, 1) := by decide +kernel
theorem dX1_told_62 : decode cX1_told 62 = .ok (.getfield 21, 3) := by decide +kernel
theorem dX1_told_65 : decode cX1_told 65 = .ok (.iload_n 1, 1) := by decide +kernel
theorem dX1_told_66 : decode cX1_told 66 = .ok (.iaload, 1) := by decide +kernel
theorem dX1_told_67 : decode cX1_told 67 = .ok (.ireturn, 1) := by decide +kernel
theorem dX1_told_68 : decode cX1_told 68 = .ok (.aload_n 0, 1) := by decide +kernel
theorem dX1_told_69 : decode cX1_told 69 = .ok (.getfield 43, 3) := by decide +kernel
theorem dX1_told_72 : decode cX1_told 72 = .ok (.iload_n 1, 1) := by decide +kernel
theorem dX1_told_73 : decode cX1_told 73 = .ok (.ishr, 1) := by decide +kernel
theorem dX1_told_74 : decode cX1_told 74 = .ok (.iconst 1, 1) := by decide +kernel
theorem dX1_told_75 : decode cX1_told 75 = .ok (.iand, 1) := by decide +kernel
theorem dX1_told_76 : decode cX1_told 76 = .ok (.ireturn, 1) := by decide +kernel
theorem dX1_told_77 : decode cX1_told 77 = .ok (.aload_n 0, 1) := by decide +kernel
theorem dX1_told_78 : decode cX1_told 78 = .ok (.iload_n 1, 1) := by decide +kernel
theorem dX1_told_79 : decode cX1_told 79 = .ok (.invokevirtual 52, 3) := by decide +kernel
theorem dX1_told_82 : decode cX1_told 82 = .ok (.ireturn, 1) := by decide +kernel
theorem dX1_told_83 : decode cX1_told 83 = .ok (.aload_n 0, 1) := by decide +kernel
theorem dX1_told_84 : decode cX1_told 84 = .ok (.iload_n 1, 1) := by decide +kernel
theorem dX1_told_85 : decode cX1_told 85 = .ok (.invokevirtual 56, 3) := by decide +kernel
theorem dX1_told_88 : decode cX1_told 88 = .ok (.ireturn, 1) := by decide +kernel
theorem dX1_become_0 : decode cX1_become 0 = .ok (.iload_n 2, 1) := by decide +kernel
theorem dX1_become_1 : decode cX1_become 1 = .ok (.tableswitch 71 0 3 #[31, 41, 51, 61], 31) := by decide +kernel
theorem dX1_become_32 : decode cX1_become 32 = .ok (.aload_n 0, 1) := by decide +kernel
theorem dX1_become_33 : decode cX1_become 33 = .ok (.getfield 9, 3) := by decide +kernel
theorem dX1_become_36 : decode cX1_become 36 = .ok (.iload_n 1, 1) := by decide +kernel
theorem dX1_become_37 : decode cX1_become 37 = .ok (.iload_n 3, 1) := by decide +kernel
theorem dX1_become_38 : decode cX1_become 38 = .ok (.iastore, 1) := by decide +kernel
theorem dX1_become_39 : decode cX1_become 39 = .ok (.goto 51, 3) := by decide +kernel
theorem dX1_become_42 : decode cX1_become 42 = .ok (.aload_n 0, 1) := by decide +kernel
theorem dX1_become_43 : decode cX1_become 43 = .ok (.getfield 15, 3) := by decide +kernel
theorem dX1_become_46 : decode cX1_become 46 = .ok (.iload_n 1, 1) := by decide +kernel
theorem dX1_become_47 : decode cX1_become 47 = .ok (.iload_n 3, 1) := by decide +kernel
theorem dX1_become_48 : decode cX1_become 48 = .ok (.iastore, 1) := by decide +kernel
theorem dX1_become_49 : decode cX1_become 49 = .ok (.goto 41, 3) := by decide +kernel
theorem dX1_become_52 : decode cX1_become 52 = .ok (.aload_n 0, 1) := by decide +kernel
theorem dX1_become_53 : decode cX1_become 53 = .ok (.getfield 18, 3) := by decide +kernel
theorem dX1_become_56 : decode cX1_become 56 = .ok (.iload_n 1, 1) := by decide +kernel
theorem dX1_become_57 : decode cX1_become 57 = .ok (.iload_n 3, 1) := by decide +kernel
theorem dX1_become_58 : decode cX1_become 58 = .ok (.iastore, 1) := by decide +kernel
theorem dX1_become_59 : decode cX1_become 59 = .ok (.goto 31, 3) := by decide +kernel
theorem dX1_become_62 : decode cX1_become 62 = .ok (.aload_n 0, 1) := by decide +kernel
theorem dX1_become_63 : decode cX1_become 63 = .ok (.getfield 21, 3) := by decide +kernel
theorem dX1_become_66 : decode cX1_become 66 = .ok (.iload_n 1, 1) := by decide +kernel
theorem dX1_become_67 : decode cX1_become 67 = .ok (.iload_n 3, 1) := by decide +kernel
theorem dX1_become_68 : decode cX1_become 68 = .ok (.iastore, 1) := by decide +kernel
theorem dX1_become_69 : decode cX1_become 69 = .ok (.goto 21, 3) := by decide +kernel
theorem dX1_become_72 : decode cX1_become 72 = .ok (.aload_n 0, 1) := by decide +kernel
theorem dX1_become_73 : decode cX1_become 73 = .ok (.aload_n 0, 1) := by decide +kernel
theorem dX1_become_74 : decode cX1_become 74 = .ok (.getfield 43, 3) := by decide +kernel
theorem dX1_become_77 : decode cX1_become 77 = .ok (.iconst 1, 1) := by decide +kernel
theorem dX1_become_78 : decode cX1_become 78 = .ok (.iload_n 1, 1) := by decide +kernel
theorem dX1_become_79 : decode cX1_become 79 = .ok (.ishl, 1) := by decide +kernel
theorem dX1_become_80 : decode cX1_become 80 = .ok (.iconst (-1), 1) := by decide +kernel
theorem dX1_become_81 : decode cX1_become 81 = .ok (.ixor, 1) := by decide +kernel
theorem dX1_become_82 : decode cX1_become 82 = .ok (.iand, 1) := by decide +kernel
theorem dX1_become_83 : decode cX1_become 83 = .ok (.iload_n 3, 1) := by decide +kernel
theorem dX1_become_84 : decode cX1_become 84 = .ok (.iload_n 1, 1) := by decide +kernel
theorem dX1_become_85 : decode cX1_become 85 = .ok (.ishl, 1) := by decide +kernel
theorem dX1_become_86 : decode cX1_become 86 = .ok (.ior, 1) := by decide +kernel
theorem dX1_become_87 : decode cX1_become 87 = .ok (.putfield 43, 3) := by decide +kernel
theorem dX1_become_90 : decode cX1_become 90 = .ok (.return_, 1) := by decide +kernel
theorem dX1_placeOf_0 : decode cX1_placeOf 0 = .ok (.iconst 0, 1) := by decide +kernel
theorem dX1_placeOf_1 : decode cX1_placeOf 1 = .ok (.istore_n 2, 1) := by decide +kernel
theorem dX1_placeOf_2 : decode cX1_placeOf 2 = .ok (.iload_n 2, 1) := by decide +kernel
theorem dX1_placeOf_3 : decode cX1_placeOf 3 = .ok (.aload_n 0, 1) := by decide +kernel
theorem dX1_placeOf_4 : decode cX1_placeOf 4 = .ok (.getfield 46, 3) := by decide +kernel
theorem dX1_placeOf_7 : decode cX1_placeOf 7 = .ok (.if_icmp .ge 19, 3) := by decide +kernel
theorem dX1_placeOf_10 : decode cX1_placeOf 10 = .ok (.aload_n 0, 1) := by decide +kernel
theorem dX1_placeOf_11 : decode cX1_placeOf 11 = .ok (.getfield 24, 3) := by decide +kernel
theorem dX1_placeOf_14 : decode cX1_placeOf 14 = .ok (.iload_n 2, 1) := by decide +kernel
theorem dX1_placeOf_15 : decode cX1_placeOf 15 = .ok (.iaload, 1) := by decide +kernel
theorem dX1_placeOf_16 : decode cX1_placeOf 16 = .ok (.iload_n 1, 1) := by decide +kernel
theorem dX1_placeOf_17 : decode cX1_placeOf 17 = .ok (.if_icmp .eq 9, 3) := by decide +kernel
theorem dX1_placeOf_20 : decode cX1_placeOf 20 = .ok (.iinc 2 1, 3) := by decide +kernel
theorem dX1_placeOf_23 : decode cX1_placeOf 23 = .ok (.goto (-21), 3) := by decide +kernel
theorem dX1_placeOf_26 : decode cX1_placeOf 26 = .ok (.iload_n 2, 1) := by decide +kernel
theorem dX1_placeOf_27 : decode cX1_placeOf 27 = .ok (.ireturn, 1) := by decide +kernel
theorem dX1_shownLeft_0 : decode cX1_shownLeft 0 = .ok (.aload_n 0, 1) := by decide +kernel
theorem dX1_shownLeft_1 : decode cX1_shownLeft 1 = .ok (.getfield 43, 3) := by decide +kernel
theorem dX1_shownLeft_4 : decode cX1_shownLeft 4 = .ok (.iload_n 1, 1) := by decide +kernel
theorem dX1_shownLeft_5 : decode cX1_shownLeft 5 = .ok (.ishr, 1) := by decide +kernel
theorem dX1_shownLeft_6 : decode cX1_shownLeft 6 = .ok (.iconst 1, 1) := by decide +kernel
theorem dX1_shownLeft_7 : decode cX1_shownLeft 7 = .ok (.iand, 1) := by decide +kernel
theorem dX1_shownLeft_8 : decode cX1_shownLeft 8 = .ok (.ifCond .ne 12, 3) := by decide +kernel
theorem dX1_shownLeft_11 : decode cX1_shownLeft 11 = .ok (.aload_n 0, 1) := by decide +kernel
theorem dX1_shownLeft_12 : decode cX1_shownLeft 12 = .ok (.getfield 15, 3) := by decide +kernel
theorem dX1_shownLeft_15 : decode cX1_shownLeft 15 = .ok (.iload_n 1, 1) := by decide +kernel
theorem dX1_shownLeft_16 : decode cX1_shownLeft 16 = .ok (.iaload, 1) := by decide +kernel
theorem dX1_shownLeft_17 : decode cX1_shownLeft 17 = .ok (.goto 9, 3) := by decide +kernel
theorem dX1_shownLeft_20 : decode cX1_shownLeft 20 = .ok (.aload_n 0, 1) := by decide +kernel
theorem dX1_shownLeft_21 : decode cX1_shownLeft 21 = .ok (.getfield 18, 3) := by decide +kernel
theorem dX1_shownLeft_24 : decode cX1_shownLeft 24 = .ok (.iload_n 1, 1) := by decide +kernel
theorem dX1_shownLeft_25 : decode cX1_shownLeft 25 = .ok (.iaload, 1) := by decide +kernel
theorem dX1_shownLeft_26 : decode cX1_shownLeft 26 = .ok (.ireturn, 1) := by decide +kernel
theorem dX1_shownRight_0 : decode cX1_shownRight 0 = .ok (.aload_n 0, 1) := by decide +kernel
theorem dX1_shownRight_1 : decode cX1_shownRight 1 = .ok (.getfield 43, 3) := by decide +kernel
theorem dX1_shownRight_4 : decode cX1_shownRight 4 = .ok (.iload_n 1, 1) := by decide +kernel
theorem dX1_shownRight_5 : decode cX1_shownRight 5 = .ok (.ishr, 1) := by decide +kernel
theorem dX1_shownRight_6 : decode cX1_shownRight 6 = .ok (.iconst 1, 1) := by decide +kernel
theorem dX1_shownRight_7 : decode cX1_shownRight 7 = .ok (.iand, 1) := by decide +kernel
theorem dX1_shownRight_8 : decode cX1_shownRight 8 = .ok (.ifCond .ne 12, 3) := by decide +kernel
theorem dX1_shownRight_11 : decode cX1_shownRight 11 = .ok (.aload_n 0, 1) := by decide +kernel
theorem dX1_shownRight_12 : decode cX1_shownRight 12 = .ok (.getfield 18, 3) := by decide +kernel
theorem dX1_shownRight_15 : decode cX1_shownRight 15 = .ok (.iload_n 1, 1) := by decide +kernel
theorem dX1_shownRight_16 : decode cX1_shownRight 16 = .ok (.iaload, 1) := by decide +kernel
theorem dX1_shownRight_17 : decode cX1_shownRight 17 = .ok (.goto 9, 3) := by decide +kernel
theorem dX1_shownRight_20 : decode cX1_shownRight 20 = .ok (.aload_n 0, 1) := by decide +kernel
theorem dX1_shownRight_21 : decode cX1_shownRight 21 = .ok (.getfield 15, 3) := by decide +kernel
theorem dX1_shownRight_24 : decode cX1_shownRight 24 = .ok (.iload_n 1, 1) := by decide +kernel
theorem dX1_shownRight_25 : decode cX1_shownRight 25 = .ok (.iaload, 1) := by decide +kernel
theorem dX1_shownRight_26 : decode cX1_shownRight 26 = .ok (.ireturn, 1) := by decide +kernel
theorem dX1_gapOf_0 : decode cX1_gapOf 0 = .ok (.aload_n 0, 1) := by decide +kernel
theorem dX1_gapOf_1 : decode cX1_gapOf 1 = .ok (.iload_n 1, 1) := by decide +kernel
theorem dX1_gapOf_2 : decode cX1_gapOf 2 = .ok (.invokevirtual 59, 3) := by decide +kernel
theorem dX1_gapOf_5 : decode cX1_gapOf 5 = .ok (.aload_n 0, 1) := by decide +kernel
theorem dX1_gapOf_6 : decode cX1_gapOf 6 = .ok (.iload_n 2, 1) := by decide +kernel
theorem dX1_gapOf_7 : decode cX1_gapOf 7 = .ok (.invokevirtual 62, 3) := by decide +kernel
theorem dX1_gapOf_10 : decode cX1_gapOf 10 = .ok (.isub, 1) := by decide +kernel
theorem dX1_gapOf_11 : decode cX1_gapOf 11 = .ok (.invokestatic 65, 3) := by decide +kernel
theorem dX1_gapOf_14 : decode cX1_gapOf 14 = .ok (.istore_n 3, 1) := by decide +kernel
theorem dX1_gapOf_15 : decode cX1_gapOf 15 = .ok (.iload_n 2, 1) := by decide +kernel
theorem dX1_gapOf_16 : decode cX1_gapOf 16 = .ok (.aload_n 0, 1) := by decide +kernel
theorem dX1_gapOf_17 : decode cX1_gapOf 17 = .ok (.getfield 21, 3) := by decide +kernel
theorem dX1_gapOf_20 : decode cX1_gapOf 20 = .ok (.iload_n 1, 1) := by decide +kernel
theorem dX1_gapOf_21 : decode cX1_gapOf 21 = .ok (.iaload, 1) := by decide +kernel
theorem dX1_gapOf_22 : decode cX1_gapOf 22 = .ok (.if_icmp .ne 7, 3) := by decide +kernel
theorem dX1_gapOf_25 : decode cX1_gapOf 25 = .ok (.iconst 0, 1) := by decide +kernel
theorem dX1_gapOf_26 : decode cX1_gapOf 26 = .ok (.goto 4, 3) := by decide +kernel
theorem dX1_gapOf_29 : decode cX1_gapOf 29 = .ok (.iload_n 3, 1) := by decide +kernel
theorem dX1_gapOf_30 : decode cX1_gapOf 30 = .ok (.istore 4, 2) := by decide +kernel
theorem dX1_gapOf_32 : decode cX1_gapOf 32 = .ok (.aload_n 0, 1) := by decide +kernel
theorem dX1_gapOf_33 : decode cX1_gapOf 33 = .ok (.getfield 9, 3) := by decide +kernel
theorem dX1_gapOf_36 : decode cX1_gapOf 36 = .ok (.iload_n 2, 1) := by decide +kernel
theorem dX1_gapOf_37 : decode cX1_gapOf 37 = .ok (.iaload, 1) := by decide +kernel
theorem dX1_gapOf_38 : decode cX1_gapOf 38 = .ok (.iconst 2, 1) := by decide +kernel
theorem dX1_gapOf_39 : decode cX1_gapOf 39 = .ok (.invokestatic 70, 3) := by decide +kernel
theorem dX1_gapOf_42 : decode cX1_gapOf 42 = .ok (.ifCond .eq 7, 3) := by decide +kernel
theorem dX1_gapOf_45 : decode cX1_gapOf 45 = .ok (.iconst 0, 1) := by decide +kernel
theorem dX1_gapOf_46 : decode cX1_gapOf 46 = .ok (.goto 6, 3) := by decide +kernel
theorem dX1_gapOf_49 : decode cX1_gapOf 49 = .ok (.iload_n 3, 1) := by decide +kernel
theorem dX1_gapOf_50 : decode cX1_gapOf 50 = .ok (.iconst 1, 1) := by decide +kernel
theorem dX1_gapOf_51 : decode cX1_gapOf 51 = .ok (.iadd, 1) := by decide +kernel
theorem dX1_gapOf_52 : decode cX1_gapOf 52 = .ok (.istore 5, 2) := by decide +kernel
theorem dX1_gapOf_54 : decode cX1_gapOf 54 = .ok (.iload 5, 2) := by decide +kernel
theorem dX1_gapOf_56 : decode cX1_gapOf 56 = .ok (.iconst 2, 1) := by decide +kernel
theorem dX1_gapOf_57 : decode cX1_gapOf 57 = .ok (.idiv, 1) := by decide +kernel
theorem dX1_gapOf_58 : decode cX1_gapOf 58 = .ok (.istore 6, 2) := by decide +kernel
theorem dX1_gapOf_60 : decode cX1_gapOf 60 = .ok (.aload_n 0, 1) := by decide +kernel
theorem dX1_gapOf_61 : decode cX1_gapOf 61 = .ok (.getfield 9, 3) := by decide +kernel
theorem dX1_gapOf_64 : decode cX1_gapOf 64 = .ok (.iload_n 1, 1) := by decide +kernel
theorem dX1_gapOf_65 : decode cX1_gapOf 65 = .ok (.iaload, 1) := by decide +kernel
theorem dX1_gapOf_66 : decode cX1_gapOf 66 = .ok (.tableswitch 72 1 6 #[38, 46, 49, 52, 62, 41], 38) := by decide +kernel
theorem dX1_gapOf_104 : decode cX1_gapOf 104 = .ok (.iload 4, 2) := by decide +kernel
theorem dX1_gapOf_106 : decode cX1_gapOf 106 = .ok (.ireturn, 1) := by decide +kernel
theorem dX1_gapOf_107 : decode cX1_gapOf 107 = .ok (.iload 4, 2) := by decide +kernel
theorem dX1_gapOf_109 : decode cX1_gapOf 109 = .ok (.iconst 2, 1) := by decide +kernel
theorem dX1_gapOf_110 : decode cX1_gapOf 110 = .ok (.iadd, 1) := by decide +kernel
theorem dX1_gapOf_111 : decode cX1_gapOf 111 = .ok (.ireturn, 1) := by decide +kernel
theorem dX1_gapOf_112 : decode cX1_gapOf 112 = .ok (.iload 5, 2) := by decide +kernel
theorem dX1_gapOf_114 : decode cX1_gapOf 114 = .ok (.ireturn, 1) := by decide +kernel
theorem dX1_gapOf_115 : decode cX1_gapOf 115 = .ok (.iload 6, 2) := by decide +kernel
theorem dX1_gapOf_117 : decode cX1_gapOf 117 = .ok (.ireturn, 1) := by decide +kernel
theorem dX1_gapOf_118 : decode cX1_gapOf 118 = .ok (.iload 6, 2) := by decide +kernel
theorem dX1_gapOf_120 : decode cX1_gapOf 120 = .ok (.aload_n 0, 1) := by decide +kernel
theorem dX1_gapOf_121 : decode cX1_gapOf 121 = .ok (.getfield 49, 3) := by decide +kernel
theorem dX1_gapOf_124 : decode cX1_gapOf 124 = .ok (.iconst 3, 1) := by decide +kernel
theorem dX1_gapOf_125 : decode cX1_gapOf 125 = .ok (.irem, 1) := by decide +kernel
theorem dX1_gapOf_126 : decode cX1_gapOf 126 = .ok (.iadd, 1) := by decide +kernel
theorem dX1_gapOf_127 : decode cX1_gapOf 127 = .ok (.ireturn, 1) := by decide +kernel
theorem dX1_gapOf_128 : decode cX1_gapOf 128 = .ok (.iload_n 3, 1) := by decide +kernel
theorem dX1_gapOf_129 : decode cX1_gapOf 129 = .ok (.ifCond .le 7, 3) := by decide +kernel
theorem dX1_gapOf_132 : decode cX1_gapOf 132 = .ok (.iconst 1, 1) := by decide +kernel
theorem dX1_gapOf_133 : decode cX1_gapOf 133 = .ok (.goto 4, 3) := by decide +kernel
theorem dX1_gapOf_136 : decode cX1_gapOf 136 = .ok (.iconst 0, 1) := by decide +kernel
theorem dX1_gapOf_137 : decode cX1_gapOf 137 = .ok (.ireturn, 1) := by decide +kernel
theorem dX1_gapOf_138 : decode cX1_gapOf 138 = .ok (.iload_n 3, 1) := by decide +kernel
theorem dX1_gapOf_139 : decode cX1_gapOf 139 = .ok (.ireturn, 1) := by decide +kernel
theorem dX1_edgeOf_0 : decode cX1_edgeOf 0 = .ok (.iload_n 2, 1) := by decide +kernel
theorem dX1_edgeOf_1 : decode cX1_edgeOf 1 = .ok (.ifCond .ne 11, 3) := by decide +kernel
theorem dX1_edgeOf_4 : decode cX1_edgeOf 4 = .ok (.aload_n 0, 1) := by decide +kernel
theorem dX1_edgeOf_5 : decode cX1_edgeOf 5 = .ok (.iload_n 1, 1) := by decide +kernel
theorem dX1_edgeOf_6 : decode cX1_edgeOf 6 = .ok (.invokevirtual 62, 3) := by decide +kernel
theorem dX1_edgeOf_9 : decode cX1_edgeOf 9 = .ok (.goto 8, 3) := by decide +kernel
theorem dX1_edgeOf_12 : decode cX1_edgeOf 12 = .ok (.aload_n 0, 1) := by decide +kernel
theorem dX1_edgeOf_13 : decode cX1_edgeOf 13 = .ok (.iload_n 1, 1) := by decide +kernel
theorem dX1_edgeOf_14 : decode cX1_edgeOf 14 = .ok (.invokevirtual 59, 3) := by decide +kernel
theorem dX1_edgeOf_17 : decode cX1_edgeOf 17 = .ok (.istore_n 3, 1) := by decide +kernel
theorem dX1_edgeOf_18 : decode cX1_edgeOf 18 = .ok (.aload_n 0, 1) := by decide +kernel
theorem dX1_edgeOf_19 : decode cX1_edgeOf 19 = .ok (.getfield 9, 3) := by decide +kernel
theorem dX1_edgeOf_22 : decode cX1_edgeOf 22 = .ok (.iload_n 1, 1) := by decide +kernel
theorem dX1_edgeOf_23 : decode cX1_edgeOf 23 = .ok (.iaload, 1) := by decide +kernel
theorem dX1_edgeOf_24 : decode cX1_edgeOf 24 = .ok (.tableswitch 53 2 6 #[38, 38, 42, 48, 36], 36) := by decide +kernel
theorem dX1_edgeOf_60 : decode cX1_edgeOf 60 = .ok (.iconst 0, 1) := by decide +kernel
theorem dX1_edgeOf_61 : decode cX1_edgeOf 61 = .ok (.ireturn, 1) := by decide +kernel
theorem dX1_edgeOf_62 : decode cX1_edgeOf 62 = .ok (.iload_n 3, 1) := by decide +kernel
theorem dX1_edgeOf_63 : decode cX1_edgeOf 63 = .ok (.iconst 2, 1) := by decide +kernel
theorem dX1_edgeOf_64 : decode cX1_edgeOf 64 = .ok (.idiv, 1) := by decide +kernel
theorem dX1_edgeOf_65 : decode cX1_edgeOf 65 = .ok (.ireturn, 1) := by decide +kernel
theorem dX1_edgeOf_66 : decode cX1_edgeOf 66 = .ok (.iload_n 3, 1) := by decide +kernel
theorem dX1_edgeOf_67 : decode cX1_edgeOf 67 = .ok (.iconst 2, 1) := by decide +kernel
theorem dX1_edgeOf_68 : decode cX1_edgeOf 68 = .ok (.idiv, 1) := by decide +kernel
theorem dX1_edgeOf_69 : decode cX1_edgeOf 69 = .ok (.iconst 1, 1) := by decide +kernel
theorem dX1_edgeOf_70 : decode cX1_edgeOf 70 = .ok (.iadd, 1) := by decide +kernel
theorem dX1_edgeOf_71 : decode cX1_edgeOf 71 = .ok (.ireturn, 1) := by decide +kernel
theorem dX1_edgeOf_72 : decode cX1_edgeOf 72 = .ok (.bipush 9, 2) := by decide +kernel
theorem dX1_edgeOf_74 : decode cX1_edgeOf 74 = .ok (.iload_n 3, 1) := by decide +kernel
theorem dX1_edgeOf_75 : decode cX1_edgeOf 75 = .ok (.isub, 1) := by decide +kernel
theorem dX1_edgeOf_76 : decode cX1_edgeOf 76 = .ok (.ireturn, 1) := by decide +kernel
theorem dX1_edgeOf_77 : decode cX1_edgeOf 77 = .ok (.iload_n 3, 1) := by decide +kernel
theorem dX1_edgeOf_78 : decode cX1_edgeOf 78 = .ok (.ireturn, 1) := by decide +kernel
theorem dX1_growsOf_0 : decode cX1_growsOf 0 = .ok (.iconst 1, 1) := by decide +kernel
theorem dX1_growsOf_1 : decode cX1_growsOf 1 = .ok (.istore_n 2, 1) := by decide +kernel
theorem dX1_growsOf_2 : decode cX1_growsOf 2 = .ok (.iload_n 2, 1) := by decide +kernel
theorem dX1_growsOf_3 : decode cX1_growsOf 3 = .ok (.iconst 2, 1) := by decide +kernel
theorem dX1_growsOf_4 : decode cX1_growsOf 4 = .ok (.iadd, 1) := by decide +kernel
theorem dX1_growsOf_5 : decode cX1_growsOf 5 = .ok (.istore_n 3, 1) := by decide +kernel
theorem dX1_growsOf_6 : decode cX1_growsOf 6 = .ok (.iload_n 3, 1) := by decide +kernel
theorem dX1_growsOf_7 : decode cX1_growsOf 7 = .ok (.iconst 1, 1) := by decide +kernel
theorem dX1_growsOf_8 : decode cX1_growsOf 8 = .ok (.iadd, 1) := by decide +kernel
theorem dX1_growsOf_9 : decode cX1_growsOf 9 = .ok (.istore 4, 2) := by decide +kernel
theorem dX1_growsOf_11 : decode cX1_growsOf 11 = .ok (.aload_n 0, 1) := by decide +kernel
theorem dX1_growsOf_12 : decode cX1_growsOf 12 = .ok (.getfield 9, 3) := by decide +kernel
theorem dX1_growsOf_15 : decode cX1_growsOf 15 = .ok (.iload_n 1, 1) := by decide +kernel
theorem dX1_growsOf_16 : decode cX1_growsOf 16 = .ok (.iaload, 1) := by decide +kernel
theorem dX1_growsOf_17 : decode cX1_growsOf 17 = .ok (.tableswitch 55 1 6 #[39, 43, 45, 48, 53, 39], 39) := by decide +kernel
theorem dX1_growsOf_56 : decode cX1_growsOf 56 = .ok (.iload_n 2, 1) := by decide +kernel
theorem dX1_growsOf_57 : decode cX1_growsOf 57 = .ok (.iconst 1, 1) := by decide +kernel
theorem dX1_growsOf_58 : decode cX1_growsOf 58 = .ok (.isub, 1) := by decide +kernel
theorem dX1_growsOf_59 : decode cX1_growsOf 59 = .ok (.ireturn, 1) := by decide +kernel
theorem dX1_growsOf_60 : decode cX1_growsOf 60 = .ok (.iload_n 3, 1) := by decide +kernel
theorem dX1_growsOf_61 : decode cX1_growsOf 61 = .ok (.ireturn, 1) := by decide +kernel
theorem dX1_growsOf_62 : decode cX1_growsOf 62 = .ok (.iload 4, 2) := by decide +kernel
theorem dX1_growsOf_64 : decode cX1_growsOf 64 = .ok (.ireturn, 1) := by decide +kernel
theorem dX1_growsOf_65 : decode cX1_growsOf 65 = .ok (.iconst 2, 1) := by decide +kernel
theorem dX1_growsOf_66 : decode cX1_growsOf 66 = .ok (.iload 4, 2) := by decide +kernel
theorem dX1_growsOf_68 : decode cX1_growsOf 68 = .ok (.imul, 1) := by decide +kernel
theorem dX1_growsOf_69 : decode cX1_growsOf 69 = .ok (.ireturn, 1) := by decide +kernel
theorem dX1_growsOf_70 : decode cX1_growsOf 70 = .ok (.iconst 0, 1) := by decide +kernel
theorem dX1_growsOf_71 : decode cX1_growsOf 71 = .ok (.ireturn, 1) := by decide +kernel
theorem dX1_growsOf_72 : decode cX1_growsOf 72 = .ok (.iload_n 2, 1) := by decide +kernel
theorem dX1_growsOf_73 : decode cX1_growsOf 73 = .ok (.ireturn, 1) := by decide +kernel
theorem dX1_gapBehind_0 : decode cX1_gapBehind 0 = .ok (.aload_n 0, 1) := by decide +kernel
theorem dX1_gapBehind_1 : decode cX1_gapBehind 1 = .ok (.aload_n 0, 1) := by decide +kernel
theorem dX1_gapBehind_2 : decode cX1_gapBehind 2 = .ok (.getfield 24, 3) := by decide +kernel
theorem dX1_gapBehind_5 : decode cX1_gapBehind 5 = .ok (.iload_n 1, 1) := by decide +kernel
theorem dX1_gapBehind_6 : decode cX1_gapBehind 6 = .ok (.iaload, 1) := by decide +kernel
theorem dX1_gapBehind_7 : decode cX1_gapBehind 7 = .ok (.aload_n 0, 1) := by decide +kernel
theorem dX1_gapBehind_8 : decode cX1_gapBehind 8 = .ok (.getfield 24, 3) := by decide +kernel
theorem dX1_gapBehind_11 : decode cX1_gapBehind 11 = .ok (.iload_n 1, 1) := by decide +kernel
theorem dX1_gapBehind_12 : decode cX1_gapBehind 12 = .ok (.iconst 1, 1) := by decide +kernel
theorem dX1_gapBehind_13 : decode cX1_gapBehind 13 = .ok (.iadd, 1) := by decide +kernel
theorem dX1_gapBehind_14 : decode cX1_gapBehind 14 = .ok (.iaload, 1) := by decide +kernel
theorem dX1_gapBehind_15 : decode cX1_gapBehind 15 = .ok (.invokevirtual 74, 3) := by decide +kernel
theorem dX1_gapBehind_18 : decode cX1_gapBehind 18 = .ok (.ireturn, 1) := by decide +kernel
theorem dX1_sumOfRow_0 : decode cX1_sumOfRow 0 = .ok (.aload_n 0, 1) := by decide +kernel
theorem dX1_sumOfRow_1 : decode cX1_sumOfRow 1 = .ok (.getfield 46, 3) := by decide +kernel
theorem dX1_sumOfRow_4 : decode cX1_sumOfRow 4 = .ok (.ifCond .ne 5, 3) := by decide +kernel
theorem dX1_sumOfRow_7 : decode cX1_sumOfRow 7 = .ok (.iconst 0, 1) := by decide +kernel
theorem dX1_sumOfRow_8 : decode cX1_sumOfRow 8 = .ok (.ireturn, 1) := by decide +kernel
theorem dX1_sumOfRow_9 : decode cX1_sumOfRow 9 = .ok (.aload_n 0, 1) := by decide +kernel
theorem dX1_sumOfRow_10 : decode cX1_sumOfRow 10 = .ok (.aload_n 0, 1) := by decide +kernel
theorem dX1_sumOfRow_11 : decode cX1_sumOfRow 11 = .ok (.getfield 24, 3) := by decide +kernel
theorem dX1_sumOfRow_14 : decode cX1_sumOfRow 14 = .ok (.iconst 0, 1) := by decide +kernel
theorem dX1_sumOfRow_15 : decode cX1_sumOfRow 15 = .ok (.iaload, 1) := by decide +kernel
theorem dX1_sumOfRow_16 : decode cX1_sumOfRow 16 = .ok (.iconst 0, 1) := by decide +kernel
theorem dX1_sumOfRow_17 : decode cX1_sumOfRow 17 = .ok (.invokevirtual 78, 3) := by decide +kernel
theorem dX1_sumOfRow_20 : decode cX1_sumOfRow 20 = .ok (.aload_n 0, 1) := by decide +kernel
theorem dX1_sumOfRow_21 : decode cX1_sumOfRow 21 = .ok (.aload_n 0, 1) := by decide +kernel
theorem dX1_sumOfRow_22 : decode cX1_sumOfRow 22 = .ok (.getfield 24, 3) := by decide +kernel
theorem dX1_sumOfRow_25 : decode cX1_sumOfRow 25 = .ok (.aload_n 0, 1) := by decide +kernel
theorem dX1_sumOfRow_26 : decode cX1_sumOfRow 26 = .ok (.getfield 46, 3) := by decide +kernel
theorem dX1_sumOfRow_29 : decode cX1_sumOfRow 29 = .ok (.iconst 1, 1) := by decide +kernel
theorem dX1_sumOfRow_30 : decode cX1_sumOfRow 30 = .ok (.isub, 1) := by decide +kernel
theorem dX1_sumOfRow_31 : decode cX1_sumOfRow 31 = .ok (.iaload, 1) := by decide +kernel
theorem dX1_sumOfRow_32 : decode cX1_sumOfRow 32 = .ok (.iconst 1, 1) := by decide +kernel
theorem dX1_sumOfRow_33 : decode cX1_sumOfRow 33 = .ok (.invokevirtual 78, 3) := by decide +kernel
theorem dX1_sumOfRow_36 : decode cX1_sumOfRow 36 = .ok (.iadd, 1) := by decide +kernel
theorem dX1_sumOfRow_37 : decode cX1_sumOfRow 37 = .ok (.istore_n 1, 1) := by decide +kernel
theorem dX1_sumOfRow_38 : decode cX1_sumOfRow 38 = .ok (.iconst 0, 1) := by decide +kernel
theorem dX1_sumOfRow_39 : decode cX1_sumOfRow 39 = .ok (.istore_n 2, 1) := by decide +kernel
theorem dX1_sumOfRow_40 : decode cX1_sumOfRow 40 = .ok (.iload_n 2, 1) := by decide +kernel
theorem dX1_sumOfRow_41 : decode cX1_sumOfRow 41 = .ok (.iconst 1, 1) := by decide +kernel
theorem dX1_sumOfRow_42 : decode cX1_sumOfRow 42 = .ok (.iadd, 1) := by decide +kernel
theorem dX1_sumOfRow_43 : decode cX1_sumOfRow 43 = .ok (.aload_n 0, 1) := by decide +kernel
theorem dX1_sumOfRow_44 : decode cX1_sumOfRow 44 = .ok (.getfield 46, 3) := by decide +kernel
theorem dX1_sumOfRow_47 : decode cX1_sumOfRow 47 = .ok (.if_icmp .ge 17, 3) := by decide +kernel
theorem dX1_sumOfRow_50 : decode cX1_sumOfRow 50 = .ok (.iload_n 1, 1) := by decide +kernel
theorem dX1_sumOfRow_51 : decode cX1_sumOfRow 51 = .ok (.aload_n 0, 1) := by decide +kernel
theorem dX1_sumOfRow_52 : decode cX1_sumOfRow 52 = .ok (.iload_n 2, 1) := by decide +kernel
theorem dX1_sumOfRow_53 : decode cX1_sumOfRow 53 = .ok (.invokevirtual 81, 3) := by decide +kernel
theorem dX1_sumOfRow_56 : decode cX1_sumOfRow 56 = .ok (.iadd, 1) := by decide +kernel
theorem dX1_sumOfRow_57 : decode cX1_sumOfRow 57 = .ok (.istore_n 1, 1) := by decide +kernel
theorem dX1_sumOfRow_58 : decode cX1_sumOfRow 58 = .ok (.iinc 2 1, 3) := by decide +kernel
theorem dX1_sumOfRow_61 : decode cX1_sumOfRow 61 = .ok (.goto (-21), 3) := by decide +kernel
theorem dX1_sumOfRow_64 : decode cX1_sumOfRow 64 = .ok (.iload_n 1, 1) := by decide +kernel
theorem dX1_sumOfRow_65 : decode cX1_sumOfRow 65 = .ok (.ireturn, 1) := by decide +kernel
theorem dX1_exchange_0 : decode cX1_exchange 0 = .ok (.aload_n 0, 1) := by decide +kernel
theorem dX1_exchange_1 : decode cX1_exchange 1 = .ok (.iload_n 1, 1) := by decide +kernel
theorem dX1_exchange_2 : decode cX1_exchange 2 = .ok (.invokevirtual 84, 3) := by decide +kernel
theorem dX1_exchange_5 : decode cX1_exchange 5 = .ok (.ifCond .eq 37, 3) := by decide +kernel
theorem dX1_exchange_8 : decode cX1_exchange 8 = .ok (.aload_n 0, 1) := by decide +kernel
theorem dX1_exchange_9 : decode cX1_exchange 9 = .ok (.iload_n 2, 1) := by decide +kernel
theorem dX1_exchange_10 : decode cX1_exchange 10 = .ok (.invokevirtual 84, 3) := by decide +kernel
theorem dX1_exchange_13 : decode cX1_exchange 13 = .ok (.ifCond .eq 29, 3) := by decide +kernel
theorem dX1_exchange_16 : decode cX1_exchange 16 = .ok (.aload_n 0, 1) := by decide +kernel
theorem dX1_exchange_17 : decode cX1_exchange 17 = .ok (.getfield 24, 3) := by decide +kernel
theorem dX1_exchange_20 : decode cX1_exchange 20 = .ok (.iload_n 1, 1) := by decide +kernel
theorem dX1_exchange_21 : decode cX1_exchange 21 = .ok (.iaload, 1) := by decide +kernel
theorem dX1_exchange_22 : decode cX1_exchange 22 = .ok (.istore_n 3, 1) := by decide +kernel
theorem dX1_exchange_23 : decode cX1_exchange 23 = .ok (.aload_n 0, 1) := by decide +kernel
theorem dX1_exchange_24 : decode cX1_exchange 24 = .ok (.getfield 24, 3) := by decide +kernel
theorem dX1_exchange_27 : decode cX1_exchange 27 = .ok (.iload_n 1, 1) := by decide +kernel
theorem dX1_exchange_28 : decode cX1_exchange 28 = .ok (.aload_n 0, 1) := by decide +kernel
theorem dX1_exchange_29 : decode cX1_exchange 29 = .ok (.getfield 24, 3) := by decide +kernel
theorem dX1_exchange_32 : decode cX1_exchange 32 = .ok (.iload_n 2, 1) := by decide +kernel
theorem dX1_exchange_33 : decode cX1_exchange 33 = .ok (.iaload, 1) := by decide +kernel
theorem dX1_exchange_34 : decode cX1_exchange 34 = .ok (.iastore, 1) := by decide +kernel
theorem dX1_exchange_35 : decode cX1_exchange 35 = .ok (.aload_n 0, 1) := by decide +kernel
theorem dX1_exchange_36 : decode cX1_exchange 36 = .ok (.getfield 24, 3) := by decide +kernel
theorem dX1_exchange_39 : decode cX1_exchange 39 = .ok (.iload_n 2, 1) := by decide +kernel
theorem dX1_exchange_40 : decode cX1_exchange 40 = .ok (.iload_n 3, 1) := by decide +kernel
theorem dX1_exchange_41 : decode cX1_exchange 41 = .ok (.iastore, 1) := by decide +kernel
theorem dX1_exchange_42 : decode cX1_exchange 42 = .ok (.return_, 1) := by decide +kernel
theorem dX1_passYears_0 : decode cX1_passYears 0 = .ok (.iconst 0, 1) := by decide +kernel
theorem dX1_passYears_1 : decode cX1_passYears 1 = .ok (.istore_n 2, 1) := by decide +kernel
theorem dX1_passYears_2 : decode cX1_passYears 2 = .ok (.iload_n 2, 1) := by decide +kernel
theorem dX1_passYears_3 : decode cX1_passYears 3 = .ok (.iload_n 1, 1) := by decide +kernel
theorem dX1_passYears_4 : decode cX1_passYears 4 = .ok (.if_icmp .ge 13, 3) := by decide +kernel
theorem dX1_passYears_7 : decode cX1_passYears 7 = .ok (.aload_n 0, 1) := by decide +kernel
theorem dX1_passYears_8 : decode cX1_passYears 8 = .ok (.invokevirtual 88, 3) := by decide +kernel
theorem dX1_passYears_11 : decode cX1_passYears 11 = .ok (.iinc 2 1, 3) := by decide +kernel
theorem dX1_passYears_14 : decode cX1_passYears 14 = .ok (.goto (-12), 3) := by decide +kernel
theorem dX1_passYears_17 : decode cX1_passYears 17 = .ok (.return_, 1) := by decide +kernel
theorem dX1_passYear_0 : decode cX1_passYear 0 = .ok (.aload_n 0, 1) := by decide +kernel
theorem dX1_passYear_1 : decode cX1_passYear 1 = .ok (.getfield 27, 3) := by decide +kernel
theorem dX1_passYear_4 : decode cX1_passYear 4 = .ok (.aload_n 0, 1) := by decide +kernel
theorem dX1_passYear_5 : decode cX1_passYear 5 = .ok (.getfield 49, 3) := by decide +kernel
theorem dX1_passYear_8 : decode cX1_passYear 8 = .ok (.bipush 6, 2) := by decide +kernel
theorem dX1_passYear_10 : decode cX1_passYear 10 = .ok (.irem, 1) := by decide +kernel
theorem dX1_passYear_11 : decode cX1_passYear 11 = .ok (.iaload, 1) := by decide +kernel
theorem dX1_passYear_12 : decode cX1_passYear 12 = .ok (.istore_n 1, 1) := by decide +kernel
theorem dX1_passYear_13 : decode cX1_passYear 13 = .ok (.aload_n 0, 1) := by decide +kernel
theorem dX1_passYear_14 : decode cX1_passYear 14 = .ok (.iload_n 1, 1) := by decide +kernel
theorem dX1_passYear_15 : decode cX1_passYear 15 = .ok (.bipush 10, 2) := by decide +kernel
theorem dX1_passYear_17 : decode cX1_passYear 17 = .ok (.idiv, 1) := by decide +kernel
theorem dX1_passYear_18 : decode cX1_passYear 18 = .ok (.iload_n 1, 1) := by decide +kernel
theorem dX1_passYear_19 : decode cX1_passYear 19 = .ok (.bipush 10, 2) := by decide +kernel
theorem dX1_passYear_21 : decode cX1_passYear 21 = .ok (.irem, 1) := by decide +kernel
theorem dX1_passYear_22 : decode cX1_passYear 22 = .ok (.invokevirtual 91, 3) := by decide +kernel
theorem dX1_passYear_25 : decode cX1_passYear 25 = .ok (.aload_n 0, 1) := by decide +kernel
theorem dX1_passYear_26 : decode cX1_passYear 26 = .ok (.getfield 49, 3) := by decide +kernel
theorem dX1_passYear_29 : decode cX1_passYear 29 = .ok (.iconst 3, 1) := by decide +kernel
theorem dX1_passYear_30 : decode cX1_passYear 30 = .ok (.irem, 1) := by decide +kernel
theorem dX1_passYear_31 : decode cX1_passYear 31 = .ok (.iconst 2, 1) := by decide +kernel
theorem dX1_passYear_32 : decode cX1_passYear 32 = .ok (.if_icmp .ne 7, 3) := by decide +kernel
theorem dX1_passYear_35 : decode cX1_passYear 35 = .ok (.aload_n 0, 1) := by decide +kernel
theorem dX1_passYear_36 : decode cX1_passYear 36 = .ok (.invokevirtual 95, 3) := by decide +kernel
theorem dX1_passYear_39 : decode cX1_passYear 39 = .ok (.aload_n 0, 1) := by decide +kernel
theorem dX1_passYear_40 : decode cX1_passYear 40 = .ok (.getfield 49, 3) := by decide +kernel
theorem dX1_passYear_43 : decode cX1_passYear 43 = .ok (.ldc 98, 2) := by decide +kernel
theorem dX1_passYear_45 : decode cX1_passYear 45 = .ok (.if_icmp .ge 13, 3) := by decide +kernel
theorem dX1_passYear_48 : decode cX1_passYear 48 = .ok (.aload_n 0, 1) := by decide +kernel
theorem dX1_passYear_49 : decode cX1_passYear 49 = .ok (.dup, 1) := by decide +kernel
theorem dX1_passYear_50 : decode cX1_passYear 50 = .ok (.getfield 49, 3) := by decide +kernel
theorem dX1_passYear_53 : decode cX1_passYear 53 = .ok (.iconst 1, 1) := by decide +kernel
theorem dX1_passYear_54 : decode cX1_passYear 54 = .ok (.iadd, 1) := by decide +kernel
theorem dX1_passYear_55 : decode cX1_passYear 55 = .ok (.putfield 49, 3) := by decide +kernel
theorem dX1_passYear_58 : decode cX1_passYear 58 = .ok (.return_, 1) := by decide +kernel
theorem dX1_cut_0 : decode cX1_cut 0 = .ok (.iconst 0, 1) := by decide +kernel
theorem dX1_cut_1 : decode cX1_cut 1 = .ok (.istore_n 1, 1) := by decide +kernel
theorem dX1_cut_2 : decode cX1_cut 2 = .ok (.iload_n 1, 1) := by decide +kernel
theorem dX1_cut_3 : decode cX1_cut 3 = .ok (.aload_n 0, 1) := by decide +kernel
theorem dX1_cut_4 : decode cX1_cut 4 = .ok (.getfield 46, 3) := by decide +kernel
theorem dX1_cut_7 : decode cX1_cut 7 = .ok (.if_icmp .ge 30, 3) := by decide +kernel
theorem dX1_cut_10 : decode cX1_cut 10 = .ok (.aload_n 0, 1) := by decide +kernel
theorem dX1_cut_11 : decode cX1_cut 11 = .ok (.getfield 15, 3) := by decide +kernel
theorem dX1_cut_14 : decode cX1_cut 14 = .ok (.iload_n 1, 1) := by decide +kernel
theorem dX1_cut_15 : decode cX1_cut 15 = .ok (.aload_n 0, 1) := by decide +kernel
theorem dX1_cut_16 : decode cX1_cut 16 = .ok (.getfield 15, 3) := by decide +kernel
theorem dX1_cut_19 : decode cX1_cut 19 = .ok (.iload_n 1, 1) := by decide +kernel
theorem dX1_cut_20 : decode cX1_cut 20 = .ok (.iaload, 1) := by decide +kernel
theorem dX1_cut_21 : decode cX1_cut 21 = .ok (.aload_n 0, 1) := by decide +kernel
theorem dX1_cut_22 : decode cX1_cut 22 = .ok (.iload_n 1, 1) := by decide +kernel
theorem dX1_cut_23 : decode cX1_cut 23 = .ok (.invokevirtual 56, 3) := by decide +kernel
theorem dX1_cut_26 : decode cX1_cut 26 = .ok (.iadd, 1) := by decide +kernel
theorem dX1_cut_27 : decode cX1_cut 27 = .ok (.bipush 10, 2) := by decide +kernel
theorem dX1_cut_29 : decode cX1_cut 29 = .ok (.irem, 1) := by decide +kernel
theorem dX1_cut_30 : decode cX1_cut 30 = .ok (.iastore, 1) := by decide +kernel
theorem dX1_cut_31 : decode cX1_cut 31 = .ok (.iinc 1 1, 3) := by decide +kernel
theorem dX1_cut_34 : decode cX1_cut 34 = .ok (.goto (-32), 3) := by decide +kernel
theorem dX1_cut_37 : decode cX1_cut 37 = .ok (.return_, 1) := by decide +kernel
theorem dX1_draw_0 : decode cX1_draw 0 = .ok (.aload_n 0, 1) := by decide +kernel
theorem dX1_draw_1 : decode cX1_draw 1 = .ok (.aload_n 0, 1) := by decide +kernel
theorem dX1_draw_2 : decode cX1_draw 2 = .ok (.getfield 33, 3) := by decide +kernel
theorem dX1_draw_5 : decode cX1_draw 5 = .ok (.ldc 99, 2) := by decide +kernel
theorem dX1_draw_7 : decode cX1_draw 7 = .ok (.imul, 1) := by decide +kernel
theorem dX1_draw_8 : decode cX1_draw 8 = .ok (.sipush 12345, 3) := by decide +kernel
theorem dX1_draw_11 : decode cX1_draw 11 = .ok (.iadd, 1) := by decide +kernel
theorem dX1_draw_12 : decode cX1_draw 12 = .ok (.putfield 33, 3) := by decide +kernel
theorem dX1_draw_15 : decode cX1_draw 15 = .ok (.aload_n 0, 1) := by decide +kernel
theorem dX1_draw_16 : decode cX1_draw 16 = .ok (.getfield 33, 3) := by decide +kernel
theorem dX1_draw_19 : decode cX1_draw 19 = .ok (.bipush 8, 2) := by decide +kernel
theorem dX1_draw_21 : decode cX1_draw 21 = .ok (.iushr, 1) := by decide +kernel
theorem dX1_draw_22 : decode cX1_draw 22 = .ok (.ireturn, 1) := by decide +kernel
theorem dX1_isGranted_0 : decode cX1_isGranted 0 = .ok (.aload_n 0, 1) := by decide +kernel
theorem dX1_isGranted_1 : decode cX1_isGranted 1 = .ok (.iload_n 1, 1) := by decide +kernel
theorem dX1_isGranted_2 : decode cX1_isGranted 2 = .ok (.invokevirtual 52, 3) := by decide +kernel
theorem dX1_isGranted_5 : decode cX1_isGranted 5 = .ok (.iconst 1, 1) := by decide +kernel
theorem dX1_isGranted_6 : decode cX1_isGranted 6 = .ok (.iadd, 1) := by decide +kernel
theorem dX1_isGranted_7 : decode cX1_isGranted 7 = .ok (.istore_n 2, 1) := by decide +kernel
theorem dX1_isGranted_8 : decode cX1_isGranted 8 = .ok (.iload_n 2, 1) := by decide +kernel
theorem dX1_isGranted_9 : decode cX1_isGranted 9 = .ok (.aload_n 0, 1) := by decide +kernel
theorem dX1_isGranted_10 : decode cX1_isGranted 10 = .ok (.getfield 46, 3) := by decide +kernel
theorem dX1_isGranted_13 : decode cX1_isGranted 13 = .ok (.if_icmp .ge 22, 3) := by decide +kernel
theorem dX1_isGranted_16 : decode cX1_isGranted 16 = .ok (.aload_n 0, 1) := by decide +kernel
theorem dX1_isGranted_17 : decode cX1_isGranted 17 = .ok (.getfield 24, 3) := by decide +kernel
theorem dX1_isGranted_20 : decode cX1_isGranted 20 = .ok (.iload_n 2, 1) := by decide +kernel
theorem dX1_isGranted_21 : decode cX1_isGranted 21 = .ok (.iaload, 1) := by decide +kernel
theorem dX1_isGranted_22 : decode cX1_isGranted 22 = .ok (.aload_n 0, 1) := by decide +kernel
theorem dX1_isGranted_23 : decode cX1_isGranted 23 = .ok (.getfield 21, 3) := by decide +kernel
theorem dX1_isGranted_26 : decode cX1_isGranted 26 = .ok (.iload_n 1, 1) := by decide +kernel
theorem dX1_isGranted_27 : decode cX1_isGranted 27 = .ok (.iaload, 1) := by decide +kernel
theorem dX1_isGranted_28 : decode cX1_isGranted 28 = .ok (.if_icmp .ne 7, 3) := by decide +kernel
theorem dX1_isGranted_31 : decode cX1_isGranted 31 = .ok (.iconst 1, 1) := by decide +kernel
theorem dX1_isGranted_32 : decode cX1_isGranted 32 = .ok (.goto 4, 3) := by decide +kernel
theorem dX1_isGranted_35 : decode cX1_isGranted 35 = .ok (.iconst 0, 1) := by decide +kernel
theorem dX1_isGranted_36 : decode cX1_isGranted 36 = .ok (.ireturn, 1) := by decide +kernel
theorem dX1_grantedPieces_0 : decode cX1_grantedPieces 0 = .ok (.iconst 0, 1) := by decide +kernel
theorem dX1_grantedPieces_1 : decode cX1_grantedPieces 1 = .ok (.istore_n 1, 1) := by decide +kernel
theorem dX1_grantedPieces_2 : decode cX1_grantedPieces 2 = .ok (.iconst 0, 1) := by decide +kernel
theorem dX1_grantedPieces_3 : decode cX1_grantedPieces 3 = .ok (.istore_n 2, 1) := by decide +kernel
theorem dX1_grantedPieces_4 : decode cX1_grantedPieces 4 = .ok (.iload_n 2, 1) := by decide +kernel
theorem dX1_grantedPieces_5 : decode cX1_grantedPieces 5 = .ok (.aload_n 0, 1) := by decide +kernel
theorem dX1_grantedPieces_6 : decode cX1_grantedPieces 6 = .ok (.getfield 46, 3) := by decide +kernel
theorem dX1_grantedPieces_9 : decode cX1_grantedPieces 9 = .ok (.if_icmp .ge 23, 3) := by decide +kernel
theorem dX1_grantedPieces_12 : decode cX1_grantedPieces 12 = .ok (.aload_n 0, 1) := by decide +kernel
theorem dX1_grantedPieces_13 : decode cX1_grantedPieces 13 = .ok (.iload_n 2, 1) := by decide +kernel
theorem dX1_grantedPieces_14 : decode cX1_grantedPieces 14 = .ok (.invokevirtual 100, 3) := by decide +kernel
theorem dX1_grantedPieces_17 : decode cX1_grantedPieces 17 = .ok (.ifCond .eq 9, 3) := by decide +kernel
theorem dX1_grantedPieces_20 : decode cX1_grantedPieces 20 = .ok (.iload_n 1, 1) := by decide +kernel
theorem dX1_grantedPieces_21 : decode cX1_grantedPieces 21 = .ok (.iconst 1, 1) := by decide +kernel
theorem dX1_grantedPieces_22 : decode cX1_grantedPieces 22 = .ok (.iload_n 2, 1) := by decide +kernel
theorem dX1_grantedPieces_23 : decode cX1_grantedPieces 23 = .ok (.ishl, 1) := by decide +kernel
theorem dX1_grantedPieces_24 : decode cX1_grantedPieces 24 = .ok (.ior, 1) := by decide +kernel
theorem dX1_grantedPieces_25 : decode cX1_grantedPieces 25 = .ok (.istore_n 1, 1) := by decide +kernel
theorem dX1_grantedPieces_26 : decode cX1_grantedPieces 26 = .ok (.iinc 2 1, 3) := by decide +kernel
theorem dX1_grantedPieces_29 : decode cX1_grantedPieces 29 = .ok (.goto (-25), 3) := by decide +kernel
theorem dX1_grantedPieces_32 : decode cX1_grantedPieces 32 = .ok (.iload_n 1, 1) := by decide +kernel
theorem dX1_grantedPieces_33 : decode cX1_grantedPieces 33 = .ok (.ireturn, 1) := by decide +kernel
theorem dX1_closedPlaces_0 : decode cX1_closedPlaces 0 = .ok (.iconst 0, 1) := by decide +kernel
theorem dX1_closedPlaces_1 : decode cX1_closedPlaces 1 = .ok (.istore_n 1, 1) := by decide +kernel
theorem dX1_closedPlaces_2 : decode cX1_closedPlaces 2 = .ok (.iconst 0, 1) := by decide +kernel
theorem dX1_closedPlaces_3 : decode cX1_closedPlaces 3 = .ok (.istore_n 2, 1) := by decide +kernel
theorem dX1_closedPlaces_4 : decode cX1_closedPlaces 4 = .ok (.iload_n 2, 1) := by decide +kernel
theorem dX1_closedPlaces_5 : decode cX1_closedPlaces 5 = .ok (.iconst 1, 1) := by decide +kernel
theorem dX1_closedPlaces_6 : decode cX1_closedPlaces 6 = .ok (.iadd, 1) := by decide +kernel
theorem dX1_closedPlaces_7 : decode cX1_closedPlaces 7 = .ok (.aload_n 0, 1) := by decide +kernel
theorem dX1_closedPlaces_8 : decode cX1_closedPlaces 8 = .ok (.getfield 46, 3) := by decide +kernel
theorem dX1_closedPlaces_11 : decode cX1_closedPlaces 11 = .ok (.if_icmp .ge 23, 3) := by decide +kernel
theorem dX1_closedPlaces_14 : decode cX1_closedPlaces 14 = .ok (.aload_n 0, 1) := by decide +kernel
theorem dX1_closedPlaces_15 : decode cX1_closedPlaces 15 = .ok (.iload_n 2, 1) := by decide +kernel
theorem dX1_closedPlaces_16 : decode cX1_closedPlaces 16 = .ok (.invokevirtual 81, 3) := by decide +kernel
theorem dX1_closedPlaces_19 : decode cX1_closedPlaces 19 = .ok (.ifCond .ne 9, 3) := by decide +kernel
theorem dX1_closedPlaces_22 : decode cX1_closedPlaces 22 = .ok (.iload_n 1, 1) := by decide +kernel
theorem dX1_closedPlaces_23 : decode cX1_closedPlaces 23 = .ok (.iconst 1, 1) := by decide +kernel
theorem dX1_closedPlaces_24 : decode cX1_closedPlaces 24 = .ok (.iload_n 2, 1) := by decide +kernel
theorem dX1_closedPlaces_25 : decode cX1_closedPlaces 25 = .ok (.ishl, 1) := by decide +kernel
theorem dX1_closedPlaces_26 : decode cX1_closedPlaces 26 = .ok (.ior, 1) := by decide +kernel
theorem dX1_closedPlaces_27 : decode cX1_closedPlaces 27 = .ok (.istore_n 1, 1) := by decide +kernel
theorem dX1_closedPlaces_28 : decode cX1_closedPlaces 28 = .ok (.iinc 2 1, 3) := by decide +kernel
theorem dX1_closedPlaces_31 : decode cX1_closedPlaces 31 = .ok (.goto (-27), 3) := by decide +kernel
theorem dX1_closedPlaces_34 : decode cX1_closedPlaces 34 = .ok (.iload_n 1, 1) := by decide +kernel
theorem dX1_closedPlaces_35 : decode cX1_closedPlaces 35 = .ok (.ireturn, 1) := by decide +kernel
theorem dX1_greatestGap_0 : decode cX1_greatestGap 0 = .ok (.iconst 0, 1) := by decide +kernel
theorem dX1_greatestGap_1 : decode cX1_greatestGap 1 = .ok (.istore_n 1, 1) := by decide +kernel
theorem dX1_greatestGap_2 : decode cX1_greatestGap 2 = .ok (.iconst 0, 1) := by decide +kernel
theorem dX1_greatestGap_3 : decode cX1_greatestGap 3 = .ok (.istore_n 2, 1) := by decide +kernel
theorem dX1_greatestGap_4 : decode cX1_greatestGap 4 = .ok (.iload_n 2, 1) := by decide +kernel
theorem dX1_greatestGap_5 : decode cX1_greatestGap 5 = .ok (.iconst 1, 1) := by decide +kernel
theorem dX1_greatestGap_6 : decode cX1_greatestGap 6 = .ok (.iadd, 1) := by decide +kernel
theorem dX1_greatestGap_7 : decode cX1_greatestGap 7 = .ok (.aload_n 0, 1) := by decide +kernel
theorem dX1_greatestGap_8 : decode cX1_greatestGap 8 = .ok (.getfield 46, 3) := by decide +kernel
theorem dX1_greatestGap_11 : decode cX1_greatestGap 11 = .ok (.if_icmp .ge 19, 3) := by decide +kernel
theorem dX1_greatestGap_14 : decode cX1_greatestGap 14 = .ok (.iload_n 1, 1) := by decide +kernel
theorem dX1_greatestGap_15 : decode cX1_greatestGap 15 = .ok (.aload_n 0, 1) := by decide +kernel
theorem dX1_greatestGap_16 : decode cX1_greatestGap 16 = .ok (.iload_n 2, 1) := by decide +kernel
theorem dX1_greatestGap_17 : decode cX1_greatestGap 17 = .ok (.invokevirtual 81, 3) := by decide +kernel
theorem dX1_greatestGap_20 : decode cX1_greatestGap 20 = .ok (.invokestatic 103, 3) := by decide +kernel
theorem dX1_greatestGap_23 : decode cX1_greatestGap 23 = .ok (.istore_n 1, 1) := by decide +kernel
theorem dX1_greatestGap_24 : decode cX1_greatestGap 24 = .ok (.iinc 2 1, 3) := by decide +kernel
theorem dX1_greatestGap_27 : decode cX1_greatestGap 27 = .ok (.goto (-23), 3) := by decide +kernel
theorem dX1_greatestGap_30 : decode cX1_greatestGap 30 = .ok (.iload_n 1, 1) := by decide +kernel
theorem dX1_greatestGap_31 : decode cX1_greatestGap 31 = .ok (.ireturn, 1) := by decide +kernel
theorem dX1_filledSpots_0 : decode cX1_filledSpots 0 = .ok (.iconst 0, 1) := by decide +kernel
theorem dX1_filledSpots_1 : decode cX1_filledSpots 1 = .ok (.istore_n 1, 1) := by decide +kernel
theorem dX1_filledSpots_2 : decode cX1_filledSpots 2 = .ok (.iconst 0, 1) := by decide +kernel
theorem dX1_filledSpots_3 : decode cX1_filledSpots 3 = .ok (.istore_n 2, 1) := by decide +kernel
theorem dX1_filledSpots_4 : decode cX1_filledSpots 4 = .ok (.iload_n 2, 1) := by decide +kernel
theorem dX1_filledSpots_5 : decode cX1_filledSpots 5 = .ok (.bipush 10, 2) := by decide +kernel
theorem dX1_filledSpots_7 : decode cX1_filledSpots 7 = .ok (.if_icmp .ge 21, 3) := by decide +kernel
theorem dX1_filledSpots_10 : decode cX1_filledSpots 10 = .ok (.aload_n 0, 1) := by decide +kernel
theorem dX1_filledSpots_11 : decode cX1_filledSpots 11 = .ok (.getfield 30, 3) := by decide +kernel
theorem dX1_filledSpots_14 : decode cX1_filledSpots 14 = .ok (.iload_n 2, 1) := by decide +kernel
theorem dX1_filledSpots_15 : decode cX1_filledSpots 15 = .ok (.iaload, 1) := by decide +kernel
theorem dX1_filledSpots_16 : decode cX1_filledSpots 16 = .ok (.ifCond .lt 6, 3) := by decide +kernel
theorem dX1_filledSpots_19 : decode cX1_filledSpots 19 = .ok (.iinc 1 1, 3) := by decide +kernel
theorem dX1_filledSpots_22 : decode cX1_filledSpots 22 = .ok (.iinc 2 1, 3) := by decide +kernel
theorem dX1_filledSpots_25 : decode cX1_filledSpots 25 = .ok (.goto (-21), 3) := by decide +kernel
theorem dX1_filledSpots_28 : decode cX1_filledSpots 28 = .ok (.iload_n 1, 1) := by decide +kernel
theorem dX1_filledSpots_29 : decode cX1_filledSpots 29 = .ok (.ireturn, 1) := by decide +kernel
theorem dX2_init_0 : decode cX2_init 0 = .ok (.aload_n 0, 1) := by decide +kernel
theorem dX2_init_1 : decode cX2_init 1 = .ok (.invokespecial 3, 3) := by decide +kernel
theorem dX2_init_4 : decode cX2_init 4 = .ok (.aload_n 0, 1) := by decide +kernel
theorem dX2_init_5 : decode cX2_init 5 = .ok (.bipush 40, 2) := by decide +kernel
theorem dX2_init_7 : decode cX2_init 7 = .ok (.newarray .int, 2) := by decide +kernel
theorem dX2_init_9 : decode cX2_init 9 = .ok (.putfield 9, 3) := by decide +kernel
theorem dX2_init_12 : decode cX2_init 12 = .ok (.return_, 1) := by decide +kernel
theorem dX2_begin_0 : decode cX2_begin 0 = .ok (.aload_n 0, 1) := by decide +kernel
theorem dX2_begin_1 : decode cX2_begin 1 = .ok (.iload_n 1, 1) := by decide +kernel
theorem dX2_begin_2 : decode cX2_begin 2 = .ok (.putfield 15, 3) := by decide +kernel
theorem dX2_begin_5 : decode cX2_begin 5 = .ok (.aload_n 0, 1) := by decide +kernel
theorem dX2_begin_6 : decode cX2_begin 6 = .ok (.iload_n 1, 1) := by decide +kernel
theorem dX2_begin_7 : decode cX2_begin 7 = .ok (.ifCond .ne 7, 3) := by decide +kernel
theorem dX2_begin_10 : decode cX2_begin 10 = .ok (.iconst 0, 1) := by decide +kernel
theorem dX2_begin_11 : decode cX2_begin 11 = .ok (.goto 4, 3) := by decide +kernel
theorem dX2_begin_14 : decode cX2_begin 14 = .ok (.iload_n 2, 1) := by decide +kernel
theorem dX2_begin_15 : decode cX2_begin 15 = .ok (.putfield 19, 3) := by decide +kernel
theorem dX2_begin_18 : decode cX2_begin 18 = .ok (.iconst 0, 1) := by decide +kernel
theorem dX2_begin_19 : decode cX2_begin 19 = .ok (.istore_n 3, 1) := by decide +kernel
theorem dX2_begin_20 : decode cX2_begin 20 = .ok (.iload_n 3, 1) := by decide +kernel
theorem dX2_begin_21 : decode cX2_begin 21 = .ok (.bipush 40, 2) := by decide +kernel
theorem dX2_begin_23 : decode cX2_begin 23 = .ok (.if_icmp .ge 16, 3) := by decide +kernel
theorem dX2_begin_26 : decode cX2_begin 26 = .ok (.aload_n 0, 1) := by decide +kernel
theorem dX2_begin_27 : decode cX2_begin 27 = .ok (.getfield 9, 3) := by decide +kernel
theorem dX2_begin_30 : decode cX2_begin 30 = .ok (.iload_n 3, 1) := by decide +kernel
theorem dX2_begin_31 : decode cX2_begin 31 = .ok (.iconst 0, 1) := by decide +kernel
theorem dX2_begin_32 : decode cX2_begin 32 = .ok (.iastore, 1) := by decide +kernel
theorem dX2_begin_33 : decode cX2_begin 33 = .ok (.iinc 3 1, 3) := by decide +kernel
theorem dX2_begin_36 : decode cX2_begin 36 = .ok (.goto (-16), 3) := by decide +kernel
theorem dX2_begin_39 : decode cX2_begin 39 = .ok (.return_, 1) := by decide +kernel
theorem dX2_put_0 : decode cX2_put 0 = .ok (.aload_n 0, 1) := by decide +kernel
theorem dX2_put_1 : decode cX2_put 1 = .ok (.getfield 15, 3) := by decide +kernel
theorem dX2_put_4 : decode cX2_put 4 = .ok (.bipush 8, 2) := by decide +kernel
theorem dX2_put_6 : decode cX2_put 6 = .ok (.if_icmp .ne 14, 3) := by decide +kernel
theorem dX2_put_9 : decode cX2_put 9 = .ok (.aload_n 0, 1) := by decide +kernel
theorem dX2_put_10 : decode cX2_put 10 = .ok (.getfield 9, 3) := by decide +kernel
theorem dX2_put_13 : decode cX2_put 13 = .ok (.iload_n 1, 1) := by decide +kernel
theorem dX2_put_14 : decode cX2_put 14 = .ok (.iload_n 2, 1) := by decide +kernel
theorem dX2_put_15 : decode cX2_put 15 = .ok (.i2b, 1) := by decide +kernel
theorem dX2_put_16 : decode cX2_put 16 = .ok (.iastore, 1) := by decide +kernel
theorem dX2_put_17 : decode cX2_put 17 = .ok (.goto 30, 3) := by decide +kernel
theorem dX2_put_20 : decode cX2_put 20 = .ok (.aload_n 0, 1) := by decide +kernel
theorem dX2_put_21 : decode cX2_put 21 = .ok (.getfield 15, 3) := by decide +kernel
theorem dX2_put_24 : decode cX2_put 24 = .ok (.bipush 16, 2) := by decide +kernel
theorem dX2_put_26 : decode cX2_put 26 = .ok (.if_icmp .ne 14, 3) := by decide +kernel
theorem dX2_put_29 : decode cX2_put 29 = .ok (.aload_n 0, 1) := by decide +kernel
theorem dX2_put_30 : decode cX2_put 30 = .ok (.getfield 9, 3) := by decide +kernel
theorem dX2_put_33 : decode cX2_put 33 = .ok (.iload_n 1, 1) := by decide +kernel
theorem dX2_put_34 : decode cX2_put 34 = .ok (.iload_n 2, 1) := by decide +kernel
theorem dX2_put_35 : decode cX2_put 35 = .ok (.i2s, 1) := by decide +kernel
theorem dX2_put_36 : decode cX2_put 36 = .ok (.iastore, 1) := by decide +kernel
theorem dX2_put_37 : decode cX2_put 37 = .ok (.goto 10, 3) := by decide +kernel
theorem dX2_put_40 : decode cX2_put 40 = .ok (.aload_n 0, 1) := by decide +kernel
theorem dX2_put_41 : decode cX2_put 41 = .ok (.getfield 9, 3) := by decide +kernel
theorem dX2_put_44 : decode cX2_put 44 = .ok (.iload_n 1, 1) := by decide +kernel
theorem dX2_put_45 : decode cX2_put 45 = .ok (.iload_n 2, 1) := by decide +kernel
theorem dX2_put_46 : decode cX2_put 46 = .ok (.iastore, 1) := by decide +kernel
theorem dX2_put_47 : decode cX2_put 47 = .ok (.return_, 1) := by decide +kernel
theorem dX2_hasRun_0 : decode cX2_hasRun 0 = .ok (.iload_n 1, 1) := by decide +kernel
theorem dX2_hasRun_1 : decode cX2_hasRun 1 = .ok (.ifCond .lt 29, 3) := by decide +kernel
theorem dX2_hasRun_4 : decode cX2_hasRun 4 = .ok (.iload_n 2, 1) := by decide +kernel
theorem dX2_hasRun_5 : decode cX2_hasRun 5 = .ok (.ifCond .lt 25, 3) := by decide +kernel
theorem dX2_hasRun_8 : decode cX2_hasRun 8 = .ok (.iload_n 1, 1) := by decide +kernel
theorem dX2_hasRun_9 : decode cX2_hasRun 9 = .ok (.aload_n 0, 1) := by decide +kernel
theorem dX2_hasRun_10 : decode cX2_hasRun 10 = .ok (.getfield 19, 3) := by decide +kernel
theorem dX2_hasRun_13 : decode cX2_hasRun 13 = .ok (.if_icmp .gt 17, 3) := by decide +kernel
theorem dX2_hasRun_16 : decode cX2_hasRun 16 = .ok (.iload_n 2, 1) := by decide +kernel
theorem dX2_hasRun_17 : decode cX2_hasRun 17 = .ok (.aload_n 0, 1) := by decide +kernel
theorem dX2_hasRun_18 : decode cX2_hasRun 18 = .ok (.getfield 19, 3) := by decide +kernel
theorem dX2_hasRun_21 : decode cX2_hasRun 21 = .ok (.iload_n 1, 1) := by decide +kernel
theorem dX2_hasRun_22 : decode cX2_hasRun 22 = .ok (.isub, 1) := by decide +kernel
theorem dX2_hasRun_23 : decode cX2_hasRun 23 = .ok (.if_icmp .gt 7, 3) := by decide +kernel
theorem dX2_hasRun_26 : decode cX2_hasRun 26 = .ok (.iconst 1, 1) := by decide +kernel
theorem dX2_hasRun_27 : decode cX2_hasRun 27 = .ok (.goto 4, 3) := by decide +kernel
theorem dX2_hasRun_30 : decode cX2_hasRun 30 = .ok (.iconst 0, 1) := by decide +kernel
theorem dX2_hasRun_31 : decode cX2_hasRun 31 = .ok (.ireturn, 1) := by decide +kernel
theorem dX3_init_0 : decode cX3_init 0 = .ok (.aload_n 0, 1) := by decide +kernel
theorem dX3_init_1 : decode cX3_init 1 = .ok (.invokespecial 3, 3) := by decide +kernel
theorem dX3_init_4 : decode cX3_init 4 = .ok (.aload_n 0, 1) := by decide +kernel
theorem dX3_init_5 : decode cX3_init 5 = .ok (.bipush 120, 2) := by decide +kernel
theorem dX3_init_7 : decode cX3_init 7 = .ok (.newarray .int, 2) := by decide +kernel
theorem dX3_init_9 : decode cX3_init 9 = .ok (.putfield 9, 3) := by decide +kernel
theorem dX3_init_12 : decode cX3_init 12 = .ok (.return_, 1) := by decide +kernel
theorem dX3_append_0 : decode cX3_append 0 = .ok (.iload_n 2, 1) := by decide +kernel
theorem dX3_append_1 : decode cX3_append 1 = .ok (.iconst 1, 1) := by decide +kernel
theorem dX3_append_2 : decode cX3_append 2 = .ok (.isub, 1) := by decide +kernel
theorem dX3_append_3 : decode cX3_append 3 = .ok (.istore_n 3, 1) := by decide +kernel
theorem dX3_append_4 : decode cX3_append 4 = .ok (.iload_n 3, 1) := by decide +kernel
theorem dX3_append_5 : decode cX3_append 5 = .ok (.ifCond .lt 38, 3) := by decide +kernel
theorem dX3_append_8 : decode cX3_append 8 = .ok (.aload_n 0, 1) := by decide +kernel
theorem dX3_append_9 : decode cX3_append 9 = .ok (.getfield 9, 3) := by decide +kernel
theorem dX3_append_12 : decode cX3_append 12 = .ok (.aload_n 0, 1) := by decide +kernel
theorem dX3_append_13 : decode cX3_append 13 = .ok (.getfield 15, 3) := by decide +kernel
theorem dX3_append_16 : decode cX3_append 16 = .ok (.iload_n 1, 1) := by decide +kernel
theorem dX3_append_17 : decode cX3_append 17 = .ok (.bipush 8, 2) := by decide +kernel
theorem dX3_append_19 : decode cX3_append 19 = .ok (.iload_n 3, 1) := by decide +kernel
theorem dX3_append_20 : decode cX3_append 20 = .ok (.imul, 1) := by decide +kernel
theorem dX3_append_21 : decode cX3_append 21 = .ok (.iushr, 1) := by decide +kernel
theorem dX3_append_22 : decode cX3_append 22 = .ok (.sipush 255, 3) := by decide +kernel
theorem dX3_append_25 : decode cX3_append 25 = .ok (.iand, 1) := by decide +kernel
theorem dX3_append_26 : decode cX3_append 26 = .ok (.iastore, 1) := by decide +kernel
theorem dX3_append_27 : decode cX3_append 27 = .ok (.aload_n 0, 1) := by decide +kernel
theorem dX3_append_28 : decode cX3_append 28 = .ok (.dup, 1) := by decide +kernel
theorem dX3_append_29 : decode cX3_append 29 = .ok (.getfield 15, 3) := by decide +kernel
theorem dX3_append_32 : decode cX3_append 32 = .ok (.iconst 1, 1) := by decide +kernel
theorem dX3_append_33 : decode cX3_append 33 = .ok (.iadd, 1) := by decide +kernel
theorem dX3_append_34 : decode cX3_append 34 = .ok (.putfield 15, 3) := by decide +kernel
theorem dX3_append_37 : decode cX3_append 37 = .ok (.iinc 3 (-1), 3) := by decide +kernel
theorem dX3_append_40 : decode cX3_append 40 = .ok (.goto (-36), 3) := by decide +kernel
theorem dX3_append_43 : decode cX3_append 43 = .ok (.return_, 1) := by decide +kernel
theorem dX3_readInto_0 : decode cX3_readInto 0 = .ok (.aload_n 0, 1) := by decide +kernel
theorem dX3_readInto_1 : decode cX3_readInto 1 = .ok (.iconst 0, 1) := by decide +kernel
theorem dX3_readInto_2 : decode cX3_readInto 2 = .ok (.putfield 19, 3) := by decide +kernel
theorem dX3_readInto_5 : decode cX3_readInto 5 = .ok (.aload_n 0, 1) := by decide +kernel
theorem dX3_readInto_6 : decode cX3_readInto 6 = .ok (.invokevirtual 22, 3) := by decide +kernel
theorem dX3_readInto_9 : decode cX3_readInto 9 = .ok (.iconst 1, 1) := by decide +kernel
theorem dX3_readInto_10 : decode cX3_readInto 10 = .ok (.istore_n 2, 1) := by decide +kernel
theorem dX3_readInto_11 : decode cX3_readInto 11 = .ok (.iload_n 2, 1) := by decide +kernel
theorem dX3_readInto_12 : decode cX3_readInto 12 = .ok (.aload_n 0, 1) := by decide +kernel
theorem dX3_readInto_13 : decode cX3_readInto 13 = .ok (.getfield 15, 3) := by decide +kernel
theorem dX3_readInto_16 : decode cX3_readInto 16 = .ok (.if_icmp .gt 52, 3) := by decide +kernel
theorem dX3_readInto_19 : decode cX3_readInto 19 = .ok (.aload_n 0, 1) := by decide +kernel
theorem dX3_readInto_20 : decode cX3_readInto 20 = .ok (.aload_n 1, 1) := by decide +kernel
theorem dX3_readInto_21 : decode cX3_readInto 21 = .ok (.invokevirtual 25, 3) := by decide +kernel
theorem dX3_readInto_24 : decode cX3_readInto 24 = .ok (.ifCond .ne 10, 3) := by decide +kernel
theorem dX3_readInto_27 : decode cX3_readInto 27 = .ok (.iconst (-1), 1) := by decide +kernel
theorem dX3_readInto_28 : decode cX3_readInto 28 = .ok (.aload_n 0, 1) := by decide +kernel
theorem dX3_readInto_29 : decode cX3_readInto 29 = .ok (.getfield 29, 3) := by decide +kernel
theorem dX3_readInto_32 : decode cX3_readInto 32 = .ok (.isub, 1) := by decide +kernel
theorem dX3_readInto_33 : decode cX3_readInto 33 = .ok (.ireturn, 1) := by decide +kernel
theorem dX3_readInto_34 : decode cX3_readInto 34 = .ok (.aload_n 0, 1) := by decide +kernel
theorem dX3_readInto_35 : decode cX3_readInto 35 = .ok (.getfield 32, 3) := by decide +kernel
theorem dX3_readInto_38 : decode cX3_readInto 38 = .ok (.ifCond .ne 5, 3) := by decide +kernel
theorem dX3_readInto_41 : decode cX3_readInto 41 = .ok (.iload_n 2, 1) := by decide +kernel
theorem dX3_readInto_42 : decode cX3_readInto 42 = .ok (.ireturn, 1) := by decide +kernel
theorem dX3_readInto_43 : decode cX3_readInto 43 = .ok (.aload_n 0, 1) := by decide +kernel
theorem dX3_readInto_44 : decode cX3_readInto 44 = .ok (.getfield 32, 3) := by decide +kernel
theorem dX3_readInto_47 : decode cX3_readInto 47 = .ok (.iconst 3, 1) := by decide +kernel
theorem dX3_readInto_48 : decode cX3_readInto 48 = .ok (.if_icmp .eq 10, 3) := by decide +kernel
theorem dX3_readInto_51 : decode cX3_readInto 51 = .ok (.iconst (-1), 1) := by decide +kernel
theorem dX3_readInto_52 : decode cX3_readInto 52 = .ok (.aload_n 0, 1) := by decide +kernel
theorem dX3_readInto_53 : decode cX3_readInto 53 = .ok (.getfield 29, 3) := by decide +kernel
theorem dX3_readInto_56 : decode cX3_readInto 56 = .ok (.isub, 1) := by decide +kernel
theorem dX3_readInto_57 : decode cX3_readInto 57 = .ok (.ireturn, 1) := by decide +kernel
theorem dX3_readInto_58 : decode cX3_readInto 58 = .ok (.aload_n 0, 1) := by decide +kernel
theorem dX3_readInto_59 : decode cX3_readInto 59 = .ok (.invokevirtual 22, 3) := by decide +kernel
theorem dX3_readInto_62 : decode cX3_readInto 62 = .ok (.iinc 2 1, 3) := by decide +kernel
theorem dX3_readInto_65 : decode cX3_readInto 65 = .ok (.goto (-54), 3) := by decide +kernel
theorem dX3_readInto_68 : decode cX3_readInto 68 = .ok (.iconst (-1), 1) := by decide +kernel
theorem dX3_readInto_69 : decode cX3_readInto 69 = .ok (.aload_n 0, 1) := by decide +kernel
theorem dX3_readInto_70 : decode cX3_readInto 70 = .ok (.getfield 29, 3) := by decide +kernel
theorem dX3_readInto_73 : decode cX3_readInto 73 = .ok (.isub, 1) := by decide +kernel
theorem dX3_readInto_74 : decode cX3_readInto 74 = .ok (.ireturn, 1) := by decide +kernel
theorem dX3_readItem_0 : decode cX3_readItem 0 = .ok (.aload_n 0, 1) := by decide +kernel
theorem dX3_readItem_1 : decode cX3_readItem 1 = .ok (.invokevirtual 35, 3) := by decide +kernel
theorem dX3_readItem_4 : decode cX3_readItem 4 = .ok (.istore_n 2, 1) := by decide +kernel
theorem dX3_readItem_5 : decode cX3_readItem 5 = .ok (.iload_n 2, 1) := by decide +kernel
theorem dX3_readItem_6 : decode cX3_readItem 6 = .ok (.ifCond .lt 10, 3) := by decide +kernel
theorem dX3_readItem_9 : decode cX3_readItem 9 = .ok (.aload_n 0, 1) := by decide +kernel
theorem dX3_readItem_10 : decode cX3_readItem 10 = .ok (.aload_n 1, 1) := by decide +kernel
theorem dX3_readItem_11 : decode cX3_readItem 11 = .ok (.iload_n 2, 1) := by decide +kernel
theorem dX3_readItem_12 : decode cX3_readItem 12 = .ok (.invokevirtual 39, 3) := by decide +kernel
theorem dX3_readItem_15 : decode cX3_readItem 15 = .ok (.ireturn, 1) := by decide +kernel
theorem dX3_readItem_16 : decode cX3_readItem 16 = .ok (.aload_n 0, 1) := by decide +kernel
theorem dX3_readItem_17 : decode cX3_readItem 17 = .ok (.ldc 43, 2) := by decide +kernel
theorem dX3_readItem_19 : decode cX3_readItem 19 = .ok (.invokevirtual 45, 3) := by decide +kernel
theorem dX3_readItem_22 : decode cX3_readItem 22 = .ok (.ifCond .eq 9, 3) := by decide +kernel
theorem dX3_readItem_25 : decode cX3_readItem 25 = .ok (.aload_n 0, 1) := by decide +kernel
theorem dX3_readItem_26 : decode cX3_readItem 26 = .ok (.aload_n 1, 1) := by decide +kernel
theorem dX3_readItem_27 : decode cX3_readItem 27 = .ok (.invokevirtual 49, 3) := by decide +kernel
theorem dX3_readItem_30 : decode cX3_readItem 30 = .ok (.ireturn, 1) := by decide +kernel
theorem dX3_readItem_31 : decode cX3_readItem 31 = .ok (.aload_n 0, 1) := by decide +kernel
theorem dX3_readItem_32 : decode cX3_readItem 32 = .ok (.ldc 52, 2) := by decide +kernel
theorem dX3_readItem_34 : decode cX3_readItem 34 = .ok (.invokevirtual 45, 3) := by decide +kernel
theorem dX3_readItem_37 : decode cX3_readItem 37 = .ok (.ifCond .eq 15, 3) := by decide +kernel
theorem dX3_readItem_40 : decode cX3_readItem 40 = .ok (.aload_n 0, 1) := by decide +kernel
theorem dX3_readItem_41 : decode cX3_readItem 41 = .ok (.aload_n 1, 1) := by decide +kernel
theorem dX3_readItem_42 : decode cX3_readItem 42 = .ok (.invokevirtual 54, 3) := by decide +kernel
theorem dX3_readItem_45 : decode cX3_readItem 45 = .ok (.ifCond .eq 7, 3) := by decide +kernel
theorem dX3_readItem_48 : decode cX3_readItem 48 = .ok (.iconst 1, 1) := by decide +kernel
theorem dX3_readItem_49 : decode cX3_readItem 49 = .ok (.goto 4, 3) := by decide +kernel
theorem dX3_readItem_52 : decode cX3_readItem 52 = .ok (.iconst 0, 1) := by decide +kernel
theorem dX3_readItem_53 : decode cX3_readItem 53 = .ok (.ireturn, 1) := by decide +kernel
theorem dX3_readPiece_0 : decode cX3_readPiece 0 = .ok (.aload_n 1, 1) := by decide +kernel
theorem dX3_readPiece_1 : decode cX3_readPiece 1 = .ok (.getfield 57, 3) := by decide +kernel
theorem dX3_readPiece_4 : decode cX3_readPiece 4 = .ok (.bipush 8, 2) := by decide +kernel
theorem dX3_readPiece_6 : decode cX3_readPiece 6 = .ok (.if_icmp .lt 5, 3) := by decide +kernel
theorem dX3_readPiece_9 : decode cX3_readPiece 9 = .ok (.iconst 0, 1) := by decide +kernel
theorem dX3_readPiece_10 : decode cX3_readPiece 10 = .ok (.ireturn, 1) := by decide +kernel
theorem dX3_readPiece_11 : decode cX3_readPiece 11 = .ok (.aload_n 0, 1) := by decide +kernel
theorem dX3_readPiece_12 : decode cX3_readPiece 12 = .ok (.invokevirtual 22, 3) := by decide +kernel
theorem dX3_readPiece_15 : decode cX3_readPiece 15 = .ok (.aload_n 0, 1) := by decide +kernel
theorem dX3_readPiece_16 : decode cX3_readPiece 16 = .ok (.bipush 9, 2) := by decide +kernel
theorem dX3_readPiece_18 : decode cX3_readPiece 18 = .ok (.invokevirtual 62, 3) := by decide +kernel
theorem dX3_readPiece_21 : decode cX3_readPiece 21 = .ok (.istore_n 3, 1) := by decide +kernel
theorem dX3_readPiece_22 : decode cX3_readPiece 22 = .ok (.iload_n 3, 1) := by decide +kernel
theorem dX3_readPiece_23 : decode cX3_readPiece 23 = .ok (.ifCond .ge 7, 3) := by decide +kernel
theorem dX3_readPiece_26 : decode cX3_readPiece 26 = .ok (.iconst (-1), 1) := by decide +kernel
theorem dX3_readPiece_27 : decode cX3_readPiece 27 = .ok (.goto 9, 3) := by decide +kernel
theorem dX3_readPiece_30 : decode cX3_readPiece 30 = .ok (.aload_n 0, 1) := by decide +kernel
theorem dX3_readPiece_31 : decode cX3_readPiece 31 = .ok (.bipush 9, 2) := by decide +kernel
theorem dX3_readPiece_33 : decode cX3_readPiece 33 = .ok (.invokevirtual 62, 3) := by decide +kernel
theorem dX3_readPiece_36 : decode cX3_readPiece 36 = .ok (.istore 4, 2) := by decide +kernel
theorem dX3_readPiece_38 : decode cX3_readPiece 38 = .ok (.iload 4, 2) := by decide +kernel
theorem dX3_readPiece_40 : decode cX3_readPiece 40 = .ok (.ifCond .ge 5, 3) := by decide +kernel
theorem dX3_readPiece_43 : decode cX3_readPiece 43 = .ok (.iconst 0, 1) := by decide +kernel
theorem dX3_readPiece_44 : decode cX3_readPiece 44 = .ok (.ireturn, 1) := by decide +kernel
theorem dX3_readPiece_45 : decode cX3_readPiece 45 = .ok (.aload_n 1, 1) := by decide +kernel
theorem dX3_readPiece_46 : decode cX3_readPiece 46 = .ok (.iload_n 2, 1) := by decide +kernel
theorem dX3_readPiece_47 : decode cX3_readPiece 47 = .ok (.iload_n 3, 1) := by decide +kernel
theorem dX3_readPiece_48 : decode cX3_readPiece 48 = .ok (.iload 4, 2) := by decide +kernel
theorem dX3_readPiece_50 : decode cX3_readPiece 50 = .ok (.invokevirtual 66, 3) := by decide +kernel
theorem dX3_readPiece_53 : decode cX3_readPiece 53 = .ok (.istore 5, 2) := by decide +kernel
theorem dX3_readPiece_55 : decode cX3_readPiece 55 = .ok (.aload_n 0, 1) := by decide +kernel
theorem dX3_readPiece_56 : decode cX3_readPiece 56 = .ok (.ldc 70, 2) := by decide +kernel
theorem dX3_readPiece_58 : decode cX3_readPiece 58 = .ok (.invokevirtual 45, 3) := by decide +kernel
theorem dX3_readPiece_61 : decode cX3_readPiece 61 = .ok (.ifCond .eq 31, 3) := by decide +kernel
theorem dX3_readPiece_64 : decode cX3_readPiece 64 = .ok (.aload_n 0, 1) := by decide +kernel
theorem dX3_readPiece_65 : decode cX3_readPiece 65 = .ok (.invokevirtual 22, 3) := by decide +kernel
theorem dX3_readPiece_68 : decode cX3_readPiece 68 = .ok (.aload_n 0, 1) := by decide +kernel
theorem dX3_readPiece_69 : decode cX3_readPiece 69 = .ok (.bipush 7, 2) := by decide +kernel
theorem dX3_readPiece_71 : decode cX3_readPiece 71 = .ok (.invokevirtual 62, 3) := by decide +kernel
theorem dX3_readPiece_74 : decode cX3_readPiece 74 = .ok (.istore 6, 2) := by decide +kernel
theorem dX3_readPiece_76 : decode cX3_readPiece 76 = .ok (.iload 6, 2) := by decide +kernel
theorem dX3_readPiece_78 : decode cX3_readPiece 78 = .ok (.ifCond .ge 5, 3) := by decide +kernel
theorem dX3_readPiece_81 : decode cX3_readPiece 81 = .ok (.iconst 0, 1) := by decide +kernel
theorem dX3_readPiece_82 : decode cX3_readPiece 82 = .ok (.ireturn, 1) := by decide +kernel
theorem dX3_readPiece_83 : decode cX3_readPiece 83 = .ok (.aload_n 1, 1) := by decide +kernel
theorem dX3_readPiece_84 : decode cX3_readPiece 84 = .ok (.getfield 72, 3) := by decide +kernel
theorem dX3_readPiece_87 : decode cX3_readPiece 87 = .ok (.iload 5, 2) := by decide +kernel
theorem dX3_readPiece_89 : decode cX3_readPiece 89 = .ok (.iload 6, 2) := by decide +kernel
theorem dX3_readPiece_91 : decode cX3_readPiece 91 = .ok (.iastore, 1) := by decide +kernel
theorem dX3_readPiece_92 : decode cX3_readPiece 92 = .ok (.aload_n 0, 1) := by decide +kernel
theorem dX3_readPiece_93 : decode cX3_readPiece 93 = .ok (.ldc 75, 2) := by decide +kernel
theorem dX3_readPiece_95 : decode cX3_readPiece 95 = .ok (.invokevirtual 45, 3) := by decide +kernel
theorem dX3_readPiece_98 : decode cX3_readPiece 98 = .ok (.ifCond .eq 20, 3) := by decide +kernel
theorem dX3_readPiece_101 : decode cX3_readPiece 101 = .ok (.aload_n 0, 1) := by decide +kernel
theorem dX3_readPiece_102 : decode cX3_readPiece 102 = .ok (.invokevirtual 22, 3) := by decide +kernel
theorem dX3_readPiece_105 : decode cX3_readPiece 105 = .ok (.aload_n 1, 1) := by decide +kernel
theorem dX3_readPiece_106 : decode cX3_readPiece 106 = .ok (.dup, 1) := by decide +kernel
theorem dX3_readPiece_107 : decode cX3_readPiece 107 = .ok (.getfield 77, 3) := by decide +kernel
theorem dX3_readPiece_110 : decode cX3_readPiece 110 = .ok (.iconst 1, 1) := by decide +kernel
theorem dX3_readPiece_111 : decode cX3_readPiece 111 = .ok (.iload 5, 2) := by decide +kernel
theorem dX3_readPiece_113 : decode cX3_readPiece 113 = .ok (.ishl, 1) := by decide +kernel
theorem dX3_readPiece_114 : decode cX3_readPiece 114 = .ok (.ior, 1) := by decide +kernel
theorem dX3_readPiece_115 : decode cX3_readPiece 115 = .ok (.putfield 77, 3) := by decide +kernel
theorem dX3_readPiece_118 : decode cX3_readPiece 118 = .ok (.iconst 1, 1) := by decide +kernel
theorem dX3_readPiece_119 : decode cX3_readPiece 119 = .ok (.ireturn, 1) := by decide +kernel
theorem dX3_readSwap_0 : decode cX3_readSwap 0 = .ok (.aload_n 0, 1) := by decide +kernel
theorem dX3_readSwap_1 : decode cX3_readSwap 1 = .ok (.invokevirtual 22, 3) := by decide +kernel
theorem dX3_readSwap_4 : decode cX3_readSwap 4 = .ok (.aload_n 0, 1) := by decide +kernel
theorem dX3_readSwap_5 : decode cX3_readSwap 5 = .ok (.iconst 5, 1) := by decide +kernel
theorem dX3_readSwap_6 : decode cX3_readSwap 6 = .ok (.invokevirtual 62, 3) := by decide +kernel
theorem dX3_readSwap_9 : decode cX3_readSwap 9 = .ok (.istore_n 2, 1) := by decide +kernel
theorem dX3_readSwap_10 : decode cX3_readSwap 10 = .ok (.iload_n 2, 1) := by decide +kernel
theorem dX3_readSwap_11 : decode cX3_readSwap 11 = .ok (.ifCond .ge 7, 3) := by decide +kernel
theorem dX3_readSwap_14 : decode cX3_readSwap 14 = .ok (.iconst (-1), 1) := by decide +kernel
theorem dX3_readSwap_15 : decode cX3_readSwap 15 = .ok (.goto 9, 3) := by decide +kernel
theorem dX3_readSwap_18 : decode cX3_readSwap 18 = .ok (.aload_n 0, 1) := by decide +kernel
theorem dX3_readSwap_19 : decode cX3_readSwap 19 = .ok (.bipush 7, 2) := by decide +kernel
theorem dX3_readSwap_21 : decode cX3_readSwap 21 = .ok (.invokevirtual 62, 3) := by decide +kernel
theorem dX3_readSwap_24 : decode cX3_readSwap 24 = .ok (.istore_n 3, 1) := by decide +kernel
theorem dX3_readSwap_25 : decode cX3_readSwap 25 = .ok (.iload_n 3, 1) := by decide +kernel
theorem dX3_readSwap_26 : decode cX3_readSwap 26 = .ok (.ifCond .ge 7, 3) := by decide +kernel
theorem dX3_readSwap_29 : decode cX3_readSwap 29 = .ok (.iconst (-1), 1) := by decide +kernel
theorem dX3_readSwap_30 : decode cX3_readSwap 30 = .ok (.goto 9, 3) := by decide +kernel
theorem dX3_readSwap_33 : decode cX3_readSwap 33 = .ok (.aload_n 0, 1) := by decide +kernel
theorem dX3_readSwap_34 : decode cX3_readSwap 34 = .ok (.bipush 7, 2) := by decide +kernel
theorem dX3_readSwap_36 : decode cX3_readSwap 36 = .ok (.invokevirtual 62, 3) := by decide +kernel
theorem dX3_readSwap_39 : decode cX3_readSwap 39 = .ok (.istore 4, 2) := by decide +kernel
theorem dX3_readSwap_41 : decode cX3_readSwap 41 = .ok (.iload 4, 2) := by decide +kernel
theorem dX3_readSwap_43 : decode cX3_readSwap 43 = .ok (.ifCond .ge 5, 3) := by decide +kernel
theorem dX3_readSwap_46 : decode cX3_readSwap 46 = .ok (.iconst 0, 1) := by decide +kernel
theorem dX3_readSwap_47 : decode cX3_readSwap 47 = .ok (.ireturn, 1) := by decide +kernel
theorem dX3_readSwap_48 : decode cX3_readSwap 48 = .ok (.aload_n 1, 1) := by decide +kernel
theorem dX3_readSwap_49 : decode cX3_readSwap 49 = .ok (.getfield 79, 3) := by decide +kernel
theorem dX3_readSwap_52 : decode cX3_readSwap 52 = .ok (.iload_n 2, 1) := by decide +kernel
theorem dX3_readSwap_53 : decode cX3_readSwap 53 = .ok (.bipush 10, 2) := by decide +kernel
theorem dX3_readSwap_55 : decode cX3_readSwap 55 = .ok (.iload_n 3, 1) := by decide +kernel
theorem dX3_readSwap_56 : decode cX3_readSwap 56 = .ok (.imul, 1) := by decide +kernel
theorem dX3_readSwap_57 : decode cX3_readSwap 57 = .ok (.iload 4, 2) := by decide +kernel
theorem dX3_readSwap_59 : decode cX3_readSwap 59 = .ok (.iadd, 1) := by decide +kernel
theorem dX3_readSwap_60 : decode cX3_readSwap 60 = .ok (.iastore, 1) := by decide +kernel
theorem dX3_readSwap_61 : decode cX3_readSwap 61 = .ok (.iconst 1, 1) := by decide +kernel
theorem dX3_readSwap_62 : decode cX3_readSwap 62 = .ok (.ireturn, 1) := by decide +kernel
theorem dX3_readLay_0 : decode cX3_readLay 0 = .ok (.aload_n 0, 1) := by decide +kernel
theorem dX3_readLay_1 : decode cX3_readLay 1 = .ok (.invokevirtual 22, 3) := by decide +kernel
theorem dX3_readLay_4 : decode cX3_readLay 4 = .ok (.aload_n 0, 1) := by decide +kernel
theorem dX3_readLay_5 : decode cX3_readLay 5 = .ok (.aload_n 1, 1) := by decide +kernel
theorem dX3_readLay_6 : decode cX3_readLay 6 = .ok (.getfield 57, 3) := by decide +kernel
theorem dX3_readLay_9 : decode cX3_readLay 9 = .ok (.iconst 1, 1) := by decide +kernel
theorem dX3_readLay_10 : decode cX3_readLay 10 = .ok (.isub, 1) := by decide +kernel
theorem dX3_readLay_11 : decode cX3_readLay 11 = .ok (.invokevirtual 62, 3) := by decide +kernel
theorem dX3_readLay_14 : decode cX3_readLay 14 = .ok (.istore_n 2, 1) := by decide +kernel
theorem dX3_readLay_15 : decode cX3_readLay 15 = .ok (.iload_n 2, 1) := by decide +kernel
theorem dX3_readLay_16 : decode cX3_readLay 16 = .ok (.ifCond .ge 7, 3) := by decide +kernel
theorem dX3_readLay_19 : decode cX3_readLay 19 = .ok (.iconst (-1), 1) := by decide +kernel
theorem dX3_readLay_20 : decode cX3_readLay 20 = .ok (.goto 13, 3) := by decide +kernel
theorem dX3_readLay_23 : decode cX3_readLay 23 = .ok (.aload_n 0, 1) := by decide +kernel
theorem dX3_readLay_24 : decode cX3_readLay 24 = .ok (.aload_n 1, 1) := by decide +kernel
theorem dX3_readLay_25 : decode cX3_readLay 25 = .ok (.getfield 57, 3) := by decide +kernel
theorem dX3_readLay_28 : decode cX3_readLay 28 = .ok (.iconst 1, 1) := by decide +kernel
theorem dX3_readLay_29 : decode cX3_readLay 29 = .ok (.isub, 1) := by decide +kernel
theorem dX3_readLay_30 : decode cX3_readLay 30 = .ok (.invokevirtual 62, 3) := by decide +kernel
theorem dX3_readLay_33 : decode cX3_readLay 33 = .ok (.istore_n 3, 1) := by decide +kernel
theorem dX3_readLay_34 : decode cX3_readLay 34 = .ok (.iload_n 3, 1) := by decide +kernel
theorem dX3_readLay_35 : decode cX3_readLay 35 = .ok (.ifCond .ge 5, 3) := by decide +kernel
theorem dX3_readLay_38 : decode cX3_readLay 38 = .ok (.iconst 0, 1) := by decide +kernel
theorem dX3_readLay_39 : decode cX3_readLay 39 = .ok (.ireturn, 1) := by decide +kernel
theorem dX3_readLay_40 : decode cX3_readLay 40 = .ok (.aload_n 1, 1) := by decide +kernel
theorem dX3_readLay_41 : decode cX3_readLay 41 = .ok (.iload_n 2, 1) := by decide +kernel
theorem dX3_readLay_42 : decode cX3_readLay 42 = .ok (.iload_n 3, 1) := by decide +kernel
theorem dX3_readLay_43 : decode cX3_readLay 43 = .ok (.invokevirtual 82, 3) := by decide +kernel
theorem dX3_readLay_46 : decode cX3_readLay 46 = .ok (.iconst 1, 1) := by decide +kernel
theorem dX3_readLay_47 : decode cX3_readLay 47 = .ok (.ireturn, 1) := by decide +kernel
theorem dX3_readNumber_0 : decode cX3_readNumber 0 = .ok (.aload_n 0, 1) := by decide +kernel
theorem dX3_readNumber_1 : decode cX3_readNumber 1 = .ok (.getfield 32, 3) := by decide +kernel
theorem dX3_readNumber_4 : decode cX3_readNumber 4 = .ok (.iconst 2, 1) := by decide +kernel
theorem dX3_readNumber_5 : decode cX3_readNumber 5 = .ok (.if_icmp .ne 10, 3) := by decide +kernel
theorem dX3_readNumber_8 : decode cX3_readNumber 8 = .ok (.aload_n 0, 1) := by decide +kernel
theorem dX3_readNumber_9 : decode cX3_readNumber 9 = .ok (.invokevirtual 86, 3) := by decide +kernel
theorem dX3_readNumber_12 : decode cX3_readNumber 12 = .ok (.goto 6, 3) := by decide +kernel
theorem dX3_readNumber_15 : decode cX3_readNumber 15 = .ok (.sipush 10000, 3) := by decide +kernel
theorem dX3_readNumber_18 : decode cX3_readNumber 18 = .ok (.istore_n 2, 1) := by decide +kernel
theorem dX3_readNumber_19 : decode cX3_readNumber 19 = .ok (.iload_n 2, 1) := by decide +kernel
theorem dX3_readNumber_20 : decode cX3_readNumber 20 = .ok (.iload_n 1, 1) := by decide +kernel
theorem dX3_readNumber_21 : decode cX3_readNumber 21 = .ok (.if_icmp .le 5, 3) := by decide +kernel
theorem dX3_readNumber_24 : decode cX3_readNumber 24 = .ok (.iconst (-1), 1) := by decide +kernel
theorem dX3_readNumber_25 : decode cX3_readNumber 25 = .ok (.ireturn, 1) := by decide +kernel
theorem dX3_readNumber_26 : decode cX3_readNumber 26 = .ok (.aload_n 0, 1) := by decide +kernel
theorem dX3_readNumber_27 : decode cX3_readNumber 27 = .ok (.invokevirtual 22, 3) := by decide +kernel
theorem dX3_readNumber_30 : decode cX3_readNumber 30 = .ok (.iload_n 2, 1) := by decide +kernel
theorem dX3_readNumber_31 : decode cX3_readNumber 31 = .ok (.ireturn, 1) := by decide +kernel
theorem dX3_kindNamed_0 : decode cX3_kindNamed 0 = .ok (.iconst 0, 1) := by decide +kernel
theorem dX3_kindNamed_1 : decode cX3_kindNamed 1 = .ok (.istore_n 1, 1) := by decide +kernel
theorem dX3_kindNamed_2 : decode cX3_kindNamed 2 = .ok (.iload_n 1, 1) := by decide +kernel
theorem dX3_kindNamed_3 : decode cX3_kindNamed 3 = .ok (.bipush 7, 2) := by decide +kernel
theorem dX3_kindNamed_5 : decode cX3_kindNamed 5 = .ok (.if_icmp .ge 22, 3) := by decide +kernel
theorem dX3_kindNamed_8 : decode cX3_kindNamed 8 = .ok (.aload_n 0, 1) := by decide +kernel
theorem dX3_kindNamed_9 : decode cX3_kindNamed 9 = .ok (.iload_n 1, 1) := by decide +kernel
theorem dX3_kindNamed_10 : decode cX3_kindNamed 10 = .ok (.invokestatic 89, 3) := by decide +kernel
theorem dX3_kindNamed_13 : decode cX3_kindNamed 13 = .ok (.invokevirtual 45, 3) := by decide +kernel
theorem dX3_kindNamed_16 : decode cX3_kindNamed 16 = .ok (.ifCond .eq 5, 3) := by decide +kernel
theorem dX3_kindNamed_19 : decode cX3_kindNamed 19 = .ok (.iload_n 1, 1) := by decide +kernel
theorem dX3_kindNamed_20 : decode cX3_kindNamed 20 = .ok (.ireturn, 1) := by decide +kernel
theorem dX3_kindNamed_21 : decode cX3_kindNamed 21 = .ok (.iinc 1 1, 3) := by decide +kernel
theorem dX3_kindNamed_24 : decode cX3_kindNamed 24 = .ok (.goto (-22), 3) := by decide +kernel
theorem dX3_kindNamed_27 : decode cX3_kindNamed 27 = .ok (.iconst (-1), 1) := by decide +kernel
theorem dX3_kindNamed_28 : decode cX3_kindNamed 28 = .ok (.ireturn, 1) := by decide +kernel
theorem dX3_nameOf_0 : decode cX3_nameOf 0 = .ok (.iload_n 0, 1) := by decide +kernel
theorem dX3_nameOf_1 : decode cX3_nameOf 1 = .ok (.tableswitch 57 1 6 #[39, 42, 45, 48, 51, 54], 39) := by decide +kernel
theorem dX3_nameOf_40 : decode cX3_nameOf 40 = .ok (.ldc 93, 2) := by decide +kernel
theorem dX3_nameOf_42 : decode cX3_nameOf 42 = .ok (.areturn, 1) := by decide +kernel
theorem dX3_nameOf_43 : decode cX3_nameOf 43 = .ok (.ldc 95, 2) := by decide +kernel
theorem dX3_nameOf_45 : decode cX3_nameOf 45 = .ok (.areturn, 1) := by decide +kernel
theorem dX3_nameOf_46 : decode cX3_nameOf 46 = .ok (.ldc 97, 2) := by decide +kernel
theorem dX3_nameOf_48 : decode cX3_nameOf 48 = .ok (.areturn, 1) := by decide +kernel
theorem dX3_nameOf_49 : decode cX3_nameOf 49 = .ok (.ldc 99, 2) := by decide +kernel
theorem dX3_nameOf_51 : decode cX3_nameOf 51 = .ok (.areturn, 1) := by decide +kernel
theorem dX3_nameOf_52 : decode cX3_nameOf 52 = .ok (.ldc 101, 2) := by decide +kernel
theorem dX3_nameOf_54 : decode cX3_nameOf 54 = .ok (.areturn, 1) := by decide +kernel
theorem dX3_nameOf_55 : decode cX3_nameOf 55 = .ok (.ldc 103, 2) := by decide +kernel
theorem dX3_nameOf_57 : decode cX3_nameOf 57 = .ok (.areturn, 1) := by decide +kernel
theorem dX3_nameOf_58 : decode cX3_nameOf 58 = .ok (.ldc 105, 2) := by decide +kernel
theorem dX3_nameOf_60 : decode cX3_nameOf 60 = .ok (.areturn, 1) := by decide +kernel
theorem dX3_isWord_0 : decode cX3_isWord 0 = .ok (.aload_n 0, 1) := by decide +kernel
theorem dX3_isWord_1 : decode cX3_isWord 1 = .ok (.getfield 32, 3) := by decide +kernel
theorem dX3_isWord_4 : decode cX3_isWord 4 = .ok (.iconst 1, 1) := by decide +kernel
theorem dX3_isWord_5 : decode cX3_isWord 5 = .ok (.if_icmp .ne 19, 3) := by decide +kernel
theorem dX3_isWord_8 : decode cX3_isWord 8 = .ok (.aload_n 0, 1) := by decide +kernel
theorem dX3_isWord_9 : decode cX3_isWord 9 = .ok (.getfield 19, 3) := by decide +kernel
theorem dX3_isWord_12 : decode cX3_isWord 12 = .ok (.aload_n 0, 1) := by decide +kernel
theorem dX3_isWord_13 : decode cX3_isWord 13 = .ok (.getfield 29, 3) := by decide +kernel
theorem dX3_isWord_16 : decode cX3_isWord 16 = .ok (.isub, 1) := by decide +kernel
theorem dX3_isWord_17 : decode cX3_isWord 17 = .ok (.aload_n 1, 1) := by decide +kernel
theorem dX3_isWord_18 : decode cX3_isWord 18 = .ok (.invokevirtual 107, 3) := by decide +kernel
theorem dX3_isWord_21 : decode cX3_isWord 21 = .ok (.if_icmp .eq 5, 3) := by decide +kernel
theorem dX3_isWord_24 : decode cX3_isWord 24 = .ok (.iconst 0, 1) := by decide +kernel
theorem dX3_isWord_25 : decode cX3_isWord 25 = .ok (.ireturn, 1) := by decide +kernel
theorem dX3_isWord_26 : decode cX3_isWord 26 = .ok (.iconst 0, 1) := by decide +kernel
theorem dX3_isWord_27 : decode cX3_isWord 27 = .ok (.istore_n 2, 1) := by decide +kernel
theorem dX3_isWord_28 : decode cX3_isWord 28 = .ok (.iload_n 2, 1) := by decide +kernel
theorem dX3_isWord_29 : decode cX3_isWord 29 = .ok (.aload_n 1, 1) := by decide +kernel
theorem dX3_isWord_30 : decode cX3_isWord 30 = .ok (.invokevirtual 107, 3) := by decide +kernel
theorem dX3_isWord_33 : decode cX3_isWord 33 = .ok (.if_icmp .ge 30, 3) := by decide +kernel
theorem dX3_isWord_36 : decode cX3_isWord 36 = .ok (.aload_n 0, 1) := by decide +kernel
theorem dX3_isWord_37 : decode cX3_isWord 37 = .ok (.getfield 9, 3) := by decide +kernel
theorem dX3_isWord_40 : decode cX3_isWord 40 = .ok (.aload_n 0, 1) := by decide +kernel
theorem dX3_isWord_41 : decode cX3_isWord 41 = .ok (.getfield 29, 3) := by decide +kernel
theorem dX3_isWord_44 : decode cX3_isWord 44 = .ok (.iload_n 2, 1) := by decide +kernel
theorem dX3_isWord_45 : decode cX3_isWord 45 = .ok (.iadd, 1) := by decide +kernel
theorem dX3_isWord_46 : decode cX3_isWord 46 = .ok (.iaload, 1) := by decide +kernel
theorem dX3_isWord_47 : decode cX3_isWord 47 = .ok (.aload_n 1, 1) := by decide +kernel
theorem dX3_isWord_48 : decode cX3_isWord 48 = .ok (.iload_n 2, 1) := by decide +kernel
theorem dX3_isWord_49 : decode cX3_isWord 49 = .ok (.invokevirtual 111, 3) := by decide +kernel
theorem dX3_isWord_52 : decode cX3_isWord 52 = .ok (.if_icmp .eq 5, 3) := by decide +kernel
theorem dX3_isWord_55 : decode cX3_isWord 55 = .ok (.iconst 0, 1) := by decide +kernel
theorem dX3_isWord_56 : decode cX3_isWord 56 = .ok (.ireturn, 1) := by decide +kernel
theorem dX3_isWord_57 : decode cX3_isWord 57 = .ok (.iinc 2 1, 3) := by decide +kernel
theorem dX3_isWord_60 : decode cX3_isWord 60 = .ok (.goto (-32), 3) := by decide +kernel
theorem dX3_isWord_63 : decode cX3_isWord 63 = .ok (.iconst 1, 1) := by decide +kernel
theorem dX3_isWord_64 : decode cX3_isWord 64 = .ok (.ireturn, 1) := by decide +kernel
theorem dX3_step_0 : decode cX3_step 0 = .ok (.aload_n 0, 1) := by decide +kernel
theorem dX3_step_1 : decode cX3_step 1 = .ok (.aload_n 0, 1) := by decide +kernel
theorem dX3_step_2 : decode cX3_step 2 = .ok (.getfield 19, 3) := by decide +kernel
theorem dX3_step_5 : decode cX3_step 5 = .ok (.putfield 29, 3) := by decide +kernel
theorem dX3_step_8 : decode cX3_step 8 = .ok (.aload_n 0, 1) := by decide +kernel
theorem dX3_step_9 : decode cX3_step 9 = .ok (.getfield 29, 3) := by decide +kernel
theorem dX3_step_12 : decode cX3_step 12 = .ok (.aload_n 0, 1) := by decide +kernel
theorem dX3_step_13 : decode cX3_step 13 = .ok (.getfield 15, 3) := by decide +kernel
theorem dX3_step_16 : decode cX3_step 16 = .ok (.if_icmp .ge 30, 3) := by decide +kernel
theorem dX3_step_19 : decode cX3_step 19 = .ok (.aload_n 0, 1) := by decide +kernel
theorem dX3_step_20 : decode cX3_step 20 = .ok (.getfield 9, 3) := by decide +kernel
theorem dX3_step_23 : decode cX3_step 23 = .ok (.aload_n 0, 1) := by decide +kernel
theorem dX3_step_24 : decode cX3_step 24 = .ok (.getfield 29, 3) := by decide +kernel
theorem dX3_step_27 : decode cX3_step 27 = .ok (.iaload, 1) := by decide +kernel
theorem dX3_step_28 : decode cX3_step 28 = .ok (.bipush 32, 2) := by decide +kernel
theorem dX3_step_30 : decode cX3_step 30 = .ok (.if_icmp .ne 16, 3) := by decide +kernel
theorem dX3_step_33 : decode cX3_step 33 = .ok (.aload_n 0, 1) := by decide +kernel
theorem dX3_step_34 : decode cX3_step 34 = .ok (.dup, 1) := by decide +kernel
theorem dX3_step_35 : decode cX3_step 35 = .ok (.getfield 29, 3) := by decide +kernel
theorem dX3_step_38 : decode cX3_step 38 = .ok (.iconst 1, 1) := by decide +kernel
theorem dX3_step_39 : decode cX3_step 39 = .ok (.iadd, 1) := by decide +kernel
theorem dX3_step_40 : decode cX3_step 40 = .ok (.putfield 29, 3) := by decide +kernel
theorem dX3_step_43 : decode cX3_step 43 = .ok (.goto (-35), 3) := by decide +kernel
theorem dX3_step_46 : decode cX3_step 46 = .ok (.aload_n 0, 1) := by decide +kernel
theorem dX3_step_47 : decode cX3_step 47 = .ok (.aload_n 0, 1) := by decide +kernel
theorem dX3_step_48 : decode cX3_step 48 = .ok (.aload_n 0, 1) := by decide +kernel
theorem dX3_step_49 : decode cX3_step 49 = .ok (.getfield 29, 3) := by decide +kernel
theorem dX3_step_52 : decode cX3_step 52 = .ok (.invokevirtual 115, 3) := by decide +kernel
theorem dX3_step_55 : decode cX3_step 55 = .ok (.putfield 32, 3) := by decide +kernel
theorem dX3_step_58 : decode cX3_step 58 = .ok (.aload_n 0, 1) := by decide +kernel
theorem dX3_step_59 : decode cX3_step 59 = .ok (.aload_n 0, 1) := by decide +kernel
theorem dX3_step_60 : decode cX3_step 60 = .ok (.getfield 32, 3) := by decide +kernel
theorem dX3_step_63 : decode cX3_step 63 = .ok (.ifCond .ne 10, 3) := by decide +kernel
theorem dX3_step_66 : decode cX3_step 66 = .ok (.aload_n 0, 1) := by decide +kernel
theorem dX3_step_67 : decode cX3_step 67 = .ok (.getfield 29, 3) := by decide +kernel
theorem dX3_step_70 : decode cX3_step 70 = .ok (.goto 9, 3) := by decide +kernel
theorem dX3_step_73 : decode cX3_step 73 = .ok (.aload_n 0, 1) := by decide +kernel
theorem dX3_step_74 : decode cX3_step 74 = .ok (.getfield 29, 3) := by decide +kernel
theorem dX3_step_77 : decode cX3_step 77 = .ok (.iconst 1, 1) := by decide +kernel
theorem dX3_step_78 : decode cX3_step 78 = .ok (.iadd, 1) := by decide +kernel
theorem dX3_step_79 : decode cX3_step 79 = .ok (.putfield 19, 3) := by decide +kernel
theorem dX3_step_82 : decode cX3_step 82 = .ok (.aload_n 0, 1) := by decide +kernel
theorem dX3_step_83 : decode cX3_step 83 = .ok (.getfield 32, 3) := by decide +kernel
theorem dX3_step_86 : decode cX3_step 86 = .ok (.iconst 1, 1) := by decide +kernel
theorem dX3_step_87 : decode cX3_step 87 = .ok (.if_icmp .eq 11, 3) := by decide +kernel
theorem dX3_step_90 : decode cX3_step 90 = .ok (.aload_n 0, 1) := by decide +kernel
theorem dX3_step_91 : decode cX3_step 91 = .ok (.getfield 32, 3) := by decide +kernel
theorem dX3_step_94 : decode cX3_step 94 = .ok (.iconst 2, 1) := by decide +kernel
theorem dX3_step_95 : decode cX3_step 95 = .ok (.if_icmp .ne 7, 3) := by decide +kernel
theorem dX3_step_98 : decode cX3_step 98 = .ok (.iconst 1, 1) := by decide +kernel
theorem dX3_step_99 : decode cX3_step 99 = .ok (.goto 4, 3) := by decide +kernel
theorem dX3_step_102 : decode cX3_step 102 = .ok (.iconst 0, 1) := by decide +kernel
theorem dX3_step_103 : decode cX3_step 103 = .ok (.istore_n 1, 1) := by decide +kernel
theorem dX3_step_104 : decode cX3_step 104 = .ok (.iload_n 1, 1) := by decide +kernel
theorem dX3_step_105 : decode cX3_step 105 = .ok (.ifCond .eq 42, 3) := by decide +kernel
theorem dX3_step_108 : decode cX3_step 108 = .ok (.aload_n 0, 1) := by decide +kernel
theorem dX3_step_109 : decode cX3_step 109 = .ok (.getfield 19, 3) := by decide +kernel
theorem dX3_step_112 : decode cX3_step 112 = .ok (.aload_n 0, 1) := by decide +kernel
theorem dX3_step_113 : decode cX3_step 113 = .ok (.getfield 15, 3) := by decide +kernel
theorem dX3_step_116 : decode cX3_step 116 = .ok (.if_icmp .ge 31, 3) := by decide +kernel
theorem dX3_step_119 : decode cX3_step 119 = .ok (.aload_n 0, 1) := by decide +kernel
theorem dX3_step_120 : decode cX3_step 120 = .ok (.aload_n 0, 1) := by decide +kernel
theorem dX3_step_121 : decode cX3_step 121 = .ok (.getfield 19, 3) := by decide +kernel
theorem dX3_step_124 : decode cX3_step 124 = .ok (.invokevirtual 115, 3) := by decide +kernel
theorem dX3_step_127 : decode cX3_step 127 = .ok (.aload_n 0, 1) := by decide +kernel
theorem dX3_step_128 : decode cX3_step 128 = .ok (.getfield 32, 3) := by decide +kernel
theorem dX3_step_131 : decode cX3_step 131 = .ok (.if_icmp .ne 16, 3) := by decide +kernel
theorem dX3_step_134 : decode cX3_step 134 = .ok (.aload_n 0, 1) := by decide +kernel
theorem dX3_step_135 : decode cX3_step 135 = .ok (.dup, 1) := by decide +kernel
theorem dX3_step_136 : decode cX3_step 136 = .ok (.getfield 19, 3) := by decide +kernel
theorem dX3_step_139 : decode cX3_step 139 = .ok (.iconst 1, 1) := by decide +kernel
theorem dX3_step_140 : decode cX3_step 140 = .ok (.iadd, 1) := by decide +kernel
theorem dX3_step_141 : decode cX3_step 141 = .ok (.putfield 19, 3) := by decide +kernel
theorem dX3_step_144 : decode cX3_step 144 = .ok (.goto (-40), 3) := by decide +kernel
theorem dX3_step_147 : decode cX3_step 147 = .ok (.return_, 1) := by decide +kernel
theorem dX3_sortAt_0 : decode cX3_sortAt 0 = .ok (.iload_n 1, 1) := by decide +kernel
theorem dX3_sortAt_1 : decode cX3_sortAt 1 = .ok (.aload_n 0, 1) := by decide +kernel
theorem dX3_sortAt_2 : decode cX3_sortAt 2 = .ok (.getfield 15, 3) := by decide +kernel
theorem dX3_sortAt_5 : decode cX3_sortAt 5 = .ok (.if_icmp .lt 5, 3) := by decide +kernel
theorem dX3_sortAt_8 : decode cX3_sortAt 8 = .ok (.iconst 0, 1) := by decide +kernel
theorem dX3_sortAt_9 : decode cX3_sortAt 9 = .ok (.ireturn, 1) := by decide +kernel
theorem dX3_sortAt_10 : decode cX3_sortAt 10 = .ok (.aload_n 0, 1) := by decide +kernel
theorem dX3_sortAt_11 : decode cX3_sortAt 11 = .ok (.getfield 9, 3) := by decide +kernel
theorem dX3_sortAt_14 : decode cX3_sortAt 14 = .ok (.iload_n 1, 1) := by decide +kernel
theorem dX3_sortAt_15 : decode cX3_sortAt 15 = .ok (.iaload, 1) := by decide +kernel
theorem dX3_sortAt_16 : decode cX3_sortAt 16 = .ok (.bipush 97, 2) := by decide +kernel
theorem dX3_sortAt_18 : decode cX3_sortAt 18 = .ok (.if_icmp .lt 16, 3) := by decide +kernel
theorem dX3_sortAt_21 : decode cX3_sortAt 21 = .ok (.aload_n 0, 1) := by decide +kernel
theorem dX3_sortAt_22 : decode cX3_sortAt 22 = .ok (.getfield 9, 3) := by decide +kernel
theorem dX3_sortAt_25 : decode cX3_sortAt 25 = .ok (.iload_n 1, 1) := by decide +kernel
theorem dX3_sortAt_26 : decode cX3_sortAt 26 = .ok (.iaload, 1) := by decide +kernel
theorem dX3_sortAt_27 : decode cX3_sortAt 27 = .ok (.bipush 122, 2) := by decide +kernel
theorem dX3_sortAt_29 : decode cX3_sortAt 29 = .ok (.if_icmp .gt 5, 3) := by decide +kernel
theorem dX3_sortAt_32 : decode cX3_sortAt 32 = .ok (.iconst 1, 1) := by decide +kernel
theorem dX3_sortAt_33 : decode cX3_sortAt 33 = .ok (.ireturn, 1) := by decide +kernel
theorem dX3_sortAt_34 : decode cX3_sortAt 34 = .ok (.aload_n 0, 1) := by decide +kernel
theorem dX3_sortAt_35 : decode cX3_sortAt 35 = .ok (.getfield 9, 3) := by decide +kernel
theorem dX3_sortAt_38 : decode cX3_sortAt 38 = .ok (.iload_n 1, 1) := by decide +kernel
theorem dX3_sortAt_39 : decode cX3_sortAt 39 = .ok (.iaload, 1) := by decide +kernel
theorem dX3_sortAt_40 : decode cX3_sortAt 40 = .ok (.bipush 48, 2) := by decide +kernel
theorem dX3_sortAt_42 : decode cX3_sortAt 42 = .ok (.if_icmp .lt 16, 3) := by decide +kernel
theorem dX3_sortAt_45 : decode cX3_sortAt 45 = .ok (.aload_n 0, 1) := by decide +kernel
theorem dX3_sortAt_46 : decode cX3_sortAt 46 = .ok (.getfield 9, 3) := by decide +kernel
theorem dX3_sortAt_49 : decode cX3_sortAt 49 = .ok (.iload_n 1, 1) := by decide +kernel
theorem dX3_sortAt_50 : decode cX3_sortAt 50 = .ok (.iaload, 1) := by decide +kernel
theorem dX3_sortAt_51 : decode cX3_sortAt 51 = .ok (.bipush 57, 2) := by decide +kernel
theorem dX3_sortAt_53 : decode cX3_sortAt 53 = .ok (.if_icmp .gt 5, 3) := by decide +kernel
theorem dX3_sortAt_56 : decode cX3_sortAt 56 = .ok (.iconst 2, 1) := by decide +kernel
theorem dX3_sortAt_57 : decode cX3_sortAt 57 = .ok (.ireturn, 1) := by decide +kernel
theorem dX3_sortAt_58 : decode cX3_sortAt 58 = .ok (.aload_n 0, 1) := by decide +kernel
theorem dX3_sortAt_59 : decode cX3_sortAt 59 = .ok (.getfield 9, 3) := by decide +kernel
theorem dX3_sortAt_62 : decode cX3_sortAt 62 = .ok (.iload_n 1, 1) := by decide +kernel
theorem dX3_sortAt_63 : decode cX3_sortAt 63 = .ok (.iaload, 1) := by decide +kernel
theorem dX3_sortAt_64 : decode cX3_sortAt 64 = .ok (.bipush 59, 2) := by decide +kernel
theorem dX3_sortAt_66 : decode cX3_sortAt 66 = .ok (.if_icmp .ne 7, 3) := by decide +kernel
theorem dX3_sortAt_69 : decode cX3_sortAt 69 = .ok (.iconst 3, 1) := by decide +kernel
theorem dX3_sortAt_70 : decode cX3_sortAt 70 = .ok (.goto 4, 3) := by decide +kernel
theorem dX3_sortAt_73 : decode cX3_sortAt 73 = .ok (.iconst 4, 1) := by decide +kernel
theorem dX3_sortAt_74 : decode cX3_sortAt 74 = .ok (.ireturn, 1) := by decide +kernel
theorem dX3_valueOfDigits_0 : decode cX3_valueOfDigits 0 = .ok (.iconst 0, 1) := by decide +kernel
theorem dX3_valueOfDigits_1 : decode cX3_valueOfDigits 1 = .ok (.istore_n 1, 1) := by decide +kernel
theorem dX3_valueOfDigits_2 : decode cX3_valueOfDigits 2 = .ok (.aload_n 0, 1) := by decide +kernel
theorem dX3_valueOfDigits_3 : decode cX3_valueOfDigits 3 = .ok (.getfield 29, 3) := by decide +kernel
theorem dX3_valueOfDigits_6 : decode cX3_valueOfDigits 6 = .ok (.istore_n 2, 1) := by decide +kernel
theorem dX3_valueOfDigits_7 : decode cX3_valueOfDigits 7 = .ok (.iload_n 2, 1) := by decide +kernel
theorem dX3_valueOfDigits_8 : decode cX3_valueOfDigits 8 = .ok (.aload_n 0, 1) := by decide +kernel
theorem dX3_valueOfDigits_9 : decode cX3_valueOfDigits 9 = .ok (.getfield 19, 3) := by decide +kernel
theorem dX3_valueOfDigits_12 : decode cX3_valueOfDigits 12 = .ok (.if_icmp .ge 30, 3) := by decide +kernel
theorem dX3_valueOfDigits_15 : decode cX3_valueOfDigits 15 = .ok (.bipush 10, 2) := by decide +kernel
theorem dX3_valueOfDigits_17 : decode cX3_valueOfDigits 17 = .ok (.iload_n 1, 1) := by decide +kernel
theorem dX3_valueOfDigits_18 : decode cX3_valueOfDigits 18 = .ok (.imul, 1) := by decide +kernel
theorem dX3_valueOfDigits_19 : decode cX3_valueOfDigits 19 = .ok (.aload_n 0, 1) := by decide +kernel
theorem dX3_valueOfDigits_20 : decode cX3_valueOfDigits 20 = .ok (.getfield 9, 3) := by decide +kernel
theorem dX3_valueOfDigits_23 : decode cX3_valueOfDigits 23 = .ok (.iload_n 2, 1) := by decide +kernel
theorem dX3_valueOfDigits_24 : decode cX3_valueOfDigits 24 = .ok (.iaload, 1) := by decide +kernel
theorem dX3_valueOfDigits_25 : decode cX3_valueOfDigits 25 = .ok (.iadd, 1) := by decide +kernel
theorem dX3_valueOfDigits_26 : decode cX3_valueOfDigits 26 = .ok (.bipush 48, 2) := by decide +kernel
theorem dX3_valueOfDigits_28 : decode cX3_valueOfDigits 28 = .ok (.isub, 1) := by decide +kernel
theorem dX3_valueOfDigits_29 : decode cX3_valueOfDigits 29 = .ok (.sipush 10000, 3) := by decide +kernel
theorem dX3_valueOfDigits_32 : decode cX3_valueOfDigits 32 = .ok (.invokestatic 118, 3) := by decide +kernel
theorem dX3_valueOfDigits_35 : decode cX3_valueOfDigits 35 = .ok (.istore_n 1, 1) := by decide +kernel
theorem dX3_valueOfDigits_36 : decode cX3_valueOfDigits 36 = .ok (.iinc 2 1, 3) := by decide +kernel
theorem dX3_valueOfDigits_39 : decode cX3_valueOfDigits 39 = .ok (.goto (-32), 3) := by decide +kernel
theorem dX3_valueOfDigits_42 : decode cX3_valueOfDigits 42 = .ok (.iload_n 1, 1) := by decide +kernel
theorem dX3_valueOfDigits_43 : decode cX3_valueOfDigits 43 = .ok (.ireturn, 1) := by decide +kernel
theorem dJ6_bitCount_0f7a4_0 : decode cJ6_bitCount_0f7a4 0 = .ok (.iload_n 0, 1) := by decide +kernel
theorem dJ6_bitCount_0f7a4_1 : decode cJ6_bitCount_0f7a4 1 = .ok (.iload_n 0, 1) := by decide +kernel
theorem dJ6_bitCount_0f7a4_2 : decode cJ6_bitCount_0f7a4 2 = .ok (.iconst 1, 1) := by decide +kernel
theorem dJ6_bitCount_0f7a4_3 : decode cJ6_bitCount_0f7a4 3 = .ok (.iushr, 1) := by decide +kernel
theorem dJ6_bitCount_0f7a4_4 : decode cJ6_bitCount_0f7a4 4 = .ok (.ldc_w 265, 3) := by decide +kernel
theorem dJ6_bitCount_0f7a4_7 : decode cJ6_bitCount_0f7a4 7 = .ok (.iand, 1) := by decide +kernel
theorem dJ6_bitCount_0f7a4_8 : decode cJ6_bitCount_0f7a4 8 = .ok (.isub, 1) := by decide +kernel
theorem dJ6_bitCount_0f7a4_9 : decode cJ6_bitCount_0f7a4 9 = .ok (.istore_n 0, 1) := by decide +kernel
theorem dJ6_bitCount_0f7a4_10 : decode cJ6_bitCount_0f7a4 10 = .ok (.iload_n 0, 1) := by decide +kernel
theorem dJ6_bitCount_0f7a4_11 : decode cJ6_bitCount_0f7a4 11 = .ok (.ldc_w 266, 3) := by decide +kernel
theorem dJ6_bitCount_0f7a4_14 : decode cJ6_bitCount_0f7a4 14 = .ok (.iand, 1) := by decide +kernel
theorem dJ6_bitCount_0f7a4_15 : decode cJ6_bitCount_0f7a4 15 = .ok (.iload_n 0, 1) := by decide +kernel
theorem dJ6_bitCount_0f7a4_16 : decode cJ6_bitCount_0f7a4 16 = .ok (.iconst 2, 1) := by decide +kernel
theorem dJ6_bitCount_0f7a4_17 : decode cJ6_bitCount_0f7a4 17 = .ok (.iushr, 1) := by decide +kernel
theorem dJ6_bitCount_0f7a4_18 : decode cJ6_bitCount_0f7a4 18 = .ok (.ldc_w 266, 3) := by decide +kernel
theorem dJ6_bitCount_0f7a4_21 : decode cJ6_bitCount_0f7a4 21 = .ok (.iand, 1) := by decide +kernel
theorem dJ6_bitCount_0f7a4_22 : decode cJ6_bitCount_0f7a4 22 = .ok (.iadd, 1) := by decide +kernel
theorem dJ6_bitCount_0f7a4_23 : decode cJ6_bitCount_0f7a4 23 = .ok (.istore_n 0, 1) := by decide +kernel
theorem dJ6_bitCount_0f7a4_24 : decode cJ6_bitCount_0f7a4 24 = .ok (.iload_n 0, 1) := by decide +kernel
theorem dJ6_bitCount_0f7a4_25 : decode cJ6_bitCount_0f7a4 25 = .ok (.iload_n 0, 1) := by decide +kernel
theorem dJ6_bitCount_0f7a4_26 : decode cJ6_bitCount_0f7a4 26 = .ok (.iconst 4, 1) := by decide +kernel
theorem dJ6_bitCount_0f7a4_27 : decode cJ6_bitCount_0f7a4 27 = .ok (.iushr, 1) := by decide +kernel
theorem dJ6_bitCount_0f7a4_28 : decode cJ6_bitCount_0f7a4 28 = .ok (.iadd, 1) := by decide +kernel
theorem dJ6_bitCount_0f7a4_29 : decode cJ6_bitCount_0f7a4 29 = .ok (.ldc_w 267, 3) := by decide +kernel
theorem dJ6_bitCount_0f7a4_32 : decode cJ6_bitCount_0f7a4 32 = .ok (.iand, 1) := by decide +kernel
theorem dJ6_bitCount_0f7a4_33 : decode cJ6_bitCount_0f7a4 33 = .ok (.istore_n 0, 1) := by decide +kernel
theorem dJ6_bitCount_0f7a4_34 : decode cJ6_bitCount_0f7a4 34 = .ok (.iload_n 0, 1) := by decide +kernel
theorem dJ6_bitCount_0f7a4_35 : decode cJ6_bitCount_0f7a4 35 = .ok (.iload_n 0, 1) := by decide +kernel
theorem dJ6_bitCount_0f7a4_36 : decode cJ6_bitCount_0f7a4 36 = .ok (.bipush 8, 2) := by decide +kernel
theorem dJ6_bitCount_0f7a4_38 : decode cJ6_bitCount_0f7a4 38 = .ok (.iushr, 1) := by decide +kernel
theorem dJ6_bitCount_0f7a4_39 : decode cJ6_bitCount_0f7a4 39 = .ok (.iadd, 1) := by decide +kernel
theorem dJ6_bitCount_0f7a4_40 : decode cJ6_bitCount_0f7a4 40 = .ok (.istore_n 0, 1) := by decide +kernel
theorem dJ6_bitCount_0f7a4_41 : decode cJ6_bitCount_0f7a4 41 = .ok (.iload_n 0, 1) := by decide +kernel
theorem dJ6_bitCount_0f7a4_42 : decode cJ6_bitCount_0f7a4 42 = .ok (.iload_n 0, 1) := by decide +kernel
theorem dJ6_bitCount_0f7a4_43 : decode cJ6_bitCount_0f7a4 43 = .ok (.bipush 16, 2) := by decide +kernel
theorem dJ6_bitCount_0f7a4_45 : decode cJ6_bitCount_0f7a4 45 = .ok (.iushr, 1) := by decide +kernel
theorem dJ6_bitCount_0f7a4_46 : decode cJ6_bitCount_0f7a4 46 = .ok (.iadd, 1) := by decide +kernel
theorem dJ6_bitCount_0f7a4_47 : decode cJ6_bitCount_0f7a4 47 = .ok (.istore_n 0, 1) := by decide +kernel
theorem dJ6_bitCount_0f7a4_48 : decode cJ6_bitCount_0f7a4 48 = .ok (.iload_n 0, 1) := by decide +kernel
theorem dJ6_bitCount_0f7a4_49 : decode cJ6_bitCount_0f7a4 49 = .ok (.bipush 63, 2) := by decide +kernel
theorem dJ6_bitCount_0f7a4_51 : decode cJ6_bitCount_0f7a4 51 = .ok (.iand, 1) := by decide +kernel
theorem dJ6_bitCount_0f7a4_52 : decode cJ6_bitCount_0f7a4 52 = .ok (.ireturn, 1) := by decide +kernel
theorem dJ9_abs_0f7a4_0 : decode cJ9_abs_0f7a4 0 = .ok (.iload_n 0, 1) := by decide +kernel
theorem dJ9_abs_0f7a4_1 : decode cJ9_abs_0f7a4 1 = .ok (.ifCond .ge 8, 3) := by decide +kernel
theorem dJ9_abs_0f7a4_4 : decode cJ9_abs_0f7a4 4 = .ok (.iload_n 0, 1) := by decide +kernel
theorem dJ9_abs_0f7a4_5 : decode cJ9_abs_0f7a4 5 = .ok (.ineg, 1) := by decide +kernel
theorem dJ9_abs_0f7a4_6 : decode cJ9_abs_0f7a4 6 = .ok (.goto 4, 3) := by decide +kernel
theorem dJ9_abs_0f7a4_9 : decode cJ9_abs_0f7a4 9 = .ok (.iload_n 0, 1) := by decide +kernel
theorem dJ9_abs_0f7a4_10 : decode cJ9_abs_0f7a4 10 = .ok (.ireturn, 1) := by decide +kernel
theorem dJ9_max_7cf53_0 : decode cJ9_max_7cf53 0 = .ok (.iload_n 0, 1) := by decide +kernel
theorem dJ9_max_7cf53_1 : decode cJ9_max_7cf53 1 = .ok (.iload_n 1, 1) := by decide +kernel
theorem dJ9_max_7cf53_2 : decode cJ9_max_7cf53 2 = .ok (.if_icmp .lt 7, 3) := by decide +kernel
theorem dJ9_max_7cf53_5 : decode cJ9_max_7cf53 5 = .ok (.iload_n 0, 1) := by decide +kernel
theorem dJ9_max_7cf53_6 : decode cJ9_max_7cf53 6 = .ok (.goto 4, 3) := by decide +kernel
theorem dJ9_max_7cf53_9 : decode cJ9_max_7cf53 9 = .ok (.iload_n 1, 1) := by decide +kernel
theorem dJ9_max_7cf53_10 : decode cJ9_max_7cf53 10 = .ok (.ireturn, 1) := by decide +kernel
theorem dJ9_min_7cf53_0 : decode cJ9_min_7cf53 0 = .ok (.iload_n 0, 1) := by decide +kernel
theorem dJ9_min_7cf53_1 : decode cJ9_min_7cf53 1 = .ok (.iload_n 1, 1) := by decide +kernel
theorem dJ9_min_7cf53_2 : decode cJ9_min_7cf53 2 = .ok (.if_icmp .gt 7, 3) := by decide +kernel
theorem dJ9_min_7cf53_5 : decode cJ9_min_7cf53 5 = .ok (.iload_n 0, 1) := by decide +kernel
theorem dJ9_min_7cf53_6 : decode cJ9_min_7cf53 6 = .ok (.goto 4, 3) := by decide +kernel
theorem dJ9_min_7cf53_9 : decode cJ9_min_7cf53 9 = .ok (.iload_n 1, 1) := by decide +kernel
theorem dJ9_min_7cf53_10 : decode cJ9_min_7cf53 10 = .ok (.ireturn, 1) := by decide +kernel
theorem dJ0_length_8abf5_0 : decode cJ0_length_8abf5 0 = .ok (.aload_n 0, 1) := by decide +kernel
theorem dJ0_length_8abf5_1 : decode cJ0_length_8abf5 1 = .ok (.getfield 9, 3) := by decide +kernel
theorem dJ0_length_8abf5_4 : decode cJ0_length_8abf5 4 = .ok (.arraylength, 1) := by decide +kernel
theorem dJ0_length_8abf5_5 : decode cJ0_length_8abf5 5 = .ok (.aload_n 0, 1) := by decide +kernel
theorem dJ0_length_8abf5_6 : decode cJ0_length_8abf5 6 = .ok (.invokevirtual 335, 3) := by decide +kernel
theorem dJ0_length_8abf5_9 : decode cJ0_length_8abf5 9 = .ok (.ishr, 1) := by decide +kernel
theorem dJ0_length_8abf5_10 : decode cJ0_length_8abf5 10 = .ok (.ireturn, 1) := by decide +kernel
theorem dJ0_charAt_5068e_0 : decode cJ0_charAt_5068e 0 = .ok (.aload_n 0, 1) := by decide +kernel
theorem dJ0_charAt_5068e_1 : decode cJ0_charAt_5068e 1 = .ok (.invokevirtual 492, 3) := by decide +kernel
theorem dJ0_charAt_5068e_4 : decode cJ0_charAt_5068e 4 = .ok (.ifCond .eq 12, 3) := by decide +kernel
theorem dJ0_charAt_5068e_7 : decode cJ0_charAt_5068e 7 = .ok (.aload_n 0, 1) := by decide +kernel
theorem dJ0_charAt_5068e_8 : decode cJ0_charAt_5068e 8 = .ok (.getfield 9, 3) := by decide +kernel
theorem dJ0_charAt_5068e_11 : decode cJ0_charAt_5068e 11 = .ok (.iload_n 1, 1) := by decide +kernel
theorem dJ0_charAt_5068e_12 : decode cJ0_charAt_5068e 12 = .ok (.invokestatic 495, 3) := by decide +kernel
theorem dJ0_charAt_5068e_15 : decode cJ0_charAt_5068e 15 = .ok (.ireturn, 1) := by decide +kernel
theorem dJ0_charAt_5068e_16 : decode cJ0_charAt_5068e 16 = .ok (.aload_n 0, 1) := by decide +kernel
theorem dJ0_charAt_5068e_17 : decode cJ0_charAt_5068e 17 = .ok (.getfield 9, 3) := by decide +kernel
theorem dJ0_charAt_5068e_20 : decode cJ0_charAt_5068e 20 = .ok (.iload_n 1, 1) := by decide +kernel
theorem dJ0_charAt_5068e_21 : decode cJ0_charAt_5068e 21 = .ok (.invokestatic 498, 3) := by decide +kernel
theorem dJ0_charAt_5068e_24 : decode cJ0_charAt_5068e 24 = .ok (.ireturn, 1) := by decide +kernel
theorem dJ0_coder_7d493_0 : decode cJ0_coder_7d493 0 = .ok (.getstatic 38, 3) := by decide +kernel
theorem dJ0_coder_7d493_3 : decode cJ0_coder_7d493 3 = .ok (.ifCond .eq 10, 3) := by decide +kernel
theorem dJ0_coder_7d493_6 : decode cJ0_coder_7d493 6 = .ok (.aload_n 0, 1) := by decide +kernel
theorem dJ0_coder_7d493_7 : decode cJ0_coder_7d493 7 = .ok (.getfield 15, 3) := by decide +kernel
theorem dJ0_coder_7d493_10 : decode cJ0_coder_7d493 10 = .ok (.goto 4, 3) := by decide +kernel
theorem dJ0_coder_7d493_13 : decode cJ0_coder_7d493 13 = .ok (.iconst 1, 1) := by decide +kernel
theorem dJ0_coder_7d493_14 : decode cJ0_coder_7d493 14 = .ok (.ireturn, 1) := by decide +kernel
theorem dJ0_isLatin1_aae02_0 : decode cJ0_isLatin1_aae02 0 = .ok (.getstatic 38, 3) := by decide +kernel
theorem dJ0_isLatin1_aae02_3 : decode cJ0_isLatin1_aae02 3 = .ok (.ifCond .eq 14, 3) := by decide +kernel
theorem dJ0_isLatin1_aae02_6 : decode cJ0_isLatin1_aae02 6 = .ok (.aload_n 0, 1) := by decide +kernel
theorem dJ0_isLatin1_aae02_7 : decode cJ0_isLatin1_aae02 7 = .ok (.getfield 15, 3) := by decide +kernel
theorem dJ0_isLatin1_aae02_10 : decode cJ0_isLatin1_aae02 10 = .ok (.ifCond .ne 7, 3) := by decide +kernel
theorem dJ0_isLatin1_aae02_13 : decode cJ0_isLatin1_aae02 13 = .ok (.iconst 1, 1) := by decide +kernel
theorem dJ0_isLatin1_aae02_14 : decode cJ0_isLatin1_aae02 14 = .ok (.goto 4, 3) := by decide +kernel
theorem dJ0_isLatin1_aae02_17 : decode cJ0_isLatin1_aae02 17 = .ok (.iconst 0, 1) := by decide +kernel
theorem dJ0_isLatin1_aae02_18 : decode cJ0_isLatin1_aae02 18 = .ok (.ireturn, 1) := by decide +kernel
theorem dJ0_checkIndex_df160_0 : decode cJ0_checkIndex_df160 0 = .ok (.iload_n 0, 1) := by decide +kernel
theorem dJ0_checkIndex_df160_1 : decode cJ0_checkIndex_df160 1 = .ok (.iload_n 1, 1) := by decide +kernel
theorem dJ0_checkIndex_df160_2 : decode cJ0_checkIndex_df160 2 = .ok (.getstatic 1053, 3) := by decide +kernel
theorem dJ0_checkIndex_df160_5 : decode cJ0_checkIndex_df160 5 = .ok (.invokestatic 1059, 3) := by decide +kernel
theorem dJ0_checkIndex_df160_8 : decode cJ0_checkIndex_df160 8 = .ok (.pop, 1) := by decide +kernel
theorem dJ0_checkIndex_df160_9 : decode cJ0_checkIndex_df160 9 = .ok (.return_, 1) := by decide +kernel
theorem dJ1_charAt_3b067_0 : decode cJ1_charAt_3b067 0 = .ok (.iload_n 1, 1) := by decide +kernel
theorem dJ1_charAt_3b067_1 : decode cJ1_charAt_3b067 1 = .ok (.aload_n 0, 1) := by decide +kernel
theorem dJ1_charAt_3b067_2 : decode cJ1_charAt_3b067 2 = .ok (.arraylength, 1) := by decide +kernel
theorem dJ1_charAt_3b067_3 : decode cJ1_charAt_3b067 3 = .ok (.invokestatic 9, 3) := by decide +kernel
theorem dJ1_charAt_3b067_6 : decode cJ1_charAt_3b067 6 = .ok (.aload_n 0, 1) := by decide +kernel
theorem dJ1_charAt_3b067_7 : decode cJ1_charAt_3b067 7 = .ok (.iload_n 1, 1) := by decide +kernel
theorem dJ1_charAt_3b067_8 : decode cJ1_charAt_3b067 8 = .ok (.baload, 1) := by decide +kernel
theorem dJ1_charAt_3b067_9 : decode cJ1_charAt_3b067 9 = .ok (.sipush 255, 3) := by decide +kernel
theorem dJ1_charAt_3b067_12 : decode cJ1_charAt_3b067 12 = .ok (.iand, 1) := by decide +kernel
theorem dJ1_charAt_3b067_13 : decode cJ1_charAt_3b067 13 = .ok (.i2c, 1) := by decide +kernel
theorem dJ1_charAt_3b067_14 : decode cJ1_charAt_3b067 14 = .ok (.ireturn, 1) := by decide +kernel
theorem dJ2_getChar_3b067_0 : decode cJ2_getChar_3b067 0 = .ok (.getstatic 44, 3) := by decide +kernel
theorem dJ2_getChar_3b067_3 : decode cJ2_getChar_3b067 3 = .ok (.ifCond .ne 25, 3) := by decide +kernel
theorem dJ2_getChar_3b067_6 : decode cJ2_getChar_3b067 6 = .ok (.iload_n 1, 1) := by decide +kernel
theorem dJ2_getChar_3b067_7 : decode cJ2_getChar_3b067 7 = .ok (.ifCond .lt 11, 3) := by decide +kernel
theorem dJ2_getChar_3b067_10 : decode cJ2_getChar_3b067 10 = .ok (.iload_n 1, 1) := by decide +kernel
theorem dJ2_getChar_3b067_11 : decode cJ2_getChar_3b067 11 = .ok (.aload_n 0, 1) := by decide +kernel
theorem dJ2_getChar_3b067_12 : decode cJ2_getChar_3b067 12 = .ok (.invokestatic 48, 3) := by decide +kernel
theorem dJ2_getChar_3b067_15 : decode cJ2_getChar_3b067 15 = .ok (.if_icmp .lt 13, 3) := by decide +kernel
theorem dJ2_getChar_3b067_18 : decode cJ2_getChar_3b067 18 = .ok (.new 52, 3) := by decide +kernel
theorem dJ2_getChar_3b067_21 : decode cJ2_getChar_3b067 21 = .ok (.dup, 1) := by decide +kernel
theorem dJ2_getChar_3b067_22 : decode cJ2_getChar_3b067 22 = .ok (.ldc 54, 2) := by decide +kernel
theorem dJ2_getChar_3b067_24 : decode cJ2_getChar_3b067 24 = .ok (.invokespecial 56, 3) := by decide +kernel
theorem dJ2_getChar_3b067_27 : decode cJ2_getChar_3b067 27 = .ok (.athrow, 1) := by decide +kernel
theorem dJ2_getChar_3b067_28 : decode cJ2_getChar_3b067 28 = .ok (.iload_n 1, 1) := by decide +kernel
theorem dJ2_getChar_3b067_29 : decode cJ2_getChar_3b067 29 = .ok (.iconst 1, 1) := by decide +kernel
theorem dJ2_getChar_3b067_30 : decode cJ2_getChar_3b067 30 = .ok (.ishl, 1) := by decide +kernel
theorem dJ2_getChar_3b067_31 : decode cJ2_getChar_3b067 31 = .ok (.istore_n 1, 1) := by decide +kernel
theorem dJ2_getChar_3b067_32 : decode cJ2_getChar_3b067 32 = .ok (.aload_n 0, 1) := by decide +kernel
theorem dJ2_getChar_3b067_33 : decode cJ2_getChar_3b067 33 = .ok (.iload_n 1, 1) := by decide +kernel
theorem dJ2_getChar_3b067_34 : decode cJ2_getChar_3b067 34 = .ok (.iinc 1 1, 3) := by decide +kernel
theorem dJ2_getChar_3b067_37 : decode cJ2_getChar_3b067 37 = .ok (.baload, 1) := by decide +kernel
theorem dJ2_getChar_3b067_38 : decode cJ2_getChar_3b067 38 = .ok (.sipush 255, 3) := by decide +kernel
theorem dJ2_getChar_3b067_41 : decode cJ2_getChar_3b067 41 = .ok (.iand, 1) := by decide +kernel
theorem dJ2_getChar_3b067_42 : decode cJ2_getChar_3b067 42 = .ok (.getstatic 59, 3) := by decide +kernel
theorem dJ2_getChar_3b067_45 : decode cJ2_getChar_3b067 45 = .ok (.ishl, 1) := by decide +kernel
theorem dJ2_getChar_3b067_46 : decode cJ2_getChar_3b067 46 = .ok (.aload_n 0, 1) := by decide +kernel
theorem dJ2_getChar_3b067_47 : decode cJ2_getChar_3b067 47 = .ok (.iload_n 1, 1) := by decide +kernel
theorem dJ2_getChar_3b067_48 : decode cJ2_getChar_3b067 48 = .ok (.baload, 1) := by decide +kernel
theorem dJ2_getChar_3b067_49 : decode cJ2_getChar_3b067 49 = .ok (.sipush 255, 3) := by decide +kernel
theorem dJ2_getChar_3b067_52 : decode cJ2_getChar_3b067 52 = .ok (.iand, 1) := by decide +kernel
theorem dJ2_getChar_3b067_53 : decode cJ2_getChar_3b067 53 = .ok (.getstatic 63, 3) := by decide +kernel
theorem dJ2_getChar_3b067_56 : decode cJ2_getChar_3b067 56 = .ok (.ishl, 1) := by decide +kernel
theorem dJ2_getChar_3b067_57 : decode cJ2_getChar_3b067 57 = .ok (.ior, 1) := by decide +kernel
theorem dJ2_getChar_3b067_58 : decode cJ2_getChar_3b067 58 = .ok (.i2c, 1) := by decide +kernel
theorem dJ2_getChar_3b067_59 : decode cJ2_getChar_3b067 59 = .ok (.ireturn, 1) := by decide +kernel
theorem dJ2_length_9d52b_0 : decode cJ2_length_9d52b 0 = .ok (.aload_n 0, 1) := by decide +kernel
theorem dJ2_length_9d52b_1 : decode cJ2_length_9d52b 1 = .ok (.arraylength, 1) := by decide +kernel
theorem dJ2_length_9d52b_2 : decode cJ2_length_9d52b 2 = .ok (.iconst 1, 1) := by decide +kernel
theorem dJ2_length_9d52b_3 : decode cJ2_length_9d52b 3 = .ok (.ishr, 1) := by decide +kernel
theorem dJ2_length_9d52b_4 : decode cJ2_length_9d52b 4 = .ok (.ireturn, 1) := by decide +kernel
theorem dJ2_charAt_3b067_0 : decode cJ2_charAt_3b067 0 = .ok (.iload_n 1, 1) := by decide +kernel
theorem dJ2_charAt_3b067_1 : decode cJ2_charAt_3b067 1 = .ok (.aload_n 0, 1) := by decide +kernel
theorem dJ2_charAt_3b067_2 : decode cJ2_charAt_3b067 2 = .ok (.invokestatic 67, 3) := by decide +kernel
theorem dJ2_charAt_3b067_5 : decode cJ2_charAt_3b067 5 = .ok (.aload_n 0, 1) := by decide +kernel
theorem dJ2_charAt_3b067_6 : decode cJ2_charAt_3b067 6 = .ok (.iload_n 1, 1) := by decide +kernel
theorem dJ2_charAt_3b067_7 : decode cJ2_charAt_3b067 7 = .ok (.invokestatic 71, 3) := by decide +kernel
theorem dJ2_charAt_3b067_10 : decode cJ2_charAt_3b067 10 = .ok (.ireturn, 1) := by decide +kernel
theorem dJ2_checkIndex_2214a_0 : decode cJ2_checkIndex_2214a 0 = .ok (.iload_n 0, 1) := by decide +kernel
theorem dJ2_checkIndex_2214a_1 : decode cJ2_checkIndex_2214a 1 = .ok (.aload_n 1, 1) := by decide +kernel
theorem dJ2_checkIndex_2214a_2 : decode cJ2_checkIndex_2214a 2 = .ok (.invokestatic 48, 3) := by decide +kernel
theorem dJ2_checkIndex_2214a_5 : decode cJ2_checkIndex_2214a 5 = .ok (.invokestatic 414, 3) := by decide +kernel
theorem dJ2_checkIndex_2214a_8 : decode cJ2_checkIndex_2214a 8 = .ok (.return_, 1) := by decide +kernel
theorem dJ3_checkIndex_8e157_0 : decode cJ3_checkIndex_8e157 0 = .ok (.iload_n 0, 1) := by decide +kernel
theorem dJ3_checkIndex_8e157_1 : decode cJ3_checkIndex_8e157 1 = .ok (.ifCond .lt 8, 3) := by decide +kernel
theorem dJ3_checkIndex_8e157_4 : decode cJ3_checkIndex_8e157 4 = .ok (.iload_n 0, 1) := by decide +kernel
theorem dJ3_checkIndex_8e157_5 : decode cJ3_checkIndex_8e157 5 = .ok (.iload_n 1, 1) := by decide +kernel
theorem dJ3_checkIndex_8e157_6 : decode cJ3_checkIndex_8e157 6 = .ok (.if_icmp .lt 10, 3) := by decide +kernel
theorem dJ3_checkIndex_8e157_9 : decode cJ3_checkIndex_8e157 9 = .ok (.aload_n 2, 1) := by decide +kernel
theorem dJ3_checkIndex_8e157_10 : decode cJ3_checkIndex_8e157 10 = .ok (.iload_n 0, 1) := by decide +kernel
theorem dJ3_checkIndex_8e157_11 : decode cJ3_checkIndex_8e157 11 = .ok (.iload_n 1, 1) := by decide +kernel
theorem dJ3_checkIndex_8e157_12 : decode cJ3_checkIndex_8e157 12 = .ok (.invokestatic 95, 3) := by decide +kernel
theorem dJ3_checkIndex_8e157_15 : decode cJ3_checkIndex_8e157 15 = .ok (.athrow, 1) := by decide +kernel
theorem dJ3_checkIndex_8e157_16 : decode cJ3_checkIndex_8e157 16 = .ok (.iload_n 0, 1) := by decide +kernel
theorem dJ3_checkIndex_8e157_17 : decode cJ3_checkIndex_8e157 17 = .ok (.ireturn, 1) := by decide +kernel
