theorem dX4_init_0 : decode cX4_init 0 = .ok (.aload_n 0, 1) := by decide +kernel
theorem dX4_init_1 : decode cX4_init 1 = .ok (.invokespecial 1, 3) := by decide +kernel
theorem dX4_init_4 : decode cX4_init 4 = .ok (.aload_n 0, 1) := by decide +kernel
theorem dX4_init_5 : decode cX4_init 5 = .ok (.new 7, 3) := by decide +kernel
theorem dX4_init_8 : decode cX4_init 8 = .ok (.dup, 1) := by decide +kernel
theorem dX4_init_9 : decode cX4_init 9 = .ok (.invokespecial 9, 3) := by decide +kernel
theorem dX4_init_12 : decode cX4_init 12 = .ok (.putfield 10, 3) := by decide +kernel
theorem dX4_init_15 : decode cX4_init 15 = .ok (.aload_n 0, 1) := by decide +kernel
theorem dX4_init_16 : decode cX4_init 16 = .ok (.new 7, 3) := by decide +kernel
theorem dX4_init_19 : decode cX4_init 19 = .ok (.dup, 1) := by decide +kernel
theorem dX4_init_20 : decode cX4_init 20 = .ok (.invokespecial 9, 3) := by decide +kernel
theorem dX4_init_23 : decode cX4_init 23 = .ok (.putfield 16, 3) := by decide +kernel
theorem dX4_init_26 : decode cX4_init 26 = .ok (.aload_n 0, 1) := by decide +kernel
theorem dX4_init_27 : decode cX4_init 27 = .ok (.new 7, 3) := by decide +kernel
theorem dX4_init_30 : decode cX4_init 30 = .ok (.dup, 1) := by decide +kernel
theorem dX4_init_31 : decode cX4_init 31 = .ok (.invokespecial 9, 3) := by decide +kernel
theorem dX4_init_34 : decode cX4_init 34 = .ok (.putfield 19, 3) := by decide +kernel
theorem dX4_init_37 : decode cX4_init 37 = .ok (.aload_n 0, 1) := by decide +kernel
theorem dX4_init_38 : decode cX4_init 38 = .ok (.new 22, 3) := by decide +kernel
theorem dX4_init_41 : decode cX4_init 41 = .ok (.dup, 1) := by decide +kernel
theorem dX4_init_42 : decode cX4_init 42 = .ok (.invokespecial 24, 3) := by decide +kernel
theorem dX4_init_45 : decode cX4_init 45 = .ok (.putfield 25, 3) := by decide +kernel
theorem dX4_init_48 : decode cX4_init 48 = .ok (.aload_n 0, 1) := by decide +kernel
theorem dX4_init_49 : decode cX4_init 49 = .ok (.new 29, 3) := by decide +kernel
theorem dX4_init_52 : decode cX4_init 52 = .ok (.dup, 1) := by decide +kernel
theorem dX4_init_53 : decode cX4_init 53 = .ok (.invokespecial 31, 3) := by decide +kernel
theorem dX4_init_56 : decode cX4_init 56 = .ok (.putfield 32, 3) := by decide +kernel
theorem dX4_init_59 : decode cX4_init 59 = .ok (.aload_n 0, 1) := by decide +kernel
theorem dX4_init_60 : decode cX4_init 60 = .ok (.iconst 4, 1) := by decide +kernel
theorem dX4_init_61 : decode cX4_init 61 = .ok (.anewarray 36, 3) := by decide +kernel
theorem dX4_init_64 : decode cX4_init 64 = .ok (.putfield 38, 3) := by decide +kernel
theorem dX4_init_67 : decode cX4_init 67 = .ok (.aload_n 0, 1) := by decide +kernel
theorem dX4_init_68 : decode cX4_init 68 = .ok (.bipush 7, 2) := by decide +kernel
theorem dX4_init_70 : decode cX4_init 70 = .ok (.newarray .int, 2) := by decide +kernel
theorem dX4_init_72 : decode cX4_init 72 = .ok (.putfield 42, 3) := by decide +kernel
theorem dX4_init_75 : decode cX4_init 75 = .ok (.iconst 0, 1) := by decide +kernel
theorem dX4_init_76 : decode cX4_init 76 = .ok (.istore_n 1, 1) := by decide +kernel
theorem dX4_init_77 : decode cX4_init 77 = .ok (.iload_n 1, 1) := by decide +kernel
theorem dX4_init_78 : decode cX4_init 78 = .ok (.iconst 4, 1) := by decide +kernel
theorem dX4_init_79 : decode cX4_init 79 = .ok (.if_icmp .ge 22, 3) := by decide +kernel
theorem dX4_init_82 : decode cX4_init 82 = .ok (.aload_n 0, 1) := by decide +kernel
theorem dX4_init_83 : decode cX4_init 83 = .ok (.getfield 38, 3) := by decide +kernel
theorem dX4_init_86 : decode cX4_init 86 = .ok (.iload_n 1, 1) := by decide +kernel
theorem dX4_init_87 : decode cX4_init 87 = .ok (.new 36, 3) := by decide +kernel
theorem dX4_init_90 : decode cX4_init 90 = .ok (.dup, 1) := by decide +kernel
theorem dX4_init_91 : decode cX4_init 91 = .ok (.invokespecial 46, 3) := by decide +kernel
theorem dX4_init_94 : decode cX4_init 94 = .ok (.aastore, 1) := by decide +kernel
theorem dX4_init_95 : decode cX4_init 95 = .ok (.iinc 1 1, 3) := by decide +kernel
theorem dX4_init_98 : decode cX4_init 98 = .ok (.goto (-21), 3) := by decide +kernel
theorem dX4_init_101 : decode cX4_init 101 = .ok (.return_, 1) := by decide +kernel
theorem dX4_list_0 : decode cX4_list 0 = .ok (.iload_n 1, 1) := by decide +kernel
theorem dX4_list_1 : decode cX4_list 1 = .ok (.invokestatic 47, 3) := by decide +kernel
theorem dX4_list_4 : decode cX4_list 4 = .ok (.ifCond .eq 17, 3) := by decide +kernel
theorem dX4_list_7 : decode cX4_list 7 = .ok (.iload_n 2, 1) := by decide +kernel
theorem dX4_list_8 : decode cX4_list 8 = .ok (.invokestatic 51, 3) := by decide +kernel
theorem dX4_list_11 : decode cX4_list 11 = .ok (.ifCond .eq 10, 3) := by decide +kernel
theorem dX4_list_14 : decode cX4_list 14 = .ok (.iload_n 3, 1) := by decide +kernel
theorem dX4_list_15 : decode cX4_list 15 = .ok (.invokestatic 51, 3) := by decide +kernel
theorem dX4_list_18 : decode cX4_list 18 = .ok (.ifCond .ne 9, 3) := by decide +kernel
theorem dX4_list_21 : decode cX4_list 21 = .ok (.aload_n 0, 1) := by decide +kernel
theorem dX4_list_22 : decode cX4_list 22 = .ok (.iconst 0, 1) := by decide +kernel
theorem dX4_list_23 : decode cX4_list 23 = .ok (.invokevirtual 54, 3) := by decide +kernel
theorem dX4_list_26 : decode cX4_list 26 = .ok (.ireturn, 1) := by decide +kernel
theorem dX4_list_27 : decode cX4_list 27 = .ok (.aload_n 0, 1) := by decide +kernel
theorem dX4_list_28 : decode cX4_list 28 = .ok (.getfield 10, 3) := by decide +kernel
theorem dX4_list_31 : decode cX4_list 31 = .ok (.getfield 58, 3) := by decide +kernel
theorem dX4_list_34 : decode cX4_list 34 = .ok (.iload_n 1, 1) := by decide +kernel
theorem dX4_list_35 : decode cX4_list 35 = .ok (.iaload, 1) := by decide +kernel
theorem dX4_list_36 : decode cX4_list 36 = .ok (.istore 4, 2) := by decide +kernel
theorem dX4_list_38 : decode cX4_list 38 = .ok (.aload_n 0, 1) := by decide +kernel
theorem dX4_list_39 : decode cX4_list 39 = .ok (.getfield 10, 3) := by decide +kernel
theorem dX4_list_42 : decode cX4_list 42 = .ok (.getfield 58, 3) := by decide +kernel
theorem dX4_list_45 : decode cX4_list 45 = .ok (.iload_n 1, 1) := by decide +kernel
theorem dX4_list_46 : decode cX4_list 46 = .ok (.bipush 10, 2) := by decide +kernel
theorem dX4_list_48 : decode cX4_list 48 = .ok (.iload_n 2, 1) := by decide +kernel
theorem dX4_list_49 : decode cX4_list 49 = .ok (.imul, 1) := by decide +kernel
theorem dX4_list_50 : decode cX4_list 50 = .ok (.iload_n 3, 1) := by decide +kernel
theorem dX4_list_51 : decode cX4_list 51 = .ok (.iadd, 1) := by decide +kernel
theorem dX4_list_52 : decode cX4_list 52 = .ok (.iastore, 1) := by decide +kernel
theorem dX4_list_53 : decode cX4_list 53 = .ok (.iload 4, 2) := by decide +kernel
theorem dX4_list_55 : decode cX4_list 55 = .ok (.ireturn, 1) := by decide +kernel
theorem dX4_listed_0 : decode cX4_listed 0 = .ok (.iload_n 1, 1) := by decide +kernel
theorem dX4_listed_1 : decode cX4_listed 1 = .ok (.invokestatic 47, 3) := by decide +kernel
theorem dX4_listed_4 : decode cX4_listed 4 = .ok (.ifCond .eq 15, 3) := by decide +kernel
theorem dX4_listed_7 : decode cX4_listed 7 = .ok (.aload_n 0, 1) := by decide +kernel
theorem dX4_listed_8 : decode cX4_listed 8 = .ok (.getfield 10, 3) := by decide +kernel
theorem dX4_listed_11 : decode cX4_listed 11 = .ok (.getfield 58, 3) := by decide +kernel
theorem dX4_listed_14 : decode cX4_listed 14 = .ok (.iload_n 1, 1) := by decide +kernel
theorem dX4_listed_15 : decode cX4_listed 15 = .ok (.iaload, 1) := by decide +kernel
theorem dX4_listed_16 : decode cX4_listed 16 = .ok (.goto 8, 3) := by decide +kernel
theorem dX4_listed_19 : decode cX4_listed 19 = .ok (.aload_n 0, 1) := by decide +kernel
theorem dX4_listed_20 : decode cX4_listed 20 = .ok (.iconst 0, 1) := by decide +kernel
theorem dX4_listed_21 : decode cX4_listed 21 = .ok (.invokevirtual 54, 3) := by decide +kernel
theorem dX4_listed_24 : decode cX4_listed 24 = .ok (.ireturn, 1) := by decide +kernel
theorem dX4_piece_0 : decode cX4_piece 0 = .ok (.iload_n 1, 1) := by decide +kernel
theorem dX4_piece_1 : decode cX4_piece 1 = .ok (.invokestatic 61, 3) := by decide +kernel
theorem dX4_piece_4 : decode cX4_piece 4 = .ok (.ifCond .eq 17, 3) := by decide +kernel
theorem dX4_piece_7 : decode cX4_piece 7 = .ok (.iload_n 2, 1) := by decide +kernel
theorem dX4_piece_8 : decode cX4_piece 8 = .ok (.invokestatic 64, 3) := by decide +kernel
theorem dX4_piece_11 : decode cX4_piece 11 = .ok (.ifCond .eq 10, 3) := by decide +kernel
theorem dX4_piece_14 : decode cX4_piece 14 = .ok (.iload_n 3, 1) := by decide +kernel
theorem dX4_piece_15 : decode cX4_piece 15 = .ok (.invokestatic 64, 3) := by decide +kernel
theorem dX4_piece_18 : decode cX4_piece 18 = .ok (.ifCond .ne 9, 3) := by decide +kernel
theorem dX4_piece_21 : decode cX4_piece 21 = .ok (.aload_n 0, 1) := by decide +kernel
theorem dX4_piece_22 : decode cX4_piece 22 = .ok (.iconst 0, 1) := by decide +kernel
theorem dX4_piece_23 : decode cX4_piece 23 = .ok (.invokevirtual 54, 3) := by decide +kernel
theorem dX4_piece_26 : decode cX4_piece 26 = .ok (.ireturn, 1) := by decide +kernel
theorem dX4_piece_27 : decode cX4_piece 27 = .ok (.aload_n 0, 1) := by decide +kernel
theorem dX4_piece_28 : decode cX4_piece 28 = .ok (.getfield 10, 3) := by decide +kernel
theorem dX4_piece_31 : decode cX4_piece 31 = .ok (.getfield 67, 3) := by decide +kernel
theorem dX4_piece_34 : decode cX4_piece 34 = .ok (.bipush 8, 2) := by decide +kernel
theorem dX4_piece_36 : decode cX4_piece 36 = .ok (.if_icmp .lt 9, 3) := by decide +kernel
theorem dX4_piece_39 : decode cX4_piece 39 = .ok (.aload_n 0, 1) := by decide +kernel
theorem dX4_piece_40 : decode cX4_piece 40 = .ok (.iconst 1, 1) := by decide +kernel
theorem dX4_piece_41 : decode cX4_piece 41 = .ok (.invokevirtual 54, 3) := by decide +kernel
theorem dX4_piece_44 : decode cX4_piece 44 = .ok (.ireturn, 1) := by decide +kernel
theorem dX4_piece_45 : decode cX4_piece 45 = .ok (.aload_n 0, 1) := by decide +kernel
theorem dX4_piece_46 : decode cX4_piece 46 = .ok (.getfield 10, 3) := by decide +kernel
theorem dX4_piece_49 : decode cX4_piece 49 = .ok (.iload_n 1, 1) := by decide +kernel
theorem dX4_piece_50 : decode cX4_piece 50 = .ok (.iload_n 2, 1) := by decide +kernel
theorem dX4_piece_51 : decode cX4_piece 51 = .ok (.iload_n 3, 1) := by decide +kernel
theorem dX4_piece_52 : decode cX4_piece 52 = .ok (.invokevirtual 71, 3) := by decide +kernel
theorem dX4_piece_55 : decode cX4_piece 55 = .ok (.ireturn, 1) := by decide +kernel
theorem dX4_of_0 : decode cX4_of 0 = .ok (.aload_n 0, 1) := by decide +kernel
theorem dX4_of_1 : decode cX4_of 1 = .ok (.getfield 10, 3) := by decide +kernel
theorem dX4_of_4 : decode cX4_of 4 = .ok (.iload_n 1, 1) := by decide +kernel
theorem dX4_of_5 : decode cX4_of 5 = .ok (.invokevirtual 75, 3) := by decide +kernel
theorem dX4_of_8 : decode cX4_of 8 = .ok (.ifCond .eq 13, 3) := by decide +kernel
theorem dX4_of_11 : decode cX4_of 11 = .ok (.iload_n 2, 1) := by decide +kernel
theorem dX4_of_12 : decode cX4_of 12 = .ok (.ifCond .lt 9, 3) := by decide +kernel
theorem dX4_of_15 : decode cX4_of 15 = .ok (.iload_n 2, 1) := by decide +kernel
theorem dX4_of_16 : decode cX4_of 16 = .ok (.bipush 6, 2) := by decide +kernel
theorem dX4_of_18 : decode cX4_of 18 = .ok (.if_icmp .le 9, 3) := by decide +kernel
theorem dX4_of_21 : decode cX4_of 21 = .ok (.aload_n 0, 1) := by decide +kernel
theorem dX4_of_22 : decode cX4_of 22 = .ok (.iconst 0, 1) := by decide +kernel
theorem dX4_of_23 : decode cX4_of 23 = .ok (.invokevirtual 54, 3) := by decide +kernel
theorem dX4_of_26 : decode cX4_of 26 = .ok (.ireturn, 1) := by decide +kernel
theorem dX4_of_27 : decode cX4_of 27 = .ok (.aload_n 0, 1) := by decide +kernel
theorem dX4_of_28 : decode cX4_of 28 = .ok (.getfield 10, 3) := by decide +kernel
theorem dX4_of_31 : decode cX4_of 31 = .ok (.iload_n 1, 1) := by decide +kernel
theorem dX4_of_32 : decode cX4_of 32 = .ok (.iload_n 2, 1) := by decide +kernel
theorem dX4_of_33 : decode cX4_of 33 = .ok (.invokevirtual 78, 3) := by decide +kernel
theorem dX4_of_36 : decode cX4_of 36 = .ok (.ireturn, 1) := by decide +kernel
theorem dX4_change_0 : decode cX4_change 0 = .ok (.aload_n 0, 1) := by decide +kernel
theorem dX4_change_1 : decode cX4_change 1 = .ok (.getfield 10, 3) := by decide +kernel
theorem dX4_change_4 : decode cX4_change 4 = .ok (.iload_n 1, 1) := by decide +kernel
theorem dX4_change_5 : decode cX4_change 5 = .ok (.invokevirtual 75, 3) := by decide +kernel
theorem dX4_change_8 : decode cX4_change 8 = .ok (.ifCond .eq 11, 3) := by decide +kernel
theorem dX4_change_11 : decode cX4_change 11 = .ok (.iload_n 2, 1) := by decide +kernel
theorem dX4_change_12 : decode cX4_change 12 = .ok (.iload_n 3, 1) := by decide +kernel
theorem dX4_change_13 : decode cX4_change 13 = .ok (.invokestatic 82, 3) := by decide +kernel
theorem dX4_change_16 : decode cX4_change 16 = .ok (.ifCond .ne 9, 3) := by decide +kernel
theorem dX4_change_19 : decode cX4_change 19 = .ok (.aload_n 0, 1) := by decide +kernel
theorem dX4_change_20 : decode cX4_change 20 = .ok (.iconst 0, 1) := by decide +kernel
theorem dX4_change_21 : decode cX4_change 21 = .ok (.invokevirtual 54, 3) := by decide +kernel
theorem dX4_change_24 : decode cX4_change 24 = .ok (.ireturn, 1) := by decide +kernel
theorem dX4_change_25 : decode cX4_change 25 = .ok (.aload_n 0, 1) := by decide +kernel
theorem dX4_change_26 : decode cX4_change 26 = .ok (.getfield 10, 3) := by decide +kernel
theorem dX4_change_29 : decode cX4_change 29 = .ok (.iload_n 1, 1) := by decide +kernel
theorem dX4_change_30 : decode cX4_change 30 = .ok (.iload_n 2, 1) := by decide +kernel
theorem dX4_change_31 : decode cX4_change 31 = .ok (.invokevirtual 78, 3) := by decide +kernel
theorem dX4_change_34 : decode cX4_change 34 = .ok (.istore 4, 2) := by decide +kernel
theorem dX4_change_36 : decode cX4_change 36 = .ok (.aload_n 0, 1) := by decide +kernel
theorem dX4_change_37 : decode cX4_change 37 = .ok (.getfield 10, 3) := by decide +kernel
theorem dX4_change_40 : decode cX4_change 40 = .ok (.iload_n 1, 1) := by decide +kernel
theorem dX4_change_41 : decode cX4_change 41 = .ok (.iload_n 2, 1) := by decide +kernel
theorem dX4_change_42 : decode cX4_change 42 = .ok (.iload_n 3, 1) := by decide +kernel
theorem dX4_change_43 : decode cX4_change 43 = .ok (.invokevirtual 86, 3) := by decide +kernel
theorem dX4_change_46 : decode cX4_change 46 = .ok (.iload 4, 2) := by decide +kernel
theorem dX4_change_48 : decode cX4_change 48 = .ok (.ireturn, 1) := by decide +kernel
theorem dX4_lies_0 : decode cX4_lies 0 = .ok (.aload_n 0, 1) := by decide +kernel
theorem dX4_lies_1 : decode cX4_lies 1 = .ok (.getfield 10, 3) := by decide +kernel
theorem dX4_lies_4 : decode cX4_lies 4 = .ok (.iload_n 1, 1) := by decide +kernel
theorem dX4_lies_5 : decode cX4_lies 5 = .ok (.invokevirtual 75, 3) := by decide +kernel
theorem dX4_lies_8 : decode cX4_lies 8 = .ok (.ifCond .eq 15, 3) := by decide +kernel
theorem dX4_lies_11 : decode cX4_lies 11 = .ok (.aload_n 0, 1) := by decide +kernel
theorem dX4_lies_12 : decode cX4_lies 12 = .ok (.getfield 10, 3) := by decide +kernel
theorem dX4_lies_15 : decode cX4_lies 15 = .ok (.getfield 90, 3) := by decide +kernel
theorem dX4_lies_18 : decode cX4_lies 18 = .ok (.iload_n 1, 1) := by decide +kernel
theorem dX4_lies_19 : decode cX4_lies 19 = .ok (.iaload, 1) := by decide +kernel
theorem dX4_lies_20 : decode cX4_lies 20 = .ok (.goto 8, 3) := by decide +kernel
theorem dX4_lies_23 : decode cX4_lies 23 = .ok (.aload_n 0, 1) := by decide +kernel
theorem dX4_lies_24 : decode cX4_lies 24 = .ok (.iconst 0, 1) := by decide +kernel
theorem dX4_lies_25 : decode cX4_lies 25 = .ok (.invokevirtual 54, 3) := by decide +kernel
theorem dX4_lies_28 : decode cX4_lies 28 = .ok (.ireturn, 1) := by decide +kernel
theorem dX4_gap_0 : decode cX4_gap 0 = .ok (.aload_n 0, 1) := by decide +kernel
theorem dX4_gap_1 : decode cX4_gap 1 = .ok (.getfield 10, 3) := by decide +kernel
theorem dX4_gap_4 : decode cX4_gap 4 = .ok (.iload_n 1, 1) := by decide +kernel
theorem dX4_gap_5 : decode cX4_gap 5 = .ok (.invokevirtual 75, 3) := by decide +kernel
theorem dX4_gap_8 : decode cX4_gap 8 = .ok (.ifCond .eq 19, 3) := by decide +kernel
theorem dX4_gap_11 : decode cX4_gap 11 = .ok (.aload_n 0, 1) := by decide +kernel
theorem dX4_gap_12 : decode cX4_gap 12 = .ok (.getfield 10, 3) := by decide +kernel
theorem dX4_gap_15 : decode cX4_gap 15 = .ok (.iload_n 2, 1) := by decide +kernel
theorem dX4_gap_16 : decode cX4_gap 16 = .ok (.invokevirtual 75, 3) := by decide +kernel
theorem dX4_gap_19 : decode cX4_gap 19 = .ok (.ifCond .eq 8, 3) := by decide +kernel
theorem dX4_gap_22 : decode cX4_gap 22 = .ok (.iload_n 1, 1) := by decide +kernel
theorem dX4_gap_23 : decode cX4_gap 23 = .ok (.iload_n 2, 1) := by decide +kernel
theorem dX4_gap_24 : decode cX4_gap 24 = .ok (.if_icmp .ne 9, 3) := by decide +kernel
theorem dX4_gap_27 : decode cX4_gap 27 = .ok (.aload_n 0, 1) := by decide +kernel
theorem dX4_gap_28 : decode cX4_gap 28 = .ok (.iconst 0, 1) := by decide +kernel
theorem dX4_gap_29 : decode cX4_gap 29 = .ok (.invokevirtual 54, 3) := by decide +kernel
theorem dX4_gap_32 : decode cX4_gap 32 = .ok (.ireturn, 1) := by decide +kernel
theorem dX4_gap_33 : decode cX4_gap 33 = .ok (.aload_n 0, 1) := by decide +kernel
theorem dX4_gap_34 : decode cX4_gap 34 = .ok (.getfield 10, 3) := by decide +kernel
theorem dX4_gap_37 : decode cX4_gap 37 = .ok (.iload_n 1, 1) := by decide +kernel
theorem dX4_gap_38 : decode cX4_gap 38 = .ok (.iload_n 2, 1) := by decide +kernel
theorem dX4_gap_39 : decode cX4_gap 39 = .ok (.invokevirtual 93, 3) := by decide +kernel
theorem dX4_gap_42 : decode cX4_gap 42 = .ok (.ireturn, 1) := by decide +kernel
theorem dX4_edge_0 : decode cX4_edge 0 = .ok (.aload_n 0, 1) := by decide +kernel
theorem dX4_edge_1 : decode cX4_edge 1 = .ok (.getfield 10, 3) := by decide +kernel
theorem dX4_edge_4 : decode cX4_edge 4 = .ok (.iload_n 1, 1) := by decide +kernel
theorem dX4_edge_5 : decode cX4_edge 5 = .ok (.invokevirtual 75, 3) := by decide +kernel
theorem dX4_edge_8 : decode cX4_edge 8 = .ok (.ifCond .eq 12, 3) := by decide +kernel
theorem dX4_edge_11 : decode cX4_edge 11 = .ok (.iload_n 2, 1) := by decide +kernel
theorem dX4_edge_12 : decode cX4_edge 12 = .ok (.ifCond .lt 8, 3) := by decide +kernel
theorem dX4_edge_15 : decode cX4_edge 15 = .ok (.iload_n 2, 1) := by decide +kernel
theorem dX4_edge_16 : decode cX4_edge 16 = .ok (.iconst 1, 1) := by decide +kernel
theorem dX4_edge_17 : decode cX4_edge 17 = .ok (.if_icmp .le 9, 3) := by decide +kernel
theorem dX4_edge_20 : decode cX4_edge 20 = .ok (.aload_n 0, 1) := by decide +kernel
theorem dX4_edge_21 : decode cX4_edge 21 = .ok (.iconst 0, 1) := by decide +kernel
theorem dX4_edge_22 : decode cX4_edge 22 = .ok (.invokevirtual 54, 3) := by decide +kernel
theorem dX4_edge_25 : decode cX4_edge 25 = .ok (.ireturn, 1) := by decide +kernel
theorem dX4_edge_26 : decode cX4_edge 26 = .ok (.aload_n 0, 1) := by decide +kernel
theorem dX4_edge_27 : decode cX4_edge 27 = .ok (.getfield 10, 3) := by decide +kernel
theorem dX4_edge_30 : decode cX4_edge 30 = .ok (.iload_n 1, 1) := by decide +kernel
theorem dX4_edge_31 : decode cX4_edge 31 = .ok (.iload_n 2, 1) := by decide +kernel
theorem dX4_edge_32 : decode cX4_edge 32 = .ok (.invokevirtual 96, 3) := by decide +kernel
theorem dX4_edge_35 : decode cX4_edge 35 = .ok (.ireturn, 1) := by decide +kernel
theorem dX4_swap_0 : decode cX4_swap 0 = .ok (.aload_n 0, 1) := by decide +kernel
theorem dX4_swap_1 : decode cX4_swap 1 = .ok (.getfield 10, 3) := by decide +kernel
theorem dX4_swap_4 : decode cX4_swap 4 = .ok (.iload_n 1, 1) := by decide +kernel
theorem dX4_swap_5 : decode cX4_swap 5 = .ok (.invokevirtual 75, 3) := by decide +kernel
theorem dX4_swap_8 : decode cX4_swap 8 = .ok (.ifCond .eq 14, 3) := by decide +kernel
theorem dX4_swap_11 : decode cX4_swap 11 = .ok (.aload_n 0, 1) := by decide +kernel
theorem dX4_swap_12 : decode cX4_swap 12 = .ok (.getfield 10, 3) := by decide +kernel
theorem dX4_swap_15 : decode cX4_swap 15 = .ok (.iload_n 2, 1) := by decide +kernel
theorem dX4_swap_16 : decode cX4_swap 16 = .ok (.invokevirtual 75, 3) := by decide +kernel
theorem dX4_swap_19 : decode cX4_swap 19 = .ok (.ifCond .ne 9, 3) := by decide +kernel
theorem dX4_swap_22 : decode cX4_swap 22 = .ok (.aload_n 0, 1) := by decide +kernel
theorem dX4_swap_23 : decode cX4_swap 23 = .ok (.iconst 0, 1) := by decide +kernel
theorem dX4_swap_24 : decode cX4_swap 24 = .ok (.invokevirtual 54, 3) := by decide +kernel
theorem dX4_swap_27 : decode cX4_swap 27 = .ok (.ireturn, 1) := by decide +kernel
theorem dX4_swap_28 : decode cX4_swap 28 = .ok (.aload_n 0, 1) := by decide +kernel
theorem dX4_swap_29 : decode cX4_swap 29 = .ok (.getfield 10, 3) := by decide +kernel
theorem dX4_swap_32 : decode cX4_swap 32 = .ok (.iload_n 1, 1) := by decide +kernel
theorem dX4_swap_33 : decode cX4_swap 33 = .ok (.iload_n 2, 1) := by decide +kernel
theorem dX4_swap_34 : decode cX4_swap 34 = .ok (.invokevirtual 99, 3) := by decide +kernel
theorem dX4_swap_37 : decode cX4_swap 37 = .ok (.aload_n 0, 1) := by decide +kernel
theorem dX4_swap_38 : decode cX4_swap 38 = .ok (.getfield 10, 3) := by decide +kernel
theorem dX4_swap_41 : decode cX4_swap 41 = .ok (.invokevirtual 103, 3) := by decide +kernel
theorem dX4_swap_44 : decode cX4_swap 44 = .ok (.ireturn, 1) := by decide +kernel
theorem dX4_go_0 : decode cX4_go 0 = .ok (.iload_n 1, 1) := by decide +kernel
theorem dX4_go_1 : decode cX4_go 1 = .ok (.iconst 1, 1) := by decide +kernel
theorem dX4_go_2 : decode cX4_go 2 = .ok (.if_icmp .lt 9, 3) := by decide +kernel
theorem dX4_go_5 : decode cX4_go 5 = .ok (.iload_n 1, 1) := by decide +kernel
theorem dX4_go_6 : decode cX4_go 6 = .ok (.bipush 60, 2) := by decide +kernel
theorem dX4_go_8 : decode cX4_go 8 = .ok (.if_icmp .le 9, 3) := by decide +kernel
theorem dX4_go_11 : decode cX4_go 11 = .ok (.aload_n 0, 1) := by decide +kernel
theorem dX4_go_12 : decode cX4_go 12 = .ok (.iconst 0, 1) := by decide +kernel
theorem dX4_go_13 : decode cX4_go 13 = .ok (.invokevirtual 54, 3) := by decide +kernel
theorem dX4_go_16 : decode cX4_go 16 = .ok (.ireturn, 1) := by decide +kernel
theorem dX4_go_17 : decode cX4_go 17 = .ok (.aload_n 0, 1) := by decide +kernel
theorem dX4_go_18 : decode cX4_go 18 = .ok (.getfield 10, 3) := by decide +kernel
theorem dX4_go_21 : decode cX4_go 21 = .ok (.getfield 107, 3) := by decide +kernel
theorem dX4_go_24 : decode cX4_go 24 = .ok (.iload_n 1, 1) := by decide +kernel
theorem dX4_go_25 : decode cX4_go 25 = .ok (.iadd, 1) := by decide +kernel
theorem dX4_go_26 : decode cX4_go 26 = .ok (.ldc 110, 2) := by decide +kernel
theorem dX4_go_28 : decode cX4_go 28 = .ok (.if_icmp .le 9, 3) := by decide +kernel
theorem dX4_go_31 : decode cX4_go 31 = .ok (.aload_n 0, 1) := by decide +kernel
theorem dX4_go_32 : decode cX4_go 32 = .ok (.iconst 4, 1) := by decide +kernel
theorem dX4_go_33 : decode cX4_go 33 = .ok (.invokevirtual 54, 3) := by decide +kernel
theorem dX4_go_36 : decode cX4_go 36 = .ok (.ireturn, 1) := by decide +kernel
theorem dX4_go_37 : decode cX4_go 37 = .ok (.aload_n 0, 1) := by decide +kernel
theorem dX4_go_38 : decode cX4_go 38 = .ok (.getfield 10, 3) := by decide +kernel
theorem dX4_go_41 : decode cX4_go 41 = .ok (.iload_n 1, 1) := by decide +kernel
theorem dX4_go_42 : decode cX4_go 42 = .ok (.invokevirtual 111, 3) := by decide +kernel
theorem dX4_go_45 : decode cX4_go 45 = .ok (.aload_n 0, 1) := by decide +kernel
theorem dX4_go_46 : decode cX4_go 46 = .ok (.getfield 10, 3) := by decide +kernel
theorem dX4_go_49 : decode cX4_go 49 = .ok (.invokevirtual 103, 3) := by decide +kernel
theorem dX4_go_52 : decode cX4_go 52 = .ok (.ireturn, 1) := by decide +kernel
theorem dX4_now_0 : decode cX4_now 0 = .ok (.iload_n 1, 1) := by decide +kernel
theorem dX4_now_1 : decode cX4_now 1 = .ok (.tableswitch 128 0 7 #[47, 55, 63, 71, 79, 87, 95, 115], 47) := by decide +kernel
theorem dX4_now_48 : decode cX4_now 48 = .ok (.aload_n 0, 1) := by decide +kernel
theorem dX4_now_49 : decode cX4_now 49 = .ok (.getfield 10, 3) := by decide +kernel
theorem dX4_now_52 : decode cX4_now 52 = .ok (.getfield 107, 3) := by decide +kernel
theorem dX4_now_55 : decode cX4_now 55 = .ok (.ireturn, 1) := by decide +kernel
theorem dX4_now_56 : decode cX4_now 56 = .ok (.aload_n 0, 1) := by decide +kernel
theorem dX4_now_57 : decode cX4_now 57 = .ok (.getfield 10, 3) := by decide +kernel
theorem dX4_now_60 : decode cX4_now 60 = .ok (.invokevirtual 103, 3) := by decide +kernel
theorem dX4_now_63 : decode cX4_now 63 = .ok (.ireturn, 1) := by decide +kernel
theorem dX4_now_64 : decode cX4_now 64 = .ok (.aload_n 0, 1) := by decide +kernel
theorem dX4_now_65 : decode cX4_now 65 = .ok (.getfield 10, 3) := by decide +kernel
theorem dX4_now_68 : decode cX4_now 68 = .ok (.invokevirtual 115, 3) := by decide +kernel
theorem dX4_now_71 : decode cX4_now 71 = .ok (.ireturn, 1) := by decide +kernel
theorem dX4_now_72 : decode cX4_now 72 = .ok (.aload_n 0, 1) := by decide +kernel
theorem dX4_now_73 : decode cX4_now 73 = .ok (.getfield 10, 3) := by decide +kernel
theorem dX4_now_76 : decode cX4_now 76 = .ok (.invokevirtual 118, 3) := by decide +kernel
theorem dX4_now_79 : decode cX4_now 79 = .ok (.ireturn, 1) := by decide +kernel
theorem dX4_now_80 : decode cX4_now 80 = .ok (.aload_n 0, 1) := by decide +kernel
theorem dX4_now_81 : decode cX4_now 81 = .ok (.getfield 10, 3) := by decide +kernel
theorem dX4_now_84 : decode cX4_now 84 = .ok (.invokevirtual 121, 3) := by decide +kernel
theorem dX4_now_87 : decode cX4_now 87 = .ok (.ireturn, 1) := by decide +kernel
theorem dX4_now_88 : decode cX4_now 88 = .ok (.aload_n 0, 1) := by decide +kernel
theorem dX4_now_89 : decode cX4_now 89 = .ok (.getfield 10, 3) := by decide +kernel
theorem dX4_now_92 : decode cX4_now 92 = .ok (.getfield 124, 3) := by decide +kernel
theorem dX4_now_95 : decode cX4_now 95 = .ok (.ireturn, 1) := by decide +kernel
theorem dX4_now_96 : decode cX4_now 96 = .ok (.aload_n 0, 1) := by decide +kernel
theorem dX4_now_97 : decode cX4_now 97 = .ok (.getfield 10, 3) := by decide +kernel
theorem dX4_now_100 : decode cX4_now 100 = .ok (.invokevirtual 103, 3) := by decide +kernel
theorem dX4_now_103 : decode cX4_now 103 = .ok (.aload_n 0, 1) := by decide +kernel
theorem dX4_now_104 : decode cX4_now 104 = .ok (.getfield 25, 3) := by decide +kernel
theorem dX4_now_107 : decode cX4_now 107 = .ok (.aload_n 0, 1) := by decide +kernel
theorem dX4_now_108 : decode cX4_now 108 = .ok (.getfield 10, 3) := by decide +kernel
theorem dX4_now_111 : decode cX4_now 111 = .ok (.invokevirtual 127, 3) := by decide +kernel
theorem dX4_now_114 : decode cX4_now 114 = .ok (.isub, 1) := by decide +kernel
theorem dX4_now_115 : decode cX4_now 115 = .ok (.ireturn, 1) := by decide +kernel
theorem dX4_now_116 : decode cX4_now 116 = .ok (.aload_n 0, 1) := by decide +kernel
theorem dX4_now_117 : decode cX4_now 117 = .ok (.invokevirtual 131, 3) := by decide +kernel
theorem dX4_now_120 : decode cX4_now 120 = .ok (.ifCond .ge 7, 3) := by decide +kernel
theorem dX4_now_123 : decode cX4_now 123 = .ok (.iconst 1, 1) := by decide +kernel
theorem dX4_now_124 : decode cX4_now 124 = .ok (.goto 4, 3) := by decide +kernel
theorem dX4_now_127 : decode cX4_now 127 = .ok (.iconst 0, 1) := by decide +kernel
theorem dX4_now_128 : decode cX4_now 128 = .ok (.ireturn, 1) := by decide +kernel
theorem dX4_now_129 : decode cX4_now 129 = .ok (.aload_n 0, 1) := by decide +kernel
theorem dX4_now_130 : decode cX4_now 130 = .ok (.iconst 0, 1) := by decide +kernel
theorem dX4_now_131 : decode cX4_now 131 = .ok (.invokevirtual 54, 3) := by decide +kernel
theorem dX4_now_134 : decode cX4_now 134 = .ok (.ireturn, 1) := by decide +kernel
theorem dX4_ahead_0 : decode cX4_ahead 0 = .ok (.iload_n 2, 1) := by decide +kernel
theorem dX4_ahead_1 : decode cX4_ahead 1 = .ok (.iconst 1, 1) := by decide +kernel
theorem dX4_ahead_2 : decode cX4_ahead 2 = .ok (.if_icmp .eq 8, 3) := by decide +kernel
theorem dX4_ahead_5 : decode cX4_ahead 5 = .ok (.iload_n 2, 1) := by decide +kernel
theorem dX4_ahead_6 : decode cX4_ahead 6 = .ok (.iconst 5, 1) := by decide +kernel
theorem dX4_ahead_7 : decode cX4_ahead 7 = .ok (.if_icmp .ne 7, 3) := by decide +kernel
theorem dX4_ahead_10 : decode cX4_ahead 10 = .ok (.iconst 1, 1) := by decide +kernel
theorem dX4_ahead_11 : decode cX4_ahead 11 = .ok (.goto 4, 3) := by decide +kernel
theorem dX4_ahead_14 : decode cX4_ahead 14 = .ok (.iconst 0, 1) := by decide +kernel
theorem dX4_ahead_15 : decode cX4_ahead 15 = .ok (.istore 4, 2) := by decide +kernel
theorem dX4_ahead_17 : decode cX4_ahead 17 = .ok (.aload_n 0, 1) := by decide +kernel
theorem dX4_ahead_18 : decode cX4_ahead 18 = .ok (.getfield 10, 3) := by decide +kernel
theorem dX4_ahead_21 : decode cX4_ahead 21 = .ok (.iload_n 1, 1) := by decide +kernel
theorem dX4_ahead_22 : decode cX4_ahead 22 = .ok (.invokevirtual 75, 3) := by decide +kernel
theorem dX4_ahead_25 : decode cX4_ahead 25 = .ok (.ifCond .eq 18, 3) := by decide +kernel
theorem dX4_ahead_28 : decode cX4_ahead 28 = .ok (.iload 4, 2) := by decide +kernel
theorem dX4_ahead_30 : decode cX4_ahead 30 = .ok (.ifCond .eq 13, 3) := by decide +kernel
theorem dX4_ahead_33 : decode cX4_ahead 33 = .ok (.iload_n 3, 1) := by decide +kernel
theorem dX4_ahead_34 : decode cX4_ahead 34 = .ok (.ifCond .lt 9, 3) := by decide +kernel
theorem dX4_ahead_37 : decode cX4_ahead 37 = .ok (.iload_n 3, 1) := by decide +kernel
theorem dX4_ahead_38 : decode cX4_ahead 38 = .ok (.bipush 100, 2) := by decide +kernel
theorem dX4_ahead_40 : decode cX4_ahead 40 = .ok (.if_icmp .le 9, 3) := by decide +kernel
theorem dX4_ahead_43 : decode cX4_ahead 43 = .ok (.aload_n 0, 1) := by decide +kernel
theorem dX4_ahead_44 : decode cX4_ahead 44 = .ok (.iconst 0, 1) := by decide +kernel
theorem dX4_ahead_45 : decode cX4_ahead 45 = .ok (.invokevirtual 54, 3) := by decide +kernel
theorem dX4_ahead_48 : decode cX4_ahead 48 = .ok (.ireturn, 1) := by decide +kernel
theorem dX4_ahead_49 : decode cX4_ahead 49 = .ok (.aload_n 0, 1) := by decide +kernel
theorem dX4_ahead_50 : decode cX4_ahead 50 = .ok (.getfield 19, 3) := by decide +kernel
theorem dX4_ahead_53 : decode cX4_ahead 53 = .ok (.aload_n 0, 1) := by decide +kernel
theorem dX4_ahead_54 : decode cX4_ahead 54 = .ok (.getfield 10, 3) := by decide +kernel
theorem dX4_ahead_57 : decode cX4_ahead 57 = .ok (.invokevirtual 134, 3) := by decide +kernel
theorem dX4_ahead_60 : decode cX4_ahead 60 = .ok (.aload_n 0, 1) := by decide +kernel
theorem dX4_ahead_61 : decode cX4_ahead 61 = .ok (.getfield 19, 3) := by decide +kernel
theorem dX4_ahead_64 : decode cX4_ahead 64 = .ok (.iload_n 3, 1) := by decide +kernel
theorem dX4_ahead_65 : decode cX4_ahead 65 = .ok (.invokevirtual 111, 3) := by decide +kernel
theorem dX4_ahead_68 : decode cX4_ahead 68 = .ok (.aload_n 0, 1) := by decide +kernel
theorem dX4_ahead_69 : decode cX4_ahead 69 = .ok (.getfield 19, 3) := by decide +kernel
theorem dX4_ahead_72 : decode cX4_ahead 72 = .ok (.iload_n 1, 1) := by decide +kernel
theorem dX4_ahead_73 : decode cX4_ahead 73 = .ok (.iload_n 2, 1) := by decide +kernel
theorem dX4_ahead_74 : decode cX4_ahead 74 = .ok (.invokevirtual 78, 3) := by decide +kernel
theorem dX4_ahead_77 : decode cX4_ahead 77 = .ok (.ireturn, 1) := by decide +kernel
theorem dX4_sum_0 : decode cX4_sum 0 = .ok (.iload_n 1, 1) := by decide +kernel
theorem dX4_sum_1 : decode cX4_sum 1 = .ok (.ifCond .lt 9, 3) := by decide +kernel
theorem dX4_sum_4 : decode cX4_sum 4 = .ok (.iload_n 1, 1) := by decide +kernel
theorem dX4_sum_5 : decode cX4_sum 5 = .ok (.bipush 100, 2) := by decide +kernel
theorem dX4_sum_7 : decode cX4_sum 7 = .ok (.if_icmp .le 9, 3) := by decide +kernel
theorem dX4_sum_10 : decode cX4_sum 10 = .ok (.aload_n 0, 1) := by decide +kernel
theorem dX4_sum_11 : decode cX4_sum 11 = .ok (.iconst 0, 1) := by decide +kernel
theorem dX4_sum_12 : decode cX4_sum 12 = .ok (.invokevirtual 54, 3) := by decide +kernel
theorem dX4_sum_15 : decode cX4_sum 15 = .ok (.ireturn, 1) := by decide +kernel
theorem dX4_sum_16 : decode cX4_sum 16 = .ok (.aload_n 0, 1) := by decide +kernel
theorem dX4_sum_17 : decode cX4_sum 17 = .ok (.getfield 19, 3) := by decide +kernel
theorem dX4_sum_20 : decode cX4_sum 20 = .ok (.aload_n 0, 1) := by decide +kernel
theorem dX4_sum_21 : decode cX4_sum 21 = .ok (.getfield 10, 3) := by decide +kernel
theorem dX4_sum_24 : decode cX4_sum 24 = .ok (.invokevirtual 134, 3) := by decide +kernel
theorem dX4_sum_27 : decode cX4_sum 27 = .ok (.aload_n 0, 1) := by decide +kernel
theorem dX4_sum_28 : decode cX4_sum 28 = .ok (.getfield 19, 3) := by decide +kernel
theorem dX4_sum_31 : decode cX4_sum 31 = .ok (.iload_n 1, 1) := by decide +kernel
theorem dX4_sum_32 : decode cX4_sum 32 = .ok (.invokevirtual 111, 3) := by decide +kernel
theorem dX4_sum_35 : decode cX4_sum 35 = .ok (.aload_n 0, 1) := by decide +kernel
theorem dX4_sum_36 : decode cX4_sum 36 = .ok (.getfield 19, 3) := by decide +kernel
theorem dX4_sum_39 : decode cX4_sum 39 = .ok (.invokevirtual 103, 3) := by decide +kernel
theorem dX4_sum_42 : decode cX4_sum 42 = .ok (.ireturn, 1) := by decide +kernel
theorem dX4_when_0 : decode cX4_when 0 = .ok (.iload_n 1, 1) := by decide +kernel
theorem dX4_when_1 : decode cX4_when 1 = .ok (.invokestatic 138, 3) := by decide +kernel
theorem dX4_when_4 : decode cX4_when 4 = .ok (.ifCond .ne 9, 3) := by decide +kernel
theorem dX4_when_7 : decode cX4_when 7 = .ok (.aload_n 0, 1) := by decide +kernel
theorem dX4_when_8 : decode cX4_when 8 = .ok (.iconst 0, 1) := by decide +kernel
theorem dX4_when_9 : decode cX4_when 9 = .ok (.invokevirtual 54, 3) := by decide +kernel
theorem dX4_when_12 : decode cX4_when 12 = .ok (.ireturn, 1) := by decide +kernel
theorem dX4_when_13 : decode cX4_when 13 = .ok (.aload_n 0, 1) := by decide +kernel
theorem dX4_when_14 : decode cX4_when 14 = .ok (.getfield 19, 3) := by decide +kernel
theorem dX4_when_17 : decode cX4_when 17 = .ok (.aload_n 0, 1) := by decide +kernel
theorem dX4_when_18 : decode cX4_when 18 = .ok (.getfield 10, 3) := by decide +kernel
theorem dX4_when_21 : decode cX4_when 21 = .ok (.invokevirtual 134, 3) := by decide +kernel
theorem dX4_when_24 : decode cX4_when 24 = .ok (.iconst 0, 1) := by decide +kernel
theorem dX4_when_25 : decode cX4_when 25 = .ok (.istore_n 2, 1) := by decide +kernel
theorem dX4_when_26 : decode cX4_when 26 = .ok (.iload_n 2, 1) := by decide +kernel
theorem dX4_when_27 : decode cX4_when 27 = .ok (.sipush 200, 3) := by decide +kernel
theorem dX4_when_30 : decode cX4_when 30 = .ok (.if_icmp .gt 29, 3) := by decide +kernel
theorem dX4_when_33 : decode cX4_when 33 = .ok (.aload_n 0, 1) := by decide +kernel
theorem dX4_when_34 : decode cX4_when 34 = .ok (.getfield 19, 3) := by decide +kernel
theorem dX4_when_37 : decode cX4_when 37 = .ok (.invokevirtual 103, 3) := by decide +kernel
theorem dX4_when_40 : decode cX4_when 40 = .ok (.iload_n 1, 1) := by decide +kernel
theorem dX4_when_41 : decode cX4_when 41 = .ok (.if_icmp .gt 5, 3) := by decide +kernel
theorem dX4_when_44 : decode cX4_when 44 = .ok (.iload_n 2, 1) := by decide +kernel
theorem dX4_when_45 : decode cX4_when 45 = .ok (.ireturn, 1) := by decide +kernel
theorem dX4_when_46 : decode cX4_when 46 = .ok (.aload_n 0, 1) := by decide +kernel
theorem dX4_when_47 : decode cX4_when 47 = .ok (.getfield 19, 3) := by decide +kernel
theorem dX4_when_50 : decode cX4_when 50 = .ok (.invokevirtual 141, 3) := by decide +kernel
theorem dX4_when_53 : decode cX4_when 53 = .ok (.iinc 2 1, 3) := by decide +kernel
theorem dX4_when_56 : decode cX4_when 56 = .ok (.goto (-30), 3) := by decide +kernel
theorem dX4_when_59 : decode cX4_when 59 = .ok (.aload_n 0, 1) := by decide +kernel
theorem dX4_when_60 : decode cX4_when 60 = .ok (.iconst 3, 1) := by decide +kernel
theorem dX4_when_61 : decode cX4_when 61 = .ok (.invokevirtual 54, 3) := by decide +kernel
theorem dX4_when_64 : decode cX4_when 64 = .ok (.ireturn, 1) := by decide +kernel
theorem dX4_comes_0 : decode cX4_comes 0 = .ok (.aload_n 0, 1) := by decide +kernel
theorem dX4_comes_1 : decode cX4_comes 1 = .ok (.getfield 10, 3) := by decide +kernel
theorem dX4_comes_4 : decode cX4_comes 4 = .ok (.iload_n 1, 1) := by decide +kernel
theorem dX4_comes_5 : decode cX4_comes 5 = .ok (.invokevirtual 75, 3) := by decide +kernel
theorem dX4_comes_8 : decode cX4_comes 8 = .ok (.ifCond .eq 10, 3) := by decide +kernel
theorem dX4_comes_11 : decode cX4_comes 11 = .ok (.iload_n 2, 1) := by decide +kernel
theorem dX4_comes_12 : decode cX4_comes 12 = .ok (.invokestatic 51, 3) := by decide +kernel
theorem dX4_comes_15 : decode cX4_comes 15 = .ok (.ifCond .ne 9, 3) := by decide +kernel
theorem dX4_comes_18 : decode cX4_comes 18 = .ok (.aload_n 0, 1) := by decide +kernel
theorem dX4_comes_19 : decode cX4_comes 19 = .ok (.iconst 0, 1) := by decide +kernel
theorem dX4_comes_20 : decode cX4_comes 20 = .ok (.invokevirtual 54, 3) := by decide +kernel
theorem dX4_comes_23 : decode cX4_comes 23 = .ok (.ireturn, 1) := by decide +kernel
theorem dX4_comes_24 : decode cX4_comes 24 = .ok (.aload_n 0, 1) := by decide +kernel
theorem dX4_comes_25 : decode cX4_comes 25 = .ok (.getfield 19, 3) := by decide +kernel
theorem dX4_comes_28 : decode cX4_comes 28 = .ok (.aload_n 0, 1) := by decide +kernel
theorem dX4_comes_29 : decode cX4_comes 29 = .ok (.getfield 10, 3) := by decide +kernel
theorem dX4_comes_32 : decode cX4_comes 32 = .ok (.invokevirtual 134, 3) := by decide +kernel
theorem dX4_comes_35 : decode cX4_comes 35 = .ok (.iconst 0, 1) := by decide +kernel
theorem dX4_comes_36 : decode cX4_comes 36 = .ok (.istore_n 3, 1) := by decide +kernel
theorem dX4_comes_37 : decode cX4_comes 37 = .ok (.iload_n 3, 1) := by decide +kernel
theorem dX4_comes_38 : decode cX4_comes 38 = .ok (.sipush 200, 3) := by decide +kernel
theorem dX4_comes_41 : decode cX4_comes 41 = .ok (.if_icmp .gt 30, 3) := by decide +kernel
theorem dX4_comes_44 : decode cX4_comes 44 = .ok (.aload_n 0, 1) := by decide +kernel
theorem dX4_comes_45 : decode cX4_comes 45 = .ok (.getfield 19, 3) := by decide +kernel
theorem dX4_comes_48 : decode cX4_comes 48 = .ok (.iload_n 1, 1) := by decide +kernel
theorem dX4_comes_49 : decode cX4_comes 49 = .ok (.invokevirtual 144, 3) := by decide +kernel
theorem dX4_comes_52 : decode cX4_comes 52 = .ok (.iload_n 2, 1) := by decide +kernel
theorem dX4_comes_53 : decode cX4_comes 53 = .ok (.if_icmp .ne 5, 3) := by decide +kernel
theorem dX4_comes_56 : decode cX4_comes 56 = .ok (.iload_n 3, 1) := by decide +kernel
theorem dX4_comes_57 : decode cX4_comes 57 = .ok (.ireturn, 1) := by decide +kernel
theorem dX4_comes_58 : decode cX4_comes 58 = .ok (.aload_n 0, 1) := by decide +kernel
theorem dX4_comes_59 : decode cX4_comes 59 = .ok (.getfield 19, 3) := by decide +kernel
theorem dX4_comes_62 : decode cX4_comes 62 = .ok (.invokevirtual 141, 3) := by decide +kernel
theorem dX4_comes_65 : decode cX4_comes 65 = .ok (.iinc 3 1, 3) := by decide +kernel
theorem dX4_comes_68 : decode cX4_comes 68 = .ok (.goto (-31), 3) := by decide +kernel
theorem dX4_comes_71 : decode cX4_comes 71 = .ok (.aload_n 0, 1) := by decide +kernel
theorem dX4_comes_72 : decode cX4_comes 72 = .ok (.iconst 3, 1) := by decide +kernel
theorem dX4_comes_73 : decode cX4_comes 73 = .ok (.invokevirtual 54, 3) := by decide +kernel
theorem dX4_comes_76 : decode cX4_comes 76 = .ok (.ireturn, 1) := by decide +kernel
theorem dX4_granted_0 : decode cX4_granted 0 = .ok (.aload_n 0, 1) := by decide +kernel
theorem dX4_granted_1 : decode cX4_granted 1 = .ok (.getfield 10, 3) := by decide +kernel
theorem dX4_granted_4 : decode cX4_granted 4 = .ok (.iload_n 1, 1) := by decide +kernel
theorem dX4_granted_5 : decode cX4_granted 5 = .ok (.invokevirtual 75, 3) := by decide +kernel
theorem dX4_granted_8 : decode cX4_granted 8 = .ok (.ifCond .ne 9, 3) := by decide +kernel
theorem dX4_granted_11 : decode cX4_granted 11 = .ok (.aload_n 0, 1) := by decide +kernel
theorem dX4_granted_12 : decode cX4_granted 12 = .ok (.iconst 0, 1) := by decide +kernel
theorem dX4_granted_13 : decode cX4_granted 13 = .ok (.invokevirtual 54, 3) := by decide +kernel
theorem dX4_granted_16 : decode cX4_granted 16 = .ok (.ireturn, 1) := by decide +kernel
theorem dX4_granted_17 : decode cX4_granted 17 = .ok (.aload_n 0, 1) := by decide +kernel
theorem dX4_granted_18 : decode cX4_granted 18 = .ok (.getfield 19, 3) := by decide +kernel
theorem dX4_granted_21 : decode cX4_granted 21 = .ok (.aload_n 0, 1) := by decide +kernel
theorem dX4_granted_22 : decode cX4_granted 22 = .ok (.getfield 10, 3) := by decide +kernel
theorem dX4_granted_25 : decode cX4_granted 25 = .ok (.invokevirtual 134, 3) := by decide +kernel
theorem dX4_granted_28 : decode cX4_granted 28 = .ok (.iconst 0, 1) := by decide +kernel
theorem dX4_granted_29 : decode cX4_granted 29 = .ok (.istore_n 2, 1) := by decide +kernel
theorem dX4_granted_30 : decode cX4_granted 30 = .ok (.iload_n 2, 1) := by decide +kernel
theorem dX4_granted_31 : decode cX4_granted 31 = .ok (.sipush 200, 3) := by decide +kernel
theorem dX4_granted_34 : decode cX4_granted 34 = .ok (.if_icmp .gt 29, 3) := by decide +kernel
theorem dX4_granted_37 : decode cX4_granted 37 = .ok (.aload_n 0, 1) := by decide +kernel
theorem dX4_granted_38 : decode cX4_granted 38 = .ok (.getfield 19, 3) := by decide +kernel
theorem dX4_granted_41 : decode cX4_granted 41 = .ok (.iload_n 1, 1) := by decide +kernel
theorem dX4_granted_42 : decode cX4_granted 42 = .ok (.invokevirtual 147, 3) := by decide +kernel
theorem dX4_granted_45 : decode cX4_granted 45 = .ok (.ifCond .eq 5, 3) := by decide +kernel
theorem dX4_granted_48 : decode cX4_granted 48 = .ok (.iload_n 2, 1) := by decide +kernel
theorem dX4_granted_49 : decode cX4_granted 49 = .ok (.ireturn, 1) := by decide +kernel
theorem dX4_granted_50 : decode cX4_granted 50 = .ok (.aload_n 0, 1) := by decide +kernel
theorem dX4_granted_51 : decode cX4_granted 51 = .ok (.getfield 19, 3) := by decide +kernel
theorem dX4_granted_54 : decode cX4_granted 54 = .ok (.invokevirtual 141, 3) := by decide +kernel
theorem dX4_granted_57 : decode cX4_granted 57 = .ok (.iinc 2 1, 3) := by decide +kernel
theorem dX4_granted_60 : decode cX4_granted 60 = .ok (.goto (-30), 3) := by decide +kernel
theorem dX4_granted_63 : decode cX4_granted 63 = .ok (.aload_n 0, 1) := by decide +kernel
theorem dX4_granted_64 : decode cX4_granted 64 = .ok (.iconst 3, 1) := by decide +kernel
theorem dX4_granted_65 : decode cX4_granted 65 = .ok (.invokevirtual 54, 3) := by decide +kernel
theorem dX4_granted_68 : decode cX4_granted 68 = .ok (.ireturn, 1) := by decide +kernel
theorem dX4_best_0 : decode cX4_best 0 = .ok (.aload_n 0, 1) := by decide +kernel
theorem dX4_best_1 : decode cX4_best 1 = .ok (.getfield 25, 3) := by decide +kernel
theorem dX4_best_4 : decode cX4_best 4 = .ok (.aload_n 0, 1) := by decide +kernel
theorem dX4_best_5 : decode cX4_best 5 = .ok (.getfield 10, 3) := by decide +kernel
theorem dX4_best_8 : decode cX4_best 8 = .ok (.invokevirtual 127, 3) := by decide +kernel
theorem dX4_best_11 : decode cX4_best 11 = .ok (.ireturn, 1) := by decide +kernel
theorem dX4_bestAt_0 : decode cX4_bestAt 0 = .ok (.aload_n 0, 1) := by decide +kernel
theorem dX4_bestAt_1 : decode cX4_bestAt 1 = .ok (.getfield 10, 3) := by decide +kernel
theorem dX4_bestAt_4 : decode cX4_bestAt 4 = .ok (.iload_n 1, 1) := by decide +kernel
theorem dX4_bestAt_5 : decode cX4_bestAt 5 = .ok (.invokevirtual 75, 3) := by decide +kernel
theorem dX4_bestAt_8 : decode cX4_bestAt 8 = .ok (.ifCond .eq 18, 3) := by decide +kernel
theorem dX4_bestAt_11 : decode cX4_bestAt 11 = .ok (.aload_n 0, 1) := by decide +kernel
theorem dX4_bestAt_12 : decode cX4_bestAt 12 = .ok (.getfield 25, 3) := by decide +kernel
theorem dX4_bestAt_15 : decode cX4_bestAt 15 = .ok (.aload_n 0, 1) := by decide +kernel
theorem dX4_bestAt_16 : decode cX4_bestAt 16 = .ok (.getfield 10, 3) := by decide +kernel
theorem dX4_bestAt_19 : decode cX4_bestAt 19 = .ok (.iload_n 1, 1) := by decide +kernel
theorem dX4_bestAt_20 : decode cX4_bestAt 20 = .ok (.invokevirtual 150, 3) := by decide +kernel
theorem dX4_bestAt_23 : decode cX4_bestAt 23 = .ok (.goto 8, 3) := by decide +kernel
theorem dX4_bestAt_26 : decode cX4_bestAt 26 = .ok (.aload_n 0, 1) := by decide +kernel
theorem dX4_bestAt_27 : decode cX4_bestAt 27 = .ok (.iconst 0, 1) := by decide +kernel
theorem dX4_bestAt_28 : decode cX4_bestAt 28 = .ok (.invokevirtual 54, 3) := by decide +kernel
theorem dX4_bestAt_31 : decode cX4_bestAt 31 = .ok (.ireturn, 1) := by decide +kernel
theorem dX4_settle_0 : decode cX4_settle 0 = .ok (.iconst 0, 1) := by decide +kernel
theorem dX4_settle_1 : decode cX4_settle 1 = .ok (.istore_n 1, 1) := by decide +kernel
theorem dX4_settle_2 : decode cX4_settle 2 = .ok (.iconst 0, 1) := by decide +kernel
theorem dX4_settle_3 : decode cX4_settle 3 = .ok (.istore_n 2, 1) := by decide +kernel
theorem dX4_settle_4 : decode cX4_settle 4 = .ok (.iload_n 2, 1) := by decide +kernel
theorem dX4_settle_5 : decode cX4_settle 5 = .ok (.ldc 154, 2) := by decide +kernel
theorem dX4_settle_7 : decode cX4_settle 7 = .ok (.if_icmp .ge 39, 3) := by decide +kernel
theorem dX4_settle_10 : decode cX4_settle 10 = .ok (.aload_n 0, 1) := by decide +kernel
theorem dX4_settle_11 : decode cX4_settle 11 = .ok (.invokevirtual 131, 3) := by decide +kernel
theorem dX4_settle_14 : decode cX4_settle 14 = .ok (.istore_n 3, 1) := by decide +kernel
theorem dX4_settle_15 : decode cX4_settle 15 = .ok (.iload_n 3, 1) := by decide +kernel
theorem dX4_settle_16 : decode cX4_settle 16 = .ok (.ifCond .ge 6, 3) := by decide +kernel
theorem dX4_settle_19 : decode cX4_settle 19 = .ok (.goto 27, 3) := by decide +kernel
theorem dX4_settle_22 : decode cX4_settle 22 = .ok (.aload_n 0, 1) := by decide +kernel
theorem dX4_settle_23 : decode cX4_settle 23 = .ok (.getfield 10, 3) := by decide +kernel
theorem dX4_settle_26 : decode cX4_settle 26 = .ok (.iload_n 3, 1) := by decide +kernel
theorem dX4_settle_27 : decode cX4_settle 27 = .ok (.bipush 10, 2) := by decide +kernel
theorem dX4_settle_29 : decode cX4_settle 29 = .ok (.idiv, 1) := by decide +kernel
theorem dX4_settle_30 : decode cX4_settle 30 = .ok (.iload_n 3, 1) := by decide +kernel
theorem dX4_settle_31 : decode cX4_settle 31 = .ok (.bipush 10, 2) := by decide +kernel
theorem dX4_settle_33 : decode cX4_settle 33 = .ok (.irem, 1) := by decide +kernel
theorem dX4_settle_34 : decode cX4_settle 34 = .ok (.invokevirtual 99, 3) := by decide +kernel
theorem dX4_settle_37 : decode cX4_settle 37 = .ok (.iinc 1 1, 3) := by decide +kernel
theorem dX4_settle_40 : decode cX4_settle 40 = .ok (.iinc 2 1, 3) := by decide +kernel
theorem dX4_settle_43 : decode cX4_settle 43 = .ok (.goto (-39), 3) := by decide +kernel
theorem dX4_settle_46 : decode cX4_settle 46 = .ok (.iload_n 1, 1) := by decide +kernel
theorem dX4_settle_47 : decode cX4_settle 47 = .ok (.ireturn, 1) := by decide +kernel
theorem dX4_edgeFor_0 : decode cX4_edgeFor 0 = .ok (.aload_n 0, 1) := by decide +kernel
theorem dX4_edgeFor_1 : decode cX4_edgeFor 1 = .ok (.getfield 10, 3) := by decide +kernel
theorem dX4_edgeFor_4 : decode cX4_edgeFor 4 = .ok (.iload_n 1, 1) := by decide +kernel
theorem dX4_edgeFor_5 : decode cX4_edgeFor 5 = .ok (.invokevirtual 75, 3) := by decide +kernel
theorem dX4_edgeFor_8 : decode cX4_edgeFor 8 = .ok (.ifCond .eq 14, 3) := by decide +kernel
theorem dX4_edgeFor_11 : decode cX4_edgeFor 11 = .ok (.aload_n 0, 1) := by decide +kernel
theorem dX4_edgeFor_12 : decode cX4_edgeFor 12 = .ok (.iload_n 1, 1) := by decide +kernel
theorem dX4_edgeFor_13 : decode cX4_edgeFor 13 = .ok (.iconst 1, 1) := by decide +kernel
theorem dX4_edgeFor_14 : decode cX4_edgeFor 14 = .ok (.bipush 9, 2) := by decide +kernel
theorem dX4_edgeFor_16 : decode cX4_edgeFor 16 = .ok (.invokevirtual 155, 3) := by decide +kernel
theorem dX4_edgeFor_19 : decode cX4_edgeFor 19 = .ok (.goto 8, 3) := by decide +kernel
theorem dX4_edgeFor_22 : decode cX4_edgeFor 22 = .ok (.aload_n 0, 1) := by decide +kernel
theorem dX4_edgeFor_23 : decode cX4_edgeFor 23 = .ok (.iconst 0, 1) := by decide +kernel
theorem dX4_edgeFor_24 : decode cX4_edgeFor 24 = .ok (.invokevirtual 54, 3) := by decide +kernel
theorem dX4_edgeFor_27 : decode cX4_edgeFor 27 = .ok (.ireturn, 1) := by decide +kernel
theorem dX4_kindFor_0 : decode cX4_kindFor 0 = .ok (.aload_n 0, 1) := by decide +kernel
theorem dX4_kindFor_1 : decode cX4_kindFor 1 = .ok (.getfield 10, 3) := by decide +kernel
theorem dX4_kindFor_4 : decode cX4_kindFor 4 = .ok (.iload_n 1, 1) := by decide +kernel
theorem dX4_kindFor_5 : decode cX4_kindFor 5 = .ok (.invokevirtual 75, 3) := by decide +kernel
theorem dX4_kindFor_8 : decode cX4_kindFor 8 = .ok (.ifCond .eq 14, 3) := by decide +kernel
theorem dX4_kindFor_11 : decode cX4_kindFor 11 = .ok (.aload_n 0, 1) := by decide +kernel
theorem dX4_kindFor_12 : decode cX4_kindFor 12 = .ok (.iload_n 1, 1) := by decide +kernel
theorem dX4_kindFor_13 : decode cX4_kindFor 13 = .ok (.iconst 0, 1) := by decide +kernel
theorem dX4_kindFor_14 : decode cX4_kindFor 14 = .ok (.bipush 6, 2) := by decide +kernel
theorem dX4_kindFor_16 : decode cX4_kindFor 16 = .ok (.invokevirtual 155, 3) := by decide +kernel
theorem dX4_kindFor_19 : decode cX4_kindFor 19 = .ok (.goto 8, 3) := by decide +kernel
theorem dX4_kindFor_22 : decode cX4_kindFor 22 = .ok (.aload_n 0, 1) := by decide +kernel
theorem dX4_kindFor_23 : decode cX4_kindFor 23 = .ok (.iconst 0, 1) := by decide +kernel
theorem dX4_kindFor_24 : decode cX4_kindFor 24 = .ok (.invokevirtual 54, 3) := by decide +kernel
theorem dX4_kindFor_27 : decode cX4_kindFor 27 = .ok (.ireturn, 1) := by decide +kernel
theorem dX4_turn_0 : decode cX4_turn 0 = .ok (.iload_n 1, 1) := by decide +kernel
theorem dX4_turn_1 : decode cX4_turn 1 = .ok (.invokestatic 138, 3) := by decide +kernel
theorem dX4_turn_4 : decode cX4_turn 4 = .ok (.ifCond .ne 9, 3) := by decide +kernel
theorem dX4_turn_7 : decode cX4_turn 7 = .ok (.aload_n 0, 1) := by decide +kernel
theorem dX4_turn_8 : decode cX4_turn 8 = .ok (.iconst 0, 1) := by decide +kernel
theorem dX4_turn_9 : decode cX4_turn 9 = .ok (.invokevirtual 54, 3) := by decide +kernel
theorem dX4_turn_12 : decode cX4_turn 12 = .ok (.ireturn, 1) := by decide +kernel
theorem dX4_turn_13 : decode cX4_turn 13 = .ok (.aload_n 0, 1) := by decide +kernel
theorem dX4_turn_14 : decode cX4_turn 14 = .ok (.getfield 19, 3) := by decide +kernel
theorem dX4_turn_17 : decode cX4_turn 17 = .ok (.aload_n 0, 1) := by decide +kernel
theorem dX4_turn_18 : decode cX4_turn 18 = .ok (.getfield 10, 3) := by decide +kernel
theorem dX4_turn_21 : decode cX4_turn 21 = .ok (.invokevirtual 134, 3) := by decide +kernel
theorem dX4_turn_24 : decode cX4_turn 24 = .ok (.bipush 9, 2) := by decide +kernel
theorem dX4_turn_26 : decode cX4_turn 26 = .ok (.istore_n 2, 1) := by decide +kernel
theorem dX4_turn_27 : decode cX4_turn 27 = .ok (.iconst 0, 1) := by decide +kernel
theorem dX4_turn_28 : decode cX4_turn 28 = .ok (.istore_n 3, 1) := by decide +kernel
theorem dX4_turn_29 : decode cX4_turn 29 = .ok (.iconst 0, 1) := by decide +kernel
theorem dX4_turn_30 : decode cX4_turn 30 = .ok (.istore 4, 2) := by decide +kernel
theorem dX4_turn_32 : decode cX4_turn 32 = .ok (.iload 4, 2) := by decide +kernel
theorem dX4_turn_34 : decode cX4_turn 34 = .ok (.iconst 1, 1) := by decide +kernel
theorem dX4_turn_35 : decode cX4_turn 35 = .ok (.aload_n 0, 1) := by decide +kernel
theorem dX4_turn_36 : decode cX4_turn 36 = .ok (.getfield 10, 3) := by decide +kernel
theorem dX4_turn_39 : decode cX4_turn 39 = .ok (.getfield 67, 3) := by decide +kernel
theorem dX4_turn_42 : decode cX4_turn 42 = .ok (.ishl, 1) := by decide +kernel
theorem dX4_turn_43 : decode cX4_turn 43 = .ok (.if_icmp .ge 56, 3) := by decide +kernel
theorem dX4_turn_46 : decode cX4_turn 46 = .ok (.iload 4, 2) := by decide +kernel
theorem dX4_turn_48 : decode cX4_turn 48 = .ok (.invokestatic 158, 3) := by decide +kernel
theorem dX4_turn_51 : decode cX4_turn 51 = .ok (.istore 5, 2) := by decide +kernel
theorem dX4_turn_53 : decode cX4_turn 53 = .ok (.iload 5, 2) := by decide +kernel
theorem dX4_turn_55 : decode cX4_turn 55 = .ok (.iload_n 2, 1) := by decide +kernel
theorem dX4_turn_56 : decode cX4_turn 56 = .ok (.if_icmp .ge 37, 3) := by decide +kernel
theorem dX4_turn_59 : decode cX4_turn 59 = .ok (.aload_n 0, 1) := by decide +kernel
theorem dX4_turn_60 : decode cX4_turn 60 = .ok (.getfield 19, 3) := by decide +kernel
theorem dX4_turn_63 : decode cX4_turn 63 = .ok (.aload_n 0, 1) := by decide +kernel
theorem dX4_turn_64 : decode cX4_turn 64 = .ok (.getfield 10, 3) := by decide +kernel
theorem dX4_turn_67 : decode cX4_turn 67 = .ok (.getfield 124, 3) := by decide +kernel
theorem dX4_turn_70 : decode cX4_turn 70 = .ok (.iload 4, 2) := by decide +kernel
theorem dX4_turn_72 : decode cX4_turn 72 = .ok (.ixor, 1) := by decide +kernel
theorem dX4_turn_73 : decode cX4_turn 73 = .ok (.putfield 124, 3) := by decide +kernel
theorem dX4_turn_76 : decode cX4_turn 76 = .ok (.aload_n 0, 1) := by decide +kernel
theorem dX4_turn_77 : decode cX4_turn 77 = .ok (.getfield 19, 3) := by decide +kernel
theorem dX4_turn_80 : decode cX4_turn 80 = .ok (.invokevirtual 103, 3) := by decide +kernel
theorem dX4_turn_83 : decode cX4_turn 83 = .ok (.iload_n 1, 1) := by decide +kernel
theorem dX4_turn_84 : decode cX4_turn 84 = .ok (.if_icmp .gt 9, 3) := by decide +kernel
theorem dX4_turn_87 : decode cX4_turn 87 = .ok (.iload 5, 2) := by decide +kernel
theorem dX4_turn_89 : decode cX4_turn 89 = .ok (.istore_n 2, 1) := by decide +kernel
theorem dX4_turn_90 : decode cX4_turn 90 = .ok (.iload 4, 2) := by decide +kernel
theorem dX4_turn_92 : decode cX4_turn 92 = .ok (.istore_n 3, 1) := by decide +kernel
theorem dX4_turn_93 : decode cX4_turn 93 = .ok (.iinc 4 1, 3) := by decide +kernel
theorem dX4_turn_96 : decode cX4_turn 96 = .ok (.goto (-64), 3) := by decide +kernel
theorem dX4_turn_99 : decode cX4_turn 99 = .ok (.iload_n 2, 1) := by decide +kernel
theorem dX4_turn_100 : decode cX4_turn 100 = .ok (.bipush 8, 2) := by decide +kernel
theorem dX4_turn_102 : decode cX4_turn 102 = .ok (.if_icmp .gt 7, 3) := by decide +kernel
theorem dX4_turn_105 : decode cX4_turn 105 = .ok (.iload_n 3, 1) := by decide +kernel
theorem dX4_turn_106 : decode cX4_turn 106 = .ok (.goto 8, 3) := by decide +kernel
theorem dX4_turn_109 : decode cX4_turn 109 = .ok (.aload_n 0, 1) := by decide +kernel
theorem dX4_turn_110 : decode cX4_turn 110 = .ok (.iconst 3, 1) := by decide +kernel
theorem dX4_turn_111 : decode cX4_turn 111 = .ok (.invokevirtual 54, 3) := by decide +kernel
theorem dX4_turn_114 : decode cX4_turn 114 = .ok (.ireturn, 1) := by decide +kernel
theorem dX4_fits_0 : decode cX4_fits 0 = .ok (.aload_n 0, 1) := by decide +kernel
theorem dX4_fits_1 : decode cX4_fits 1 = .ok (.iload_n 1, 1) := by decide +kernel
theorem dX4_fits_2 : decode cX4_fits 2 = .ok (.invokevirtual 163, 3) := by decide +kernel
theorem dX4_fits_5 : decode cX4_fits 5 = .ok (.istore_n 3, 1) := by decide +kernel
theorem dX4_fits_6 : decode cX4_fits 6 = .ok (.iload_n 3, 1) := by decide +kernel
theorem dX4_fits_7 : decode cX4_fits 7 = .ok (.ifCond .lt 9, 3) := by decide +kernel
theorem dX4_fits_10 : decode cX4_fits 10 = .ok (.aload_n 0, 1) := by decide +kernel
theorem dX4_fits_11 : decode cX4_fits 11 = .ok (.iload_n 3, 1) := by decide +kernel
theorem dX4_fits_12 : decode cX4_fits 12 = .ok (.invokevirtual 54, 3) := by decide +kernel
theorem dX4_fits_15 : decode cX4_fits 15 = .ok (.ireturn, 1) := by decide +kernel
theorem dX4_fits_16 : decode cX4_fits 16 = .ok (.aload_n 0, 1) := by decide +kernel
theorem dX4_fits_17 : decode cX4_fits 17 = .ok (.getfield 10, 3) := by decide +kernel
theorem dX4_fits_20 : decode cX4_fits 20 = .ok (.iload_n 2, 1) := by decide +kernel
theorem dX4_fits_21 : decode cX4_fits 21 = .ok (.invokevirtual 75, 3) := by decide +kernel
theorem dX4_fits_24 : decode cX4_fits 24 = .ok (.ifCond .ne 9, 3) := by decide +kernel
theorem dX4_fits_27 : decode cX4_fits 27 = .ok (.aload_n 0, 1) := by decide +kernel
theorem dX4_fits_28 : decode cX4_fits 28 = .ok (.iconst 0, 1) := by decide +kernel
theorem dX4_fits_29 : decode cX4_fits 29 = .ok (.invokevirtual 54, 3) := by decide +kernel
theorem dX4_fits_32 : decode cX4_fits 32 = .ok (.ireturn, 1) := by decide +kernel
theorem dX4_fits_33 : decode cX4_fits 33 = .ok (.iconst 0, 1) := by decide +kernel
theorem dX4_fits_34 : decode cX4_fits 34 = .ok (.istore 4, 2) := by decide +kernel
theorem dX4_fits_36 : decode cX4_fits 36 = .ok (.iconst 0, 1) := by decide +kernel
theorem dX4_fits_37 : decode cX4_fits 37 = .ok (.istore 5, 2) := by decide +kernel
theorem dX4_fits_39 : decode cX4_fits 39 = .ok (.iload 5, 2) := by decide +kernel
theorem dX4_fits_41 : decode cX4_fits 41 = .ok (.bipush 9, 2) := by decide +kernel
theorem dX4_fits_43 : decode cX4_fits 43 = .ok (.if_icmp .gt 74, 3) := by decide +kernel
theorem dX4_fits_46 : decode cX4_fits 46 = .ok (.iconst 0, 1) := by decide +kernel
theorem dX4_fits_47 : decode cX4_fits 47 = .ok (.istore 6, 2) := by decide +kernel
theorem dX4_fits_49 : decode cX4_fits 49 = .ok (.iload 6, 2) := by decide +kernel
theorem dX4_fits_51 : decode cX4_fits 51 = .ok (.bipush 9, 2) := by decide +kernel
theorem dX4_fits_53 : decode cX4_fits 53 = .ok (.if_icmp .gt 58, 3) := by decide +kernel
theorem dX4_fits_56 : decode cX4_fits 56 = .ok (.aload_n 0, 1) := by decide +kernel
theorem dX4_fits_57 : decode cX4_fits 57 = .ok (.getfield 19, 3) := by decide +kernel
theorem dX4_fits_60 : decode cX4_fits 60 = .ok (.aload_n 0, 1) := by decide +kernel
theorem dX4_fits_61 : decode cX4_fits 61 = .ok (.getfield 10, 3) := by decide +kernel
theorem dX4_fits_64 : decode cX4_fits 64 = .ok (.invokevirtual 134, 3) := by decide +kernel
theorem dX4_fits_67 : decode cX4_fits 67 = .ok (.aload_n 0, 1) := by decide +kernel
theorem dX4_fits_68 : decode cX4_fits 68 = .ok (.getfield 19, 3) := by decide +kernel
theorem dX4_fits_71 : decode cX4_fits 71 = .ok (.getfield 166, 3) := by decide +kernel
theorem dX4_fits_74 : decode cX4_fits 74 = .ok (.iload_n 2, 1) := by decide +kernel
theorem dX4_fits_75 : decode cX4_fits 75 = .ok (.iload 5, 2) := by decide +kernel
theorem dX4_fits_77 : decode cX4_fits 77 = .ok (.iastore, 1) := by decide +kernel
theorem dX4_fits_78 : decode cX4_fits 78 = .ok (.aload_n 0, 1) := by decide +kernel
theorem dX4_fits_79 : decode cX4_fits 79 = .ok (.getfield 19, 3) := by decide +kernel
theorem dX4_fits_82 : decode cX4_fits 82 = .ok (.getfield 169, 3) := by decide +kernel
theorem dX4_fits_85 : decode cX4_fits 85 = .ok (.iload_n 2, 1) := by decide +kernel
theorem dX4_fits_86 : decode cX4_fits 86 = .ok (.iload 6, 2) := by decide +kernel
theorem dX4_fits_88 : decode cX4_fits 88 = .ok (.iastore, 1) := by decide +kernel
theorem dX4_fits_89 : decode cX4_fits 89 = .ok (.aload_n 0, 1) := by decide +kernel
theorem dX4_fits_90 : decode cX4_fits 90 = .ok (.aload_n 0, 1) := by decide +kernel
theorem dX4_fits_91 : decode cX4_fits 91 = .ok (.getfield 38, 3) := by decide +kernel
theorem dX4_fits_94 : decode cX4_fits 94 = .ok (.iload_n 1, 1) := by decide +kernel
theorem dX4_fits_95 : decode cX4_fits 95 = .ok (.aaload, 1) := by decide +kernel
theorem dX4_fits_96 : decode cX4_fits 96 = .ok (.invokevirtual 172, 3) := by decide +kernel
theorem dX4_fits_99 : decode cX4_fits 99 = .ok (.ifCond .eq 6, 3) := by decide +kernel
theorem dX4_fits_102 : decode cX4_fits 102 = .ok (.iinc 4 1, 3) := by decide +kernel
theorem dX4_fits_105 : decode cX4_fits 105 = .ok (.iinc 6 1, 3) := by decide +kernel
theorem dX4_fits_108 : decode cX4_fits 108 = .ok (.goto (-59), 3) := by decide +kernel
theorem dX4_fits_111 : decode cX4_fits 111 = .ok (.iinc 5 1, 3) := by decide +kernel
theorem dX4_fits_114 : decode cX4_fits 114 = .ok (.goto (-75), 3) := by decide +kernel
theorem dX4_fits_117 : decode cX4_fits 117 = .ok (.iload 4, 2) := by decide +kernel
theorem dX4_fits_119 : decode cX4_fits 119 = .ok (.ireturn, 1) := by decide +kernel
theorem dX4_kinds_0 : decode cX4_kinds 0 = .ok (.aload_n 0, 1) := by decide +kernel
theorem dX4_kinds_1 : decode cX4_kinds 1 = .ok (.iload_n 1, 1) := by decide +kernel
theorem dX4_kinds_2 : decode cX4_kinds 2 = .ok (.invokevirtual 163, 3) := by decide +kernel
theorem dX4_kinds_5 : decode cX4_kinds 5 = .ok (.istore_n 3, 1) := by decide +kernel
theorem dX4_kinds_6 : decode cX4_kinds 6 = .ok (.iload_n 3, 1) := by decide +kernel
theorem dX4_kinds_7 : decode cX4_kinds 7 = .ok (.ifCond .lt 9, 3) := by decide +kernel
theorem dX4_kinds_10 : decode cX4_kinds 10 = .ok (.aload_n 0, 1) := by decide +kernel
theorem dX4_kinds_11 : decode cX4_kinds 11 = .ok (.iload_n 3, 1) := by decide +kernel
theorem dX4_kinds_12 : decode cX4_kinds 12 = .ok (.invokevirtual 54, 3) := by decide +kernel
theorem dX4_kinds_15 : decode cX4_kinds 15 = .ok (.ireturn, 1) := by decide +kernel
theorem dX4_kinds_16 : decode cX4_kinds 16 = .ok (.aload_n 0, 1) := by decide +kernel
theorem dX4_kinds_17 : decode cX4_kinds 17 = .ok (.getfield 10, 3) := by decide +kernel
theorem dX4_kinds_20 : decode cX4_kinds 20 = .ok (.iload_n 2, 1) := by decide +kernel
theorem dX4_kinds_21 : decode cX4_kinds 21 = .ok (.invokevirtual 75, 3) := by decide +kernel
theorem dX4_kinds_24 : decode cX4_kinds 24 = .ok (.ifCond .ne 9, 3) := by decide +kernel
theorem dX4_kinds_27 : decode cX4_kinds 27 = .ok (.aload_n 0, 1) := by decide +kernel
theorem dX4_kinds_28 : decode cX4_kinds 28 = .ok (.iconst 0, 1) := by decide +kernel
theorem dX4_kinds_29 : decode cX4_kinds 29 = .ok (.invokevirtual 54, 3) := by decide +kernel
theorem dX4_kinds_32 : decode cX4_kinds 32 = .ok (.ireturn, 1) := by decide +kernel
theorem dX4_kinds_33 : decode cX4_kinds 33 = .ok (.iconst 0, 1) := by decide +kernel
theorem dX4_kinds_34 : decode cX4_kinds 34 = .ok (.istore 4, 2) := by decide +kernel
theorem dX4_kinds_36 : decode cX4_kinds 36 = .ok (.iconst 0, 1) := by decide +kernel
theorem dX4_kinds_37 : decode cX4_kinds 37 = .ok (.istore 5, 2) := by decide +kernel
theorem dX4_kinds_39 : decode cX4_kinds 39 = .ok (.iload 5, 2) := by decide +kernel
theorem dX4_kinds_41 : decode cX4_kinds 41 = .ok (.bipush 7, 2) := by decide +kernel
theorem dX4_kinds_43 : decode cX4_kinds 43 = .ok (.if_icmp .ge 53, 3) := by decide +kernel
theorem dX4_kinds_46 : decode cX4_kinds 46 = .ok (.aload_n 0, 1) := by decide +kernel
theorem dX4_kinds_47 : decode cX4_kinds 47 = .ok (.getfield 19, 3) := by decide +kernel
theorem dX4_kinds_50 : decode cX4_kinds 50 = .ok (.aload_n 0, 1) := by decide +kernel
theorem dX4_kinds_51 : decode cX4_kinds 51 = .ok (.getfield 10, 3) := by decide +kernel
theorem dX4_kinds_54 : decode cX4_kinds 54 = .ok (.invokevirtual 134, 3) := by decide +kernel
theorem dX4_kinds_57 : decode cX4_kinds 57 = .ok (.aload_n 0, 1) := by decide +kernel
theorem dX4_kinds_58 : decode cX4_kinds 58 = .ok (.getfield 19, 3) := by decide +kernel
theorem dX4_kinds_61 : decode cX4_kinds 61 = .ok (.getfield 176, 3) := by decide +kernel
theorem dX4_kinds_64 : decode cX4_kinds 64 = .ok (.iload_n 2, 1) := by decide +kernel
theorem dX4_kinds_65 : decode cX4_kinds 65 = .ok (.iload 5, 2) := by decide +kernel
theorem dX4_kinds_67 : decode cX4_kinds 67 = .ok (.iastore, 1) := by decide +kernel
theorem dX4_kinds_68 : decode cX4_kinds 68 = .ok (.aload_n 0, 1) := by decide +kernel
theorem dX4_kinds_69 : decode cX4_kinds 69 = .ok (.aload_n 0, 1) := by decide +kernel
theorem dX4_kinds_70 : decode cX4_kinds 70 = .ok (.getfield 38, 3) := by decide +kernel
theorem dX4_kinds_73 : decode cX4_kinds 73 = .ok (.iload_n 1, 1) := by decide +kernel
theorem dX4_kinds_74 : decode cX4_kinds 74 = .ok (.aaload, 1) := by decide +kernel
theorem dX4_kinds_75 : decode cX4_kinds 75 = .ok (.invokevirtual 172, 3) := by decide +kernel
theorem dX4_kinds_78 : decode cX4_kinds 78 = .ok (.ifCond .eq 12, 3) := by decide +kernel
theorem dX4_kinds_81 : decode cX4_kinds 81 = .ok (.iload 4, 2) := by decide +kernel
theorem dX4_kinds_83 : decode cX4_kinds 83 = .ok (.iconst 1, 1) := by decide +kernel
theorem dX4_kinds_84 : decode cX4_kinds 84 = .ok (.iload 5, 2) := by decide +kernel
theorem dX4_kinds_86 : decode cX4_kinds 86 = .ok (.ishl, 1) := by decide +kernel
theorem dX4_kinds_87 : decode cX4_kinds 87 = .ok (.ior, 1) := by decide +kernel
theorem dX4_kinds_88 : decode cX4_kinds 88 = .ok (.istore 4, 2) := by decide +kernel
theorem dX4_kinds_90 : decode cX4_kinds 90 = .ok (.iinc 5 1, 3) := by decide +kernel
theorem dX4_kinds_93 : decode cX4_kinds 93 = .ok (.goto (-54), 3) := by decide +kernel
theorem dX4_kinds_96 : decode cX4_kinds 96 = .ok (.iload 4, 2) := by decide +kernel
theorem dX4_kinds_98 : decode cX4_kinds 98 = .ok (.ireturn, 1) := by decide +kernel
theorem dX4_tip_0 : decode cX4_tip 0 = .ok (.iload_n 1, 1) := by decide +kernel
theorem dX4_tip_1 : decode cX4_tip 1 = .ok (.iconst 1, 1) := by decide +kernel
theorem dX4_tip_2 : decode cX4_tip 2 = .ok (.if_icmp .lt 9, 3) := by decide +kernel
theorem dX4_tip_5 : decode cX4_tip 5 = .ok (.iload_n 1, 1) := by decide +kernel
theorem dX4_tip_6 : decode cX4_tip 6 = .ok (.bipush 20, 2) := by decide +kernel
theorem dX4_tip_8 : decode cX4_tip 8 = .ok (.if_icmp .le 9, 3) := by decide +kernel
theorem dX4_tip_11 : decode cX4_tip 11 = .ok (.aload_n 0, 1) := by decide +kernel
theorem dX4_tip_12 : decode cX4_tip 12 = .ok (.iconst 0, 1) := by decide +kernel
theorem dX4_tip_13 : decode cX4_tip 13 = .ok (.invokevirtual 54, 3) := by decide +kernel
theorem dX4_tip_16 : decode cX4_tip 16 = .ok (.ireturn, 1) := by decide +kernel
theorem dX4_tip_17 : decode cX4_tip 17 = .ok (.aload_n 0, 1) := by decide +kernel
theorem dX4_tip_18 : decode cX4_tip 18 = .ok (.getfield 10, 3) := by decide +kernel
theorem dX4_tip_21 : decode cX4_tip 21 = .ok (.getfield 107, 3) := by decide +kernel
theorem dX4_tip_24 : decode cX4_tip 24 = .ok (.iload_n 1, 1) := by decide +kernel
theorem dX4_tip_25 : decode cX4_tip 25 = .ok (.iadd, 1) := by decide +kernel
theorem dX4_tip_26 : decode cX4_tip 26 = .ok (.ldc 110, 2) := by decide +kernel
theorem dX4_tip_28 : decode cX4_tip 28 = .ok (.if_icmp .le 9, 3) := by decide +kernel
theorem dX4_tip_31 : decode cX4_tip 31 = .ok (.aload_n 0, 1) := by decide +kernel
theorem dX4_tip_32 : decode cX4_tip 32 = .ok (.iconst 4, 1) := by decide +kernel
theorem dX4_tip_33 : decode cX4_tip 33 = .ok (.invokevirtual 54, 3) := by decide +kernel
theorem dX4_tip_36 : decode cX4_tip 36 = .ok (.ireturn, 1) := by decide +kernel
theorem dX4_tip_37 : decode cX4_tip 37 = .ok (.iconst 0, 1) := by decide +kernel
theorem dX4_tip_38 : decode cX4_tip 38 = .ok (.istore_n 2, 1) := by decide +kernel
theorem dX4_tip_39 : decode cX4_tip 39 = .ok (.iload_n 2, 1) := by decide +kernel
theorem dX4_tip_40 : decode cX4_tip 40 = .ok (.iload_n 1, 1) := by decide +kernel
theorem dX4_tip_41 : decode cX4_tip 41 = .ok (.if_icmp .ge 64, 3) := by decide +kernel
theorem dX4_tip_44 : decode cX4_tip 44 = .ok (.aload_n 0, 1) := by decide +kernel
theorem dX4_tip_45 : decode cX4_tip 45 = .ok (.getfield 10, 3) := by decide +kernel
theorem dX4_tip_48 : decode cX4_tip 48 = .ok (.invokevirtual 179, 3) := by decide +kernel
theorem dX4_tip_51 : decode cX4_tip 51 = .ok (.bipush 8, 2) := by decide +kernel
theorem dX4_tip_53 : decode cX4_tip 53 = .ok (.irem, 1) := by decide +kernel
theorem dX4_tip_54 : decode cX4_tip 54 = .ok (.istore_n 3, 1) := by decide +kernel
theorem dX4_tip_55 : decode cX4_tip 55 = .ok (.aload_n 0, 1) := by decide +kernel
theorem dX4_tip_56 : decode cX4_tip 56 = .ok (.getfield 10, 3) := by decide +kernel
theorem dX4_tip_59 : decode cX4_tip 59 = .ok (.invokevirtual 179, 3) := by decide +kernel
theorem dX4_tip_62 : decode cX4_tip 62 = .ok (.bipush 8, 2) := by decide +kernel
theorem dX4_tip_64 : decode cX4_tip 64 = .ok (.irem, 1) := by decide +kernel
theorem dX4_tip_65 : decode cX4_tip 65 = .ok (.istore 4, 2) := by decide +kernel
theorem dX4_tip_67 : decode cX4_tip 67 = .ok (.aload_n 0, 1) := by decide +kernel
theorem dX4_tip_68 : decode cX4_tip 68 = .ok (.getfield 10, 3) := by decide +kernel
theorem dX4_tip_71 : decode cX4_tip 71 = .ok (.getfield 58, 3) := by decide +kernel
theorem dX4_tip_74 : decode cX4_tip 74 = .ok (.aload_n 0, 1) := by decide +kernel
theorem dX4_tip_75 : decode cX4_tip 75 = .ok (.getfield 10, 3) := by decide +kernel
theorem dX4_tip_78 : decode cX4_tip 78 = .ok (.getfield 107, 3) := by decide +kernel
theorem dX4_tip_81 : decode cX4_tip 81 = .ok (.bipush 6, 2) := by decide +kernel
theorem dX4_tip_83 : decode cX4_tip 83 = .ok (.irem, 1) := by decide +kernel
theorem dX4_tip_84 : decode cX4_tip 84 = .ok (.bipush 10, 2) := by decide +kernel
theorem dX4_tip_86 : decode cX4_tip 86 = .ok (.iload_n 3, 1) := by decide +kernel
theorem dX4_tip_87 : decode cX4_tip 87 = .ok (.imul, 1) := by decide +kernel
theorem dX4_tip_88 : decode cX4_tip 88 = .ok (.iload 4, 2) := by decide +kernel
theorem dX4_tip_90 : decode cX4_tip 90 = .ok (.iadd, 1) := by decide +kernel
theorem dX4_tip_91 : decode cX4_tip 91 = .ok (.iastore, 1) := by decide +kernel
theorem dX4_tip_92 : decode cX4_tip 92 = .ok (.aload_n 0, 1) := by decide +kernel
theorem dX4_tip_93 : decode cX4_tip 93 = .ok (.getfield 10, 3) := by decide +kernel
theorem dX4_tip_96 : decode cX4_tip 96 = .ok (.invokevirtual 141, 3) := by decide +kernel
theorem dX4_tip_99 : decode cX4_tip 99 = .ok (.iinc 2 1, 3) := by decide +kernel
theorem dX4_tip_102 : decode cX4_tip 102 = .ok (.goto (-63), 3) := by decide +kernel
theorem dX4_tip_105 : decode cX4_tip 105 = .ok (.aload_n 0, 1) := by decide +kernel
theorem dX4_tip_106 : decode cX4_tip 106 = .ok (.getfield 10, 3) := by decide +kernel
theorem dX4_tip_109 : decode cX4_tip 109 = .ok (.invokevirtual 103, 3) := by decide +kernel
theorem dX4_tip_112 : decode cX4_tip 112 = .ok (.ireturn, 1) := by decide +kernel
theorem dX4_odds_0 : decode cX4_odds 0 = .ok (.iload_n 1, 1) := by decide +kernel
theorem dX4_odds_1 : decode cX4_odds 1 = .ok (.ifCond .lt 18, 3) := by decide +kernel
theorem dX4_odds_4 : decode cX4_odds 4 = .ok (.iload_n 1, 1) := by decide +kernel
theorem dX4_odds_5 : decode cX4_odds 5 = .ok (.bipush 10, 2) := by decide +kernel
theorem dX4_odds_7 : decode cX4_odds 7 = .ok (.if_icmp .gt 12, 3) := by decide +kernel
theorem dX4_odds_10 : decode cX4_odds 10 = .ok (.iload_n 2, 1) := by decide +kernel
theorem dX4_odds_11 : decode cX4_odds 11 = .ok (.ifCond .lt 8, 3) := by decide +kernel
theorem dX4_odds_14 : decode cX4_odds 14 = .ok (.iload_n 2, 1) := by decide +kernel
theorem dX4_odds_15 : decode cX4_odds 15 = .ok (.iconst 1, 1) := by decide +kernel
theorem dX4_odds_16 : decode cX4_odds 16 = .ok (.if_icmp .le 10, 3) := by decide +kernel
theorem dX4_odds_19 : decode cX4_odds 19 = .ok (.aload_n 0, 1) := by decide +kernel
theorem dX4_odds_20 : decode cX4_odds 20 = .ok (.iconst 0, 1) := by decide +kernel
theorem dX4_odds_21 : decode cX4_odds 21 = .ok (.invokevirtual 54, 3) := by decide +kernel
theorem dX4_odds_24 : decode cX4_odds 24 = .ok (.i2l, 1) := by decide +kernel
theorem dX4_odds_25 : decode cX4_odds 25 = .ok (.lreturn, 1) := by decide +kernel
theorem dX4_odds_26 : decode cX4_odds 26 = .ok (.aload_n 0, 1) := by decide +kernel
theorem dX4_odds_27 : decode cX4_odds 27 = .ok (.invokevirtual 182, 3) := by decide +kernel
theorem dX4_odds_30 : decode cX4_odds 30 = .ok (.istore_n 3, 1) := by decide +kernel
theorem dX4_odds_31 : decode cX4_odds 31 = .ok (.bipush 64, 2) := by decide +kernel
theorem dX4_odds_33 : decode cX4_odds 33 = .ok (.istore 4, 2) := by decide +kernel
theorem dX4_odds_35 : decode cX4_odds 35 = .ok (.iload 4, 2) := by decide +kernel
theorem dX4_odds_37 : decode cX4_odds 37 = .ok (.iconst 1, 1) := by decide +kernel
theorem dX4_odds_38 : decode cX4_odds 38 = .ok (.if_icmp .le 22, 3) := by decide +kernel
theorem dX4_odds_41 : decode cX4_odds 41 = .ok (.iload_n 3, 1) := by decide +kernel
theorem dX4_odds_42 : decode cX4_odds 42 = .ok (.iconst 2, 1) := by decide +kernel
theorem dX4_odds_43 : decode cX4_odds 43 = .ok (.irem, 1) := by decide +kernel
theorem dX4_odds_44 : decode cX4_odds 44 = .ok (.ifCond .ne 16, 3) := by decide +kernel
theorem dX4_odds_47 : decode cX4_odds 47 = .ok (.iload_n 3, 1) := by decide +kernel
theorem dX4_odds_48 : decode cX4_odds 48 = .ok (.iconst 2, 1) := by decide +kernel
theorem dX4_odds_49 : decode cX4_odds 49 = .ok (.idiv, 1) := by decide +kernel
theorem dX4_odds_50 : decode cX4_odds 50 = .ok (.istore_n 3, 1) := by decide +kernel
theorem dX4_odds_51 : decode cX4_odds 51 = .ok (.iload 4, 2) := by decide +kernel
theorem dX4_odds_53 : decode cX4_odds 53 = .ok (.iconst 2, 1) := by decide +kernel
theorem dX4_odds_54 : decode cX4_odds 54 = .ok (.idiv, 1) := by decide +kernel
theorem dX4_odds_55 : decode cX4_odds 55 = .ok (.istore 4, 2) := by decide +kernel
theorem dX4_odds_57 : decode cX4_odds 57 = .ok (.goto (-22), 3) := by decide +kernel
theorem dX4_odds_60 : decode cX4_odds 60 = .ok (.iload_n 2, 1) := by decide +kernel
theorem dX4_odds_61 : decode cX4_odds 61 = .ok (.ifCond .ne 7, 3) := by decide +kernel
theorem dX4_odds_64 : decode cX4_odds 64 = .ok (.iload_n 3, 1) := by decide +kernel
theorem dX4_odds_65 : decode cX4_odds 65 = .ok (.goto 5, 3) := by decide +kernel
theorem dX4_odds_68 : decode cX4_odds 68 = .ok (.iload 4, 2) := by decide +kernel
theorem dX4_odds_70 : decode cX4_odds 70 = .ok (.iload_n 1, 1) := by decide +kernel
theorem dX4_odds_71 : decode cX4_odds 71 = .ok (.invokestatic 185, 3) := by decide +kernel
theorem dX4_odds_74 : decode cX4_odds 74 = .ok (.lreturn, 1) := by decide +kernel
theorem dX4_seed_0 : decode cX4_seed 0 = .ok (.aload_n 0, 1) := by decide +kernel
theorem dX4_seed_1 : decode cX4_seed 1 = .ok (.getfield 10, 3) := by decide +kernel
theorem dX4_seed_4 : decode cX4_seed 4 = .ok (.getfield 189, 3) := by decide +kernel
theorem dX4_seed_7 : decode cX4_seed 7 = .ok (.istore_n 2, 1) := by decide +kernel
theorem dX4_seed_8 : decode cX4_seed 8 = .ok (.aload_n 0, 1) := by decide +kernel
theorem dX4_seed_9 : decode cX4_seed 9 = .ok (.getfield 10, 3) := by decide +kernel
theorem dX4_seed_12 : decode cX4_seed 12 = .ok (.iload_n 1, 1) := by decide +kernel
theorem dX4_seed_13 : decode cX4_seed 13 = .ok (.putfield 189, 3) := by decide +kernel
theorem dX4_seed_16 : decode cX4_seed 16 = .ok (.iload_n 2, 1) := by decide +kernel
theorem dX4_seed_17 : decode cX4_seed 17 = .ok (.ireturn, 1) := by decide +kernel
theorem dX4_feed_0 : decode cX4_feed 0 = .ok (.iload_n 2, 1) := by decide +kernel
theorem dX4_feed_1 : decode cX4_feed 1 = .ok (.iconst 1, 1) := by decide +kernel
theorem dX4_feed_2 : decode cX4_feed 2 = .ok (.if_icmp .lt 8, 3) := by decide +kernel
theorem dX4_feed_5 : decode cX4_feed 5 = .ok (.iload_n 2, 1) := by decide +kernel
theorem dX4_feed_6 : decode cX4_feed 6 = .ok (.iconst 4, 1) := by decide +kernel
theorem dX4_feed_7 : decode cX4_feed 7 = .ok (.if_icmp .le 9, 3) := by decide +kernel
theorem dX4_feed_10 : decode cX4_feed 10 = .ok (.aload_n 0, 1) := by decide +kernel
theorem dX4_feed_11 : decode cX4_feed 11 = .ok (.iconst 0, 1) := by decide +kernel
theorem dX4_feed_12 : decode cX4_feed 12 = .ok (.invokevirtual 54, 3) := by decide +kernel
theorem dX4_feed_15 : decode cX4_feed 15 = .ok (.ireturn, 1) := by decide +kernel
theorem dX4_feed_16 : decode cX4_feed 16 = .ok (.aload_n 0, 1) := by decide +kernel
theorem dX4_feed_17 : decode cX4_feed 17 = .ok (.getfield 32, 3) := by decide +kernel
theorem dX4_feed_20 : decode cX4_feed 20 = .ok (.getfield 192, 3) := by decide +kernel
theorem dX4_feed_23 : decode cX4_feed 23 = .ok (.iload_n 2, 1) := by decide +kernel
theorem dX4_feed_24 : decode cX4_feed 24 = .ok (.iadd, 1) := by decide +kernel
theorem dX4_feed_25 : decode cX4_feed 25 = .ok (.bipush 120, 2) := by decide +kernel
theorem dX4_feed_27 : decode cX4_feed 27 = .ok (.if_icmp .le 9, 3) := by decide +kernel
theorem dX4_feed_30 : decode cX4_feed 30 = .ok (.aload_n 0, 1) := by decide +kernel
theorem dX4_feed_31 : decode cX4_feed 31 = .ok (.iconst 1, 1) := by decide +kernel
theorem dX4_feed_32 : decode cX4_feed 32 = .ok (.invokevirtual 54, 3) := by decide +kernel
theorem dX4_feed_35 : decode cX4_feed 35 = .ok (.ireturn, 1) := by decide +kernel
theorem dX4_feed_36 : decode cX4_feed 36 = .ok (.aload_n 0, 1) := by decide +kernel
theorem dX4_feed_37 : decode cX4_feed 37 = .ok (.getfield 32, 3) := by decide +kernel
theorem dX4_feed_40 : decode cX4_feed 40 = .ok (.iload_n 1, 1) := by decide +kernel
theorem dX4_feed_41 : decode cX4_feed 41 = .ok (.iload_n 2, 1) := by decide +kernel
theorem dX4_feed_42 : decode cX4_feed 42 = .ok (.invokevirtual 195, 3) := by decide +kernel
theorem dX4_feed_45 : decode cX4_feed 45 = .ok (.aload_n 0, 1) := by decide +kernel
theorem dX4_feed_46 : decode cX4_feed 46 = .ok (.getfield 32, 3) := by decide +kernel
theorem dX4_feed_49 : decode cX4_feed 49 = .ok (.getfield 192, 3) := by decide +kernel
theorem dX4_feed_52 : decode cX4_feed 52 = .ok (.ireturn, 1) := by decide +kernel
theorem dX4_wipe_0 : decode cX4_wipe 0 = .ok (.aload_n 0, 1) := by decide +kernel
theorem dX4_wipe_1 : decode cX4_wipe 1 = .ok (.getfield 32, 3) := by decide +kernel
theorem dX4_wipe_4 : decode cX4_wipe 4 = .ok (.getfield 192, 3) := by decide +kernel
theorem dX4_wipe_7 : decode cX4_wipe 7 = .ok (.istore_n 1, 1) := by decide +kernel
theorem dX4_wipe_8 : decode cX4_wipe 8 = .ok (.aload_n 0, 1) := by decide +kernel
theorem dX4_wipe_9 : decode cX4_wipe 9 = .ok (.getfield 32, 3) := by decide +kernel
theorem dX4_wipe_12 : decode cX4_wipe 12 = .ok (.iconst 0, 1) := by decide +kernel
theorem dX4_wipe_13 : decode cX4_wipe 13 = .ok (.putfield 192, 3) := by decide +kernel
theorem dX4_wipe_16 : decode cX4_wipe 16 = .ok (.iload_n 1, 1) := by decide +kernel
theorem dX4_wipe_17 : decode cX4_wipe 17 = .ok (.ireturn, 1) := by decide +kernel
theorem dX4_text_0 : decode cX4_text 0 = .ok (.aload_n 0, 1) := by decide +kernel
theorem dX4_text_1 : decode cX4_text 1 = .ok (.getfield 19, 3) := by decide +kernel
theorem dX4_text_4 : decode cX4_text 4 = .ok (.aload_n 0, 1) := by decide +kernel
theorem dX4_text_5 : decode cX4_text 5 = .ok (.getfield 10, 3) := by decide +kernel
theorem dX4_text_8 : decode cX4_text 8 = .ok (.invokevirtual 134, 3) := by decide +kernel
theorem dX4_text_11 : decode cX4_text 11 = .ok (.aload_n 0, 1) := by decide +kernel
theorem dX4_text_12 : decode cX4_text 12 = .ok (.getfield 32, 3) := by decide +kernel
theorem dX4_text_15 : decode cX4_text 15 = .ok (.aload_n 0, 1) := by decide +kernel
theorem dX4_text_16 : decode cX4_text 16 = .ok (.getfield 19, 3) := by decide +kernel
theorem dX4_text_19 : decode cX4_text 19 = .ok (.invokevirtual 198, 3) := by decide +kernel
theorem dX4_text_22 : decode cX4_text 22 = .ok (.istore_n 1, 1) := by decide +kernel
theorem dX4_text_23 : decode cX4_text 23 = .ok (.aload_n 0, 1) := by decide +kernel
theorem dX4_text_24 : decode cX4_text 24 = .ok (.getfield 32, 3) := by decide +kernel
theorem dX4_text_27 : decode cX4_text 27 = .ok (.iconst 0, 1) := by decide +kernel
theorem dX4_text_28 : decode cX4_text 28 = .ok (.putfield 192, 3) := by decide +kernel
theorem dX4_text_31 : decode cX4_text 31 = .ok (.iload_n 1, 1) := by decide +kernel
theorem dX4_text_32 : decode cX4_text 32 = .ok (.ifCond .lt 14, 3) := by decide +kernel
theorem dX4_text_35 : decode cX4_text 35 = .ok (.aload_n 0, 1) := by decide +kernel
theorem dX4_text_36 : decode cX4_text 36 = .ok (.getfield 10, 3) := by decide +kernel
theorem dX4_text_39 : decode cX4_text 39 = .ok (.aload_n 0, 1) := by decide +kernel
theorem dX4_text_40 : decode cX4_text 40 = .ok (.getfield 19, 3) := by decide +kernel
theorem dX4_text_43 : decode cX4_text 43 = .ok (.invokevirtual 134, 3) := by decide +kernel
theorem dX4_text_46 : decode cX4_text 46 = .ok (.iload_n 1, 1) := by decide +kernel
theorem dX4_text_47 : decode cX4_text 47 = .ok (.ireturn, 1) := by decide +kernel
theorem dX4_hold_0 : decode cX4_hold 0 = .ok (.iload_n 1, 1) := by decide +kernel
theorem dX4_hold_1 : decode cX4_hold 1 = .ok (.invokestatic 201, 3) := by decide +kernel
theorem dX4_hold_4 : decode cX4_hold 4 = .ok (.ifCond .eq 19, 3) := by decide +kernel
theorem dX4_hold_7 : decode cX4_hold 7 = .ok (.iload_n 2, 1) := by decide +kernel
theorem dX4_hold_8 : decode cX4_hold 8 = .ok (.iconst (-1), 1) := by decide +kernel
theorem dX4_hold_9 : decode cX4_hold 9 = .ok (.if_icmp .eq 20, 3) := by decide +kernel
theorem dX4_hold_12 : decode cX4_hold 12 = .ok (.aload_n 0, 1) := by decide +kernel
theorem dX4_hold_13 : decode cX4_hold 13 = .ok (.getfield 10, 3) := by decide +kernel
theorem dX4_hold_16 : decode cX4_hold 16 = .ok (.iload_n 2, 1) := by decide +kernel
theorem dX4_hold_17 : decode cX4_hold 17 = .ok (.invokevirtual 75, 3) := by decide +kernel
theorem dX4_hold_20 : decode cX4_hold 20 = .ok (.ifCond .ne 9, 3) := by decide +kernel
theorem dX4_hold_23 : decode cX4_hold 23 = .ok (.aload_n 0, 1) := by decide +kernel
theorem dX4_hold_24 : decode cX4_hold 24 = .ok (.iconst 0, 1) := by decide +kernel
theorem dX4_hold_25 : decode cX4_hold 25 = .ok (.invokevirtual 54, 3) := by decide +kernel
theorem dX4_hold_28 : decode cX4_hold 28 = .ok (.ireturn, 1) := by decide +kernel
theorem dX4_hold_29 : decode cX4_hold 29 = .ok (.aload_n 0, 1) := by decide +kernel
theorem dX4_hold_30 : decode cX4_hold 30 = .ok (.getfield 10, 3) := by decide +kernel
theorem dX4_hold_33 : decode cX4_hold 33 = .ok (.getfield 204, 3) := by decide +kernel
theorem dX4_hold_36 : decode cX4_hold 36 = .ok (.iload_n 1, 1) := by decide +kernel
theorem dX4_hold_37 : decode cX4_hold 37 = .ok (.iload_n 2, 1) := by decide +kernel
theorem dX4_hold_38 : decode cX4_hold 38 = .ok (.iastore, 1) := by decide +kernel
theorem dX4_hold_39 : decode cX4_hold 39 = .ok (.iconst 1, 1) := by decide +kernel
theorem dX4_hold_40 : decode cX4_hold 40 = .ok (.ireturn, 1) := by decide +kernel
theorem dX4_as_0 : decode cX4_as 0 = .ok (.iload_n 1, 1) := by decide +kernel
theorem dX4_as_1 : decode cX4_as 1 = .ok (.invokestatic 201, 3) := by decide +kernel
theorem dX4_as_4 : decode cX4_as 4 = .ok (.ifCond .eq 10, 3) := by decide +kernel
theorem dX4_as_7 : decode cX4_as 7 = .ok (.iload_n 2, 1) := by decide +kernel
theorem dX4_as_8 : decode cX4_as 8 = .ok (.invokestatic 61, 3) := by decide +kernel
theorem dX4_as_11 : decode cX4_as 11 = .ok (.ifCond .ne 9, 3) := by decide +kernel
theorem dX4_as_14 : decode cX4_as 14 = .ok (.aload_n 0, 1) := by decide +kernel
theorem dX4_as_15 : decode cX4_as 15 = .ok (.iconst 0, 1) := by decide +kernel
theorem dX4_as_16 : decode cX4_as 16 = .ok (.invokevirtual 54, 3) := by decide +kernel
theorem dX4_as_19 : decode cX4_as 19 = .ok (.ireturn, 1) := by decide +kernel
theorem dX4_as_20 : decode cX4_as 20 = .ok (.aload_n 0, 1) := by decide +kernel
theorem dX4_as_21 : decode cX4_as 21 = .ok (.getfield 10, 3) := by decide +kernel
theorem dX4_as_24 : decode cX4_as 24 = .ok (.getfield 204, 3) := by decide +kernel
theorem dX4_as_27 : decode cX4_as 27 = .ok (.iload_n 1, 1) := by decide +kernel
theorem dX4_as_28 : decode cX4_as 28 = .ok (.iaload, 1) := by decide +kernel
theorem dX4_as_29 : decode cX4_as 29 = .ok (.istore_n 3, 1) := by decide +kernel
theorem dX4_as_30 : decode cX4_as 30 = .ok (.iload_n 3, 1) := by decide +kernel
theorem dX4_as_31 : decode cX4_as 31 = .ok (.ifCond .ge 9, 3) := by decide +kernel
theorem dX4_as_34 : decode cX4_as 34 = .ok (.aload_n 0, 1) := by decide +kernel
theorem dX4_as_35 : decode cX4_as 35 = .ok (.iconst 5, 1) := by decide +kernel
theorem dX4_as_36 : decode cX4_as 36 = .ok (.invokevirtual 54, 3) := by decide +kernel
theorem dX4_as_39 : decode cX4_as 39 = .ok (.ireturn, 1) := by decide +kernel
theorem dX4_as_40 : decode cX4_as 40 = .ok (.aload_n 0, 1) := by decide +kernel
theorem dX4_as_41 : decode cX4_as 41 = .ok (.getfield 10, 3) := by decide +kernel
theorem dX4_as_44 : decode cX4_as 44 = .ok (.getfield 176, 3) := by decide +kernel
theorem dX4_as_47 : decode cX4_as 47 = .ok (.iload_n 3, 1) := by decide +kernel
theorem dX4_as_48 : decode cX4_as 48 = .ok (.iaload, 1) := by decide +kernel
theorem dX4_as_49 : decode cX4_as 49 = .ok (.iload_n 2, 1) := by decide +kernel
theorem dX4_as_50 : decode cX4_as 50 = .ok (.invokestatic 207, 3) := by decide +kernel
theorem dX4_as_53 : decode cX4_as 53 = .ok (.ifCond .eq 7, 3) := by decide +kernel
theorem dX4_as_56 : decode cX4_as 56 = .ok (.iload_n 3, 1) := by decide +kernel
theorem dX4_as_57 : decode cX4_as 57 = .ok (.goto 8, 3) := by decide +kernel
theorem dX4_as_60 : decode cX4_as 60 = .ok (.aload_n 0, 1) := by decide +kernel
theorem dX4_as_61 : decode cX4_as 61 = .ok (.iconst 2, 1) := by decide +kernel
theorem dX4_as_62 : decode cX4_as 62 = .ok (.invokevirtual 54, 3) := by decide +kernel
theorem dX4_as_65 : decode cX4_as 65 = .ok (.ireturn, 1) := by decide +kernel
theorem dX4_sheet_0 : decode cX4_sheet 0 = .ok (.iload_n 2, 1) := by decide +kernel
theorem dX4_sheet_1 : decode cX4_sheet 1 = .ok (.ifCond .eq 21, 3) := by decide +kernel
theorem dX4_sheet_4 : decode cX4_sheet 4 = .ok (.iload_n 2, 1) := by decide +kernel
theorem dX4_sheet_5 : decode cX4_sheet 5 = .ok (.bipush 8, 2) := by decide +kernel
theorem dX4_sheet_7 : decode cX4_sheet 7 = .ok (.if_icmp .eq 15, 3) := by decide +kernel
theorem dX4_sheet_10 : decode cX4_sheet 10 = .ok (.iload_n 2, 1) := by decide +kernel
theorem dX4_sheet_11 : decode cX4_sheet 11 = .ok (.bipush 16, 2) := by decide +kernel
theorem dX4_sheet_13 : decode cX4_sheet 13 = .ok (.if_icmp .eq 9, 3) := by decide +kernel
theorem dX4_sheet_16 : decode cX4_sheet 16 = .ok (.iload_n 2, 1) := by decide +kernel
theorem dX4_sheet_17 : decode cX4_sheet 17 = .ok (.bipush 32, 2) := by decide +kernel
theorem dX4_sheet_19 : decode cX4_sheet 19 = .ok (.if_icmp .ne 7, 3) := by decide +kernel
theorem dX4_sheet_22 : decode cX4_sheet 22 = .ok (.iconst 1, 1) := by decide +kernel
theorem dX4_sheet_23 : decode cX4_sheet 23 = .ok (.goto 4, 3) := by decide +kernel
theorem dX4_sheet_26 : decode cX4_sheet 26 = .ok (.iconst 0, 1) := by decide +kernel
theorem dX4_sheet_27 : decode cX4_sheet 27 = .ok (.istore 4, 2) := by decide +kernel
theorem dX4_sheet_29 : decode cX4_sheet 29 = .ok (.iload_n 1, 1) := by decide +kernel
theorem dX4_sheet_30 : decode cX4_sheet 30 = .ok (.invokestatic 210, 3) := by decide +kernel
theorem dX4_sheet_33 : decode cX4_sheet 33 = .ok (.ifCond .eq 8, 3) := by decide +kernel
theorem dX4_sheet_36 : decode cX4_sheet 36 = .ok (.iload 4, 2) := by decide +kernel
theorem dX4_sheet_38 : decode cX4_sheet 38 = .ok (.ifCond .ne 9, 3) := by decide +kernel
theorem dX4_sheet_41 : decode cX4_sheet 41 = .ok (.aload_n 0, 1) := by decide +kernel
theorem dX4_sheet_42 : decode cX4_sheet 42 = .ok (.iconst 0, 1) := by decide +kernel
theorem dX4_sheet_43 : decode cX4_sheet 43 = .ok (.invokevirtual 54, 3) := by decide +kernel
theorem dX4_sheet_46 : decode cX4_sheet 46 = .ok (.ireturn, 1) := by decide +kernel
theorem dX4_sheet_47 : decode cX4_sheet 47 = .ok (.iload_n 3, 1) := by decide +kernel
theorem dX4_sheet_48 : decode cX4_sheet 48 = .ok (.ifCond .ge 10, 3) := by decide +kernel
theorem dX4_sheet_51 : decode cX4_sheet 51 = .ok (.aload_n 0, 1) := by decide +kernel
theorem dX4_sheet_52 : decode cX4_sheet 52 = .ok (.bipush 6, 2) := by decide +kernel
theorem dX4_sheet_54 : decode cX4_sheet 54 = .ok (.invokevirtual 54, 3) := by decide +kernel
theorem dX4_sheet_57 : decode cX4_sheet 57 = .ok (.ireturn, 1) := by decide +kernel
theorem dX4_sheet_58 : decode cX4_sheet 58 = .ok (.iload_n 3, 1) := by decide +kernel
theorem dX4_sheet_59 : decode cX4_sheet 59 = .ok (.bipush 40, 2) := by decide +kernel
theorem dX4_sheet_61 : decode cX4_sheet 61 = .ok (.if_icmp .le 9, 3) := by decide +kernel
theorem dX4_sheet_64 : decode cX4_sheet 64 = .ok (.aload_n 0, 1) := by decide +kernel
theorem dX4_sheet_65 : decode cX4_sheet 65 = .ok (.iconst 0, 1) := by decide +kernel
theorem dX4_sheet_66 : decode cX4_sheet 66 = .ok (.invokevirtual 54, 3) := by decide +kernel
theorem dX4_sheet_69 : decode cX4_sheet 69 = .ok (.ireturn, 1) := by decide +kernel
theorem dX4_sheet_70 : decode cX4_sheet 70 = .ok (.aload_n 0, 1) := by decide +kernel
theorem dX4_sheet_71 : decode cX4_sheet 71 = .ok (.getfield 38, 3) := by decide +kernel
theorem dX4_sheet_74 : decode cX4_sheet 74 = .ok (.iload_n 1, 1) := by decide +kernel
theorem dX4_sheet_75 : decode cX4_sheet 75 = .ok (.aaload, 1) := by decide +kernel
theorem dX4_sheet_76 : decode cX4_sheet 76 = .ok (.iload_n 2, 1) := by decide +kernel
theorem dX4_sheet_77 : decode cX4_sheet 77 = .ok (.iload_n 3, 1) := by decide +kernel
theorem dX4_sheet_78 : decode cX4_sheet 78 = .ok (.invokevirtual 213, 3) := by decide +kernel
theorem dX4_sheet_81 : decode cX4_sheet 81 = .ok (.aload_n 0, 1) := by decide +kernel
theorem dX4_sheet_82 : decode cX4_sheet 82 = .ok (.getfield 38, 3) := by decide +kernel
theorem dX4_sheet_85 : decode cX4_sheet 85 = .ok (.iload_n 1, 1) := by decide +kernel
theorem dX4_sheet_86 : decode cX4_sheet 86 = .ok (.aaload, 1) := by decide +kernel
theorem dX4_sheet_87 : decode cX4_sheet 87 = .ok (.getfield 216, 3) := by decide +kernel
theorem dX4_sheet_90 : decode cX4_sheet 90 = .ok (.ireturn, 1) := by decide +kernel
theorem dX4_write_0 : decode cX4_write 0 = .ok (.aload_n 0, 1) := by decide +kernel
theorem dX4_write_1 : decode cX4_write 1 = .ok (.iload_n 1, 1) := by decide +kernel
theorem dX4_write_2 : decode cX4_write 2 = .ok (.invokevirtual 163, 3) := by decide +kernel
theorem dX4_write_5 : decode cX4_write 5 = .ok (.istore 4, 2) := by decide +kernel
theorem dX4_write_7 : decode cX4_write 7 = .ok (.iload 4, 2) := by decide +kernel
theorem dX4_write_9 : decode cX4_write 9 = .ok (.ifCond .lt 10, 3) := by decide +kernel
theorem dX4_write_12 : decode cX4_write 12 = .ok (.aload_n 0, 1) := by decide +kernel
theorem dX4_write_13 : decode cX4_write 13 = .ok (.iload 4, 2) := by decide +kernel
theorem dX4_write_15 : decode cX4_write 15 = .ok (.invokevirtual 54, 3) := by decide +kernel
theorem dX4_write_18 : decode cX4_write 18 = .ok (.ireturn, 1) := by decide +kernel
theorem dX4_write_19 : decode cX4_write 19 = .ok (.iload_n 2, 1) := by decide +kernel
theorem dX4_write_20 : decode cX4_write 20 = .ok (.ifCond .lt 16, 3) := by decide +kernel
theorem dX4_write_23 : decode cX4_write 23 = .ok (.iload_n 2, 1) := by decide +kernel
theorem dX4_write_24 : decode cX4_write 24 = .ok (.aload_n 0, 1) := by decide +kernel
theorem dX4_write_25 : decode cX4_write 25 = .ok (.getfield 38, 3) := by decide +kernel
theorem dX4_write_28 : decode cX4_write 28 = .ok (.iload_n 1, 1) := by decide +kernel
theorem dX4_write_29 : decode cX4_write 29 = .ok (.aaload, 1) := by decide +kernel
theorem dX4_write_30 : decode cX4_write 30 = .ok (.getfield 216, 3) := by decide +kernel
theorem dX4_write_33 : decode cX4_write 33 = .ok (.if_icmp .lt 9, 3) := by decide +kernel
theorem dX4_write_36 : decode cX4_write 36 = .ok (.aload_n 0, 1) := by decide +kernel
theorem dX4_write_37 : decode cX4_write 37 = .ok (.iconst 0, 1) := by decide +kernel
theorem dX4_write_38 : decode cX4_write 38 = .ok (.invokevirtual 54, 3) := by decide +kernel
theorem dX4_write_41 : decode cX4_write 41 = .ok (.ireturn, 1) := by decide +kernel
theorem dX4_write_42 : decode cX4_write 42 = .ok (.aload_n 0, 1) := by decide +kernel
theorem dX4_write_43 : decode cX4_write 43 = .ok (.getfield 38, 3) := by decide +kernel
theorem dX4_write_46 : decode cX4_write 46 = .ok (.iload_n 1, 1) := by decide +kernel
theorem dX4_write_47 : decode cX4_write 47 = .ok (.aaload, 1) := by decide +kernel
theorem dX4_write_48 : decode cX4_write 48 = .ok (.iload_n 2, 1) := by decide +kernel
theorem dX4_write_49 : decode cX4_write 49 = .ok (.iload_n 3, 1) := by decide +kernel
theorem dX4_write_50 : decode cX4_write 50 = .ok (.invokevirtual 219, 3) := by decide +kernel
theorem dX4_write_53 : decode cX4_write 53 = .ok (.iconst 1, 1) := by decide +kernel
theorem dX4_write_54 : decode cX4_write 54 = .ok (.ireturn, 1) := by decide +kernel
theorem dX4_copy_0 : decode cX4_copy 0 = .ok (.iload_n 1, 1) := by decide +kernel
theorem dX4_copy_1 : decode cX4_copy 1 = .ok (.invokestatic 210, 3) := by decide +kernel
theorem dX4_copy_4 : decode cX4_copy 4 = .ok (.ifCond .eq 10, 3) := by decide +kernel
theorem dX4_copy_7 : decode cX4_copy 7 = .ok (.iload_n 3, 1) := by decide +kernel
theorem dX4_copy_8 : decode cX4_copy 8 = .ok (.invokestatic 210, 3) := by decide +kernel
theorem dX4_copy_11 : decode cX4_copy 11 = .ok (.ifCond .ne 9, 3) := by decide +kernel
theorem dX4_copy_14 : decode cX4_copy 14 = .ok (.aload_n 0, 1) := by decide +kernel
theorem dX4_copy_15 : decode cX4_copy 15 = .ok (.iconst 0, 1) := by decide +kernel
theorem dX4_copy_16 : decode cX4_copy 16 = .ok (.invokevirtual 54, 3) := by decide +kernel
theorem dX4_copy_19 : decode cX4_copy 19 = .ok (.ireturn, 1) := by decide +kernel
theorem dX4_copy_20 : decode cX4_copy 20 = .ok (.aload_n 0, 1) := by decide +kernel
theorem dX4_copy_21 : decode cX4_copy 21 = .ok (.getfield 38, 3) := by decide +kernel
theorem dX4_copy_24 : decode cX4_copy 24 = .ok (.iload_n 1, 1) := by decide +kernel
theorem dX4_copy_25 : decode cX4_copy 25 = .ok (.aaload, 1) := by decide +kernel
theorem dX4_copy_26 : decode cX4_copy 26 = .ok (.getfield 222, 3) := by decide +kernel
theorem dX4_copy_29 : decode cX4_copy 29 = .ok (.ifCond .eq 15, 3) := by decide +kernel
theorem dX4_copy_32 : decode cX4_copy 32 = .ok (.aload_n 0, 1) := by decide +kernel
theorem dX4_copy_33 : decode cX4_copy 33 = .ok (.getfield 38, 3) := by decide +kernel
theorem dX4_copy_36 : decode cX4_copy 36 = .ok (.iload_n 3, 1) := by decide +kernel
theorem dX4_copy_37 : decode cX4_copy 37 = .ok (.aaload, 1) := by decide +kernel
theorem dX4_copy_38 : decode cX4_copy 38 = .ok (.getfield 222, 3) := by decide +kernel
theorem dX4_copy_41 : decode cX4_copy 41 = .ok (.ifCond .ne 9, 3) := by decide +kernel
theorem dX4_copy_44 : decode cX4_copy 44 = .ok (.aload_n 0, 1) := by decide +kernel
theorem dX4_copy_45 : decode cX4_copy 45 = .ok (.iconst 5, 1) := by decide +kernel
theorem dX4_copy_46 : decode cX4_copy 46 = .ok (.invokevirtual 54, 3) := by decide +kernel
theorem dX4_copy_49 : decode cX4_copy 49 = .ok (.ireturn, 1) := by decide +kernel
theorem dX4_copy_50 : decode cX4_copy 50 = .ok (.aload_n 0, 1) := by decide +kernel
theorem dX4_copy_51 : decode cX4_copy 51 = .ok (.getfield 38, 3) := by decide +kernel
theorem dX4_copy_54 : decode cX4_copy 54 = .ok (.iload_n 1, 1) := by decide +kernel
theorem dX4_copy_55 : decode cX4_copy 55 = .ok (.aaload, 1) := by decide +kernel
theorem dX4_copy_56 : decode cX4_copy 56 = .ok (.getfield 222, 3) := by decide +kernel
theorem dX4_copy_59 : decode cX4_copy 59 = .ok (.aload_n 0, 1) := by decide +kernel
theorem dX4_copy_60 : decode cX4_copy 60 = .ok (.getfield 38, 3) := by decide +kernel
theorem dX4_copy_63 : decode cX4_copy 63 = .ok (.iload_n 3, 1) := by decide +kernel
theorem dX4_copy_64 : decode cX4_copy 64 = .ok (.aaload, 1) := by decide +kernel
theorem dX4_copy_65 : decode cX4_copy 65 = .ok (.getfield 222, 3) := by decide +kernel
theorem dX4_copy_68 : decode cX4_copy 68 = .ok (.if_icmp .eq 9, 3) := by decide +kernel
theorem dX4_copy_71 : decode cX4_copy 71 = .ok (.aload_n 0, 1) := by decide +kernel
theorem dX4_copy_72 : decode cX4_copy 72 = .ok (.iconst 2, 1) := by decide +kernel
theorem dX4_copy_73 : decode cX4_copy 73 = .ok (.invokevirtual 54, 3) := by decide +kernel
theorem dX4_copy_76 : decode cX4_copy 76 = .ok (.ireturn, 1) := by decide +kernel
theorem dX4_copy_77 : decode cX4_copy 77 = .ok (.aload_n 0, 1) := by decide +kernel
theorem dX4_copy_78 : decode cX4_copy 78 = .ok (.getfield 38, 3) := by decide +kernel
theorem dX4_copy_81 : decode cX4_copy 81 = .ok (.iload_n 1, 1) := by decide +kernel
theorem dX4_copy_82 : decode cX4_copy 82 = .ok (.aaload, 1) := by decide +kernel
theorem dX4_copy_83 : decode cX4_copy 83 = .ok (.iload_n 2, 1) := by decide +kernel
theorem dX4_copy_84 : decode cX4_copy 84 = .ok (.iload 5, 2) := by decide +kernel
theorem dX4_copy_86 : decode cX4_copy 86 = .ok (.invokevirtual 225, 3) := by decide +kernel
theorem dX4_copy_89 : decode cX4_copy 89 = .ok (.ifCond .eq 19, 3) := by decide +kernel
theorem dX4_copy_92 : decode cX4_copy 92 = .ok (.aload_n 0, 1) := by decide +kernel
theorem dX4_copy_93 : decode cX4_copy 93 = .ok (.getfield 38, 3) := by decide +kernel
theorem dX4_copy_96 : decode cX4_copy 96 = .ok (.iload_n 3, 1) := by decide +kernel
theorem dX4_copy_97 : decode cX4_copy 97 = .ok (.aaload, 1) := by decide +kernel
theorem dX4_copy_98 : decode cX4_copy 98 = .ok (.iload 4, 2) := by decide +kernel
theorem dX4_copy_100 : decode cX4_copy 100 = .ok (.iload 5, 2) := by decide +kernel
theorem dX4_copy_102 : decode cX4_copy 102 = .ok (.invokevirtual 225, 3) := by decide +kernel
theorem dX4_copy_105 : decode cX4_copy 105 = .ok (.ifCond .ne 9, 3) := by decide +kernel
theorem dX4_copy_108 : decode cX4_copy 108 = .ok (.aload_n 0, 1) := by decide +kernel
theorem dX4_copy_109 : decode cX4_copy 109 = .ok (.iconst 0, 1) := by decide +kernel
theorem dX4_copy_110 : decode cX4_copy 110 = .ok (.invokevirtual 54, 3) := by decide +kernel
theorem dX4_copy_113 : decode cX4_copy 113 = .ok (.ireturn, 1) := by decide +kernel
theorem dX4_copy_114 : decode cX4_copy 114 = .ok (.aload_n 0, 1) := by decide +kernel
theorem dX4_copy_115 : decode cX4_copy 115 = .ok (.getfield 38, 3) := by decide +kernel
theorem dX4_copy_118 : decode cX4_copy 118 = .ok (.iload_n 1, 1) := by decide +kernel
theorem dX4_copy_119 : decode cX4_copy 119 = .ok (.aaload, 1) := by decide +kernel
theorem dX4_copy_120 : decode cX4_copy 120 = .ok (.getfield 228, 3) := by decide +kernel
theorem dX4_copy_123 : decode cX4_copy 123 = .ok (.iload_n 2, 1) := by decide +kernel
theorem dX4_copy_124 : decode cX4_copy 124 = .ok (.aload_n 0, 1) := by decide +kernel
theorem dX4_copy_125 : decode cX4_copy 125 = .ok (.getfield 38, 3) := by decide +kernel
theorem dX4_copy_128 : decode cX4_copy 128 = .ok (.iload_n 3, 1) := by decide +kernel
theorem dX4_copy_129 : decode cX4_copy 129 = .ok (.aaload, 1) := by decide +kernel
theorem dX4_copy_130 : decode cX4_copy 130 = .ok (.getfield 228, 3) := by decide +kernel
theorem dX4_copy_133 : decode cX4_copy 133 = .ok (.iload 4, 2) := by decide +kernel
theorem dX4_copy_135 : decode cX4_copy 135 = .ok (.iload 5, 2) := by decide +kernel
theorem dX4_copy_137 : decode cX4_copy 137 = .ok (.invokestatic 231, 3) := by decide +kernel
theorem dX4_copy_140 : decode cX4_copy 140 = .ok (.iload 5, 2) := by decide +kernel
theorem dX4_copy_142 : decode cX4_copy 142 = .ok (.ireturn, 1) := by decide +kernel
theorem dX4_load_0 : decode cX4_load 0 = .ok (.aload_n 0, 1) := by decide +kernel
theorem dX4_load_1 : decode cX4_load 1 = .ok (.iload_n 1, 1) := by decide +kernel
theorem dX4_load_2 : decode cX4_load 2 = .ok (.invokevirtual 163, 3) := by decide +kernel
theorem dX4_load_5 : decode cX4_load 5 = .ok (.istore_n 2, 1) := by decide +kernel
theorem dX4_load_6 : decode cX4_load 6 = .ok (.iload_n 2, 1) := by decide +kernel
theorem dX4_load_7 : decode cX4_load 7 = .ok (.ifCond .lt 9, 3) := by decide +kernel
theorem dX4_load_10 : decode cX4_load 10 = .ok (.aload_n 0, 1) := by decide +kernel
theorem dX4_load_11 : decode cX4_load 11 = .ok (.iload_n 2, 1) := by decide +kernel
theorem dX4_load_12 : decode cX4_load 12 = .ok (.invokevirtual 54, 3) := by decide +kernel
theorem dX4_load_15 : decode cX4_load 15 = .ok (.ireturn, 1) := by decide +kernel
theorem dX4_load_16 : decode cX4_load 16 = .ok (.iconst 0, 1) := by decide +kernel
theorem dX4_load_17 : decode cX4_load 17 = .ok (.istore_n 3, 1) := by decide +kernel
theorem dX4_load_18 : decode cX4_load 18 = .ok (.iload_n 3, 1) := by decide +kernel
theorem dX4_load_19 : decode cX4_load 19 = .ok (.aload_n 0, 1) := by decide +kernel
theorem dX4_load_20 : decode cX4_load 20 = .ok (.getfield 38, 3) := by decide +kernel
theorem dX4_load_23 : decode cX4_load 23 = .ok (.iload_n 1, 1) := by decide +kernel
theorem dX4_load_24 : decode cX4_load 24 = .ok (.aaload, 1) := by decide +kernel
theorem dX4_load_25 : decode cX4_load 25 = .ok (.getfield 216, 3) := by decide +kernel
theorem dX4_load_28 : decode cX4_load 28 = .ok (.if_icmp .ge 57, 3) := by decide +kernel
theorem dX4_load_31 : decode cX4_load 31 = .ok (.aload_n 0, 1) := by decide +kernel
theorem dX4_load_32 : decode cX4_load 32 = .ok (.getfield 10, 3) := by decide +kernel
theorem dX4_load_35 : decode cX4_load 35 = .ok (.iload_n 3, 1) := by decide +kernel
theorem dX4_load_36 : decode cX4_load 36 = .ok (.invokevirtual 75, 3) := by decide +kernel
theorem dX4_load_39 : decode cX4_load 39 = .ok (.ifCond .eq 46, 3) := by decide +kernel
theorem dX4_load_42 : decode cX4_load 42 = .ok (.aload_n 0, 1) := by decide +kernel
theorem dX4_load_43 : decode cX4_load 43 = .ok (.getfield 38, 3) := by decide +kernel
theorem dX4_load_46 : decode cX4_load 46 = .ok (.iload_n 1, 1) := by decide +kernel
theorem dX4_load_47 : decode cX4_load 47 = .ok (.aaload, 1) := by decide +kernel
theorem dX4_load_48 : decode cX4_load 48 = .ok (.getfield 228, 3) := by decide +kernel
theorem dX4_load_51 : decode cX4_load 51 = .ok (.iload_n 3, 1) := by decide +kernel
theorem dX4_load_52 : decode cX4_load 52 = .ok (.iaload, 1) := by decide +kernel
theorem dX4_load_53 : decode cX4_load 53 = .ok (.invokestatic 64, 3) := by decide +kernel
theorem dX4_load_56 : decode cX4_load 56 = .ok (.ifCond .eq 29, 3) := by decide +kernel
theorem dX4_load_59 : decode cX4_load 59 = .ok (.aload_n 0, 1) := by decide +kernel
theorem dX4_load_60 : decode cX4_load 60 = .ok (.getfield 10, 3) := by decide +kernel
theorem dX4_load_63 : decode cX4_load 63 = .ok (.getfield 166, 3) := by decide +kernel
theorem dX4_load_66 : decode cX4_load 66 = .ok (.iload_n 3, 1) := by decide +kernel
theorem dX4_load_67 : decode cX4_load 67 = .ok (.aload_n 0, 1) := by decide +kernel
theorem dX4_load_68 : decode cX4_load 68 = .ok (.getfield 38, 3) := by decide +kernel
theorem dX4_load_71 : decode cX4_load 71 = .ok (.iload_n 1, 1) := by decide +kernel
theorem dX4_load_72 : decode cX4_load 72 = .ok (.aaload, 1) := by decide +kernel
theorem dX4_load_73 : decode cX4_load 73 = .ok (.getfield 228, 3) := by decide +kernel
theorem dX4_load_76 : decode cX4_load 76 = .ok (.iload_n 3, 1) := by decide +kernel
theorem dX4_load_77 : decode cX4_load 77 = .ok (.iaload, 1) := by decide +kernel
theorem dX4_load_78 : decode cX4_load 78 = .ok (.iastore, 1) := by decide +kernel
theorem dX4_load_79 : decode cX4_load 79 = .ok (.iinc 3 1, 3) := by decide +kernel
theorem dX4_load_82 : decode cX4_load 82 = .ok (.goto (-64), 3) := by decide +kernel
theorem dX4_load_85 : decode cX4_load 85 = .ok (.iload_n 3, 1) := by decide +kernel
theorem dX4_load_86 : decode cX4_load 86 = .ok (.ireturn, 1) := by decide +kernel
theorem dX4_judge_0 : decode cX4_judge 0 = .ok (.aload_n 0, 1) := by decide +kernel
theorem dX4_judge_1 : decode cX4_judge 1 = .ok (.iload_n 1, 1) := by decide +kernel
theorem dX4_judge_2 : decode cX4_judge 2 = .ok (.invokevirtual 163, 3) := by decide +kernel
theorem dX4_judge_5 : decode cX4_judge 5 = .ok (.istore_n 2, 1) := by decide +kernel
theorem dX4_judge_6 : decode cX4_judge 6 = .ok (.iload_n 2, 1) := by decide +kernel
theorem dX4_judge_7 : decode cX4_judge 7 = .ok (.ifCond .lt 9, 3) := by decide +kernel
theorem dX4_judge_10 : decode cX4_judge 10 = .ok (.aload_n 0, 1) := by decide +kernel
theorem dX4_judge_11 : decode cX4_judge 11 = .ok (.iload_n 2, 1) := by decide +kernel
theorem dX4_judge_12 : decode cX4_judge 12 = .ok (.invokevirtual 54, 3) := by decide +kernel
theorem dX4_judge_15 : decode cX4_judge 15 = .ok (.ireturn, 1) := by decide +kernel
theorem dX4_judge_16 : decode cX4_judge 16 = .ok (.iconst 0, 1) := by decide +kernel
theorem dX4_judge_17 : decode cX4_judge 17 = .ok (.istore_n 3, 1) := by decide +kernel
theorem dX4_judge_18 : decode cX4_judge 18 = .ok (.iload_n 3, 1) := by decide +kernel
theorem dX4_judge_19 : decode cX4_judge 19 = .ok (.aload_n 0, 1) := by decide +kernel
theorem dX4_judge_20 : decode cX4_judge 20 = .ok (.getfield 38, 3) := by decide +kernel
theorem dX4_judge_23 : decode cX4_judge 23 = .ok (.iload_n 1, 1) := by decide +kernel
theorem dX4_judge_24 : decode cX4_judge 24 = .ok (.aaload, 1) := by decide +kernel
theorem dX4_judge_25 : decode cX4_judge 25 = .ok (.getfield 216, 3) := by decide +kernel
theorem dX4_judge_28 : decode cX4_judge 28 = .ok (.if_icmp .ge 47, 3) := by decide +kernel
theorem dX4_judge_31 : decode cX4_judge 31 = .ok (.aload_n 0, 1) := by decide +kernel
theorem dX4_judge_32 : decode cX4_judge 32 = .ok (.getfield 10, 3) := by decide +kernel
theorem dX4_judge_35 : decode cX4_judge 35 = .ok (.iload_n 3, 1) := by decide +kernel
theorem dX4_judge_36 : decode cX4_judge 36 = .ok (.invokevirtual 75, 3) := by decide +kernel
theorem dX4_judge_39 : decode cX4_judge 39 = .ok (.ifCond .eq 26, 3) := by decide +kernel
theorem dX4_judge_42 : decode cX4_judge 42 = .ok (.aload_n 0, 1) := by decide +kernel
theorem dX4_judge_43 : decode cX4_judge 43 = .ok (.getfield 10, 3) := by decide +kernel
theorem dX4_judge_46 : decode cX4_judge 46 = .ok (.getfield 90, 3) := by decide +kernel
theorem dX4_judge_49 : decode cX4_judge 49 = .ok (.iload_n 3, 1) := by decide +kernel
theorem dX4_judge_50 : decode cX4_judge 50 = .ok (.iaload, 1) := by decide +kernel
theorem dX4_judge_51 : decode cX4_judge 51 = .ok (.aload_n 0, 1) := by decide +kernel
theorem dX4_judge_52 : decode cX4_judge 52 = .ok (.getfield 38, 3) := by decide +kernel
theorem dX4_judge_55 : decode cX4_judge 55 = .ok (.iload_n 1, 1) := by decide +kernel
theorem dX4_judge_56 : decode cX4_judge 56 = .ok (.aaload, 1) := by decide +kernel
theorem dX4_judge_57 : decode cX4_judge 57 = .ok (.getfield 228, 3) := by decide +kernel
theorem dX4_judge_60 : decode cX4_judge 60 = .ok (.iload_n 3, 1) := by decide +kernel
theorem dX4_judge_61 : decode cX4_judge 61 = .ok (.iaload, 1) := by decide +kernel
theorem dX4_judge_62 : decode cX4_judge 62 = .ok (.if_icmp .eq 7, 3) := by decide +kernel
theorem dX4_judge_65 : decode cX4_judge 65 = .ok (.iconst 1, 1) := by decide +kernel
theorem dX4_judge_66 : decode cX4_judge 66 = .ok (.iload_n 3, 1) := by decide +kernel
theorem dX4_judge_67 : decode cX4_judge 67 = .ok (.iadd, 1) := by decide +kernel
theorem dX4_judge_68 : decode cX4_judge 68 = .ok (.ireturn, 1) := by decide +kernel
theorem dX4_judge_69 : decode cX4_judge 69 = .ok (.iinc 3 1, 3) := by decide +kernel
theorem dX4_judge_72 : decode cX4_judge 72 = .ok (.goto (-54), 3) := by decide +kernel
theorem dX4_judge_75 : decode cX4_judge 75 = .ok (.iconst 0, 1) := by decide +kernel
theorem dX4_judge_76 : decode cX4_judge 76 = .ok (.ireturn, 1) := by decide +kernel
theorem dX4_image_0 : decode cX4_image 0 = .ok (.aload_n 0, 1) := by decide +kernel
theorem dX4_image_1 : decode cX4_image 1 = .ok (.getfield 16, 3) := by decide +kernel
theorem dX4_image_4 : decode cX4_image 4 = .ok (.aload_n 0, 1) := by decide +kernel
theorem dX4_image_5 : decode cX4_image 5 = .ok (.getfield 10, 3) := by decide +kernel
theorem dX4_image_8 : decode cX4_image 8 = .ok (.invokevirtual 134, 3) := by decide +kernel
theorem dX4_image_11 : decode cX4_image 11 = .ok (.aload_n 0, 1) := by decide +kernel
theorem dX4_image_12 : decode cX4_image 12 = .ok (.iconst 1, 1) := by decide +kernel
theorem dX4_image_13 : decode cX4_image 13 = .ok (.putfield 237, 3) := by decide +kernel
theorem dX4_image_16 : decode cX4_image 16 = .ok (.iconst 1, 1) := by decide +kernel
theorem dX4_image_17 : decode cX4_image 17 = .ok (.ireturn, 1) := by decide +kernel
theorem dX4_undo_0 : decode cX4_undo 0 = .ok (.aload_n 0, 1) := by decide +kernel
theorem dX4_undo_1 : decode cX4_undo 1 = .ok (.getfield 237, 3) := by decide +kernel
theorem dX4_undo_4 : decode cX4_undo 4 = .ok (.ifCond .ne 9, 3) := by decide +kernel
theorem dX4_undo_7 : decode cX4_undo 7 = .ok (.aload_n 0, 1) := by decide +kernel
theorem dX4_undo_8 : decode cX4_undo 8 = .ok (.iconst 3, 1) := by decide +kernel
theorem dX4_undo_9 : decode cX4_undo 9 = .ok (.invokevirtual 54, 3) := by decide +kernel
theorem dX4_undo_12 : decode cX4_undo 12 = .ok (.ireturn, 1) := by decide +kernel
theorem dX4_undo_13 : decode cX4_undo 13 = .ok (.aload_n 0, 1) := by decide +kernel
theorem dX4_undo_14 : decode cX4_undo 14 = .ok (.getfield 10, 3) := by decide +kernel
theorem dX4_undo_17 : decode cX4_undo 17 = .ok (.aload_n 0, 1) := by decide +kernel
theorem dX4_undo_18 : decode cX4_undo 18 = .ok (.getfield 16, 3) := by decide +kernel
theorem dX4_undo_21 : decode cX4_undo 21 = .ok (.invokevirtual 134, 3) := by decide +kernel
theorem dX4_undo_24 : decode cX4_undo 24 = .ok (.aload_n 0, 1) := by decide +kernel
theorem dX4_undo_25 : decode cX4_undo 25 = .ok (.getfield 10, 3) := by decide +kernel
theorem dX4_undo_28 : decode cX4_undo 28 = .ok (.getfield 107, 3) := by decide +kernel
theorem dX4_undo_31 : decode cX4_undo 31 = .ok (.ireturn, 1) := by decide +kernel
theorem dX4_tear_0 : decode cX4_tear 0 = .ok (.aload_n 0, 1) := by decide +kernel
theorem dX4_tear_1 : decode cX4_tear 1 = .ok (.getfield 237, 3) := by decide +kernel
theorem dX4_tear_4 : decode cX4_tear 4 = .ok (.ifCond .eq 7, 3) := by decide +kernel
theorem dX4_tear_7 : decode cX4_tear 7 = .ok (.iconst 1, 1) := by decide +kernel
theorem dX4_tear_8 : decode cX4_tear 8 = .ok (.goto 4, 3) := by decide +kernel
theorem dX4_tear_11 : decode cX4_tear 11 = .ok (.iconst 0, 1) := by decide +kernel
theorem dX4_tear_12 : decode cX4_tear 12 = .ok (.istore_n 1, 1) := by decide +kernel
theorem dX4_tear_13 : decode cX4_tear 13 = .ok (.aload_n 0, 1) := by decide +kernel
theorem dX4_tear_14 : decode cX4_tear 14 = .ok (.iconst 0, 1) := by decide +kernel
theorem dX4_tear_15 : decode cX4_tear 15 = .ok (.putfield 237, 3) := by decide +kernel
theorem dX4_tear_18 : decode cX4_tear 18 = .ok (.iload_n 1, 1) := by decide +kernel
theorem dX4_tear_19 : decode cX4_tear 19 = .ok (.ireturn, 1) := by decide +kernel
theorem dX4_count_0 : decode cX4_count 0 = .ok (.iload_n 1, 1) := by decide +kernel
theorem dX4_count_1 : decode cX4_count 1 = .ok (.tableswitch 117 0 7 #[47, 55, 63, 71, 82, 93, 101, 109], 47) := by decide +kernel
theorem dX4_count_48 : decode cX4_count 48 = .ok (.aload_n 0, 1) := by decide +kernel
theorem dX4_count_49 : decode cX4_count 49 = .ok (.getfield 10, 3) := by decide +kernel
theorem dX4_count_52 : decode cX4_count 52 = .ok (.getfield 107, 3) := by decide +kernel
theorem dX4_count_55 : decode cX4_count 55 = .ok (.ireturn, 1) := by decide +kernel
theorem dX4_count_56 : decode cX4_count 56 = .ok (.aload_n 0, 1) := by decide +kernel
theorem dX4_count_57 : decode cX4_count 57 = .ok (.getfield 10, 3) := by decide +kernel
theorem dX4_count_60 : decode cX4_count 60 = .ok (.getfield 67, 3) := by decide +kernel
theorem dX4_count_63 : decode cX4_count 63 = .ok (.ireturn, 1) := by decide +kernel
theorem dX4_count_64 : decode cX4_count 64 = .ok (.aload_n 0, 1) := by decide +kernel
theorem dX4_count_65 : decode cX4_count 65 = .ok (.getfield 10, 3) := by decide +kernel
theorem dX4_count_68 : decode cX4_count 68 = .ok (.invokevirtual 103, 3) := by decide +kernel
theorem dX4_count_71 : decode cX4_count 71 = .ok (.ireturn, 1) := by decide +kernel
theorem dX4_count_72 : decode cX4_count 72 = .ok (.aload_n 0, 1) := by decide +kernel
theorem dX4_count_73 : decode cX4_count 73 = .ok (.getfield 10, 3) := by decide +kernel
theorem dX4_count_76 : decode cX4_count 76 = .ok (.getfield 124, 3) := by decide +kernel
theorem dX4_count_79 : decode cX4_count 79 = .ok (.invokestatic 158, 3) := by decide +kernel
theorem dX4_count_82 : decode cX4_count 82 = .ok (.ireturn, 1) := by decide +kernel
theorem dX4_count_83 : decode cX4_count 83 = .ok (.aload_n 0, 1) := by decide +kernel
theorem dX4_count_84 : decode cX4_count 84 = .ok (.getfield 10, 3) := by decide +kernel
theorem dX4_count_87 : decode cX4_count 87 = .ok (.invokevirtual 118, 3) := by decide +kernel
theorem dX4_count_90 : decode cX4_count 90 = .ok (.invokestatic 158, 3) := by decide +kernel
theorem dX4_count_93 : decode cX4_count 93 = .ok (.ireturn, 1) := by decide +kernel
theorem dX4_count_94 : decode cX4_count 94 = .ok (.aload_n 0, 1) := by decide +kernel
theorem dX4_count_95 : decode cX4_count 95 = .ok (.getfield 32, 3) := by decide +kernel
theorem dX4_count_98 : decode cX4_count 98 = .ok (.getfield 192, 3) := by decide +kernel
theorem dX4_count_101 : decode cX4_count 101 = .ok (.ireturn, 1) := by decide +kernel
theorem dX4_count_102 : decode cX4_count 102 = .ok (.aload_n 0, 1) := by decide +kernel
theorem dX4_count_103 : decode cX4_count 103 = .ok (.getfield 10, 3) := by decide +kernel
theorem dX4_count_106 : decode cX4_count 106 = .ok (.getfield 189, 3) := by decide +kernel
theorem dX4_count_109 : decode cX4_count 109 = .ok (.ireturn, 1) := by decide +kernel
theorem dX4_count_110 : decode cX4_count 110 = .ok (.aload_n 0, 1) := by decide +kernel
theorem dX4_count_111 : decode cX4_count 111 = .ok (.getfield 10, 3) := by decide +kernel
theorem dX4_count_114 : decode cX4_count 114 = .ok (.invokevirtual 241, 3) := by decide +kernel
theorem dX4_count_117 : decode cX4_count 117 = .ok (.ireturn, 1) := by decide +kernel
theorem dX4_count_118 : decode cX4_count 118 = .ok (.aload_n 0, 1) := by decide +kernel
theorem dX4_count_119 : decode cX4_count 119 = .ok (.iconst 0, 1) := by decide +kernel
theorem dX4_count_120 : decode cX4_count 120 = .ok (.invokevirtual 54, 3) := by decide +kernel
theorem dX4_count_123 : decode cX4_count 123 = .ok (.ireturn, 1) := by decide +kernel
theorem dX4_status_0 : decode cX4_status 0 = .ok (.iload_n 1, 1) := by decide +kernel
theorem dX4_status_1 : decode cX4_status 1 = .ok (.iconst (-1), 1) := by decide +kernel
theorem dX4_status_2 : decode cX4_status 2 = .ok (.if_icmp .ne 8, 3) := by decide +kernel
theorem dX4_status_5 : decode cX4_status 5 = .ok (.aload_n 0, 1) := by decide +kernel
theorem dX4_status_6 : decode cX4_status 6 = .ok (.invokevirtual 244, 3) := by decide +kernel
theorem dX4_status_9 : decode cX4_status 9 = .ok (.ireturn, 1) := by decide +kernel
theorem dX4_status_10 : decode cX4_status 10 = .ok (.iload_n 1, 1) := by decide +kernel
theorem dX4_status_11 : decode cX4_status 11 = .ok (.ifCond .lt 18, 3) := by decide +kernel
theorem dX4_status_14 : decode cX4_status 14 = .ok (.iload_n 1, 1) := by decide +kernel
theorem dX4_status_15 : decode cX4_status 15 = .ok (.bipush 7, 2) := by decide +kernel
theorem dX4_status_17 : decode cX4_status 17 = .ok (.if_icmp .ge 12, 3) := by decide +kernel
theorem dX4_status_20 : decode cX4_status 20 = .ok (.aload_n 0, 1) := by decide +kernel
theorem dX4_status_21 : decode cX4_status 21 = .ok (.getfield 42, 3) := by decide +kernel
theorem dX4_status_24 : decode cX4_status 24 = .ok (.iload_n 1, 1) := by decide +kernel
theorem dX4_status_25 : decode cX4_status 25 = .ok (.iaload, 1) := by decide +kernel
theorem dX4_status_26 : decode cX4_status 26 = .ok (.goto 8, 3) := by decide +kernel
theorem dX4_status_29 : decode cX4_status 29 = .ok (.aload_n 0, 1) := by decide +kernel
theorem dX4_status_30 : decode cX4_status 30 = .ok (.iconst 0, 1) := by decide +kernel
theorem dX4_status_31 : decode cX4_status 31 = .ok (.invokevirtual 54, 3) := by decide +kernel
theorem dX4_status_34 : decode cX4_status 34 = .ok (.ireturn, 1) := by decide +kernel
theorem dX4_found_0 : decode cX4_found 0 = .ok (.aload_n 0, 1) := by decide +kernel
theorem dX4_found_1 : decode cX4_found 1 = .ok (.getfield 42, 3) := by decide +kernel
theorem dX4_found_4 : decode cX4_found 4 = .ok (.iload_n 1, 1) := by decide +kernel
theorem dX4_found_5 : decode cX4_found 5 = .ok (.dup2, 1) := by decide +kernel
theorem dX4_found_6 : decode cX4_found 6 = .ok (.iaload, 1) := by decide +kernel
theorem dX4_found_7 : decode cX4_found 7 = .ok (.iconst 1, 1) := by decide +kernel
theorem dX4_found_8 : decode cX4_found 8 = .ok (.iadd, 1) := by decide +kernel
theorem dX4_found_9 : decode cX4_found 9 = .ok (.iastore, 1) := by decide +kernel
theorem dX4_found_10 : decode cX4_found 10 = .ok (.ldc 247, 2) := by decide +kernel
theorem dX4_found_12 : decode cX4_found 12 = .ok (.iload_n 1, 1) := by decide +kernel
theorem dX4_found_13 : decode cX4_found 13 = .ok (.isub, 1) := by decide +kernel
theorem dX4_found_14 : decode cX4_found 14 = .ok (.ireturn, 1) := by decide +kernel
theorem dX4_allFindings_0 : decode cX4_allFindings 0 = .ok (.iconst 0, 1) := by decide +kernel
theorem dX4_allFindings_1 : decode cX4_allFindings 1 = .ok (.istore_n 1, 1) := by decide +kernel
theorem dX4_allFindings_2 : decode cX4_allFindings 2 = .ok (.iconst 0, 1) := by decide +kernel
theorem dX4_allFindings_3 : decode cX4_allFindings 3 = .ok (.istore_n 2, 1) := by decide +kernel
theorem dX4_allFindings_4 : decode cX4_allFindings 4 = .ok (.iload_n 2, 1) := by decide +kernel
theorem dX4_allFindings_5 : decode cX4_allFindings 5 = .ok (.bipush 7, 2) := by decide +kernel
theorem dX4_allFindings_7 : decode cX4_allFindings 7 = .ok (.if_icmp .ge 18, 3) := by decide +kernel
theorem dX4_allFindings_10 : decode cX4_allFindings 10 = .ok (.iload_n 1, 1) := by decide +kernel
theorem dX4_allFindings_11 : decode cX4_allFindings 11 = .ok (.aload_n 0, 1) := by decide +kernel
theorem dX4_allFindings_12 : decode cX4_allFindings 12 = .ok (.getfield 42, 3) := by decide +kernel
theorem dX4_allFindings_15 : decode cX4_allFindings 15 = .ok (.iload_n 2, 1) := by decide +kernel
theorem dX4_allFindings_16 : decode cX4_allFindings 16 = .ok (.iaload, 1) := by decide +kernel
theorem dX4_allFindings_17 : decode cX4_allFindings 17 = .ok (.iadd, 1) := by decide +kernel
theorem dX4_allFindings_18 : decode cX4_allFindings 18 = .ok (.istore_n 1, 1) := by decide +kernel
theorem dX4_allFindings_19 : decode cX4_allFindings 19 = .ok (.iinc 2 1, 3) := by decide +kernel
theorem dX4_allFindings_22 : decode cX4_allFindings 22 = .ok (.goto (-18), 3) := by decide +kernel
theorem dX4_allFindings_25 : decode cX4_allFindings 25 = .ok (.iload_n 1, 1) := by decide +kernel
theorem dX4_allFindings_26 : decode cX4_allFindings 26 = .ok (.ireturn, 1) := by decide +kernel
theorem dX4_wrongSheet_0 : decode cX4_wrongSheet 0 = .ok (.iload_n 1, 1) := by decide +kernel
theorem dX4_wrongSheet_1 : decode cX4_wrongSheet 1 = .ok (.invokestatic 210, 3) := by decide +kernel
theorem dX4_wrongSheet_4 : decode cX4_wrongSheet 4 = .ok (.ifCond .ne 5, 3) := by decide +kernel
theorem dX4_wrongSheet_7 : decode cX4_wrongSheet 7 = .ok (.iconst 0, 1) := by decide +kernel
theorem dX4_wrongSheet_8 : decode cX4_wrongSheet 8 = .ok (.ireturn, 1) := by decide +kernel
theorem dX4_wrongSheet_9 : decode cX4_wrongSheet 9 = .ok (.aload_n 0, 1) := by decide +kernel
theorem dX4_wrongSheet_10 : decode cX4_wrongSheet 10 = .ok (.getfield 38, 3) := by decide +kernel
theorem dX4_wrongSheet_13 : decode cX4_wrongSheet 13 = .ok (.iload_n 1, 1) := by decide +kernel
theorem dX4_wrongSheet_14 : decode cX4_wrongSheet 14 = .ok (.aaload, 1) := by decide +kernel
theorem dX4_wrongSheet_15 : decode cX4_wrongSheet 15 = .ok (.getfield 222, 3) := by decide +kernel
theorem dX4_wrongSheet_18 : decode cX4_wrongSheet 18 = .ok (.ifCond .ne 7, 3) := by decide +kernel
theorem dX4_wrongSheet_21 : decode cX4_wrongSheet 21 = .ok (.iconst 5, 1) := by decide +kernel
theorem dX4_wrongSheet_22 : decode cX4_wrongSheet 22 = .ok (.goto 4, 3) := by decide +kernel
theorem dX4_wrongSheet_25 : decode cX4_wrongSheet 25 = .ok (.iconst (-1), 1) := by decide +kernel
theorem dX4_wrongSheet_26 : decode cX4_wrongSheet 26 = .ok (.ireturn, 1) := by decide +kernel
theorem dX4_leastExchange_0 : decode cX4_leastExchange 0 = .ok (.aload_n 0, 1) := by decide +kernel
theorem dX4_leastExchange_1 : decode cX4_leastExchange 1 = .ok (.getfield 10, 3) := by decide +kernel
theorem dX4_leastExchange_4 : decode cX4_leastExchange 4 = .ok (.invokevirtual 103, 3) := by decide +kernel
theorem dX4_leastExchange_7 : decode cX4_leastExchange 7 = .ok (.istore_n 1, 1) := by decide +kernel
theorem dX4_leastExchange_8 : decode cX4_leastExchange 8 = .ok (.iconst (-1), 1) := by decide +kernel
theorem dX4_leastExchange_9 : decode cX4_leastExchange 9 = .ok (.istore_n 2, 1) := by decide +kernel
theorem dX4_leastExchange_10 : decode cX4_leastExchange 10 = .ok (.iconst 0, 1) := by decide +kernel
theorem dX4_leastExchange_11 : decode cX4_leastExchange 11 = .ok (.istore_n 3, 1) := by decide +kernel
theorem dX4_leastExchange_12 : decode cX4_leastExchange 12 = .ok (.iload_n 3, 1) := by decide +kernel
theorem dX4_leastExchange_13 : decode cX4_leastExchange 13 = .ok (.aload_n 0, 1) := by decide +kernel
theorem dX4_leastExchange_14 : decode cX4_leastExchange 14 = .ok (.getfield 10, 3) := by decide +kernel
theorem dX4_leastExchange_17 : decode cX4_leastExchange 17 = .ok (.getfield 67, 3) := by decide +kernel
theorem dX4_leastExchange_20 : decode cX4_leastExchange 20 = .ok (.if_icmp .ge 58, 3) := by decide +kernel
theorem dX4_leastExchange_23 : decode cX4_leastExchange 23 = .ok (.iload_n 3, 1) := by decide +kernel
theorem dX4_leastExchange_24 : decode cX4_leastExchange 24 = .ok (.iconst 1, 1) := by decide +kernel
theorem dX4_leastExchange_25 : decode cX4_leastExchange 25 = .ok (.iadd, 1) := by decide +kernel
theorem dX4_leastExchange_26 : decode cX4_leastExchange 26 = .ok (.istore 4, 2) := by decide +kernel
theorem dX4_leastExchange_28 : decode cX4_leastExchange 28 = .ok (.iload 4, 2) := by decide +kernel
theorem dX4_leastExchange_30 : decode cX4_leastExchange 30 = .ok (.aload_n 0, 1) := by decide +kernel
theorem dX4_leastExchange_31 : decode cX4_leastExchange 31 = .ok (.getfield 10, 3) := by decide +kernel
theorem dX4_leastExchange_34 : decode cX4_leastExchange 34 = .ok (.getfield 67, 3) := by decide +kernel
theorem dX4_leastExchange_37 : decode cX4_leastExchange 37 = .ok (.if_icmp .ge 35, 3) := by decide +kernel
theorem dX4_leastExchange_40 : decode cX4_leastExchange 40 = .ok (.aload_n 0, 1) := by decide +kernel
theorem dX4_leastExchange_41 : decode cX4_leastExchange 41 = .ok (.iload_n 3, 1) := by decide +kernel
theorem dX4_leastExchange_42 : decode cX4_leastExchange 42 = .ok (.iload 4, 2) := by decide +kernel
theorem dX4_leastExchange_44 : decode cX4_leastExchange 44 = .ok (.invokevirtual 248, 3) := by decide +kernel
theorem dX4_leastExchange_47 : decode cX4_leastExchange 47 = .ok (.istore 5, 2) := by decide +kernel
theorem dX4_leastExchange_49 : decode cX4_leastExchange 49 = .ok (.iload 5, 2) := by decide +kernel
theorem dX4_leastExchange_51 : decode cX4_leastExchange 51 = .ok (.iload_n 1, 1) := by decide +kernel
theorem dX4_leastExchange_52 : decode cX4_leastExchange 52 = .ok (.if_icmp .ge 14, 3) := by decide +kernel
theorem dX4_leastExchange_55 : decode cX4_leastExchange 55 = .ok (.iload 5, 2) := by decide +kernel
theorem dX4_leastExchange_57 : decode cX4_leastExchange 57 = .ok (.istore_n 1, 1) := by decide +kernel
theorem dX4_leastExchange_58 : decode cX4_leastExchange 58 = .ok (.bipush 10, 2) := by decide +kernel
theorem dX4_leastExchange_60 : decode cX4_leastExchange 60 = .ok (.iload_n 3, 1) := by decide +kernel
theorem dX4_leastExchange_61 : decode cX4_leastExchange 61 = .ok (.imul, 1) := by decide +kernel
theorem dX4_leastExchange_62 : decode cX4_leastExchange 62 = .ok (.iload 4, 2) := by decide +kernel
theorem dX4_leastExchange_64 : decode cX4_leastExchange 64 = .ok (.iadd, 1) := by decide +kernel
theorem dX4_leastExchange_65 : decode cX4_leastExchange 65 = .ok (.istore_n 2, 1) := by decide +kernel
theorem dX4_leastExchange_66 : decode cX4_leastExchange 66 = .ok (.iinc 4 1, 3) := by decide +kernel
theorem dX4_leastExchange_69 : decode cX4_leastExchange 69 = .ok (.goto (-41), 3) := by decide +kernel
theorem dX4_leastExchange_72 : decode cX4_leastExchange 72 = .ok (.iinc 3 1, 3) := by decide +kernel
theorem dX4_leastExchange_75 : decode cX4_leastExchange 75 = .ok (.goto (-63), 3) := by decide +kernel
theorem dX4_leastExchange_78 : decode cX4_leastExchange 78 = .ok (.iload_n 2, 1) := by decide +kernel
theorem dX4_leastExchange_79 : decode cX4_leastExchange 79 = .ok (.ireturn, 1) := by decide +kernel
theorem dX4_sumExchanged_0 : decode cX4_sumExchanged 0 = .ok (.aload_n 0, 1) := by decide +kernel
theorem dX4_sumExchanged_1 : decode cX4_sumExchanged 1 = .ok (.getfield 10, 3) := by decide +kernel
theorem dX4_sumExchanged_4 : decode cX4_sumExchanged 4 = .ok (.iload_n 1, 1) := by decide +kernel
theorem dX4_sumExchanged_5 : decode cX4_sumExchanged 5 = .ok (.iload_n 2, 1) := by decide +kernel
theorem dX4_sumExchanged_6 : decode cX4_sumExchanged 6 = .ok (.invokevirtual 99, 3) := by decide +kernel
theorem dX4_sumExchanged_9 : decode cX4_sumExchanged 9 = .ok (.aload_n 0, 1) := by decide +kernel
theorem dX4_sumExchanged_10 : decode cX4_sumExchanged 10 = .ok (.getfield 10, 3) := by decide +kernel
theorem dX4_sumExchanged_13 : decode cX4_sumExchanged 13 = .ok (.invokevirtual 103, 3) := by decide +kernel
theorem dX4_sumExchanged_16 : decode cX4_sumExchanged 16 = .ok (.istore_n 3, 1) := by decide +kernel
theorem dX4_sumExchanged_17 : decode cX4_sumExchanged 17 = .ok (.aload_n 0, 1) := by decide +kernel
theorem dX4_sumExchanged_18 : decode cX4_sumExchanged 18 = .ok (.getfield 10, 3) := by decide +kernel
theorem dX4_sumExchanged_21 : decode cX4_sumExchanged 21 = .ok (.iload_n 1, 1) := by decide +kernel
theorem dX4_sumExchanged_22 : decode cX4_sumExchanged 22 = .ok (.iload_n 2, 1) := by decide +kernel
theorem dX4_sumExchanged_23 : decode cX4_sumExchanged 23 = .ok (.invokevirtual 99, 3) := by decide +kernel
theorem dX4_sumExchanged_26 : decode cX4_sumExchanged 26 = .ok (.iload_n 3, 1) := by decide +kernel
theorem dX4_sumExchanged_27 : decode cX4_sumExchanged 27 = .ok (.ireturn, 1) := by decide +kernel
theorem dX4_harmlessSwaps_0 : decode cX4_harmlessSwaps 0 = .ok (.aload_n 0, 1) := by decide +kernel
theorem dX4_harmlessSwaps_1 : decode cX4_harmlessSwaps 1 = .ok (.getfield 10, 3) := by decide +kernel
theorem dX4_harmlessSwaps_4 : decode cX4_harmlessSwaps 4 = .ok (.invokevirtual 103, 3) := by decide +kernel
theorem dX4_harmlessSwaps_7 : decode cX4_harmlessSwaps 7 = .ok (.istore_n 1, 1) := by decide +kernel
theorem dX4_harmlessSwaps_8 : decode cX4_harmlessSwaps 8 = .ok (.iconst 0, 1) := by decide +kernel
theorem dX4_harmlessSwaps_9 : decode cX4_harmlessSwaps 9 = .ok (.istore_n 2, 1) := by decide +kernel
theorem dX4_harmlessSwaps_10 : decode cX4_harmlessSwaps 10 = .ok (.iconst 0, 1) := by decide +kernel
theorem dX4_harmlessSwaps_11 : decode cX4_harmlessSwaps 11 = .ok (.istore_n 3, 1) := by decide +kernel
theorem dX4_harmlessSwaps_12 : decode cX4_harmlessSwaps 12 = .ok (.iload_n 3, 1) := by decide +kernel
theorem dX4_harmlessSwaps_13 : decode cX4_harmlessSwaps 13 = .ok (.bipush 8, 2) := by decide +kernel
theorem dX4_harmlessSwaps_15 : decode cX4_harmlessSwaps 15 = .ok (.if_icmp .ge 39, 3) := by decide +kernel
theorem dX4_harmlessSwaps_18 : decode cX4_harmlessSwaps 18 = .ok (.iconst 0, 1) := by decide +kernel
theorem dX4_harmlessSwaps_19 : decode cX4_harmlessSwaps 19 = .ok (.istore 4, 2) := by decide +kernel
theorem dX4_harmlessSwaps_21 : decode cX4_harmlessSwaps 21 = .ok (.iload 4, 2) := by decide +kernel
theorem dX4_harmlessSwaps_23 : decode cX4_harmlessSwaps 23 = .ok (.bipush 8, 2) := by decide +kernel
theorem dX4_harmlessSwaps_25 : decode cX4_harmlessSwaps 25 = .ok (.if_icmp .ge 23, 3) := by decide +kernel
theorem dX4_harmlessSwaps_28 : decode cX4_harmlessSwaps 28 = .ok (.aload_n 0, 1) := by decide +kernel
theorem dX4_harmlessSwaps_29 : decode cX4_harmlessSwaps 29 = .ok (.iload_n 3, 1) := by decide +kernel
theorem dX4_harmlessSwaps_30 : decode cX4_harmlessSwaps 30 = .ok (.iload 4, 2) := by decide +kernel
theorem dX4_harmlessSwaps_32 : decode cX4_harmlessSwaps 32 = .ok (.invokevirtual 248, 3) := by decide +kernel
theorem dX4_harmlessSwaps_35 : decode cX4_harmlessSwaps 35 = .ok (.iload_n 1, 1) := by decide +kernel
theorem dX4_harmlessSwaps_36 : decode cX4_harmlessSwaps 36 = .ok (.if_icmp .gt 6, 3) := by decide +kernel
theorem dX4_harmlessSwaps_39 : decode cX4_harmlessSwaps 39 = .ok (.iinc 2 1, 3) := by decide +kernel
theorem dX4_harmlessSwaps_42 : decode cX4_harmlessSwaps 42 = .ok (.iinc 4 1, 3) := by decide +kernel
theorem dX4_harmlessSwaps_45 : decode cX4_harmlessSwaps 45 = .ok (.goto (-24), 3) := by decide +kernel
theorem dX4_harmlessSwaps_48 : decode cX4_harmlessSwaps 48 = .ok (.iinc 3 1, 3) := by decide +kernel
theorem dX4_harmlessSwaps_51 : decode cX4_harmlessSwaps 51 = .ok (.goto (-39), 3) := by decide +kernel
theorem dX4_harmlessSwaps_54 : decode cX4_harmlessSwaps 54 = .ok (.iload_n 2, 1) := by decide +kernel
theorem dX4_harmlessSwaps_55 : decode cX4_harmlessSwaps 55 = .ok (.ireturn, 1) := by decide +kernel
theorem dX4_bestValueFor_0 : decode cX4_bestValueFor 0 = .ok (.aload_n 0, 1) := by decide +kernel
theorem dX4_bestValueFor_1 : decode cX4_bestValueFor 1 = .ok (.getfield 19, 3) := by decide +kernel
theorem dX4_bestValueFor_4 : decode cX4_bestValueFor 4 = .ok (.aload_n 0, 1) := by decide +kernel
theorem dX4_bestValueFor_5 : decode cX4_bestValueFor 5 = .ok (.getfield 10, 3) := by decide +kernel
theorem dX4_bestValueFor_8 : decode cX4_bestValueFor 8 = .ok (.invokevirtual 134, 3) := by decide +kernel
theorem dX4_bestValueFor_11 : decode cX4_bestValueFor 11 = .ok (.ldc 154, 2) := by decide +kernel
theorem dX4_bestValueFor_13 : decode cX4_bestValueFor 13 = .ok (.istore 4, 2) := by decide +kernel
theorem dX4_bestValueFor_15 : decode cX4_bestValueFor 15 = .ok (.iconst 0, 1) := by decide +kernel
theorem dX4_bestValueFor_16 : decode cX4_bestValueFor 16 = .ok (.istore 5, 2) := by decide +kernel
theorem dX4_bestValueFor_18 : decode cX4_bestValueFor 18 = .ok (.iconst 0, 1) := by decide +kernel
theorem dX4_bestValueFor_19 : decode cX4_bestValueFor 19 = .ok (.istore 6, 2) := by decide +kernel
theorem dX4_bestValueFor_21 : decode cX4_bestValueFor 21 = .ok (.iload 6, 2) := by decide +kernel
theorem dX4_bestValueFor_23 : decode cX4_bestValueFor 23 = .ok (.iload_n 3, 1) := by decide +kernel
theorem dX4_bestValueFor_24 : decode cX4_bestValueFor 24 = .ok (.if_icmp .gt 48, 3) := by decide +kernel
theorem dX4_bestValueFor_27 : decode cX4_bestValueFor 27 = .ok (.aload_n 0, 1) := by decide +kernel
theorem dX4_bestValueFor_28 : decode cX4_bestValueFor 28 = .ok (.getfield 19, 3) := by decide +kernel
theorem dX4_bestValueFor_31 : decode cX4_bestValueFor 31 = .ok (.iload_n 1, 1) := by decide +kernel
theorem dX4_bestValueFor_32 : decode cX4_bestValueFor 32 = .ok (.iload_n 2, 1) := by decide +kernel
theorem dX4_bestValueFor_33 : decode cX4_bestValueFor 33 = .ok (.iload 6, 2) := by decide +kernel
theorem dX4_bestValueFor_35 : decode cX4_bestValueFor 35 = .ok (.invokevirtual 86, 3) := by decide +kernel
theorem dX4_bestValueFor_38 : decode cX4_bestValueFor 38 = .ok (.aload_n 0, 1) := by decide +kernel
theorem dX4_bestValueFor_39 : decode cX4_bestValueFor 39 = .ok (.getfield 25, 3) := by decide +kernel
theorem dX4_bestValueFor_42 : decode cX4_bestValueFor 42 = .ok (.aload_n 0, 1) := by decide +kernel
theorem dX4_bestValueFor_43 : decode cX4_bestValueFor 43 = .ok (.getfield 19, 3) := by decide +kernel
theorem dX4_bestValueFor_46 : decode cX4_bestValueFor 46 = .ok (.invokevirtual 127, 3) := by decide +kernel
theorem dX4_bestValueFor_49 : decode cX4_bestValueFor 49 = .ok (.istore 7, 2) := by decide +kernel
theorem dX4_bestValueFor_51 : decode cX4_bestValueFor 51 = .ok (.iload 7, 2) := by decide +kernel
theorem dX4_bestValueFor_53 : decode cX4_bestValueFor 53 = .ok (.iload 4, 2) := by decide +kernel
theorem dX4_bestValueFor_55 : decode cX4_bestValueFor 55 = .ok (.if_icmp .ge 11, 3) := by decide +kernel
theorem dX4_bestValueFor_58 : decode cX4_bestValueFor 58 = .ok (.iload 7, 2) := by decide +kernel
theorem dX4_bestValueFor_60 : decode cX4_bestValueFor 60 = .ok (.istore 4, 2) := by decide +kernel
theorem dX4_bestValueFor_62 : decode cX4_bestValueFor 62 = .ok (.iload 6, 2) := by decide +kernel
theorem dX4_bestValueFor_64 : decode cX4_bestValueFor 64 = .ok (.istore 5, 2) := by decide +kernel
theorem dX4_bestValueFor_66 : decode cX4_bestValueFor 66 = .ok (.iinc 6 1, 3) := by decide +kernel
theorem dX4_bestValueFor_69 : decode cX4_bestValueFor 69 = .ok (.goto (-48), 3) := by decide +kernel
theorem dX4_bestValueFor_72 : decode cX4_bestValueFor 72 = .ok (.iload 5, 2) := by decide +kernel
theorem dX4_bestValueFor_74 : decode cX4_bestValueFor 74 = .ok (.ireturn, 1) := by decide +kernel
theorem dX4_trialGoesAs_0 : decode cX4_trialGoesAs 0 = .ok (.aload_n 1, 1) := by decide +kernel
theorem dX4_trialGoesAs_1 : decode cX4_trialGoesAs 1 = .ok (.getfield 216, 3) := by decide +kernel
theorem dX4_trialGoesAs_4 : decode cX4_trialGoesAs 4 = .ok (.bipush 12, 2) := by decide +kernel
theorem dX4_trialGoesAs_6 : decode cX4_trialGoesAs 6 = .ok (.invokestatic 251, 3) := by decide +kernel
theorem dX4_trialGoesAs_9 : decode cX4_trialGoesAs 9 = .ok (.istore_n 2, 1) := by decide +kernel
theorem dX4_trialGoesAs_10 : decode cX4_trialGoesAs 10 = .ok (.iconst 0, 1) := by decide +kernel
theorem dX4_trialGoesAs_11 : decode cX4_trialGoesAs 11 = .ok (.istore_n 3, 1) := by decide +kernel
theorem dX4_trialGoesAs_12 : decode cX4_trialGoesAs 12 = .ok (.iload_n 3, 1) := by decide +kernel
theorem dX4_trialGoesAs_13 : decode cX4_trialGoesAs 13 = .ok (.iload_n 2, 1) := by decide +kernel
theorem dX4_trialGoesAs_14 : decode cX4_trialGoesAs 14 = .ok (.if_icmp .ge 44, 3) := by decide +kernel
theorem dX4_trialGoesAs_17 : decode cX4_trialGoesAs 17 = .ok (.aload_n 1, 1) := by decide +kernel
theorem dX4_trialGoesAs_18 : decode cX4_trialGoesAs 18 = .ok (.getfield 228, 3) := by decide +kernel
theorem dX4_trialGoesAs_21 : decode cX4_trialGoesAs 21 = .ok (.iload_n 3, 1) := by decide +kernel
theorem dX4_trialGoesAs_22 : decode cX4_trialGoesAs 22 = .ok (.iaload, 1) := by decide +kernel
theorem dX4_trialGoesAs_23 : decode cX4_trialGoesAs 23 = .ok (.iconst (-1), 1) := by decide +kernel
theorem dX4_trialGoesAs_24 : decode cX4_trialGoesAs 24 = .ok (.if_icmp .eq 21, 3) := by decide +kernel
theorem dX4_trialGoesAs_27 : decode cX4_trialGoesAs 27 = .ok (.aload_n 1, 1) := by decide +kernel
theorem dX4_trialGoesAs_28 : decode cX4_trialGoesAs 28 = .ok (.getfield 228, 3) := by decide +kernel
theorem dX4_trialGoesAs_31 : decode cX4_trialGoesAs 31 = .ok (.iload_n 3, 1) := by decide +kernel
theorem dX4_trialGoesAs_32 : decode cX4_trialGoesAs 32 = .ok (.iaload, 1) := by decide +kernel
theorem dX4_trialGoesAs_33 : decode cX4_trialGoesAs 33 = .ok (.aload_n 0, 1) := by decide +kernel
theorem dX4_trialGoesAs_34 : decode cX4_trialGoesAs 34 = .ok (.getfield 19, 3) := by decide +kernel
theorem dX4_trialGoesAs_37 : decode cX4_trialGoesAs 37 = .ok (.invokevirtual 103, 3) := by decide +kernel
theorem dX4_trialGoesAs_40 : decode cX4_trialGoesAs 40 = .ok (.if_icmp .eq 5, 3) := by decide +kernel
theorem dX4_trialGoesAs_43 : decode cX4_trialGoesAs 43 = .ok (.iconst 0, 1) := by decide +kernel
theorem dX4_trialGoesAs_44 : decode cX4_trialGoesAs 44 = .ok (.ireturn, 1) := by decide +kernel
theorem dX4_trialGoesAs_45 : decode cX4_trialGoesAs 45 = .ok (.aload_n 0, 1) := by decide +kernel
theorem dX4_trialGoesAs_46 : decode cX4_trialGoesAs 46 = .ok (.getfield 19, 3) := by decide +kernel
theorem dX4_trialGoesAs_49 : decode cX4_trialGoesAs 49 = .ok (.invokevirtual 141, 3) := by decide +kernel
theorem dX4_trialGoesAs_52 : decode cX4_trialGoesAs 52 = .ok (.iinc 3 1, 3) := by decide +kernel
theorem dX4_trialGoesAs_55 : decode cX4_trialGoesAs 55 = .ok (.goto (-43), 3) := by decide +kernel
theorem dX4_trialGoesAs_58 : decode cX4_trialGoesAs 58 = .ok (.iconst 1, 1) := by decide +kernel
theorem dX4_trialGoesAs_59 : decode cX4_trialGoesAs 59 = .ok (.ireturn, 1) := by decide +kernel
theorem dX4_power_0 : decode cX4_power 0 = .ok (.lconst 1, 1) := by decide +kernel
theorem dX4_power_1 : decode cX4_power 1 = .ok (.lstore_n 2, 1) := by decide +kernel
theorem dX4_power_2 : decode cX4_power 2 = .ok (.iconst 0, 1) := by decide +kernel
theorem dX4_power_3 : decode cX4_power 3 = .ok (.istore 4, 2) := by decide +kernel
theorem dX4_power_5 : decode cX4_power 5 = .ok (.iload 4, 2) := by decide +kernel
theorem dX4_power_7 : decode cX4_power 7 = .ok (.iload_n 1, 1) := by decide +kernel
theorem dX4_power_8 : decode cX4_power 8 = .ok (.if_icmp .ge 14, 3) := by decide +kernel
theorem dX4_power_11 : decode cX4_power 11 = .ok (.lload_n 2, 1) := by decide +kernel
theorem dX4_power_12 : decode cX4_power 12 = .ok (.iload_n 0, 1) := by decide +kernel
theorem dX4_power_13 : decode cX4_power 13 = .ok (.i2l, 1) := by decide +kernel
theorem dX4_power_14 : decode cX4_power 14 = .ok (.lmul, 1) := by decide +kernel
theorem dX4_power_15 : decode cX4_power 15 = .ok (.lstore_n 2, 1) := by decide +kernel
theorem dX4_power_16 : decode cX4_power 16 = .ok (.iinc 4 1, 3) := by decide +kernel
theorem dX4_power_19 : decode cX4_power 19 = .ok (.goto (-14), 3) := by decide +kernel
theorem dX4_power_22 : decode cX4_power 22 = .ok (.lload_n 2, 1) := by decide +kernel
theorem dX4_power_23 : decode cX4_power 23 = .ok (.lreturn, 1) := by decide +kernel
theorem dX4_couldBe_0 : decode cX4_couldBe 0 = .ok (.iload_n 0, 1) := by decide +kernel
theorem dX4_couldBe_1 : decode cX4_couldBe 1 = .ok (.tableswitch 77 0 4 #[35, 40, 40, 45, 62], 35) := by decide +kernel
theorem dX4_couldBe_36 : decode cX4_couldBe 36 = .ok (.iload_n 1, 1) := by decide +kernel
theorem dX4_couldBe_37 : decode cX4_couldBe 37 = .ok (.invokestatic 61, 3) := by decide +kernel
theorem dX4_couldBe_40 : decode cX4_couldBe 40 = .ok (.ireturn, 1) := by decide +kernel
theorem dX4_couldBe_41 : decode cX4_couldBe 41 = .ok (.iload_n 1, 1) := by decide +kernel
theorem dX4_couldBe_42 : decode cX4_couldBe 42 = .ok (.invokestatic 64, 3) := by decide +kernel
theorem dX4_couldBe_45 : decode cX4_couldBe 45 = .ok (.ireturn, 1) := by decide +kernel
theorem dX4_couldBe_46 : decode cX4_couldBe 46 = .ok (.iload_n 1, 1) := by decide +kernel
theorem dX4_couldBe_47 : decode cX4_couldBe 47 = .ok (.iconst (-1), 1) := by decide +kernel
theorem dX4_couldBe_48 : decode cX4_couldBe 48 = .ok (.if_icmp .lt 13, 3) := by decide +kernel
theorem dX4_couldBe_51 : decode cX4_couldBe 51 = .ok (.iload_n 1, 1) := by decide +kernel
theorem dX4_couldBe_52 : decode cX4_couldBe 52 = .ok (.bipush 8, 2) := by decide +kernel
theorem dX4_couldBe_54 : decode cX4_couldBe 54 = .ok (.if_icmp .ge 7, 3) := by decide +kernel
theorem dX4_couldBe_57 : decode cX4_couldBe 57 = .ok (.iconst 1, 1) := by decide +kernel
theorem dX4_couldBe_58 : decode cX4_couldBe 58 = .ok (.goto 4, 3) := by decide +kernel
theorem dX4_couldBe_61 : decode cX4_couldBe 61 = .ok (.iconst 0, 1) := by decide +kernel
theorem dX4_couldBe_62 : decode cX4_couldBe 62 = .ok (.ireturn, 1) := by decide +kernel
theorem dX4_couldBe_63 : decode cX4_couldBe 63 = .ok (.iload_n 1, 1) := by decide +kernel
theorem dX4_couldBe_64 : decode cX4_couldBe 64 = .ok (.ifCond .eq 8, 3) := by decide +kernel
theorem dX4_couldBe_67 : decode cX4_couldBe 67 = .ok (.iload_n 1, 1) := by decide +kernel
theorem dX4_couldBe_68 : decode cX4_couldBe 68 = .ok (.iconst 1, 1) := by decide +kernel
theorem dX4_couldBe_69 : decode cX4_couldBe 69 = .ok (.if_icmp .ne 7, 3) := by decide +kernel
theorem dX4_couldBe_72 : decode cX4_couldBe 72 = .ok (.iconst 1, 1) := by decide +kernel
theorem dX4_couldBe_73 : decode cX4_couldBe 73 = .ok (.goto 4, 3) := by decide +kernel
theorem dX4_couldBe_76 : decode cX4_couldBe 76 = .ok (.iconst 0, 1) := by decide +kernel
theorem dX4_couldBe_77 : decode cX4_couldBe 77 = .ok (.ireturn, 1) := by decide +kernel
theorem dX4_couldBe_78 : decode cX4_couldBe 78 = .ok (.iconst 0, 1) := by decide +kernel
theorem dX4_couldBe_79 : decode cX4_couldBe 79 = .ok (.ireturn, 1) := by decide +kernel
theorem dX4_isKind_0 : decode cX4_isKind 0 = .ok (.iload_n 0, 1) := by decide +kernel
theorem dX4_isKind_1 : decode cX4_isKind 1 = .ok (.ifCond .lt 13, 3) := by decide +kernel
theorem dX4_isKind_4 : decode cX4_isKind 4 = .ok (.iload_n 0, 1) := by decide +kernel
theorem dX4_isKind_5 : decode cX4_isKind 5 = .ok (.bipush 7, 2) := by decide +kernel
theorem dX4_isKind_7 : decode cX4_isKind 7 = .ok (.if_icmp .ge 7, 3) := by decide +kernel
theorem dX4_isKind_10 : decode cX4_isKind 10 = .ok (.iconst 1, 1) := by decide +kernel
theorem dX4_isKind_11 : decode cX4_isKind 11 = .ok (.goto 4, 3) := by decide +kernel
theorem dX4_isKind_14 : decode cX4_isKind 14 = .ok (.iconst 0, 1) := by decide +kernel
theorem dX4_isKind_15 : decode cX4_isKind 15 = .ok (.ireturn, 1) := by decide +kernel
theorem dX4_isEdge_0 : decode cX4_isEdge 0 = .ok (.iload_n 0, 1) := by decide +kernel
theorem dX4_isEdge_1 : decode cX4_isEdge 1 = .ok (.ifCond .lt 13, 3) := by decide +kernel
theorem dX4_isEdge_4 : decode cX4_isEdge 4 = .ok (.iload_n 0, 1) := by decide +kernel
theorem dX4_isEdge_5 : decode cX4_isEdge 5 = .ok (.bipush 9, 2) := by decide +kernel
theorem dX4_isEdge_7 : decode cX4_isEdge 7 = .ok (.if_icmp .gt 7, 3) := by decide +kernel
theorem dX4_isEdge_10 : decode cX4_isEdge 10 = .ok (.iconst 1, 1) := by decide +kernel
theorem dX4_isEdge_11 : decode cX4_isEdge 11 = .ok (.goto 4, 3) := by decide +kernel
theorem dX4_isEdge_14 : decode cX4_isEdge 14 = .ok (.iconst 0, 1) := by decide +kernel
theorem dX4_isEdge_15 : decode cX4_isEdge 15 = .ok (.ireturn, 1) := by decide +kernel
theorem dX4_isPlace_0 : decode cX4_isPlace 0 = .ok (.iload_n 0, 1) := by decide +kernel
theorem dX4_isPlace_1 : decode cX4_isPlace 1 = .ok (.ifCond .lt 13, 3) := by decide +kernel
theorem dX4_isPlace_4 : decode cX4_isPlace 4 = .ok (.iload_n 0, 1) := by decide +kernel
theorem dX4_isPlace_5 : decode cX4_isPlace 5 = .ok (.bipush 8, 2) := by decide +kernel
theorem dX4_isPlace_7 : decode cX4_isPlace 7 = .ok (.if_icmp .ge 7, 3) := by decide +kernel
theorem dX4_isPlace_10 : decode cX4_isPlace 10 = .ok (.iconst 1, 1) := by decide +kernel
theorem dX4_isPlace_11 : decode cX4_isPlace 11 = .ok (.goto 4, 3) := by decide +kernel
theorem dX4_isPlace_14 : decode cX4_isPlace 14 = .ok (.iconst 0, 1) := by decide +kernel
theorem dX4_isPlace_15 : decode cX4_isPlace 15 = .ok (.ireturn, 1) := by decide +kernel
theorem dX4_isListPlace_0 : decode cX4_isListPlace 0 = .ok (.iload_n 0, 1) := by decide +kernel
theorem dX4_isListPlace_1 : decode cX4_isListPlace 1 = .ok (.ifCond .lt 13, 3) := by decide +kernel
theorem dX4_isListPlace_4 : decode cX4_isListPlace 4 = .ok (.iload_n 0, 1) := by decide +kernel
theorem dX4_isListPlace_5 : decode cX4_isListPlace 5 = .ok (.bipush 6, 2) := by decide +kernel
theorem dX4_isListPlace_7 : decode cX4_isListPlace 7 = .ok (.if_icmp .ge 7, 3) := by decide +kernel
theorem dX4_isListPlace_10 : decode cX4_isListPlace 10 = .ok (.iconst 1, 1) := by decide +kernel
theorem dX4_isListPlace_11 : decode cX4_isListPlace 11 = .ok (.goto 4, 3) := by decide +kernel
theorem dX4_isListPlace_14 : decode cX4_isListPlace 14 = .ok (.iconst 0, 1) := by decide +kernel
theorem dX4_isListPlace_15 : decode cX4_isListPlace 15 = .ok (.ireturn, 1) := by decide +kernel
theorem dX4_isSpot_0 : decode cX4_isSpot 0 = .ok (.iload_n 0, 1) := by decide +kernel
theorem dX4_isSpot_1 : decode cX4_isSpot 1 = .ok (.ifCond .lt 13, 3) := by decide +kernel
theorem dX4_isSpot_4 : decode cX4_isSpot 4 = .ok (.iload_n 0, 1) := by decide +kernel
theorem dX4_isSpot_5 : decode cX4_isSpot 5 = .ok (.bipush 10, 2) := by decide +kernel
theorem dX4_isSpot_7 : decode cX4_isSpot 7 = .ok (.if_icmp .ge 7, 3) := by decide +kernel
theorem dX4_isSpot_10 : decode cX4_isSpot 10 = .ok (.iconst 1, 1) := by decide +kernel
theorem dX4_isSpot_11 : decode cX4_isSpot 11 = .ok (.goto 4, 3) := by decide +kernel
theorem dX4_isSpot_14 : decode cX4_isSpot 14 = .ok (.iconst 0, 1) := by decide +kernel
theorem dX4_isSpot_15 : decode cX4_isSpot 15 = .ok (.ireturn, 1) := by decide +kernel
theorem dX4_isSheet_0 : decode cX4_isSheet 0 = .ok (.iload_n 0, 1) := by decide +kernel
theorem dX4_isSheet_1 : decode cX4_isSheet 1 = .ok (.ifCond .lt 12, 3) := by decide +kernel
theorem dX4_isSheet_4 : decode cX4_isSheet 4 = .ok (.iload_n 0, 1) := by decide +kernel
theorem dX4_isSheet_5 : decode cX4_isSheet 5 = .ok (.iconst 4, 1) := by decide +kernel
theorem dX4_isSheet_6 : decode cX4_isSheet 6 = .ok (.if_icmp .ge 7, 3) := by decide +kernel
theorem dX4_isSheet_9 : decode cX4_isSheet 9 = .ok (.iconst 1, 1) := by decide +kernel
theorem dX4_isSheet_10 : decode cX4_isSheet 10 = .ok (.goto 4, 3) := by decide +kernel
theorem dX4_isSheet_13 : decode cX4_isSheet 13 = .ok (.iconst 0, 1) := by decide +kernel
theorem dX4_isSheet_14 : decode cX4_isSheet 14 = .ok (.ireturn, 1) := by decide +kernel
theorem dX4_isToldSum_0 : decode cX4_isToldSum 0 = .ok (.iload_n 0, 1) := by decide +kernel
theorem dX4_isToldSum_1 : decode cX4_isToldSum 1 = .ok (.ifCond .lt 14, 3) := by decide +kernel
theorem dX4_isToldSum_4 : decode cX4_isToldSum 4 = .ok (.iload_n 0, 1) := by decide +kernel
theorem dX4_isToldSum_5 : decode cX4_isToldSum 5 = .ok (.sipush 999, 3) := by decide +kernel
theorem dX4_isToldSum_8 : decode cX4_isToldSum 8 = .ok (.if_icmp .gt 7, 3) := by decide +kernel
theorem dX4_isToldSum_11 : decode cX4_isToldSum 11 = .ok (.iconst 1, 1) := by decide +kernel
theorem dX4_isToldSum_12 : decode cX4_isToldSum 12 = .ok (.goto 4, 3) := by decide +kernel
theorem dX4_isToldSum_15 : decode cX4_isToldSum 15 = .ok (.iconst 0, 1) := by decide +kernel
theorem dX4_isToldSum_16 : decode cX4_isToldSum 16 = .ok (.ireturn, 1) := by decide +kernel
theorem dX4_isOrUnder_0 : decode cX4_isOrUnder 0 = .ok (.iload_n 1, 1) := by decide +kernel
theorem dX4_isOrUnder_1 : decode cX4_isOrUnder 1 = .ok (.tableswitch 87 0 3 #[31, 33, 50, 71], 31) := by decide +kernel
theorem dX4_isOrUnder_32 : decode cX4_isOrUnder 32 = .ok (.iconst 1, 1) := by decide +kernel
theorem dX4_isOrUnder_33 : decode cX4_isOrUnder 33 = .ok (.ireturn, 1) := by decide +kernel
theorem dX4_isOrUnder_34 : decode cX4_isOrUnder 34 = .ok (.iload_n 0, 1) := by decide +kernel
theorem dX4_isOrUnder_35 : decode cX4_isOrUnder 35 = .ok (.iconst 1, 1) := by decide +kernel
theorem dX4_isOrUnder_36 : decode cX4_isOrUnder 36 = .ok (.if_icmp .eq 9, 3) := by decide +kernel
theorem dX4_isOrUnder_39 : decode cX4_isOrUnder 39 = .ok (.iload_n 0, 1) := by decide +kernel
theorem dX4_isOrUnder_40 : decode cX4_isOrUnder 40 = .ok (.bipush 6, 2) := by decide +kernel
theorem dX4_isOrUnder_42 : decode cX4_isOrUnder 42 = .ok (.if_icmp .ne 7, 3) := by decide +kernel
theorem dX4_isOrUnder_45 : decode cX4_isOrUnder 45 = .ok (.iconst 1, 1) := by decide +kernel
theorem dX4_isOrUnder_46 : decode cX4_isOrUnder 46 = .ok (.goto 4, 3) := by decide +kernel
theorem dX4_isOrUnder_49 : decode cX4_isOrUnder 49 = .ok (.iconst 0, 1) := by decide +kernel
theorem dX4_isOrUnder_50 : decode cX4_isOrUnder 50 = .ok (.ireturn, 1) := by decide +kernel
theorem dX4_isOrUnder_51 : decode cX4_isOrUnder 51 = .ok (.iload_n 0, 1) := by decide +kernel
theorem dX4_isOrUnder_52 : decode cX4_isOrUnder 52 = .ok (.iconst 2, 1) := by decide +kernel
theorem dX4_isOrUnder_53 : decode cX4_isOrUnder 53 = .ok (.if_icmp .eq 13, 3) := by decide +kernel
theorem dX4_isOrUnder_56 : decode cX4_isOrUnder 56 = .ok (.iload_n 0, 1) := by decide +kernel
theorem dX4_isOrUnder_57 : decode cX4_isOrUnder 57 = .ok (.iconst 3, 1) := by decide +kernel
theorem dX4_isOrUnder_58 : decode cX4_isOrUnder 58 = .ok (.if_icmp .eq 8, 3) := by decide +kernel
theorem dX4_isOrUnder_61 : decode cX4_isOrUnder 61 = .ok (.iload_n 0, 1) := by decide +kernel
theorem dX4_isOrUnder_62 : decode cX4_isOrUnder 62 = .ok (.iconst 4, 1) := by decide +kernel
theorem dX4_isOrUnder_63 : decode cX4_isOrUnder 63 = .ok (.if_icmp .ne 7, 3) := by decide +kernel
theorem dX4_isOrUnder_66 : decode cX4_isOrUnder 66 = .ok (.iconst 1, 1) := by decide +kernel
theorem dX4_isOrUnder_67 : decode cX4_isOrUnder 67 = .ok (.goto 4, 3) := by decide +kernel
theorem dX4_isOrUnder_70 : decode cX4_isOrUnder 70 = .ok (.iconst 0, 1) := by decide +kernel
theorem dX4_isOrUnder_71 : decode cX4_isOrUnder 71 = .ok (.ireturn, 1) := by decide +kernel
theorem dX4_isOrUnder_72 : decode cX4_isOrUnder 72 = .ok (.iload_n 0, 1) := by decide +kernel
theorem dX4_isOrUnder_73 : decode cX4_isOrUnder 73 = .ok (.iconst 3, 1) := by decide +kernel
theorem dX4_isOrUnder_74 : decode cX4_isOrUnder 74 = .ok (.if_icmp .eq 8, 3) := by decide +kernel
theorem dX4_isOrUnder_77 : decode cX4_isOrUnder 77 = .ok (.iload_n 0, 1) := by decide +kernel
theorem dX4_isOrUnder_78 : decode cX4_isOrUnder 78 = .ok (.iconst 4, 1) := by decide +kernel
theorem dX4_isOrUnder_79 : decode cX4_isOrUnder 79 = .ok (.if_icmp .ne 7, 3) := by decide +kernel
theorem dX4_isOrUnder_82 : decode cX4_isOrUnder 82 = .ok (.iconst 1, 1) := by decide +kernel
theorem dX4_isOrUnder_83 : decode cX4_isOrUnder 83 = .ok (.goto 4, 3) := by decide +kernel
theorem dX4_isOrUnder_86 : decode cX4_isOrUnder 86 = .ok (.iconst 0, 1) := by decide +kernel
theorem dX4_isOrUnder_87 : decode cX4_isOrUnder 87 = .ok (.ireturn, 1) := by decide +kernel
theorem dX4_isOrUnder_88 : decode cX4_isOrUnder 88 = .ok (.iload_n 0, 1) := by decide +kernel
theorem dX4_isOrUnder_89 : decode cX4_isOrUnder 89 = .ok (.iload_n 1, 1) := by decide +kernel
theorem dX4_isOrUnder_90 : decode cX4_isOrUnder 90 = .ok (.if_icmp .ne 7, 3) := by decide +kernel
theorem dX4_isOrUnder_93 : decode cX4_isOrUnder 93 = .ok (.iconst 1, 1) := by decide +kernel
theorem dX4_isOrUnder_94 : decode cX4_isOrUnder 94 = .ok (.goto 4, 3) := by decide +kernel
theorem dX4_isOrUnder_97 : decode cX4_isOrUnder 97 = .ok (.iconst 0, 1) := by decide +kernel
theorem dX4_isOrUnder_98 : decode cX4_isOrUnder 98 = .ok (.ireturn, 1) := by decide +kernel
