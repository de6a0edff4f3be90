theorem dX5_init_0 : decode cX5_init 0 = .ok (.aload_n 0, 1) := by decide +kernel
theorem dX5_init_1 : decode cX5_init 1 = .ok (.invokespecial 1, 3) := by decide +kernel
theorem dX5_init_4 : decode cX5_init 4 = .ok (.aload_n 0, 1) := by decide +kernel
theorem dX5_init_5 : decode cX5_init 5 = .ok (.bipush 67, 2) := by decide +kernel
theorem dX5_init_7 : decode cX5_init 7 = .ok (.newarray .int, 2) := by decide +kernel
theorem dX5_init_9 : decode cX5_init 9 = .ok (.putfield 9, 3) := by decide +kernel
theorem dX5_init_12 : decode cX5_init 12 = .ok (.aload_n 0, 1) := by decide +kernel
theorem dX5_init_13 : decode cX5_init 13 = .ok (.bipush 67, 2) := by decide +kernel
theorem dX5_init_15 : decode cX5_init 15 = .ok (.newarray .int, 2) := by decide +kernel
theorem dX5_init_17 : decode cX5_init 17 = .ok (.putfield 13, 3) := by decide +kernel
theorem dX5_init_20 : decode cX5_init 20 = .ok (.aload_n 0, 1) := by decide +kernel
theorem dX5_init_21 : decode cX5_init 21 = .ok (.bipush 67, 2) := by decide +kernel
theorem dX5_init_23 : decode cX5_init 23 = .ok (.newarray .int, 2) := by decide +kernel
theorem dX5_init_25 : decode cX5_init 25 = .ok (.putfield 16, 3) := by decide +kernel
theorem dX5_init_28 : decode cX5_init 28 = .ok (.aload_n 0, 1) := by decide +kernel
theorem dX5_init_29 : decode cX5_init 29 = .ok (.bipush 8, 2) := by decide +kernel
theorem dX5_init_31 : decode cX5_init 31 = .ok (.newarray .int, 2) := by decide +kernel
theorem dX5_init_33 : decode cX5_init 33 = .ok (.putfield 19, 3) := by decide +kernel
theorem dX5_init_36 : decode cX5_init 36 = .ok (.aload_n 0, 1) := by decide +kernel
theorem dX5_init_37 : decode cX5_init 37 = .ok (.sipush 2048, 3) := by decide +kernel
theorem dX5_init_40 : decode cX5_init 40 = .ok (.newarray .int, 2) := by decide +kernel
theorem dX5_init_42 : decode cX5_init 42 = .ok (.putfield 22, 3) := by decide +kernel
theorem dX5_init_45 : decode cX5_init 45 = .ok (.aload_n 0, 1) := by decide +kernel
theorem dX5_init_46 : decode cX5_init 46 = .ok (.bipush 120, 2) := by decide +kernel
theorem dX5_init_48 : decode cX5_init 48 = .ok (.newarray .int, 2) := by decide +kernel
theorem dX5_init_50 : decode cX5_init 50 = .ok (.putfield 25, 3) := by decide +kernel
theorem dX5_init_53 : decode cX5_init 53 = .ok (.aload_n 0, 1) := by decide +kernel
theorem dX5_init_54 : decode cX5_init 54 = .ok (.bipush 7, 2) := by decide +kernel
theorem dX5_init_56 : decode cX5_init 56 = .ok (.anewarray 28, 3) := by decide +kernel
theorem dX5_init_59 : decode cX5_init 59 = .ok (.dup, 1) := by decide +kernel
theorem dX5_init_60 : decode cX5_init 60 = .ok (.iconst 0, 1) := by decide +kernel
theorem dX5_init_61 : decode cX5_init 61 = .ok (.ldc 30, 2) := by decide +kernel
theorem dX5_init_63 : decode cX5_init 63 = .ok (.aastore, 1) := by decide +kernel
theorem dX5_init_64 : decode cX5_init 64 = .ok (.dup, 1) := by decide +kernel
theorem dX5_init_65 : decode cX5_init 65 = .ok (.iconst 1, 1) := by decide +kernel
theorem dX5_init_66 : decode cX5_init 66 = .ok (.ldc 32, 2) := by decide +kernel
theorem dX5_init_68 : decode cX5_init 68 = .ok (.aastore, 1) := by decide +kernel
theorem dX5_init_69 : decode cX5_init 69 = .ok (.dup, 1) := by decide +kernel
theorem dX5_init_70 : decode cX5_init 70 = .ok (.iconst 2, 1) := by decide +kernel
theorem dX5_init_71 : decode cX5_init 71 = .ok (.ldc 34, 2) := by decide +kernel
theorem dX5_init_73 : decode cX5_init 73 = .ok (.aastore, 1) := by decide +kernel
theorem dX5_init_74 : decode cX5_init 74 = .ok (.dup, 1) := by decide +kernel
theorem dX5_init_75 : decode cX5_init 75 = .ok (.iconst 3, 1) := by decide +kernel
theorem dX5_init_76 : decode cX5_init 76 = .ok (.ldc 36, 2) := by decide +kernel
theorem dX5_init_78 : decode cX5_init 78 = .ok (.aastore, 1) := by decide +kernel
theorem dX5_init_79 : decode cX5_init 79 = .ok (.dup, 1) := by decide +kernel
theorem dX5_init_80 : decode cX5_init 80 = .ok (.iconst 4, 1) := by decide +kernel
theorem dX5_init_81 : decode cX5_init 81 = .ok (.ldc 38, 2) := by decide +kernel
theorem dX5_init_83 : decode cX5_init 83 = .ok (.aastore, 1) := by decide +kernel
theorem dX5_init_84 : decode cX5_init 84 = .ok (.dup, 1) := by decide +kernel
theorem dX5_init_85 : decode cX5_init 85 = .ok (.iconst 5, 1) := by decide +kernel
theorem dX5_init_86 : decode cX5_init 86 = .ok (.ldc 40, 2) := by decide +kernel
theorem dX5_init_88 : decode cX5_init 88 = .ok (.aastore, 1) := by decide +kernel
theorem dX5_init_89 : decode cX5_init 89 = .ok (.dup, 1) := by decide +kernel
theorem dX5_init_90 : decode cX5_init 90 = .ok (.bipush 6, 2) := by decide +kernel
theorem dX5_init_92 : decode cX5_init 92 = .ok (.ldc 42, 2) := by decide +kernel
theorem dX5_init_94 : decode cX5_init 94 = .ok (.aastore, 1) := by decide +kernel
theorem dX5_init_95 : decode cX5_init 95 = .ok (.putfield 44, 3) := by decide +kernel
theorem dX5_init_98 : decode cX5_init 98 = .ok (.aload_n 0, 1) := by decide +kernel
theorem dX5_init_99 : decode cX5_init 99 = .ok (.sipush 600, 3) := by decide +kernel
theorem dX5_init_102 : decode cX5_init 102 = .ok (.newarray .int, 2) := by decide +kernel
theorem dX5_init_104 : decode cX5_init 104 = .ok (.putfield 48, 3) := by decide +kernel
theorem dX5_init_107 : decode cX5_init 107 = .ok (.aload_n 0, 1) := by decide +kernel
theorem dX5_init_108 : decode cX5_init 108 = .ok (.iconst 4, 1) := by decide +kernel
theorem dX5_init_109 : decode cX5_init 109 = .ok (.newarray .int, 2) := by decide +kernel
theorem dX5_init_111 : decode cX5_init 111 = .ok (.putfield 51, 3) := by decide +kernel
theorem dX5_init_114 : decode cX5_init 114 = .ok (.aload_n 0, 1) := by decide +kernel
theorem dX5_init_115 : decode cX5_init 115 = .ok (.iconst 4, 1) := by decide +kernel
theorem dX5_init_116 : decode cX5_init 116 = .ok (.newarray .int, 2) := by decide +kernel
theorem dX5_init_118 : decode cX5_init 118 = .ok (.putfield 54, 3) := by decide +kernel
theorem dX5_init_121 : decode cX5_init 121 = .ok (.aload_n 0, 1) := by decide +kernel
theorem dX5_init_122 : decode cX5_init 122 = .ok (.sipush 160, 3) := by decide +kernel
theorem dX5_init_125 : decode cX5_init 125 = .ok (.newarray .int, 2) := by decide +kernel
theorem dX5_init_127 : decode cX5_init 127 = .ok (.putfield 57, 3) := by decide +kernel
theorem dX5_init_130 : decode cX5_init 130 = .ok (.aload_n 0, 1) := by decide +kernel
theorem dX5_init_131 : decode cX5_init 131 = .ok (.bipush 40, 2) := by decide +kernel
theorem dX5_init_133 : decode cX5_init 133 = .ok (.newarray .int, 2) := by decide +kernel
theorem dX5_init_135 : decode cX5_init 135 = .ok (.putfield 60, 3) := by decide +kernel
theorem dX5_init_138 : decode cX5_init 138 = .ok (.aload_n 0, 1) := by decide +kernel
theorem dX5_init_139 : decode cX5_init 139 = .ok (.getfield 9, 3) := by decide +kernel
theorem dX5_init_142 : decode cX5_init 142 = .ok (.iconst 2, 1) := by decide +kernel
theorem dX5_init_143 : decode cX5_init 143 = .ok (.iconst 1, 1) := by decide +kernel
theorem dX5_init_144 : decode cX5_init 144 = .ok (.iastore, 1) := by decide +kernel
theorem dX5_init_145 : decode cX5_init 145 = .ok (.iconst 0, 1) := by decide +kernel
theorem dX5_init_146 : decode cX5_init 146 = .ok (.istore_n 1, 1) := by decide +kernel
theorem dX5_init_147 : decode cX5_init 147 = .ok (.iload_n 1, 1) := by decide +kernel
theorem dX5_init_148 : decode cX5_init 148 = .ok (.bipush 10, 2) := by decide +kernel
theorem dX5_init_150 : decode cX5_init 150 = .ok (.if_icmp .ge 19, 3) := by decide +kernel
theorem dX5_init_153 : decode cX5_init 153 = .ok (.aload_n 0, 1) := by decide +kernel
theorem dX5_init_154 : decode cX5_init 154 = .ok (.getfield 9, 3) := by decide +kernel
theorem dX5_init_157 : decode cX5_init 157 = .ok (.bipush 9, 2) := by decide +kernel
theorem dX5_init_159 : decode cX5_init 159 = .ok (.iload_n 1, 1) := by decide +kernel
theorem dX5_init_160 : decode cX5_init 160 = .ok (.iadd, 1) := by decide +kernel
theorem dX5_init_161 : decode cX5_init 161 = .ok (.iconst (-1), 1) := by decide +kernel
theorem dX5_init_162 : decode cX5_init 162 = .ok (.iastore, 1) := by decide +kernel
theorem dX5_init_163 : decode cX5_init 163 = .ok (.iinc 1 1, 3) := by decide +kernel
theorem dX5_init_166 : decode cX5_init 166 = .ok (.goto (-19), 3) := by decide +kernel
theorem dX5_init_169 : decode cX5_init 169 = .ok (.return_, 1) := by decide +kernel
theorem dX5_finding_0 : decode cX5_finding 0 = .ok (.aload_n 0, 1) := by decide +kernel
theorem dX5_finding_1 : decode cX5_finding 1 = .ok (.getfield 19, 3) := by decide +kernel
theorem dX5_finding_4 : decode cX5_finding 4 = .ok (.ldc 63, 2) := by decide +kernel
theorem dX5_finding_6 : decode cX5_finding 6 = .ok (.iload_n 1, 1) := by decide +kernel
theorem dX5_finding_7 : decode cX5_finding 7 = .ok (.isub, 1) := by decide +kernel
theorem dX5_finding_8 : decode cX5_finding 8 = .ok (.iconst 1, 1) := by decide +kernel
theorem dX5_finding_9 : decode cX5_finding 9 = .ok (.iadd, 1) := by decide +kernel
theorem dX5_finding_10 : decode cX5_finding 10 = .ok (.dup2, 1) := by decide +kernel
theorem dX5_finding_11 : decode cX5_finding 11 = .ok (.iaload, 1) := by decide +kernel
theorem dX5_finding_12 : decode cX5_finding 12 = .ok (.iconst 1, 1) := by decide +kernel
theorem dX5_finding_13 : decode cX5_finding 13 = .ok (.iadd, 1) := by decide +kernel
theorem dX5_finding_14 : decode cX5_finding 14 = .ok (.iastore, 1) := by decide +kernel
theorem dX5_finding_15 : decode cX5_finding 15 = .ok (.aload_n 0, 1) := by decide +kernel
theorem dX5_finding_16 : decode cX5_finding 16 = .ok (.getfield 19, 3) := by decide +kernel
theorem dX5_finding_19 : decode cX5_finding 19 = .ok (.iconst 0, 1) := by decide +kernel
theorem dX5_finding_20 : decode cX5_finding 20 = .ok (.dup2, 1) := by decide +kernel
theorem dX5_finding_21 : decode cX5_finding 21 = .ok (.iaload, 1) := by decide +kernel
theorem dX5_finding_22 : decode cX5_finding 22 = .ok (.iconst 1, 1) := by decide +kernel
theorem dX5_finding_23 : decode cX5_finding 23 = .ok (.iadd, 1) := by decide +kernel
theorem dX5_finding_24 : decode cX5_finding 24 = .ok (.iastore, 1) := by decide +kernel
theorem dX5_finding_25 : decode cX5_finding 25 = .ok (.iload_n 1, 1) := by decide +kernel
theorem dX5_finding_26 : decode cX5_finding 26 = .ok (.ireturn, 1) := by decide +kernel
theorem dX5_within_0 : decode cX5_within 0 = .ok (.iload_n 0, 1) := by decide +kernel
theorem dX5_within_1 : decode cX5_within 1 = .ok (.iload_n 1, 1) := by decide +kernel
theorem dX5_within_2 : decode cX5_within 2 = .ok (.if_icmp .lt 12, 3) := by decide +kernel
theorem dX5_within_5 : decode cX5_within 5 = .ok (.iload_n 0, 1) := by decide +kernel
theorem dX5_within_6 : decode cX5_within 6 = .ok (.iload_n 2, 1) := by decide +kernel
theorem dX5_within_7 : decode cX5_within 7 = .ok (.if_icmp .gt 7, 3) := by decide +kernel
theorem dX5_within_10 : decode cX5_within 10 = .ok (.iconst 1, 1) := by decide +kernel
theorem dX5_within_11 : decode cX5_within 11 = .ok (.goto 4, 3) := by decide +kernel
theorem dX5_within_14 : decode cX5_within 14 = .ok (.iconst 0, 1) := by decide +kernel
theorem dX5_within_15 : decode cX5_within 15 = .ok (.ireturn, 1) := by decide +kernel
theorem dX5_become_0 : decode cX5_become 0 = .ok (.aload_n 0, 1) := by decide +kernel
theorem dX5_become_1 : decode cX5_become 1 = .ok (.getfield 9, 3) := by decide +kernel
theorem dX5_become_4 : decode cX5_become 4 = .ok (.iload_n 1, 1) := by decide +kernel
theorem dX5_become_5 : decode cX5_become 5 = .ok (.iaload, 1) := by decide +kernel
theorem dX5_become_6 : decode cX5_become 6 = .ok (.istore_n 3, 1) := by decide +kernel
theorem dX5_become_7 : decode cX5_become 7 = .ok (.aload_n 0, 1) := by decide +kernel
theorem dX5_become_8 : decode cX5_become 8 = .ok (.getfield 9, 3) := by decide +kernel
theorem dX5_become_11 : decode cX5_become 11 = .ok (.iload_n 1, 1) := by decide +kernel
theorem dX5_become_12 : decode cX5_become 12 = .ok (.iload_n 2, 1) := by decide +kernel
theorem dX5_become_13 : decode cX5_become 13 = .ok (.iastore, 1) := by decide +kernel
theorem dX5_become_14 : decode cX5_become 14 = .ok (.iload_n 3, 1) := by decide +kernel
theorem dX5_become_15 : decode cX5_become 15 = .ok (.ireturn, 1) := by decide +kernel
theorem dX5_copyRow_0 : decode cX5_copyRow 0 = .ok (.iconst 0, 1) := by decide +kernel
theorem dX5_copyRow_1 : decode cX5_copyRow 1 = .ok (.istore_n 2, 1) := by decide +kernel
theorem dX5_copyRow_2 : decode cX5_copyRow 2 = .ok (.iload_n 2, 1) := by decide +kernel
theorem dX5_copyRow_3 : decode cX5_copyRow 3 = .ok (.bipush 67, 2) := by decide +kernel
theorem dX5_copyRow_5 : decode cX5_copyRow 5 = .ok (.if_icmp .ge 15, 3) := by decide +kernel
theorem dX5_copyRow_8 : decode cX5_copyRow 8 = .ok (.aload_n 1, 1) := by decide +kernel
theorem dX5_copyRow_9 : decode cX5_copyRow 9 = .ok (.iload_n 2, 1) := by decide +kernel
theorem dX5_copyRow_10 : decode cX5_copyRow 10 = .ok (.aload_n 0, 1) := by decide +kernel
theorem dX5_copyRow_11 : decode cX5_copyRow 11 = .ok (.iload_n 2, 1) := by decide +kernel
theorem dX5_copyRow_12 : decode cX5_copyRow 12 = .ok (.iaload, 1) := by decide +kernel
theorem dX5_copyRow_13 : decode cX5_copyRow 13 = .ok (.iastore, 1) := by decide +kernel
theorem dX5_copyRow_14 : decode cX5_copyRow 14 = .ok (.iinc 2 1, 3) := by decide +kernel
theorem dX5_copyRow_17 : decode cX5_copyRow 17 = .ok (.goto (-15), 3) := by decide +kernel
theorem dX5_copyRow_20 : decode cX5_copyRow 20 = .ok (.return_, 1) := by decide +kernel
theorem dX5_putBack_0 : decode cX5_putBack 0 = .ok (.aload_n 0, 1) := by decide +kernel
theorem dX5_putBack_1 : decode cX5_putBack 1 = .ok (.getfield 16, 3) := by decide +kernel
theorem dX5_putBack_4 : decode cX5_putBack 4 = .ok (.aload_n 0, 1) := by decide +kernel
theorem dX5_putBack_5 : decode cX5_putBack 5 = .ok (.getfield 9, 3) := by decide +kernel
theorem dX5_putBack_8 : decode cX5_putBack 8 = .ok (.invokestatic 64, 3) := by decide +kernel
theorem dX5_putBack_11 : decode cX5_putBack 11 = .ok (.iload_n 1, 1) := by decide +kernel
theorem dX5_putBack_12 : decode cX5_putBack 12 = .ok (.ireturn, 1) := by decide +kernel
theorem dX5_orNone_0 : decode cX5_orNone 0 = .ok (.iload_n 1, 1) := by decide +kernel
theorem dX5_orNone_1 : decode cX5_orNone 1 = .ok (.ifCond .ge 12, 3) := by decide +kernel
theorem dX5_orNone_4 : decode cX5_orNone 4 = .ok (.aload_n 0, 1) := by decide +kernel
theorem dX5_orNone_5 : decode cX5_orNone 5 = .ok (.ldc 68, 2) := by decide +kernel
theorem dX5_orNone_7 : decode cX5_orNone 7 = .ok (.invokevirtual 69, 3) := by decide +kernel
theorem dX5_orNone_10 : decode cX5_orNone 10 = .ok (.goto 4, 3) := by decide +kernel
theorem dX5_orNone_13 : decode cX5_orNone 13 = .ok (.iload_n 1, 1) := by decide +kernel
theorem dX5_orNone_14 : decode cX5_orNone 14 = .ok (.ireturn, 1) := by decide +kernel
theorem dX5_bits_0 : decode cX5_bits 0 = .ok (.iconst 0, 1) := by decide +kernel
theorem dX5_bits_1 : decode cX5_bits 1 = .ok (.istore_n 1, 1) := by decide +kernel
theorem dX5_bits_2 : decode cX5_bits 2 = .ok (.iload_n 0, 1) := by decide +kernel
theorem dX5_bits_3 : decode cX5_bits 3 = .ok (.istore_n 2, 1) := by decide +kernel
theorem dX5_bits_4 : decode cX5_bits 4 = .ok (.iload_n 2, 1) := by decide +kernel
theorem dX5_bits_5 : decode cX5_bits 5 = .ok (.ifCond .eq 15, 3) := by decide +kernel
theorem dX5_bits_8 : decode cX5_bits 8 = .ok (.iinc 1 1, 3) := by decide +kernel
theorem dX5_bits_11 : decode cX5_bits 11 = .ok (.iload_n 2, 1) := by decide +kernel
theorem dX5_bits_12 : decode cX5_bits 12 = .ok (.iload_n 2, 1) := by decide +kernel
theorem dX5_bits_13 : decode cX5_bits 13 = .ok (.iconst 1, 1) := by decide +kernel
theorem dX5_bits_14 : decode cX5_bits 14 = .ok (.isub, 1) := by decide +kernel
theorem dX5_bits_15 : decode cX5_bits 15 = .ok (.iand, 1) := by decide +kernel
theorem dX5_bits_16 : decode cX5_bits 16 = .ok (.istore_n 2, 1) := by decide +kernel
theorem dX5_bits_17 : decode cX5_bits 17 = .ok (.goto (-13), 3) := by decide +kernel
theorem dX5_bits_20 : decode cX5_bits 20 = .ok (.iload_n 1, 1) := by decide +kernel
theorem dX5_bits_21 : decode cX5_bits 21 = .ok (.ireturn, 1) := by decide +kernel
theorem dX5_isOne_0 : decode cX5_isOne 0 = .ok (.iload_n 0, 1) := by decide +kernel
theorem dX5_isOne_1 : decode cX5_isOne 1 = .ok (.iconst 0, 1) := by decide +kernel
theorem dX5_isOne_2 : decode cX5_isOne 2 = .ok (.bipush 7, 2) := by decide +kernel
theorem dX5_isOne_4 : decode cX5_isOne 4 = .ok (.invokestatic 73, 3) := by decide +kernel
theorem dX5_isOne_7 : decode cX5_isOne 7 = .ok (.ireturn, 1) := by decide +kernel
theorem dX5_isEdge_0 : decode cX5_isEdge 0 = .ok (.iload_n 0, 1) := by decide +kernel
theorem dX5_isEdge_1 : decode cX5_isEdge 1 = .ok (.iconst 0, 1) := by decide +kernel
theorem dX5_isEdge_2 : decode cX5_isEdge 2 = .ok (.bipush 9, 2) := by decide +kernel
theorem dX5_isEdge_4 : decode cX5_isEdge 4 = .ok (.invokestatic 73, 3) := by decide +kernel
theorem dX5_isEdge_7 : decode cX5_isEdge 7 = .ok (.ireturn, 1) := by decide +kernel
theorem dX5_isPlace_0 : decode cX5_isPlace 0 = .ok (.iload_n 0, 1) := by decide +kernel
theorem dX5_isPlace_1 : decode cX5_isPlace 1 = .ok (.iconst 0, 1) := by decide +kernel
theorem dX5_isPlace_2 : decode cX5_isPlace 2 = .ok (.iconst 5, 1) := by decide +kernel
theorem dX5_isPlace_3 : decode cX5_isPlace 3 = .ok (.invokestatic 73, 3) := by decide +kernel
theorem dX5_isPlace_6 : decode cX5_isPlace 6 = .ok (.ireturn, 1) := by decide +kernel
theorem dX5_list_0 : decode cX5_list 0 = .ok (.iload_n 1, 1) := by decide +kernel
theorem dX5_list_1 : decode cX5_list 1 = .ok (.invokestatic 77, 3) := by decide +kernel
theorem dX5_list_4 : decode cX5_list 4 = .ok (.ifCond .eq 33, 3) := by decide +kernel
theorem dX5_list_7 : decode cX5_list 7 = .ok (.iload_n 2, 1) := by decide +kernel
theorem dX5_list_8 : decode cX5_list 8 = .ok (.invokestatic 81, 3) := by decide +kernel
theorem dX5_list_11 : decode cX5_list 11 = .ok (.ifCond .eq 26, 3) := by decide +kernel
theorem dX5_list_14 : decode cX5_list 14 = .ok (.iload_n 3, 1) := by decide +kernel
theorem dX5_list_15 : decode cX5_list 15 = .ok (.invokestatic 81, 3) := by decide +kernel
theorem dX5_list_18 : decode cX5_list 18 = .ok (.ifCond .eq 19, 3) := by decide +kernel
theorem dX5_list_21 : decode cX5_list 21 = .ok (.aload_n 0, 1) := by decide +kernel
theorem dX5_list_22 : decode cX5_list 22 = .ok (.iconst 3, 1) := by decide +kernel
theorem dX5_list_23 : decode cX5_list 23 = .ok (.iload_n 1, 1) := by decide +kernel
theorem dX5_list_24 : decode cX5_list 24 = .ok (.iadd, 1) := by decide +kernel
theorem dX5_list_25 : decode cX5_list 25 = .ok (.bipush 10, 2) := by decide +kernel
theorem dX5_list_27 : decode cX5_list 27 = .ok (.iload_n 2, 1) := by decide +kernel
theorem dX5_list_28 : decode cX5_list 28 = .ok (.imul, 1) := by decide +kernel
theorem dX5_list_29 : decode cX5_list 29 = .ok (.iload_n 3, 1) := by decide +kernel
theorem dX5_list_30 : decode cX5_list 30 = .ok (.iadd, 1) := by decide +kernel
theorem dX5_list_31 : decode cX5_list 31 = .ok (.invokevirtual 84, 3) := by decide +kernel
theorem dX5_list_34 : decode cX5_list 34 = .ok (.goto 9, 3) := by decide +kernel
theorem dX5_list_37 : decode cX5_list 37 = .ok (.aload_n 0, 1) := by decide +kernel
theorem dX5_list_38 : decode cX5_list 38 = .ok (.ldc 63, 2) := by decide +kernel
theorem dX5_list_40 : decode cX5_list 40 = .ok (.invokevirtual 69, 3) := by decide +kernel
theorem dX5_list_43 : decode cX5_list 43 = .ok (.ireturn, 1) := by decide +kernel
theorem dX5_listed_0 : decode cX5_listed 0 = .ok (.iload_n 1, 1) := by decide +kernel
theorem dX5_listed_1 : decode cX5_listed 1 = .ok (.invokestatic 77, 3) := by decide +kernel
theorem dX5_listed_4 : decode cX5_listed 4 = .ok (.ifCond .eq 14, 3) := by decide +kernel
theorem dX5_listed_7 : decode cX5_listed 7 = .ok (.aload_n 0, 1) := by decide +kernel
theorem dX5_listed_8 : decode cX5_listed 8 = .ok (.getfield 9, 3) := by decide +kernel
theorem dX5_listed_11 : decode cX5_listed 11 = .ok (.iconst 3, 1) := by decide +kernel
theorem dX5_listed_12 : decode cX5_listed 12 = .ok (.iload_n 1, 1) := by decide +kernel
theorem dX5_listed_13 : decode cX5_listed 13 = .ok (.iadd, 1) := by decide +kernel
theorem dX5_listed_14 : decode cX5_listed 14 = .ok (.iaload, 1) := by decide +kernel
theorem dX5_listed_15 : decode cX5_listed 15 = .ok (.goto 9, 3) := by decide +kernel
theorem dX5_listed_18 : decode cX5_listed 18 = .ok (.aload_n 0, 1) := by decide +kernel
theorem dX5_listed_19 : decode cX5_listed 19 = .ok (.ldc 63, 2) := by decide +kernel
theorem dX5_listed_21 : decode cX5_listed 21 = .ok (.invokevirtual 69, 3) := by decide +kernel
theorem dX5_listed_24 : decode cX5_listed 24 = .ok (.ireturn, 1) := by decide +kernel
theorem dX5_placeNow_0 : decode cX5_placeNow 0 = .ok (.iconst 3, 1) := by decide +kernel
theorem dX5_placeNow_1 : decode cX5_placeNow 1 = .ok (.aload_n 0, 1) := by decide +kernel
theorem dX5_placeNow_2 : decode cX5_placeNow 2 = .ok (.getfield 9, 3) := by decide +kernel
theorem dX5_placeNow_5 : decode cX5_placeNow 5 = .ok (.iconst 0, 1) := by decide +kernel
theorem dX5_placeNow_6 : decode cX5_placeNow 6 = .ok (.iaload, 1) := by decide +kernel
theorem dX5_placeNow_7 : decode cX5_placeNow 7 = .ok (.bipush 6, 2) := by decide +kernel
theorem dX5_placeNow_9 : decode cX5_placeNow 9 = .ok (.irem, 1) := by decide +kernel
theorem dX5_placeNow_10 : decode cX5_placeNow 10 = .ok (.iadd, 1) := by decide +kernel
theorem dX5_placeNow_11 : decode cX5_placeNow 11 = .ok (.ireturn, 1) := by decide +kernel
theorem dX5_pieceAt_0 : decode cX5_pieceAt 0 = .ok (.bipush 19, 2) := by decide +kernel
theorem dX5_pieceAt_2 : decode cX5_pieceAt 2 = .ok (.iconst 5, 1) := by decide +kernel
theorem dX5_pieceAt_3 : decode cX5_pieceAt 3 = .ok (.iload_n 0, 1) := by decide +kernel
theorem dX5_pieceAt_4 : decode cX5_pieceAt 4 = .ok (.imul, 1) := by decide +kernel
theorem dX5_pieceAt_5 : decode cX5_pieceAt 5 = .ok (.iadd, 1) := by decide +kernel
theorem dX5_pieceAt_6 : decode cX5_pieceAt 6 = .ok (.iload_n 1, 1) := by decide +kernel
theorem dX5_pieceAt_7 : decode cX5_pieceAt 7 = .ok (.iadd, 1) := by decide +kernel
theorem dX5_pieceAt_8 : decode cX5_pieceAt 8 = .ok (.ireturn, 1) := by decide +kernel
theorem dX5_pieceIs_0 : decode cX5_pieceIs 0 = .ok (.aload_n 0, 1) := by decide +kernel
theorem dX5_pieceIs_1 : decode cX5_pieceIs 1 = .ok (.getfield 9, 3) := by decide +kernel
theorem dX5_pieceIs_4 : decode cX5_pieceIs 4 = .ok (.iload_n 1, 1) := by decide +kernel
theorem dX5_pieceIs_5 : decode cX5_pieceIs 5 = .ok (.iload_n 2, 1) := by decide +kernel
theorem dX5_pieceIs_6 : decode cX5_pieceIs 6 = .ok (.invokestatic 88, 3) := by decide +kernel
theorem dX5_pieceIs_9 : decode cX5_pieceIs 9 = .ok (.iaload, 1) := by decide +kernel
theorem dX5_pieceIs_10 : decode cX5_pieceIs 10 = .ok (.ireturn, 1) := by decide +kernel
theorem dX5_isPiece_0 : decode cX5_isPiece 0 = .ok (.iload_n 1, 1) := by decide +kernel
theorem dX5_isPiece_1 : decode cX5_isPiece 1 = .ok (.iconst 0, 1) := by decide +kernel
theorem dX5_isPiece_2 : decode cX5_isPiece 2 = .ok (.aload_n 0, 1) := by decide +kernel
theorem dX5_isPiece_3 : decode cX5_isPiece 3 = .ok (.getfield 9, 3) := by decide +kernel
theorem dX5_isPiece_6 : decode cX5_isPiece 6 = .ok (.iconst 1, 1) := by decide +kernel
theorem dX5_isPiece_7 : decode cX5_isPiece 7 = .ok (.iaload, 1) := by decide +kernel
theorem dX5_isPiece_8 : decode cX5_isPiece 8 = .ok (.iconst 1, 1) := by decide +kernel
theorem dX5_isPiece_9 : decode cX5_isPiece 9 = .ok (.isub, 1) := by decide +kernel
theorem dX5_isPiece_10 : decode cX5_isPiece 10 = .ok (.invokestatic 73, 3) := by decide +kernel
theorem dX5_isPiece_13 : decode cX5_isPiece 13 = .ok (.ireturn, 1) := by decide +kernel
theorem dX5_isKind_0 : decode cX5_isKind 0 = .ok (.iload_n 0, 1) := by decide +kernel
theorem dX5_isKind_1 : decode cX5_isKind 1 = .ok (.iconst 0, 1) := by decide +kernel
theorem dX5_isKind_2 : decode cX5_isKind 2 = .ok (.bipush 6, 2) := by decide +kernel
theorem dX5_isKind_4 : decode cX5_isKind 4 = .ok (.invokestatic 73, 3) := by decide +kernel
theorem dX5_isKind_7 : decode cX5_isKind 7 = .ok (.ireturn, 1) := by decide +kernel
theorem dX5_isCut_0 : decode cX5_isCut 0 = .ok (.aload_n 0, 1) := by decide +kernel
theorem dX5_isCut_1 : decode cX5_isCut 1 = .ok (.getfield 9, 3) := by decide +kernel
theorem dX5_isCut_4 : decode cX5_isCut 4 = .ok (.iconst 1, 1) := by decide +kernel
theorem dX5_isCut_5 : decode cX5_isCut 5 = .ok (.iaload, 1) := by decide +kernel
theorem dX5_isCut_6 : decode cX5_isCut 6 = .ok (.istore 4, 2) := by decide +kernel
theorem dX5_isCut_8 : decode cX5_isCut 8 = .ok (.aload_n 0, 1) := by decide +kernel
theorem dX5_isCut_9 : decode cX5_isCut 9 = .ok (.getfield 9, 3) := by decide +kernel
theorem dX5_isCut_12 : decode cX5_isCut 12 = .ok (.iload 4, 2) := by decide +kernel
theorem dX5_isCut_14 : decode cX5_isCut 14 = .ok (.iconst 0, 1) := by decide +kernel
theorem dX5_isCut_15 : decode cX5_isCut 15 = .ok (.invokestatic 88, 3) := by decide +kernel
theorem dX5_isCut_18 : decode cX5_isCut 18 = .ok (.iload_n 1, 1) := by decide +kernel
theorem dX5_isCut_19 : decode cX5_isCut 19 = .ok (.iastore, 1) := by decide +kernel
theorem dX5_isCut_20 : decode cX5_isCut 20 = .ok (.aload_n 0, 1) := by decide +kernel
theorem dX5_isCut_21 : decode cX5_isCut 21 = .ok (.getfield 9, 3) := by decide +kernel
theorem dX5_isCut_24 : decode cX5_isCut 24 = .ok (.iload 4, 2) := by decide +kernel
theorem dX5_isCut_26 : decode cX5_isCut 26 = .ok (.iconst 1, 1) := by decide +kernel
theorem dX5_isCut_27 : decode cX5_isCut 27 = .ok (.invokestatic 88, 3) := by decide +kernel
theorem dX5_isCut_30 : decode cX5_isCut 30 = .ok (.iload_n 2, 1) := by decide +kernel
theorem dX5_isCut_31 : decode cX5_isCut 31 = .ok (.iastore, 1) := by decide +kernel
theorem dX5_isCut_32 : decode cX5_isCut 32 = .ok (.aload_n 0, 1) := by decide +kernel
theorem dX5_isCut_33 : decode cX5_isCut 33 = .ok (.getfield 9, 3) := by decide +kernel
theorem dX5_isCut_36 : decode cX5_isCut 36 = .ok (.iload 4, 2) := by decide +kernel
theorem dX5_isCut_38 : decode cX5_isCut 38 = .ok (.iconst 2, 1) := by decide +kernel
theorem dX5_isCut_39 : decode cX5_isCut 39 = .ok (.invokestatic 88, 3) := by decide +kernel
theorem dX5_isCut_42 : decode cX5_isCut 42 = .ok (.iload_n 3, 1) := by decide +kernel
theorem dX5_isCut_43 : decode cX5_isCut 43 = .ok (.iastore, 1) := by decide +kernel
theorem dX5_isCut_44 : decode cX5_isCut 44 = .ok (.aload_n 0, 1) := by decide +kernel
theorem dX5_isCut_45 : decode cX5_isCut 45 = .ok (.getfield 9, 3) := by decide +kernel
theorem dX5_isCut_48 : decode cX5_isCut 48 = .ok (.iload 4, 2) := by decide +kernel
theorem dX5_isCut_50 : decode cX5_isCut 50 = .ok (.iconst 3, 1) := by decide +kernel
theorem dX5_isCut_51 : decode cX5_isCut 51 = .ok (.invokestatic 88, 3) := by decide +kernel
theorem dX5_isCut_54 : decode cX5_isCut 54 = .ok (.iconst (-1), 1) := by decide +kernel
theorem dX5_isCut_55 : decode cX5_isCut 55 = .ok (.iastore, 1) := by decide +kernel
theorem dX5_isCut_56 : decode cX5_isCut 56 = .ok (.aload_n 0, 1) := by decide +kernel
theorem dX5_isCut_57 : decode cX5_isCut 57 = .ok (.getfield 9, 3) := by decide +kernel
theorem dX5_isCut_60 : decode cX5_isCut 60 = .ok (.iload 4, 2) := by decide +kernel
theorem dX5_isCut_62 : decode cX5_isCut 62 = .ok (.iconst 4, 1) := by decide +kernel
theorem dX5_isCut_63 : decode cX5_isCut 63 = .ok (.invokestatic 88, 3) := by decide +kernel
theorem dX5_isCut_66 : decode cX5_isCut 66 = .ok (.iconst 0, 1) := by decide +kernel
theorem dX5_isCut_67 : decode cX5_isCut 67 = .ok (.iastore, 1) := by decide +kernel
theorem dX5_isCut_68 : decode cX5_isCut 68 = .ok (.aload_n 0, 1) := by decide +kernel
theorem dX5_isCut_69 : decode cX5_isCut 69 = .ok (.getfield 9, 3) := by decide +kernel
theorem dX5_isCut_72 : decode cX5_isCut 72 = .ok (.bipush 59, 2) := by decide +kernel
theorem dX5_isCut_74 : decode cX5_isCut 74 = .ok (.iload 4, 2) := by decide +kernel
theorem dX5_isCut_76 : decode cX5_isCut 76 = .ok (.iadd, 1) := by decide +kernel
theorem dX5_isCut_77 : decode cX5_isCut 77 = .ok (.iload 4, 2) := by decide +kernel
theorem dX5_isCut_79 : decode cX5_isCut 79 = .ok (.iastore, 1) := by decide +kernel
theorem dX5_isCut_80 : decode cX5_isCut 80 = .ok (.aload_n 0, 1) := by decide +kernel
theorem dX5_isCut_81 : decode cX5_isCut 81 = .ok (.getfield 9, 3) := by decide +kernel
theorem dX5_isCut_84 : decode cX5_isCut 84 = .ok (.iconst 1, 1) := by decide +kernel
theorem dX5_isCut_85 : decode cX5_isCut 85 = .ok (.dup2, 1) := by decide +kernel
theorem dX5_isCut_86 : decode cX5_isCut 86 = .ok (.iaload, 1) := by decide +kernel
theorem dX5_isCut_87 : decode cX5_isCut 87 = .ok (.iconst 1, 1) := by decide +kernel
theorem dX5_isCut_88 : decode cX5_isCut 88 = .ok (.iadd, 1) := by decide +kernel
theorem dX5_isCut_89 : decode cX5_isCut 89 = .ok (.iastore, 1) := by decide +kernel
theorem dX5_isCut_90 : decode cX5_isCut 90 = .ok (.iload 4, 2) := by decide +kernel
theorem dX5_isCut_92 : decode cX5_isCut 92 = .ok (.ireturn, 1) := by decide +kernel
theorem dX5_piece_0 : decode cX5_piece 0 = .ok (.iload_n 1, 1) := by decide +kernel
theorem dX5_piece_1 : decode cX5_piece 1 = .ok (.invokestatic 91, 3) := by decide +kernel
theorem dX5_piece_4 : decode cX5_piece 4 = .ok (.ifCond .eq 17, 3) := by decide +kernel
theorem dX5_piece_7 : decode cX5_piece 7 = .ok (.iload_n 2, 1) := by decide +kernel
theorem dX5_piece_8 : decode cX5_piece 8 = .ok (.invokestatic 94, 3) := by decide +kernel
theorem dX5_piece_11 : decode cX5_piece 11 = .ok (.ifCond .eq 10, 3) := by decide +kernel
theorem dX5_piece_14 : decode cX5_piece 14 = .ok (.iload_n 3, 1) := by decide +kernel
theorem dX5_piece_15 : decode cX5_piece 15 = .ok (.invokestatic 94, 3) := by decide +kernel
theorem dX5_piece_18 : decode cX5_piece 18 = .ok (.ifCond .ne 10, 3) := by decide +kernel
theorem dX5_piece_21 : decode cX5_piece 21 = .ok (.aload_n 0, 1) := by decide +kernel
theorem dX5_piece_22 : decode cX5_piece 22 = .ok (.ldc 63, 2) := by decide +kernel
theorem dX5_piece_24 : decode cX5_piece 24 = .ok (.invokevirtual 69, 3) := by decide +kernel
theorem dX5_piece_27 : decode cX5_piece 27 = .ok (.ireturn, 1) := by decide +kernel
theorem dX5_piece_28 : decode cX5_piece 28 = .ok (.aload_n 0, 1) := by decide +kernel
theorem dX5_piece_29 : decode cX5_piece 29 = .ok (.getfield 9, 3) := by decide +kernel
theorem dX5_piece_32 : decode cX5_piece 32 = .ok (.iconst 1, 1) := by decide +kernel
theorem dX5_piece_33 : decode cX5_piece 33 = .ok (.iaload, 1) := by decide +kernel
theorem dX5_piece_34 : decode cX5_piece 34 = .ok (.bipush 8, 2) := by decide +kernel
theorem dX5_piece_36 : decode cX5_piece 36 = .ok (.if_icmp .ne 12, 3) := by decide +kernel
theorem dX5_piece_39 : decode cX5_piece 39 = .ok (.aload_n 0, 1) := by decide +kernel
theorem dX5_piece_40 : decode cX5_piece 40 = .ok (.ldc 97, 2) := by decide +kernel
theorem dX5_piece_42 : decode cX5_piece 42 = .ok (.invokevirtual 69, 3) := by decide +kernel
theorem dX5_piece_45 : decode cX5_piece 45 = .ok (.goto 10, 3) := by decide +kernel
theorem dX5_piece_48 : decode cX5_piece 48 = .ok (.aload_n 0, 1) := by decide +kernel
theorem dX5_piece_49 : decode cX5_piece 49 = .ok (.iload_n 1, 1) := by decide +kernel
theorem dX5_piece_50 : decode cX5_piece 50 = .ok (.iload_n 2, 1) := by decide +kernel
theorem dX5_piece_51 : decode cX5_piece 51 = .ok (.iload_n 3, 1) := by decide +kernel
theorem dX5_piece_52 : decode cX5_piece 52 = .ok (.invokevirtual 98, 3) := by decide +kernel
theorem dX5_piece_55 : decode cX5_piece 55 = .ok (.ireturn, 1) := by decide +kernel
theorem dX5_whereLies_0 : decode cX5_whereLies 0 = .ok (.iconst 0, 1) := by decide +kernel
theorem dX5_whereLies_1 : decode cX5_whereLies 1 = .ok (.istore_n 2, 1) := by decide +kernel
theorem dX5_whereLies_2 : decode cX5_whereLies 2 = .ok (.aload_n 0, 1) := by decide +kernel
theorem dX5_whereLies_3 : decode cX5_whereLies 3 = .ok (.getfield 9, 3) := by decide +kernel
theorem dX5_whereLies_6 : decode cX5_whereLies 6 = .ok (.bipush 59, 2) := by decide +kernel
theorem dX5_whereLies_8 : decode cX5_whereLies 8 = .ok (.iload_n 2, 1) := by decide +kernel
theorem dX5_whereLies_9 : decode cX5_whereLies 9 = .ok (.iadd, 1) := by decide +kernel
theorem dX5_whereLies_10 : decode cX5_whereLies 10 = .ok (.iaload, 1) := by decide +kernel
theorem dX5_whereLies_11 : decode cX5_whereLies 11 = .ok (.iload_n 1, 1) := by decide +kernel
theorem dX5_whereLies_12 : decode cX5_whereLies 12 = .ok (.if_icmp .eq 9, 3) := by decide +kernel
theorem dX5_whereLies_15 : decode cX5_whereLies 15 = .ok (.iinc 2 1, 3) := by decide +kernel
theorem dX5_whereLies_18 : decode cX5_whereLies 18 = .ok (.goto (-16), 3) := by decide +kernel
theorem dX5_whereLies_21 : decode cX5_whereLies 21 = .ok (.iload_n 2, 1) := by decide +kernel
theorem dX5_whereLies_22 : decode cX5_whereLies 22 = .ok (.ireturn, 1) := by decide +kernel
theorem dX5_grows_0 : decode cX5_grows 0 = .ok (.aload_n 0, 1) := by decide +kernel
theorem dX5_grows_1 : decode cX5_grows 1 = .ok (.iload_n 1, 1) := by decide +kernel
theorem dX5_grows_2 : decode cX5_grows 2 = .ok (.iconst 0, 1) := by decide +kernel
theorem dX5_grows_3 : decode cX5_grows 3 = .ok (.invokevirtual 102, 3) := by decide +kernel
theorem dX5_grows_6 : decode cX5_grows 6 = .ok (.tableswitch 47 1 6 #[38, 40, 42, 44, 38, 38], 38) := by decide +kernel
theorem dX5_grows_44 : decode cX5_grows 44 = .ok (.iconst 0, 1) := by decide +kernel
theorem dX5_grows_45 : decode cX5_grows 45 = .ok (.ireturn, 1) := by decide +kernel
theorem dX5_grows_46 : decode cX5_grows 46 = .ok (.iconst 3, 1) := by decide +kernel
theorem dX5_grows_47 : decode cX5_grows 47 = .ok (.ireturn, 1) := by decide +kernel
theorem dX5_grows_48 : decode cX5_grows 48 = .ok (.iconst 4, 1) := by decide +kernel
theorem dX5_grows_49 : decode cX5_grows 49 = .ok (.ireturn, 1) := by decide +kernel
theorem dX5_grows_50 : decode cX5_grows 50 = .ok (.bipush 8, 2) := by decide +kernel
theorem dX5_grows_52 : decode cX5_grows 52 = .ok (.ireturn, 1) := by decide +kernel
theorem dX5_grows_53 : decode cX5_grows 53 = .ok (.iconst 1, 1) := by decide +kernel
theorem dX5_grows_54 : decode cX5_grows 54 = .ok (.ireturn, 1) := by decide +kernel
theorem dX5_told_0 : decode cX5_told 0 = .ok (.iload_n 2, 1) := by decide +kernel
theorem dX5_told_1 : decode cX5_told 1 = .ok (.iconst 5, 1) := by decide +kernel
theorem dX5_told_2 : decode cX5_told 2 = .ok (.if_icmp .ne 11, 3) := by decide +kernel
theorem dX5_told_5 : decode cX5_told 5 = .ok (.aload_n 0, 1) := by decide +kernel
theorem dX5_told_6 : decode cX5_told 6 = .ok (.iload_n 1, 1) := by decide +kernel
theorem dX5_told_7 : decode cX5_told 7 = .ok (.invokevirtual 105, 3) := by decide +kernel
theorem dX5_told_10 : decode cX5_told 10 = .ok (.goto 23, 3) := by decide +kernel
theorem dX5_told_13 : decode cX5_told 13 = .ok (.iload_n 2, 1) := by decide +kernel
theorem dX5_told_14 : decode cX5_told 14 = .ok (.bipush 6, 2) := by decide +kernel
theorem dX5_told_16 : decode cX5_told 16 = .ok (.if_icmp .ne 11, 3) := by decide +kernel
theorem dX5_told_19 : decode cX5_told 19 = .ok (.aload_n 0, 1) := by decide +kernel
theorem dX5_told_20 : decode cX5_told 20 = .ok (.iload_n 1, 1) := by decide +kernel
theorem dX5_told_21 : decode cX5_told 21 = .ok (.invokevirtual 108, 3) := by decide +kernel
theorem dX5_told_24 : decode cX5_told 24 = .ok (.goto 9, 3) := by decide +kernel
theorem dX5_told_27 : decode cX5_told 27 = .ok (.aload_n 0, 1) := by decide +kernel
theorem dX5_told_28 : decode cX5_told 28 = .ok (.iload_n 1, 1) := by decide +kernel
theorem dX5_told_29 : decode cX5_told 29 = .ok (.iload_n 2, 1) := by decide +kernel
theorem dX5_told_30 : decode cX5_told 30 = .ok (.invokevirtual 102, 3) := by decide +kernel
theorem dX5_told_33 : decode cX5_told 33 = .ok (.ireturn, 1) := by decide +kernel
theorem dX5_of_0 : decode cX5_of 0 = .ok (.aload_n 0, 1) := by decide +kernel
theorem dX5_of_1 : decode cX5_of 1 = .ok (.iload_n 1, 1) := by decide +kernel
theorem dX5_of_2 : decode cX5_of 2 = .ok (.invokevirtual 111, 3) := by decide +kernel
theorem dX5_of_5 : decode cX5_of 5 = .ok (.ifCond .eq 22, 3) := by decide +kernel
theorem dX5_of_8 : decode cX5_of 8 = .ok (.iload_n 2, 1) := by decide +kernel
theorem dX5_of_9 : decode cX5_of 9 = .ok (.iconst 0, 1) := by decide +kernel
theorem dX5_of_10 : decode cX5_of 10 = .ok (.bipush 6, 2) := by decide +kernel
theorem dX5_of_12 : decode cX5_of 12 = .ok (.invokestatic 73, 3) := by decide +kernel
theorem dX5_of_15 : decode cX5_of 15 = .ok (.ifCond .eq 12, 3) := by decide +kernel
theorem dX5_of_18 : decode cX5_of 18 = .ok (.aload_n 0, 1) := by decide +kernel
theorem dX5_of_19 : decode cX5_of 19 = .ok (.iload_n 1, 1) := by decide +kernel
theorem dX5_of_20 : decode cX5_of 20 = .ok (.iload_n 2, 1) := by decide +kernel
theorem dX5_of_21 : decode cX5_of 21 = .ok (.invokevirtual 114, 3) := by decide +kernel
theorem dX5_of_24 : decode cX5_of 24 = .ok (.goto 9, 3) := by decide +kernel
theorem dX5_of_27 : decode cX5_of 27 = .ok (.aload_n 0, 1) := by decide +kernel
theorem dX5_of_28 : decode cX5_of 28 = .ok (.ldc 63, 2) := by decide +kernel
theorem dX5_of_30 : decode cX5_of 30 = .ok (.invokevirtual 69, 3) := by decide +kernel
theorem dX5_of_33 : decode cX5_of 33 = .ok (.ireturn, 1) := by decide +kernel
theorem dX5_isField_0 : decode cX5_isField 0 = .ok (.iload_n 0, 1) := by decide +kernel
theorem dX5_isField_1 : decode cX5_isField 1 = .ok (.tableswitch 70 0 4 #[35, 40, 40, 45, 63], 35) := by decide +kernel
theorem dX5_isField_36 : decode cX5_isField 36 = .ok (.iload_n 1, 1) := by decide +kernel
theorem dX5_isField_37 : decode cX5_isField 37 = .ok (.invokestatic 91, 3) := by decide +kernel
theorem dX5_isField_40 : decode cX5_isField 40 = .ok (.ireturn, 1) := by decide +kernel
theorem dX5_isField_41 : decode cX5_isField 41 = .ok (.iload_n 1, 1) := by decide +kernel
theorem dX5_isField_42 : decode cX5_isField 42 = .ok (.invokestatic 94, 3) := by decide +kernel
theorem dX5_isField_45 : decode cX5_isField 45 = .ok (.ireturn, 1) := by decide +kernel
theorem dX5_isField_46 : decode cX5_isField 46 = .ok (.iload_n 1, 1) := by decide +kernel
theorem dX5_isField_47 : decode cX5_isField 47 = .ok (.iconst (-1), 1) := by decide +kernel
theorem dX5_isField_48 : decode cX5_isField 48 = .ok (.if_icmp .eq 10, 3) := by decide +kernel
theorem dX5_isField_51 : decode cX5_isField 51 = .ok (.iload_n 1, 1) := by decide +kernel
theorem dX5_isField_52 : decode cX5_isField 52 = .ok (.invokestatic 81, 3) := by decide +kernel
theorem dX5_isField_55 : decode cX5_isField 55 = .ok (.ifCond .eq 7, 3) := by decide +kernel
theorem dX5_isField_58 : decode cX5_isField 58 = .ok (.iconst 1, 1) := by decide +kernel
theorem dX5_isField_59 : decode cX5_isField 59 = .ok (.goto 4, 3) := by decide +kernel
theorem dX5_isField_62 : decode cX5_isField 62 = .ok (.iconst 0, 1) := by decide +kernel
theorem dX5_isField_63 : decode cX5_isField 63 = .ok (.ireturn, 1) := by decide +kernel
theorem dX5_isField_64 : decode cX5_isField 64 = .ok (.iload_n 1, 1) := by decide +kernel
theorem dX5_isField_65 : decode cX5_isField 65 = .ok (.iconst 0, 1) := by decide +kernel
theorem dX5_isField_66 : decode cX5_isField 66 = .ok (.iconst 1, 1) := by decide +kernel
theorem dX5_isField_67 : decode cX5_isField 67 = .ok (.invokestatic 73, 3) := by decide +kernel
theorem dX5_isField_70 : decode cX5_isField 70 = .ok (.ireturn, 1) := by decide +kernel
theorem dX5_isField_71 : decode cX5_isField 71 = .ok (.iconst 0, 1) := by decide +kernel
theorem dX5_isField_72 : decode cX5_isField 72 = .ok (.ireturn, 1) := by decide +kernel
theorem dX5_change_0 : decode cX5_change 0 = .ok (.aload_n 0, 1) := by decide +kernel
theorem dX5_change_1 : decode cX5_change 1 = .ok (.iload_n 1, 1) := by decide +kernel
theorem dX5_change_2 : decode cX5_change 2 = .ok (.invokevirtual 111, 3) := by decide +kernel
theorem dX5_change_5 : decode cX5_change 5 = .ok (.ifCond .eq 24, 3) := by decide +kernel
theorem dX5_change_8 : decode cX5_change 8 = .ok (.iload_n 2, 1) := by decide +kernel
theorem dX5_change_9 : decode cX5_change 9 = .ok (.iload_n 3, 1) := by decide +kernel
theorem dX5_change_10 : decode cX5_change 10 = .ok (.invokestatic 117, 3) := by decide +kernel
theorem dX5_change_13 : decode cX5_change 13 = .ok (.ifCond .eq 16, 3) := by decide +kernel
theorem dX5_change_16 : decode cX5_change 16 = .ok (.aload_n 0, 1) := by decide +kernel
theorem dX5_change_17 : decode cX5_change 17 = .ok (.iload_n 1, 1) := by decide +kernel
theorem dX5_change_18 : decode cX5_change 18 = .ok (.iload_n 2, 1) := by decide +kernel
theorem dX5_change_19 : decode cX5_change 19 = .ok (.invokestatic 88, 3) := by decide +kernel
theorem dX5_change_22 : decode cX5_change 22 = .ok (.iload_n 3, 1) := by decide +kernel
theorem dX5_change_23 : decode cX5_change 23 = .ok (.invokevirtual 84, 3) := by decide +kernel
theorem dX5_change_26 : decode cX5_change 26 = .ok (.goto 9, 3) := by decide +kernel
theorem dX5_change_29 : decode cX5_change 29 = .ok (.aload_n 0, 1) := by decide +kernel
theorem dX5_change_30 : decode cX5_change 30 = .ok (.ldc 63, 2) := by decide +kernel
theorem dX5_change_32 : decode cX5_change 32 = .ok (.invokevirtual 69, 3) := by decide +kernel
theorem dX5_change_35 : decode cX5_change 35 = .ok (.ireturn, 1) := by decide +kernel
theorem dX5_lies_0 : decode cX5_lies 0 = .ok (.aload_n 0, 1) := by decide +kernel
theorem dX5_lies_1 : decode cX5_lies 1 = .ok (.iload_n 1, 1) := by decide +kernel
theorem dX5_lies_2 : decode cX5_lies 2 = .ok (.invokevirtual 111, 3) := by decide +kernel
theorem dX5_lies_5 : decode cX5_lies 5 = .ok (.ifCond .eq 15, 3) := by decide +kernel
theorem dX5_lies_8 : decode cX5_lies 8 = .ok (.aload_n 0, 1) := by decide +kernel
theorem dX5_lies_9 : decode cX5_lies 9 = .ok (.getfield 9, 3) := by decide +kernel
theorem dX5_lies_12 : decode cX5_lies 12 = .ok (.bipush 59, 2) := by decide +kernel
theorem dX5_lies_14 : decode cX5_lies 14 = .ok (.iload_n 1, 1) := by decide +kernel
theorem dX5_lies_15 : decode cX5_lies 15 = .ok (.iadd, 1) := by decide +kernel
theorem dX5_lies_16 : decode cX5_lies 16 = .ok (.iaload, 1) := by decide +kernel
theorem dX5_lies_17 : decode cX5_lies 17 = .ok (.goto 9, 3) := by decide +kernel
theorem dX5_lies_20 : decode cX5_lies 20 = .ok (.aload_n 0, 1) := by decide +kernel
theorem dX5_lies_21 : decode cX5_lies 21 = .ok (.ldc 63, 2) := by decide +kernel
theorem dX5_lies_23 : decode cX5_lies 23 = .ok (.invokevirtual 69, 3) := by decide +kernel
theorem dX5_lies_26 : decode cX5_lies 26 = .ok (.ireturn, 1) := by decide +kernel
theorem dX5_side_0 : decode cX5_side 0 = .ok (.aload_n 0, 1) := by decide +kernel
theorem dX5_side_1 : decode cX5_side 1 = .ok (.iload_n 1, 1) := by decide +kernel
theorem dX5_side_2 : decode cX5_side 2 = .ok (.aload_n 0, 1) := by decide +kernel
theorem dX5_side_3 : decode cX5_side 3 = .ok (.iload_n 1, 1) := by decide +kernel
theorem dX5_side_4 : decode cX5_side 4 = .ok (.iconst 4, 1) := by decide +kernel
theorem dX5_side_5 : decode cX5_side 5 = .ok (.invokevirtual 102, 3) := by decide +kernel
theorem dX5_side_8 : decode cX5_side 8 = .ok (.iload_n 2, 1) := by decide +kernel
theorem dX5_side_9 : decode cX5_side 9 = .ok (.if_icmp .ne 7, 3) := by decide +kernel
theorem dX5_side_12 : decode cX5_side 12 = .ok (.iconst 1, 1) := by decide +kernel
theorem dX5_side_13 : decode cX5_side 13 = .ok (.goto 4, 3) := by decide +kernel
theorem dX5_side_16 : decode cX5_side 16 = .ok (.iconst 2, 1) := by decide +kernel
theorem dX5_side_17 : decode cX5_side 17 = .ok (.invokevirtual 102, 3) := by decide +kernel
theorem dX5_side_20 : decode cX5_side 20 = .ok (.ireturn, 1) := by decide +kernel
theorem dX5_isSky_0 : decode cX5_isSky 0 = .ok (.aload_n 0, 1) := by decide +kernel
theorem dX5_isSky_1 : decode cX5_isSky 1 = .ok (.iload_n 1, 1) := by decide +kernel
theorem dX5_isSky_2 : decode cX5_isSky 2 = .ok (.iconst 0, 1) := by decide +kernel
theorem dX5_isSky_3 : decode cX5_isSky 3 = .ok (.invokevirtual 102, 3) := by decide +kernel
theorem dX5_isSky_6 : decode cX5_isSky 6 = .ok (.iconst 2, 1) := by decide +kernel
theorem dX5_isSky_7 : decode cX5_isSky 7 = .ok (.iconst 4, 1) := by decide +kernel
theorem dX5_isSky_8 : decode cX5_isSky 8 = .ok (.invokestatic 73, 3) := by decide +kernel
theorem dX5_isSky_11 : decode cX5_isSky 11 = .ok (.ireturn, 1) := by decide +kernel
theorem dX5_gapOf_0 : decode cX5_gapOf 0 = .ok (.aload_n 0, 1) := by decide +kernel
theorem dX5_gapOf_1 : decode cX5_gapOf 1 = .ok (.iload_n 1, 1) := by decide +kernel
theorem dX5_gapOf_2 : decode cX5_gapOf 2 = .ok (.iconst 1, 1) := by decide +kernel
theorem dX5_gapOf_3 : decode cX5_gapOf 3 = .ok (.invokevirtual 121, 3) := by decide +kernel
theorem dX5_gapOf_6 : decode cX5_gapOf 6 = .ok (.aload_n 0, 1) := by decide +kernel
theorem dX5_gapOf_7 : decode cX5_gapOf 7 = .ok (.iload_n 2, 1) := by decide +kernel
theorem dX5_gapOf_8 : decode cX5_gapOf 8 = .ok (.iconst 0, 1) := by decide +kernel
theorem dX5_gapOf_9 : decode cX5_gapOf 9 = .ok (.invokevirtual 121, 3) := by decide +kernel
theorem dX5_gapOf_12 : decode cX5_gapOf 12 = .ok (.isub, 1) := by decide +kernel
theorem dX5_gapOf_13 : decode cX5_gapOf 13 = .ok (.invokestatic 124, 3) := by decide +kernel
theorem dX5_gapOf_16 : decode cX5_gapOf 16 = .ok (.istore_n 3, 1) := by decide +kernel
theorem dX5_gapOf_17 : decode cX5_gapOf 17 = .ok (.aload_n 0, 1) := by decide +kernel
theorem dX5_gapOf_18 : decode cX5_gapOf 18 = .ok (.iload_n 1, 1) := by decide +kernel
theorem dX5_gapOf_19 : decode cX5_gapOf 19 = .ok (.iconst 3, 1) := by decide +kernel
theorem dX5_gapOf_20 : decode cX5_gapOf 20 = .ok (.invokevirtual 102, 3) := by decide +kernel
theorem dX5_gapOf_23 : decode cX5_gapOf 23 = .ok (.iload_n 2, 1) := by decide +kernel
theorem dX5_gapOf_24 : decode cX5_gapOf 24 = .ok (.if_icmp .ne 7, 3) := by decide +kernel
theorem dX5_gapOf_27 : decode cX5_gapOf 27 = .ok (.iconst 0, 1) := by decide +kernel
theorem dX5_gapOf_28 : decode cX5_gapOf 28 = .ok (.goto 4, 3) := by decide +kernel
theorem dX5_gapOf_31 : decode cX5_gapOf 31 = .ok (.iload_n 3, 1) := by decide +kernel
theorem dX5_gapOf_32 : decode cX5_gapOf 32 = .ok (.istore 4, 2) := by decide +kernel
theorem dX5_gapOf_34 : decode cX5_gapOf 34 = .ok (.aload_n 0, 1) := by decide +kernel
theorem dX5_gapOf_35 : decode cX5_gapOf 35 = .ok (.iload_n 2, 1) := by decide +kernel
theorem dX5_gapOf_36 : decode cX5_gapOf 36 = .ok (.invokevirtual 129, 3) := by decide +kernel
theorem dX5_gapOf_39 : decode cX5_gapOf 39 = .ok (.ifCond .eq 7, 3) := by decide +kernel
theorem dX5_gapOf_42 : decode cX5_gapOf 42 = .ok (.iconst 0, 1) := by decide +kernel
theorem dX5_gapOf_43 : decode cX5_gapOf 43 = .ok (.goto 6, 3) := by decide +kernel
theorem dX5_gapOf_46 : decode cX5_gapOf 46 = .ok (.iload_n 3, 1) := by decide +kernel
theorem dX5_gapOf_47 : decode cX5_gapOf 47 = .ok (.iconst 1, 1) := by decide +kernel
theorem dX5_gapOf_48 : decode cX5_gapOf 48 = .ok (.iadd, 1) := by decide +kernel
theorem dX5_gapOf_49 : decode cX5_gapOf 49 = .ok (.istore 5, 2) := by decide +kernel
theorem dX5_gapOf_51 : decode cX5_gapOf 51 = .ok (.aload_n 0, 1) := by decide +kernel
theorem dX5_gapOf_52 : decode cX5_gapOf 52 = .ok (.iload_n 1, 1) := by decide +kernel
theorem dX5_gapOf_53 : decode cX5_gapOf 53 = .ok (.iconst 0, 1) := by decide +kernel
theorem dX5_gapOf_54 : decode cX5_gapOf 54 = .ok (.invokevirtual 102, 3) := by decide +kernel
theorem dX5_gapOf_57 : decode cX5_gapOf 57 = .ok (.tableswitch 79 1 6 #[39, 47, 50, 55, 69, 42], 39) := by decide +kernel
theorem dX5_gapOf_96 : decode cX5_gapOf 96 = .ok (.iload 4, 2) := by decide +kernel
theorem dX5_gapOf_98 : decode cX5_gapOf 98 = .ok (.ireturn, 1) := by decide +kernel
theorem dX5_gapOf_99 : decode cX5_gapOf 99 = .ok (.iload 4, 2) := by decide +kernel
theorem dX5_gapOf_101 : decode cX5_gapOf 101 = .ok (.iconst 2, 1) := by decide +kernel
theorem dX5_gapOf_102 : decode cX5_gapOf 102 = .ok (.iadd, 1) := by decide +kernel
theorem dX5_gapOf_103 : decode cX5_gapOf 103 = .ok (.ireturn, 1) := by decide +kernel
theorem dX5_gapOf_104 : decode cX5_gapOf 104 = .ok (.iload 5, 2) := by decide +kernel
theorem dX5_gapOf_106 : decode cX5_gapOf 106 = .ok (.ireturn, 1) := by decide +kernel
theorem dX5_gapOf_107 : decode cX5_gapOf 107 = .ok (.iload 5, 2) := by decide +kernel
theorem dX5_gapOf_109 : decode cX5_gapOf 109 = .ok (.iconst 2, 1) := by decide +kernel
theorem dX5_gapOf_110 : decode cX5_gapOf 110 = .ok (.idiv, 1) := by decide +kernel
theorem dX5_gapOf_111 : decode cX5_gapOf 111 = .ok (.ireturn, 1) := by decide +kernel
theorem dX5_gapOf_112 : decode cX5_gapOf 112 = .ok (.iload 5, 2) := by decide +kernel
theorem dX5_gapOf_114 : decode cX5_gapOf 114 = .ok (.iconst 2, 1) := by decide +kernel
theorem dX5_gapOf_115 : decode cX5_gapOf 115 = .ok (.idiv, 1) := by decide +kernel
theorem dX5_gapOf_116 : decode cX5_gapOf 116 = .ok (.aload_n 0, 1) := by decide +kernel
theorem dX5_gapOf_117 : decode cX5_gapOf 117 = .ok (.getfield 9, 3) := by decide +kernel
theorem dX5_gapOf_120 : decode cX5_gapOf 120 = .ok (.iconst 0, 1) := by decide +kernel
theorem dX5_gapOf_121 : decode cX5_gapOf 121 = .ok (.iaload, 1) := by decide +kernel
theorem dX5_gapOf_122 : decode cX5_gapOf 122 = .ok (.iconst 3, 1) := by decide +kernel
theorem dX5_gapOf_123 : decode cX5_gapOf 123 = .ok (.irem, 1) := by decide +kernel
theorem dX5_gapOf_124 : decode cX5_gapOf 124 = .ok (.iadd, 1) := by decide +kernel
theorem dX5_gapOf_125 : decode cX5_gapOf 125 = .ok (.ireturn, 1) := by decide +kernel
theorem dX5_gapOf_126 : decode cX5_gapOf 126 = .ok (.iload_n 3, 1) := by decide +kernel
theorem dX5_gapOf_127 : decode cX5_gapOf 127 = .ok (.ifCond .le 7, 3) := by decide +kernel
theorem dX5_gapOf_130 : decode cX5_gapOf 130 = .ok (.iconst 1, 1) := by decide +kernel
theorem dX5_gapOf_131 : decode cX5_gapOf 131 = .ok (.goto 4, 3) := by decide +kernel
theorem dX5_gapOf_134 : decode cX5_gapOf 134 = .ok (.iconst 0, 1) := by decide +kernel
theorem dX5_gapOf_135 : decode cX5_gapOf 135 = .ok (.ireturn, 1) := by decide +kernel
theorem dX5_gapOf_136 : decode cX5_gapOf 136 = .ok (.iload_n 3, 1) := by decide +kernel
theorem dX5_gapOf_137 : decode cX5_gapOf 137 = .ok (.ireturn, 1) := by decide +kernel
theorem dX5_gap_0 : decode cX5_gap 0 = .ok (.aload_n 0, 1) := by decide +kernel
theorem dX5_gap_1 : decode cX5_gap 1 = .ok (.iload_n 1, 1) := by decide +kernel
theorem dX5_gap_2 : decode cX5_gap 2 = .ok (.invokevirtual 111, 3) := by decide +kernel
theorem dX5_gap_5 : decode cX5_gap 5 = .ok (.ifCond .eq 25, 3) := by decide +kernel
theorem dX5_gap_8 : decode cX5_gap 8 = .ok (.aload_n 0, 1) := by decide +kernel
theorem dX5_gap_9 : decode cX5_gap 9 = .ok (.iload_n 2, 1) := by decide +kernel
theorem dX5_gap_10 : decode cX5_gap 10 = .ok (.invokevirtual 111, 3) := by decide +kernel
theorem dX5_gap_13 : decode cX5_gap 13 = .ok (.ifCond .eq 17, 3) := by decide +kernel
theorem dX5_gap_16 : decode cX5_gap 16 = .ok (.iload_n 1, 1) := by decide +kernel
theorem dX5_gap_17 : decode cX5_gap 17 = .ok (.iload_n 2, 1) := by decide +kernel
theorem dX5_gap_18 : decode cX5_gap 18 = .ok (.if_icmp .eq 12, 3) := by decide +kernel
theorem dX5_gap_21 : decode cX5_gap 21 = .ok (.aload_n 0, 1) := by decide +kernel
theorem dX5_gap_22 : decode cX5_gap 22 = .ok (.iload_n 1, 1) := by decide +kernel
theorem dX5_gap_23 : decode cX5_gap 23 = .ok (.iload_n 2, 1) := by decide +kernel
theorem dX5_gap_24 : decode cX5_gap 24 = .ok (.invokevirtual 132, 3) := by decide +kernel
theorem dX5_gap_27 : decode cX5_gap 27 = .ok (.goto 9, 3) := by decide +kernel
theorem dX5_gap_30 : decode cX5_gap 30 = .ok (.aload_n 0, 1) := by decide +kernel
theorem dX5_gap_31 : decode cX5_gap 31 = .ok (.ldc 63, 2) := by decide +kernel
theorem dX5_gap_33 : decode cX5_gap 33 = .ok (.invokevirtual 69, 3) := by decide +kernel
theorem dX5_gap_36 : decode cX5_gap 36 = .ok (.ireturn, 1) := by decide +kernel
theorem dX5_edgeOf_0 : decode cX5_edgeOf 0 = .ok (.aload_n 0, 1) := by decide +kernel
theorem dX5_edgeOf_1 : decode cX5_edgeOf 1 = .ok (.iload_n 1, 1) := by decide +kernel
theorem dX5_edgeOf_2 : decode cX5_edgeOf 2 = .ok (.iload_n 2, 1) := by decide +kernel
theorem dX5_edgeOf_3 : decode cX5_edgeOf 3 = .ok (.invokevirtual 121, 3) := by decide +kernel
theorem dX5_edgeOf_6 : decode cX5_edgeOf 6 = .ok (.istore_n 3, 1) := by decide +kernel
theorem dX5_edgeOf_7 : decode cX5_edgeOf 7 = .ok (.aload_n 0, 1) := by decide +kernel
theorem dX5_edgeOf_8 : decode cX5_edgeOf 8 = .ok (.iload_n 1, 1) := by decide +kernel
theorem dX5_edgeOf_9 : decode cX5_edgeOf 9 = .ok (.iconst 0, 1) := by decide +kernel
theorem dX5_edgeOf_10 : decode cX5_edgeOf 10 = .ok (.invokevirtual 102, 3) := by decide +kernel
theorem dX5_edgeOf_13 : decode cX5_edgeOf 13 = .ok (.tableswitch 52 2 6 #[37, 37, 41, 47, 35], 35) := by decide +kernel
theorem dX5_edgeOf_48 : decode cX5_edgeOf 48 = .ok (.iconst 0, 1) := by decide +kernel
theorem dX5_edgeOf_49 : decode cX5_edgeOf 49 = .ok (.ireturn, 1) := by decide +kernel
theorem dX5_edgeOf_50 : decode cX5_edgeOf 50 = .ok (.iload_n 3, 1) := by decide +kernel
theorem dX5_edgeOf_51 : decode cX5_edgeOf 51 = .ok (.iconst 2, 1) := by decide +kernel
theorem dX5_edgeOf_52 : decode cX5_edgeOf 52 = .ok (.idiv, 1) := by decide +kernel
theorem dX5_edgeOf_53 : decode cX5_edgeOf 53 = .ok (.ireturn, 1) := by decide +kernel
theorem dX5_edgeOf_54 : decode cX5_edgeOf 54 = .ok (.iload_n 3, 1) := by decide +kernel
theorem dX5_edgeOf_55 : decode cX5_edgeOf 55 = .ok (.iconst 2, 1) := by decide +kernel
theorem dX5_edgeOf_56 : decode cX5_edgeOf 56 = .ok (.idiv, 1) := by decide +kernel
theorem dX5_edgeOf_57 : decode cX5_edgeOf 57 = .ok (.iconst 1, 1) := by decide +kernel
theorem dX5_edgeOf_58 : decode cX5_edgeOf 58 = .ok (.iadd, 1) := by decide +kernel
theorem dX5_edgeOf_59 : decode cX5_edgeOf 59 = .ok (.ireturn, 1) := by decide +kernel
theorem dX5_edgeOf_60 : decode cX5_edgeOf 60 = .ok (.bipush 9, 2) := by decide +kernel
theorem dX5_edgeOf_62 : decode cX5_edgeOf 62 = .ok (.iload_n 3, 1) := by decide +kernel
theorem dX5_edgeOf_63 : decode cX5_edgeOf 63 = .ok (.isub, 1) := by decide +kernel
theorem dX5_edgeOf_64 : decode cX5_edgeOf 64 = .ok (.ireturn, 1) := by decide +kernel
theorem dX5_edgeOf_65 : decode cX5_edgeOf 65 = .ok (.iload_n 3, 1) := by decide +kernel
theorem dX5_edgeOf_66 : decode cX5_edgeOf 66 = .ok (.ireturn, 1) := by decide +kernel
theorem dX5_edge_0 : decode cX5_edge 0 = .ok (.aload_n 0, 1) := by decide +kernel
theorem dX5_edge_1 : decode cX5_edge 1 = .ok (.iload_n 1, 1) := by decide +kernel
theorem dX5_edge_2 : decode cX5_edge 2 = .ok (.invokevirtual 111, 3) := by decide +kernel
theorem dX5_edge_5 : decode cX5_edge 5 = .ok (.ifCond .eq 21, 3) := by decide +kernel
theorem dX5_edge_8 : decode cX5_edge 8 = .ok (.iload_n 2, 1) := by decide +kernel
theorem dX5_edge_9 : decode cX5_edge 9 = .ok (.iconst 0, 1) := by decide +kernel
theorem dX5_edge_10 : decode cX5_edge 10 = .ok (.iconst 1, 1) := by decide +kernel
theorem dX5_edge_11 : decode cX5_edge 11 = .ok (.invokestatic 73, 3) := by decide +kernel
theorem dX5_edge_14 : decode cX5_edge 14 = .ok (.ifCond .eq 12, 3) := by decide +kernel
theorem dX5_edge_17 : decode cX5_edge 17 = .ok (.aload_n 0, 1) := by decide +kernel
theorem dX5_edge_18 : decode cX5_edge 18 = .ok (.iload_n 1, 1) := by decide +kernel
theorem dX5_edge_19 : decode cX5_edge 19 = .ok (.iload_n 2, 1) := by decide +kernel
theorem dX5_edge_20 : decode cX5_edge 20 = .ok (.invokevirtual 135, 3) := by decide +kernel
theorem dX5_edge_23 : decode cX5_edge 23 = .ok (.goto 9, 3) := by decide +kernel
theorem dX5_edge_26 : decode cX5_edge 26 = .ok (.aload_n 0, 1) := by decide +kernel
theorem dX5_edge_27 : decode cX5_edge 27 = .ok (.ldc 63, 2) := by decide +kernel
theorem dX5_edge_29 : decode cX5_edge 29 = .ok (.invokevirtual 69, 3) := by decide +kernel
theorem dX5_edge_32 : decode cX5_edge 32 = .ok (.ireturn, 1) := by decide +kernel
theorem dX5_sumNow_0 : decode cX5_sumNow 0 = .ok (.aload_n 0, 1) := by decide +kernel
theorem dX5_sumNow_1 : decode cX5_sumNow 1 = .ok (.getfield 9, 3) := by decide +kernel
theorem dX5_sumNow_4 : decode cX5_sumNow 4 = .ok (.iconst 1, 1) := by decide +kernel
theorem dX5_sumNow_5 : decode cX5_sumNow 5 = .ok (.iaload, 1) := by decide +kernel
theorem dX5_sumNow_6 : decode cX5_sumNow 6 = .ok (.istore_n 1, 1) := by decide +kernel
theorem dX5_sumNow_7 : decode cX5_sumNow 7 = .ok (.iload_n 1, 1) := by decide +kernel
theorem dX5_sumNow_8 : decode cX5_sumNow 8 = .ok (.ifCond .ne 7, 3) := by decide +kernel
theorem dX5_sumNow_11 : decode cX5_sumNow 11 = .ok (.iconst 0, 1) := by decide +kernel
theorem dX5_sumNow_12 : decode cX5_sumNow 12 = .ok (.goto 32, 3) := by decide +kernel
theorem dX5_sumNow_15 : decode cX5_sumNow 15 = .ok (.aload_n 0, 1) := by decide +kernel
theorem dX5_sumNow_16 : decode cX5_sumNow 16 = .ok (.aload_n 0, 1) := by decide +kernel
theorem dX5_sumNow_17 : decode cX5_sumNow 17 = .ok (.getfield 9, 3) := by decide +kernel
theorem dX5_sumNow_20 : decode cX5_sumNow 20 = .ok (.bipush 59, 2) := by decide +kernel
theorem dX5_sumNow_22 : decode cX5_sumNow 22 = .ok (.iaload, 1) := by decide +kernel
theorem dX5_sumNow_23 : decode cX5_sumNow 23 = .ok (.iconst 0, 1) := by decide +kernel
theorem dX5_sumNow_24 : decode cX5_sumNow 24 = .ok (.invokevirtual 135, 3) := by decide +kernel
theorem dX5_sumNow_27 : decode cX5_sumNow 27 = .ok (.aload_n 0, 1) := by decide +kernel
theorem dX5_sumNow_28 : decode cX5_sumNow 28 = .ok (.aload_n 0, 1) := by decide +kernel
theorem dX5_sumNow_29 : decode cX5_sumNow 29 = .ok (.getfield 9, 3) := by decide +kernel
theorem dX5_sumNow_32 : decode cX5_sumNow 32 = .ok (.bipush 59, 2) := by decide +kernel
theorem dX5_sumNow_34 : decode cX5_sumNow 34 = .ok (.iload_n 1, 1) := by decide +kernel
theorem dX5_sumNow_35 : decode cX5_sumNow 35 = .ok (.iadd, 1) := by decide +kernel
theorem dX5_sumNow_36 : decode cX5_sumNow 36 = .ok (.iconst 1, 1) := by decide +kernel
theorem dX5_sumNow_37 : decode cX5_sumNow 37 = .ok (.isub, 1) := by decide +kernel
theorem dX5_sumNow_38 : decode cX5_sumNow 38 = .ok (.iaload, 1) := by decide +kernel
theorem dX5_sumNow_39 : decode cX5_sumNow 39 = .ok (.iconst 1, 1) := by decide +kernel
theorem dX5_sumNow_40 : decode cX5_sumNow 40 = .ok (.invokevirtual 135, 3) := by decide +kernel
theorem dX5_sumNow_43 : decode cX5_sumNow 43 = .ok (.iadd, 1) := by decide +kernel
theorem dX5_sumNow_44 : decode cX5_sumNow 44 = .ok (.istore_n 2, 1) := by decide +kernel
theorem dX5_sumNow_45 : decode cX5_sumNow 45 = .ok (.iconst 1, 1) := by decide +kernel
theorem dX5_sumNow_46 : decode cX5_sumNow 46 = .ok (.istore_n 3, 1) := by decide +kernel
theorem dX5_sumNow_47 : decode cX5_sumNow 47 = .ok (.iload_n 3, 1) := by decide +kernel
theorem dX5_sumNow_48 : decode cX5_sumNow 48 = .ok (.iload_n 1, 1) := by decide +kernel
theorem dX5_sumNow_49 : decode cX5_sumNow 49 = .ok (.if_icmp .ge 36, 3) := by decide +kernel
theorem dX5_sumNow_52 : decode cX5_sumNow 52 = .ok (.iload_n 2, 1) := by decide +kernel
theorem dX5_sumNow_53 : decode cX5_sumNow 53 = .ok (.aload_n 0, 1) := by decide +kernel
theorem dX5_sumNow_54 : decode cX5_sumNow 54 = .ok (.aload_n 0, 1) := by decide +kernel
theorem dX5_sumNow_55 : decode cX5_sumNow 55 = .ok (.getfield 9, 3) := by decide +kernel
theorem dX5_sumNow_58 : decode cX5_sumNow 58 = .ok (.bipush 59, 2) := by decide +kernel
theorem dX5_sumNow_60 : decode cX5_sumNow 60 = .ok (.iload_n 3, 1) := by decide +kernel
theorem dX5_sumNow_61 : decode cX5_sumNow 61 = .ok (.iadd, 1) := by decide +kernel
theorem dX5_sumNow_62 : decode cX5_sumNow 62 = .ok (.iconst 1, 1) := by decide +kernel
theorem dX5_sumNow_63 : decode cX5_sumNow 63 = .ok (.isub, 1) := by decide +kernel
theorem dX5_sumNow_64 : decode cX5_sumNow 64 = .ok (.iaload, 1) := by decide +kernel
theorem dX5_sumNow_65 : decode cX5_sumNow 65 = .ok (.aload_n 0, 1) := by decide +kernel
theorem dX5_sumNow_66 : decode cX5_sumNow 66 = .ok (.getfield 9, 3) := by decide +kernel
theorem dX5_sumNow_69 : decode cX5_sumNow 69 = .ok (.bipush 59, 2) := by decide +kernel
theorem dX5_sumNow_71 : decode cX5_sumNow 71 = .ok (.iload_n 3, 1) := by decide +kernel
theorem dX5_sumNow_72 : decode cX5_sumNow 72 = .ok (.iadd, 1) := by decide +kernel
theorem dX5_sumNow_73 : decode cX5_sumNow 73 = .ok (.iaload, 1) := by decide +kernel
theorem dX5_sumNow_74 : decode cX5_sumNow 74 = .ok (.invokevirtual 132, 3) := by decide +kernel
theorem dX5_sumNow_77 : decode cX5_sumNow 77 = .ok (.iadd, 1) := by decide +kernel
theorem dX5_sumNow_78 : decode cX5_sumNow 78 = .ok (.istore_n 2, 1) := by decide +kernel
theorem dX5_sumNow_79 : decode cX5_sumNow 79 = .ok (.iinc 3 1, 3) := by decide +kernel
theorem dX5_sumNow_82 : decode cX5_sumNow 82 = .ok (.goto (-35), 3) := by decide +kernel
theorem dX5_sumNow_85 : decode cX5_sumNow 85 = .ok (.iload_n 2, 1) := by decide +kernel
theorem dX5_sumNow_86 : decode cX5_sumNow 86 = .ok (.ireturn, 1) := by decide +kernel
theorem dX5_exchange_0 : decode cX5_exchange 0 = .ok (.aload_n 0, 1) := by decide +kernel
theorem dX5_exchange_1 : decode cX5_exchange 1 = .ok (.getfield 9, 3) := by decide +kernel
theorem dX5_exchange_4 : decode cX5_exchange 4 = .ok (.bipush 59, 2) := by decide +kernel
theorem dX5_exchange_6 : decode cX5_exchange 6 = .ok (.iload_n 1, 1) := by decide +kernel
theorem dX5_exchange_7 : decode cX5_exchange 7 = .ok (.iadd, 1) := by decide +kernel
theorem dX5_exchange_8 : decode cX5_exchange 8 = .ok (.iaload, 1) := by decide +kernel
theorem dX5_exchange_9 : decode cX5_exchange 9 = .ok (.istore_n 3, 1) := by decide +kernel
theorem dX5_exchange_10 : decode cX5_exchange 10 = .ok (.aload_n 0, 1) := by decide +kernel
theorem dX5_exchange_11 : decode cX5_exchange 11 = .ok (.getfield 9, 3) := by decide +kernel
theorem dX5_exchange_14 : decode cX5_exchange 14 = .ok (.bipush 59, 2) := by decide +kernel
theorem dX5_exchange_16 : decode cX5_exchange 16 = .ok (.iload_n 1, 1) := by decide +kernel
theorem dX5_exchange_17 : decode cX5_exchange 17 = .ok (.iadd, 1) := by decide +kernel
theorem dX5_exchange_18 : decode cX5_exchange 18 = .ok (.aload_n 0, 1) := by decide +kernel
theorem dX5_exchange_19 : decode cX5_exchange 19 = .ok (.getfield 9, 3) := by decide +kernel
theorem dX5_exchange_22 : decode cX5_exchange 22 = .ok (.bipush 59, 2) := by decide +kernel
theorem dX5_exchange_24 : decode cX5_exchange 24 = .ok (.iload_n 2, 1) := by decide +kernel
theorem dX5_exchange_25 : decode cX5_exchange 25 = .ok (.iadd, 1) := by decide +kernel
theorem dX5_exchange_26 : decode cX5_exchange 26 = .ok (.iaload, 1) := by decide +kernel
theorem dX5_exchange_27 : decode cX5_exchange 27 = .ok (.iastore, 1) := by decide +kernel
theorem dX5_exchange_28 : decode cX5_exchange 28 = .ok (.aload_n 0, 1) := by decide +kernel
theorem dX5_exchange_29 : decode cX5_exchange 29 = .ok (.getfield 9, 3) := by decide +kernel
theorem dX5_exchange_32 : decode cX5_exchange 32 = .ok (.bipush 59, 2) := by decide +kernel
theorem dX5_exchange_34 : decode cX5_exchange 34 = .ok (.iload_n 2, 1) := by decide +kernel
theorem dX5_exchange_35 : decode cX5_exchange 35 = .ok (.iadd, 1) := by decide +kernel
theorem dX5_exchange_36 : decode cX5_exchange 36 = .ok (.iload_n 3, 1) := by decide +kernel
theorem dX5_exchange_37 : decode cX5_exchange 37 = .ok (.iastore, 1) := by decide +kernel
theorem dX5_exchange_38 : decode cX5_exchange 38 = .ok (.return_, 1) := by decide +kernel
theorem dX5_swap_0 : decode cX5_swap 0 = .ok (.aload_n 0, 1) := by decide +kernel
theorem dX5_swap_1 : decode cX5_swap 1 = .ok (.iload_n 1, 1) := by decide +kernel
theorem dX5_swap_2 : decode cX5_swap 2 = .ok (.invokevirtual 111, 3) := by decide +kernel
theorem dX5_swap_5 : decode cX5_swap 5 = .ok (.ifCond .eq 11, 3) := by decide +kernel
theorem dX5_swap_8 : decode cX5_swap 8 = .ok (.aload_n 0, 1) := by decide +kernel
theorem dX5_swap_9 : decode cX5_swap 9 = .ok (.iload_n 2, 1) := by decide +kernel
theorem dX5_swap_10 : decode cX5_swap 10 = .ok (.invokevirtual 111, 3) := by decide +kernel
theorem dX5_swap_13 : decode cX5_swap 13 = .ok (.ifCond .ne 10, 3) := by decide +kernel
theorem dX5_swap_16 : decode cX5_swap 16 = .ok (.aload_n 0, 1) := by decide +kernel
theorem dX5_swap_17 : decode cX5_swap 17 = .ok (.ldc 63, 2) := by decide +kernel
theorem dX5_swap_19 : decode cX5_swap 19 = .ok (.invokevirtual 69, 3) := by decide +kernel
theorem dX5_swap_22 : decode cX5_swap 22 = .ok (.ireturn, 1) := by decide +kernel
theorem dX5_swap_23 : decode cX5_swap 23 = .ok (.aload_n 0, 1) := by decide +kernel
theorem dX5_swap_24 : decode cX5_swap 24 = .ok (.iload_n 1, 1) := by decide +kernel
theorem dX5_swap_25 : decode cX5_swap 25 = .ok (.iload_n 2, 1) := by decide +kernel
theorem dX5_swap_26 : decode cX5_swap 26 = .ok (.invokevirtual 138, 3) := by decide +kernel
theorem dX5_swap_29 : decode cX5_swap 29 = .ok (.aload_n 0, 1) := by decide +kernel
theorem dX5_swap_30 : decode cX5_swap 30 = .ok (.invokevirtual 142, 3) := by decide +kernel
theorem dX5_swap_33 : decode cX5_swap 33 = .ok (.ireturn, 1) := by decide +kernel
theorem dX5_year_0 : decode cX5_year 0 = .ok (.aload_n 0, 1) := by decide +kernel
theorem dX5_year_1 : decode cX5_year 1 = .ok (.getfield 9, 3) := by decide +kernel
theorem dX5_year_4 : decode cX5_year 4 = .ok (.aload_n 0, 1) := by decide +kernel
theorem dX5_year_5 : decode cX5_year 5 = .ok (.invokevirtual 146, 3) := by decide +kernel
theorem dX5_year_8 : decode cX5_year 8 = .ok (.iaload, 1) := by decide +kernel
theorem dX5_year_9 : decode cX5_year 9 = .ok (.bipush 10, 2) := by decide +kernel
theorem dX5_year_11 : decode cX5_year 11 = .ok (.idiv, 1) := by decide +kernel
theorem dX5_year_12 : decode cX5_year 12 = .ok (.istore_n 1, 1) := by decide +kernel
theorem dX5_year_13 : decode cX5_year 13 = .ok (.aload_n 0, 1) := by decide +kernel
theorem dX5_year_14 : decode cX5_year 14 = .ok (.getfield 9, 3) := by decide +kernel
theorem dX5_year_17 : decode cX5_year 17 = .ok (.aload_n 0, 1) := by decide +kernel
theorem dX5_year_18 : decode cX5_year 18 = .ok (.invokevirtual 146, 3) := by decide +kernel
theorem dX5_year_21 : decode cX5_year 21 = .ok (.iaload, 1) := by decide +kernel
theorem dX5_year_22 : decode cX5_year 22 = .ok (.bipush 10, 2) := by decide +kernel
theorem dX5_year_24 : decode cX5_year 24 = .ok (.irem, 1) := by decide +kernel
theorem dX5_year_25 : decode cX5_year 25 = .ok (.istore_n 2, 1) := by decide +kernel
theorem dX5_year_26 : decode cX5_year 26 = .ok (.aload_n 0, 1) := by decide +kernel
theorem dX5_year_27 : decode cX5_year 27 = .ok (.iload_n 1, 1) := by decide +kernel
theorem dX5_year_28 : decode cX5_year 28 = .ok (.invokevirtual 111, 3) := by decide +kernel
theorem dX5_year_31 : decode cX5_year 31 = .ok (.ifCond .eq 17, 3) := by decide +kernel
theorem dX5_year_34 : decode cX5_year 34 = .ok (.aload_n 0, 1) := by decide +kernel
theorem dX5_year_35 : decode cX5_year 35 = .ok (.iload_n 2, 1) := by decide +kernel
theorem dX5_year_36 : decode cX5_year 36 = .ok (.invokevirtual 111, 3) := by decide +kernel
theorem dX5_year_39 : decode cX5_year 39 = .ok (.ifCond .eq 9, 3) := by decide +kernel
theorem dX5_year_42 : decode cX5_year 42 = .ok (.aload_n 0, 1) := by decide +kernel
theorem dX5_year_43 : decode cX5_year 43 = .ok (.iload_n 1, 1) := by decide +kernel
theorem dX5_year_44 : decode cX5_year 44 = .ok (.iload_n 2, 1) := by decide +kernel
theorem dX5_year_45 : decode cX5_year 45 = .ok (.invokevirtual 138, 3) := by decide +kernel
theorem dX5_year_48 : decode cX5_year 48 = .ok (.iconst 0, 1) := by decide +kernel
theorem dX5_year_49 : decode cX5_year 49 = .ok (.istore_n 3, 1) := by decide +kernel
theorem dX5_year_50 : decode cX5_year 50 = .ok (.iload_n 3, 1) := by decide +kernel
theorem dX5_year_51 : decode cX5_year 51 = .ok (.aload_n 0, 1) := by decide +kernel
theorem dX5_year_52 : decode cX5_year 52 = .ok (.getfield 9, 3) := by decide +kernel
theorem dX5_year_55 : decode cX5_year 55 = .ok (.iconst 1, 1) := by decide +kernel
theorem dX5_year_56 : decode cX5_year 56 = .ok (.iaload, 1) := by decide +kernel
theorem dX5_year_57 : decode cX5_year 57 = .ok (.if_icmp .ge 46, 3) := by decide +kernel
theorem dX5_year_60 : decode cX5_year 60 = .ok (.aload_n 0, 1) := by decide +kernel
theorem dX5_year_61 : decode cX5_year 61 = .ok (.getfield 9, 3) := by decide +kernel
theorem dX5_year_64 : decode cX5_year 64 = .ok (.iconst 0, 1) := by decide +kernel
theorem dX5_year_65 : decode cX5_year 65 = .ok (.iaload, 1) := by decide +kernel
theorem dX5_year_66 : decode cX5_year 66 = .ok (.iconst 3, 1) := by decide +kernel
theorem dX5_year_67 : decode cX5_year 67 = .ok (.irem, 1) := by decide +kernel
theorem dX5_year_68 : decode cX5_year 68 = .ok (.iconst 2, 1) := by decide +kernel
theorem dX5_year_69 : decode cX5_year 69 = .ok (.if_icmp .ne 34, 3) := by decide +kernel
theorem dX5_year_72 : decode cX5_year 72 = .ok (.aload_n 0, 1) := by decide +kernel
theorem dX5_year_73 : decode cX5_year 73 = .ok (.getfield 9, 3) := by decide +kernel
theorem dX5_year_76 : decode cX5_year 76 = .ok (.iload_n 3, 1) := by decide +kernel
theorem dX5_year_77 : decode cX5_year 77 = .ok (.iconst 1, 1) := by decide +kernel
theorem dX5_year_78 : decode cX5_year 78 = .ok (.invokestatic 88, 3) := by decide +kernel
theorem dX5_year_81 : decode cX5_year 81 = .ok (.aload_n 0, 1) := by decide +kernel
theorem dX5_year_82 : decode cX5_year 82 = .ok (.iload_n 3, 1) := by decide +kernel
theorem dX5_year_83 : decode cX5_year 83 = .ok (.iconst 1, 1) := by decide +kernel
theorem dX5_year_84 : decode cX5_year 84 = .ok (.invokevirtual 102, 3) := by decide +kernel
theorem dX5_year_87 : decode cX5_year 87 = .ok (.aload_n 0, 1) := by decide +kernel
theorem dX5_year_88 : decode cX5_year 88 = .ok (.iload_n 3, 1) := by decide +kernel
theorem dX5_year_89 : decode cX5_year 89 = .ok (.invokevirtual 108, 3) := by decide +kernel
theorem dX5_year_92 : decode cX5_year 92 = .ok (.iadd, 1) := by decide +kernel
theorem dX5_year_93 : decode cX5_year 93 = .ok (.bipush 10, 2) := by decide +kernel
theorem dX5_year_95 : decode cX5_year 95 = .ok (.irem, 1) := by decide +kernel
theorem dX5_year_96 : decode cX5_year 96 = .ok (.iastore, 1) := by decide +kernel
theorem dX5_year_97 : decode cX5_year 97 = .ok (.iinc 3 1, 3) := by decide +kernel
theorem dX5_year_100 : decode cX5_year 100 = .ok (.goto (-50), 3) := by decide +kernel
theorem dX5_year_103 : decode cX5_year 103 = .ok (.aload_n 0, 1) := by decide +kernel
theorem dX5_year_104 : decode cX5_year 104 = .ok (.getfield 9, 3) := by decide +kernel
theorem dX5_year_107 : decode cX5_year 107 = .ok (.iconst 0, 1) := by decide +kernel
theorem dX5_year_108 : decode cX5_year 108 = .ok (.ldc 149, 2) := by decide +kernel
theorem dX5_year_110 : decode cX5_year 110 = .ok (.aload_n 0, 1) := by decide +kernel
theorem dX5_year_111 : decode cX5_year 111 = .ok (.getfield 9, 3) := by decide +kernel
theorem dX5_year_114 : decode cX5_year 114 = .ok (.iconst 0, 1) := by decide +kernel
theorem dX5_year_115 : decode cX5_year 115 = .ok (.iaload, 1) := by decide +kernel
theorem dX5_year_116 : decode cX5_year 116 = .ok (.iconst 1, 1) := by decide +kernel
theorem dX5_year_117 : decode cX5_year 117 = .ok (.iadd, 1) := by decide +kernel
theorem dX5_year_118 : decode cX5_year 118 = .ok (.invokestatic 150, 3) := by decide +kernel
theorem dX5_year_121 : decode cX5_year 121 = .ok (.iastore, 1) := by decide +kernel
theorem dX5_year_122 : decode cX5_year 122 = .ok (.return_, 1) := by decide +kernel
theorem dX5_yearsGo_0 : decode cX5_yearsGo 0 = .ok (.iconst 0, 1) := by decide +kernel
theorem dX5_yearsGo_1 : decode cX5_yearsGo 1 = .ok (.istore_n 2, 1) := by decide +kernel
theorem dX5_yearsGo_2 : decode cX5_yearsGo 2 = .ok (.iload_n 2, 1) := by decide +kernel
theorem dX5_yearsGo_3 : decode cX5_yearsGo 3 = .ok (.iload_n 1, 1) := by decide +kernel
theorem dX5_yearsGo_4 : decode cX5_yearsGo 4 = .ok (.if_icmp .ge 13, 3) := by decide +kernel
theorem dX5_yearsGo_7 : decode cX5_yearsGo 7 = .ok (.aload_n 0, 1) := by decide +kernel
theorem dX5_yearsGo_8 : decode cX5_yearsGo 8 = .ok (.invokevirtual 153, 3) := by decide +kernel
theorem dX5_yearsGo_11 : decode cX5_yearsGo 11 = .ok (.iinc 2 1, 3) := by decide +kernel
theorem dX5_yearsGo_14 : decode cX5_yearsGo 14 = .ok (.goto (-12), 3) := by decide +kernel
theorem dX5_yearsGo_17 : decode cX5_yearsGo 17 = .ok (.return_, 1) := by decide +kernel
theorem dX5_go_0 : decode cX5_go 0 = .ok (.iload_n 1, 1) := by decide +kernel
theorem dX5_go_1 : decode cX5_go 1 = .ok (.iconst 1, 1) := by decide +kernel
theorem dX5_go_2 : decode cX5_go 2 = .ok (.bipush 60, 2) := by decide +kernel
theorem dX5_go_4 : decode cX5_go 4 = .ok (.invokestatic 73, 3) := by decide +kernel
theorem dX5_go_7 : decode cX5_go 7 = .ok (.ifCond .ne 10, 3) := by decide +kernel
theorem dX5_go_10 : decode cX5_go 10 = .ok (.aload_n 0, 1) := by decide +kernel
theorem dX5_go_11 : decode cX5_go 11 = .ok (.ldc 63, 2) := by decide +kernel
theorem dX5_go_13 : decode cX5_go 13 = .ok (.invokevirtual 69, 3) := by decide +kernel
theorem dX5_go_16 : decode cX5_go 16 = .ok (.ireturn, 1) := by decide +kernel
theorem dX5_go_17 : decode cX5_go 17 = .ok (.aload_n 0, 1) := by decide +kernel
theorem dX5_go_18 : decode cX5_go 18 = .ok (.getfield 9, 3) := by decide +kernel
theorem dX5_go_21 : decode cX5_go 21 = .ok (.iconst 0, 1) := by decide +kernel
theorem dX5_go_22 : decode cX5_go 22 = .ok (.iaload, 1) := by decide +kernel
theorem dX5_go_23 : decode cX5_go 23 = .ok (.iload_n 1, 1) := by decide +kernel
theorem dX5_go_24 : decode cX5_go 24 = .ok (.iadd, 1) := by decide +kernel
theorem dX5_go_25 : decode cX5_go 25 = .ok (.ldc 149, 2) := by decide +kernel
theorem dX5_go_27 : decode cX5_go 27 = .ok (.if_icmp .le 10, 3) := by decide +kernel
theorem dX5_go_30 : decode cX5_go 30 = .ok (.aload_n 0, 1) := by decide +kernel
theorem dX5_go_31 : decode cX5_go 31 = .ok (.ldc 156, 2) := by decide +kernel
theorem dX5_go_33 : decode cX5_go 33 = .ok (.invokevirtual 69, 3) := by decide +kernel
theorem dX5_go_36 : decode cX5_go 36 = .ok (.ireturn, 1) := by decide +kernel
theorem dX5_go_37 : decode cX5_go 37 = .ok (.aload_n 0, 1) := by decide +kernel
theorem dX5_go_38 : decode cX5_go 38 = .ok (.iload_n 1, 1) := by decide +kernel
theorem dX5_go_39 : decode cX5_go 39 = .ok (.invokevirtual 157, 3) := by decide +kernel
theorem dX5_go_42 : decode cX5_go 42 = .ok (.aload_n 0, 1) := by decide +kernel
theorem dX5_go_43 : decode cX5_go 43 = .ok (.invokevirtual 142, 3) := by decide +kernel
theorem dX5_go_46 : decode cX5_go 46 = .ok (.ireturn, 1) := by decide +kernel
theorem dX5_isGranted_0 : decode cX5_isGranted 0 = .ok (.aload_n 0, 1) := by decide +kernel
theorem dX5_isGranted_1 : decode cX5_isGranted 1 = .ok (.iload_n 1, 1) := by decide +kernel
theorem dX5_isGranted_2 : decode cX5_isGranted 2 = .ok (.invokevirtual 105, 3) := by decide +kernel
theorem dX5_isGranted_5 : decode cX5_isGranted 5 = .ok (.iconst 1, 1) := by decide +kernel
theorem dX5_isGranted_6 : decode cX5_isGranted 6 = .ok (.iadd, 1) := by decide +kernel
theorem dX5_isGranted_7 : decode cX5_isGranted 7 = .ok (.istore_n 2, 1) := by decide +kernel
theorem dX5_isGranted_8 : decode cX5_isGranted 8 = .ok (.iload_n 2, 1) := by decide +kernel
theorem dX5_isGranted_9 : decode cX5_isGranted 9 = .ok (.aload_n 0, 1) := by decide +kernel
theorem dX5_isGranted_10 : decode cX5_isGranted 10 = .ok (.getfield 9, 3) := by decide +kernel
theorem dX5_isGranted_13 : decode cX5_isGranted 13 = .ok (.iconst 1, 1) := by decide +kernel
theorem dX5_isGranted_14 : decode cX5_isGranted 14 = .ok (.iaload, 1) := by decide +kernel
theorem dX5_isGranted_15 : decode cX5_isGranted 15 = .ok (.if_icmp .ge 25, 3) := by decide +kernel
theorem dX5_isGranted_18 : decode cX5_isGranted 18 = .ok (.aload_n 0, 1) := by decide +kernel
theorem dX5_isGranted_19 : decode cX5_isGranted 19 = .ok (.getfield 9, 3) := by decide +kernel
theorem dX5_isGranted_22 : decode cX5_isGranted 22 = .ok (.bipush 59, 2) := by decide +kernel
theorem dX5_isGranted_24 : decode cX5_isGranted 24 = .ok (.iload_n 2, 1) := by decide +kernel
theorem dX5_isGranted_25 : decode cX5_isGranted 25 = .ok (.iadd, 1) := by decide +kernel
theorem dX5_isGranted_26 : decode cX5_isGranted 26 = .ok (.iaload, 1) := by decide +kernel
theorem dX5_isGranted_27 : decode cX5_isGranted 27 = .ok (.aload_n 0, 1) := by decide +kernel
theorem dX5_isGranted_28 : decode cX5_isGranted 28 = .ok (.iload_n 1, 1) := by decide +kernel
theorem dX5_isGranted_29 : decode cX5_isGranted 29 = .ok (.iconst 3, 1) := by decide +kernel
theorem dX5_isGranted_30 : decode cX5_isGranted 30 = .ok (.invokevirtual 102, 3) := by decide +kernel
theorem dX5_isGranted_33 : decode cX5_isGranted 33 = .ok (.if_icmp .ne 7, 3) := by decide +kernel
theorem dX5_isGranted_36 : decode cX5_isGranted 36 = .ok (.iconst 1, 1) := by decide +kernel
theorem dX5_isGranted_37 : decode cX5_isGranted 37 = .ok (.goto 4, 3) := by decide +kernel
theorem dX5_isGranted_40 : decode cX5_isGranted 40 = .ok (.iconst 0, 1) := by decide +kernel
theorem dX5_isGranted_41 : decode cX5_isGranted 41 = .ok (.ireturn, 1) := by decide +kernel
theorem dX5_closePlaces_0 : decode cX5_closePlaces 0 = .ok (.iconst 0, 1) := by decide +kernel
theorem dX5_closePlaces_1 : decode cX5_closePlaces 1 = .ok (.istore_n 1, 1) := by decide +kernel
theorem dX5_closePlaces_2 : decode cX5_closePlaces 2 = .ok (.iconst 1, 1) := by decide +kernel
theorem dX5_closePlaces_3 : decode cX5_closePlaces 3 = .ok (.istore_n 2, 1) := by decide +kernel
theorem dX5_closePlaces_4 : decode cX5_closePlaces 4 = .ok (.iload_n 2, 1) := by decide +kernel
theorem dX5_closePlaces_5 : decode cX5_closePlaces 5 = .ok (.aload_n 0, 1) := by decide +kernel
theorem dX5_closePlaces_6 : decode cX5_closePlaces 6 = .ok (.getfield 9, 3) := by decide +kernel
theorem dX5_closePlaces_9 : decode cX5_closePlaces 9 = .ok (.iconst 1, 1) := by decide +kernel
theorem dX5_closePlaces_10 : decode cX5_closePlaces 10 = .ok (.iaload, 1) := by decide +kernel
theorem dX5_closePlaces_11 : decode cX5_closePlaces 11 = .ok (.if_icmp .ge 48, 3) := by decide +kernel
theorem dX5_closePlaces_14 : decode cX5_closePlaces 14 = .ok (.iload_n 1, 1) := by decide +kernel
theorem dX5_closePlaces_15 : decode cX5_closePlaces 15 = .ok (.aload_n 0, 1) := by decide +kernel
theorem dX5_closePlaces_16 : decode cX5_closePlaces 16 = .ok (.aload_n 0, 1) := by decide +kernel
theorem dX5_closePlaces_17 : decode cX5_closePlaces 17 = .ok (.getfield 9, 3) := by decide +kernel
theorem dX5_closePlaces_20 : decode cX5_closePlaces 20 = .ok (.bipush 59, 2) := by decide +kernel
theorem dX5_closePlaces_22 : decode cX5_closePlaces 22 = .ok (.iload_n 2, 1) := by decide +kernel
theorem dX5_closePlaces_23 : decode cX5_closePlaces 23 = .ok (.iadd, 1) := by decide +kernel
theorem dX5_closePlaces_24 : decode cX5_closePlaces 24 = .ok (.iconst 1, 1) := by decide +kernel
theorem dX5_closePlaces_25 : decode cX5_closePlaces 25 = .ok (.isub, 1) := by decide +kernel
theorem dX5_closePlaces_26 : decode cX5_closePlaces 26 = .ok (.iaload, 1) := by decide +kernel
theorem dX5_closePlaces_27 : decode cX5_closePlaces 27 = .ok (.aload_n 0, 1) := by decide +kernel
theorem dX5_closePlaces_28 : decode cX5_closePlaces 28 = .ok (.getfield 9, 3) := by decide +kernel
theorem dX5_closePlaces_31 : decode cX5_closePlaces 31 = .ok (.bipush 59, 2) := by decide +kernel
theorem dX5_closePlaces_33 : decode cX5_closePlaces 33 = .ok (.iload_n 2, 1) := by decide +kernel
theorem dX5_closePlaces_34 : decode cX5_closePlaces 34 = .ok (.iadd, 1) := by decide +kernel
theorem dX5_closePlaces_35 : decode cX5_closePlaces 35 = .ok (.iaload, 1) := by decide +kernel
theorem dX5_closePlaces_36 : decode cX5_closePlaces 36 = .ok (.invokevirtual 132, 3) := by decide +kernel
theorem dX5_closePlaces_39 : decode cX5_closePlaces 39 = .ok (.ifCond .ne 11, 3) := by decide +kernel
theorem dX5_closePlaces_42 : decode cX5_closePlaces 42 = .ok (.iconst 1, 1) := by decide +kernel
theorem dX5_closePlaces_43 : decode cX5_closePlaces 43 = .ok (.iload_n 2, 1) := by decide +kernel
theorem dX5_closePlaces_44 : decode cX5_closePlaces 44 = .ok (.iconst 1, 1) := by decide +kernel
theorem dX5_closePlaces_45 : decode cX5_closePlaces 45 = .ok (.isub, 1) := by decide +kernel
theorem dX5_closePlaces_46 : decode cX5_closePlaces 46 = .ok (.ishl, 1) := by decide +kernel
theorem dX5_closePlaces_47 : decode cX5_closePlaces 47 = .ok (.goto 4, 3) := by decide +kernel
theorem dX5_closePlaces_50 : decode cX5_closePlaces 50 = .ok (.iconst 0, 1) := by decide +kernel
theorem dX5_closePlaces_51 : decode cX5_closePlaces 51 = .ok (.ior, 1) := by decide +kernel
theorem dX5_closePlaces_52 : decode cX5_closePlaces 52 = .ok (.istore_n 1, 1) := by decide +kernel
theorem dX5_closePlaces_53 : decode cX5_closePlaces 53 = .ok (.iinc 2 1, 3) := by decide +kernel
theorem dX5_closePlaces_56 : decode cX5_closePlaces 56 = .ok (.goto (-52), 3) := by decide +kernel
theorem dX5_closePlaces_59 : decode cX5_closePlaces 59 = .ok (.iload_n 1, 1) := by decide +kernel
theorem dX5_closePlaces_60 : decode cX5_closePlaces 60 = .ok (.ireturn, 1) := by decide +kernel
theorem dX5_grantedOnes_0 : decode cX5_grantedOnes 0 = .ok (.iconst 0, 1) := by decide +kernel
theorem dX5_grantedOnes_1 : decode cX5_grantedOnes 1 = .ok (.istore_n 1, 1) := by decide +kernel
theorem dX5_grantedOnes_2 : decode cX5_grantedOnes 2 = .ok (.iconst 0, 1) := by decide +kernel
theorem dX5_grantedOnes_3 : decode cX5_grantedOnes 3 = .ok (.istore_n 2, 1) := by decide +kernel
theorem dX5_grantedOnes_4 : decode cX5_grantedOnes 4 = .ok (.iload_n 2, 1) := by decide +kernel
theorem dX5_grantedOnes_5 : decode cX5_grantedOnes 5 = .ok (.aload_n 0, 1) := by decide +kernel
theorem dX5_grantedOnes_6 : decode cX5_grantedOnes 6 = .ok (.getfield 9, 3) := by decide +kernel
theorem dX5_grantedOnes_9 : decode cX5_grantedOnes 9 = .ok (.iconst 1, 1) := by decide +kernel
theorem dX5_grantedOnes_10 : decode cX5_grantedOnes 10 = .ok (.iaload, 1) := by decide +kernel
theorem dX5_grantedOnes_11 : decode cX5_grantedOnes 11 = .ok (.if_icmp .ge 27, 3) := by decide +kernel
theorem dX5_grantedOnes_14 : decode cX5_grantedOnes 14 = .ok (.iload_n 1, 1) := by decide +kernel
theorem dX5_grantedOnes_15 : decode cX5_grantedOnes 15 = .ok (.aload_n 0, 1) := by decide +kernel
theorem dX5_grantedOnes_16 : decode cX5_grantedOnes 16 = .ok (.iload_n 2, 1) := by decide +kernel
theorem dX5_grantedOnes_17 : decode cX5_grantedOnes 17 = .ok (.invokevirtual 161, 3) := by decide +kernel
theorem dX5_grantedOnes_20 : decode cX5_grantedOnes 20 = .ok (.ifCond .eq 9, 3) := by decide +kernel
theorem dX5_grantedOnes_23 : decode cX5_grantedOnes 23 = .ok (.iconst 1, 1) := by decide +kernel
theorem dX5_grantedOnes_24 : decode cX5_grantedOnes 24 = .ok (.iload_n 2, 1) := by decide +kernel
theorem dX5_grantedOnes_25 : decode cX5_grantedOnes 25 = .ok (.ishl, 1) := by decide +kernel
theorem dX5_grantedOnes_26 : decode cX5_grantedOnes 26 = .ok (.goto 4, 3) := by decide +kernel
theorem dX5_grantedOnes_29 : decode cX5_grantedOnes 29 = .ok (.iconst 0, 1) := by decide +kernel
theorem dX5_grantedOnes_30 : decode cX5_grantedOnes 30 = .ok (.ior, 1) := by decide +kernel
theorem dX5_grantedOnes_31 : decode cX5_grantedOnes 31 = .ok (.istore_n 1, 1) := by decide +kernel
theorem dX5_grantedOnes_32 : decode cX5_grantedOnes 32 = .ok (.iinc 2 1, 3) := by decide +kernel
theorem dX5_grantedOnes_35 : decode cX5_grantedOnes 35 = .ok (.goto (-31), 3) := by decide +kernel
theorem dX5_grantedOnes_38 : decode cX5_grantedOnes 38 = .ok (.iload_n 1, 1) := by decide +kernel
theorem dX5_grantedOnes_39 : decode cX5_grantedOnes 39 = .ok (.ireturn, 1) := by decide +kernel
theorem dX5_widestGap_0 : decode cX5_widestGap 0 = .ok (.iconst 0, 1) := by decide +kernel
theorem dX5_widestGap_1 : decode cX5_widestGap 1 = .ok (.istore_n 1, 1) := by decide +kernel
theorem dX5_widestGap_2 : decode cX5_widestGap 2 = .ok (.iconst 1, 1) := by decide +kernel
theorem dX5_widestGap_3 : decode cX5_widestGap 3 = .ok (.istore_n 2, 1) := by decide +kernel
theorem dX5_widestGap_4 : decode cX5_widestGap 4 = .ok (.iload_n 2, 1) := by decide +kernel
theorem dX5_widestGap_5 : decode cX5_widestGap 5 = .ok (.aload_n 0, 1) := by decide +kernel
theorem dX5_widestGap_6 : decode cX5_widestGap 6 = .ok (.getfield 9, 3) := by decide +kernel
theorem dX5_widestGap_9 : decode cX5_widestGap 9 = .ok (.iconst 1, 1) := by decide +kernel
theorem dX5_widestGap_10 : decode cX5_widestGap 10 = .ok (.iaload, 1) := by decide +kernel
theorem dX5_widestGap_11 : decode cX5_widestGap 11 = .ok (.if_icmp .ge 38, 3) := by decide +kernel
theorem dX5_widestGap_14 : decode cX5_widestGap 14 = .ok (.iload_n 1, 1) := by decide +kernel
theorem dX5_widestGap_15 : decode cX5_widestGap 15 = .ok (.aload_n 0, 1) := by decide +kernel
theorem dX5_widestGap_16 : decode cX5_widestGap 16 = .ok (.aload_n 0, 1) := by decide +kernel
theorem dX5_widestGap_17 : decode cX5_widestGap 17 = .ok (.getfield 9, 3) := by decide +kernel
theorem dX5_widestGap_20 : decode cX5_widestGap 20 = .ok (.bipush 59, 2) := by decide +kernel
theorem dX5_widestGap_22 : decode cX5_widestGap 22 = .ok (.iload_n 2, 1) := by decide +kernel
theorem dX5_widestGap_23 : decode cX5_widestGap 23 = .ok (.iadd, 1) := by decide +kernel
theorem dX5_widestGap_24 : decode cX5_widestGap 24 = .ok (.iconst 1, 1) := by decide +kernel
theorem dX5_widestGap_25 : decode cX5_widestGap 25 = .ok (.isub, 1) := by decide +kernel
theorem dX5_widestGap_26 : decode cX5_widestGap 26 = .ok (.iaload, 1) := by decide +kernel
theorem dX5_widestGap_27 : decode cX5_widestGap 27 = .ok (.aload_n 0, 1) := by decide +kernel
theorem dX5_widestGap_28 : decode cX5_widestGap 28 = .ok (.getfield 9, 3) := by decide +kernel
theorem dX5_widestGap_31 : decode cX5_widestGap 31 = .ok (.bipush 59, 2) := by decide +kernel
theorem dX5_widestGap_33 : decode cX5_widestGap 33 = .ok (.iload_n 2, 1) := by decide +kernel
theorem dX5_widestGap_34 : decode cX5_widestGap 34 = .ok (.iadd, 1) := by decide +kernel
theorem dX5_widestGap_35 : decode cX5_widestGap 35 = .ok (.iaload, 1) := by decide +kernel
theorem dX5_widestGap_36 : decode cX5_widestGap 36 = .ok (.invokevirtual 132, 3) := by decide +kernel
theorem dX5_widestGap_39 : decode cX5_widestGap 39 = .ok (.invokestatic 164, 3) := by decide +kernel
theorem dX5_widestGap_42 : decode cX5_widestGap 42 = .ok (.istore_n 1, 1) := by decide +kernel
theorem dX5_widestGap_43 : decode cX5_widestGap 43 = .ok (.iinc 2 1, 3) := by decide +kernel
theorem dX5_widestGap_46 : decode cX5_widestGap 46 = .ok (.goto (-42), 3) := by decide +kernel
theorem dX5_widestGap_49 : decode cX5_widestGap 49 = .ok (.iload_n 1, 1) := by decide +kernel
theorem dX5_widestGap_50 : decode cX5_widestGap 50 = .ok (.ireturn, 1) := by decide +kernel
theorem dX5_turnedOnes_0 : decode cX5_turnedOnes 0 = .ok (.iconst 0, 1) := by decide +kernel
theorem dX5_turnedOnes_1 : decode cX5_turnedOnes 1 = .ok (.istore_n 1, 1) := by decide +kernel
theorem dX5_turnedOnes_2 : decode cX5_turnedOnes 2 = .ok (.iconst 0, 1) := by decide +kernel
theorem dX5_turnedOnes_3 : decode cX5_turnedOnes 3 = .ok (.istore_n 2, 1) := by decide +kernel
theorem dX5_turnedOnes_4 : decode cX5_turnedOnes 4 = .ok (.iload_n 2, 1) := by decide +kernel
theorem dX5_turnedOnes_5 : decode cX5_turnedOnes 5 = .ok (.aload_n 0, 1) := by decide +kernel
theorem dX5_turnedOnes_6 : decode cX5_turnedOnes 6 = .ok (.getfield 9, 3) := by decide +kernel
theorem dX5_turnedOnes_9 : decode cX5_turnedOnes 9 = .ok (.iconst 1, 1) := by decide +kernel
theorem dX5_turnedOnes_10 : decode cX5_turnedOnes 10 = .ok (.iaload, 1) := by decide +kernel
theorem dX5_turnedOnes_11 : decode cX5_turnedOnes 11 = .ok (.if_icmp .ge 20, 3) := by decide +kernel
theorem dX5_turnedOnes_14 : decode cX5_turnedOnes 14 = .ok (.iload_n 1, 1) := by decide +kernel
theorem dX5_turnedOnes_15 : decode cX5_turnedOnes 15 = .ok (.aload_n 0, 1) := by decide +kernel
theorem dX5_turnedOnes_16 : decode cX5_turnedOnes 16 = .ok (.iload_n 2, 1) := by decide +kernel
theorem dX5_turnedOnes_17 : decode cX5_turnedOnes 17 = .ok (.iconst 4, 1) := by decide +kernel
theorem dX5_turnedOnes_18 : decode cX5_turnedOnes 18 = .ok (.invokevirtual 102, 3) := by decide +kernel
theorem dX5_turnedOnes_21 : decode cX5_turnedOnes 21 = .ok (.iload_n 2, 1) := by decide +kernel
theorem dX5_turnedOnes_22 : decode cX5_turnedOnes 22 = .ok (.ishl, 1) := by decide +kernel
theorem dX5_turnedOnes_23 : decode cX5_turnedOnes 23 = .ok (.ior, 1) := by decide +kernel
theorem dX5_turnedOnes_24 : decode cX5_turnedOnes 24 = .ok (.istore_n 1, 1) := by decide +kernel
theorem dX5_turnedOnes_25 : decode cX5_turnedOnes 25 = .ok (.iinc 2 1, 3) := by decide +kernel
theorem dX5_turnedOnes_28 : decode cX5_turnedOnes 28 = .ok (.goto (-24), 3) := by decide +kernel
theorem dX5_turnedOnes_31 : decode cX5_turnedOnes 31 = .ok (.iload_n 1, 1) := by decide +kernel
theorem dX5_turnedOnes_32 : decode cX5_turnedOnes 32 = .ok (.ireturn, 1) := by decide +kernel
theorem dX5_now_0 : decode cX5_now 0 = .ok (.iload_n 1, 1) := by decide +kernel
theorem dX5_now_1 : decode cX5_now 1 = .ok (.tableswitch 102 0 7 #[47, 54, 59, 64, 69, 74, 79, 89], 47) := by decide +kernel
theorem dX5_now_48 : decode cX5_now 48 = .ok (.aload_n 0, 1) := by decide +kernel
theorem dX5_now_49 : decode cX5_now 49 = .ok (.getfield 9, 3) := by decide +kernel
theorem dX5_now_52 : decode cX5_now 52 = .ok (.iconst 0, 1) := by decide +kernel
theorem dX5_now_53 : decode cX5_now 53 = .ok (.iaload, 1) := by decide +kernel
theorem dX5_now_54 : decode cX5_now 54 = .ok (.ireturn, 1) := by decide +kernel
theorem dX5_now_55 : decode cX5_now 55 = .ok (.aload_n 0, 1) := by decide +kernel
theorem dX5_now_56 : decode cX5_now 56 = .ok (.invokevirtual 142, 3) := by decide +kernel
theorem dX5_now_59 : decode cX5_now 59 = .ok (.ireturn, 1) := by decide +kernel
theorem dX5_now_60 : decode cX5_now 60 = .ok (.aload_n 0, 1) := by decide +kernel
theorem dX5_now_61 : decode cX5_now 61 = .ok (.invokevirtual 167, 3) := by decide +kernel
theorem dX5_now_64 : decode cX5_now 64 = .ok (.ireturn, 1) := by decide +kernel
theorem dX5_now_65 : decode cX5_now 65 = .ok (.aload_n 0, 1) := by decide +kernel
theorem dX5_now_66 : decode cX5_now 66 = .ok (.invokevirtual 170, 3) := by decide +kernel
theorem dX5_now_69 : decode cX5_now 69 = .ok (.ireturn, 1) := by decide +kernel
theorem dX5_now_70 : decode cX5_now 70 = .ok (.aload_n 0, 1) := by decide +kernel
theorem dX5_now_71 : decode cX5_now 71 = .ok (.invokevirtual 173, 3) := by decide +kernel
theorem dX5_now_74 : decode cX5_now 74 = .ok (.ireturn, 1) := by decide +kernel
theorem dX5_now_75 : decode cX5_now 75 = .ok (.aload_n 0, 1) := by decide +kernel
theorem dX5_now_76 : decode cX5_now 76 = .ok (.invokevirtual 176, 3) := by decide +kernel
theorem dX5_now_79 : decode cX5_now 79 = .ok (.ireturn, 1) := by decide +kernel
theorem dX5_now_80 : decode cX5_now 80 = .ok (.aload_n 0, 1) := by decide +kernel
theorem dX5_now_81 : decode cX5_now 81 = .ok (.invokevirtual 142, 3) := by decide +kernel
theorem dX5_now_84 : decode cX5_now 84 = .ok (.aload_n 0, 1) := by decide +kernel
theorem dX5_now_85 : decode cX5_now 85 = .ok (.invokevirtual 179, 3) := by decide +kernel
theorem dX5_now_88 : decode cX5_now 88 = .ok (.isub, 1) := by decide +kernel
theorem dX5_now_89 : decode cX5_now 89 = .ok (.ireturn, 1) := by decide +kernel
theorem dX5_now_90 : decode cX5_now 90 = .ok (.aload_n 0, 1) := by decide +kernel
theorem dX5_now_91 : decode cX5_now 91 = .ok (.invokevirtual 182, 3) := by decide +kernel
theorem dX5_now_94 : decode cX5_now 94 = .ok (.ifCond .ge 7, 3) := by decide +kernel
theorem dX5_now_97 : decode cX5_now 97 = .ok (.iconst 1, 1) := by decide +kernel
theorem dX5_now_98 : decode cX5_now 98 = .ok (.goto 4, 3) := by decide +kernel
theorem dX5_now_101 : decode cX5_now 101 = .ok (.iconst 0, 1) := by decide +kernel
theorem dX5_now_102 : decode cX5_now 102 = .ok (.ireturn, 1) := by decide +kernel
theorem dX5_now_103 : decode cX5_now 103 = .ok (.aload_n 0, 1) := by decide +kernel
theorem dX5_now_104 : decode cX5_now 104 = .ok (.ldc 63, 2) := by decide +kernel
theorem dX5_now_106 : decode cX5_now 106 = .ok (.invokevirtual 69, 3) := by decide +kernel
theorem dX5_now_109 : decode cX5_now 109 = .ok (.ireturn, 1) := by decide +kernel
theorem dX5_ahead_0 : decode cX5_ahead 0 = .ok (.aload_n 0, 1) := by decide +kernel
theorem dX5_ahead_1 : decode cX5_ahead 1 = .ok (.iload_n 1, 1) := by decide +kernel
theorem dX5_ahead_2 : decode cX5_ahead 2 = .ok (.invokevirtual 111, 3) := by decide +kernel
theorem dX5_ahead_5 : decode cX5_ahead 5 = .ok (.ifCond .eq 23, 3) := by decide +kernel
theorem dX5_ahead_8 : decode cX5_ahead 8 = .ok (.iload_n 2, 1) := by decide +kernel
theorem dX5_ahead_9 : decode cX5_ahead 9 = .ok (.iconst 1, 1) := by decide +kernel
theorem dX5_ahead_10 : decode cX5_ahead 10 = .ok (.if_icmp .eq 8, 3) := by decide +kernel
theorem dX5_ahead_13 : decode cX5_ahead 13 = .ok (.iload_n 2, 1) := by decide +kernel
theorem dX5_ahead_14 : decode cX5_ahead 14 = .ok (.iconst 5, 1) := by decide +kernel
theorem dX5_ahead_15 : decode cX5_ahead 15 = .ok (.if_icmp .ne 13, 3) := by decide +kernel
theorem dX5_ahead_18 : decode cX5_ahead 18 = .ok (.iload_n 3, 1) := by decide +kernel
theorem dX5_ahead_19 : decode cX5_ahead 19 = .ok (.iconst 0, 1) := by decide +kernel
theorem dX5_ahead_20 : decode cX5_ahead 20 = .ok (.bipush 100, 2) := by decide +kernel
theorem dX5_ahead_22 : decode cX5_ahead 22 = .ok (.invokestatic 73, 3) := by decide +kernel
theorem dX5_ahead_25 : decode cX5_ahead 25 = .ok (.ifCond .ne 10, 3) := by decide +kernel
theorem dX5_ahead_28 : decode cX5_ahead 28 = .ok (.aload_n 0, 1) := by decide +kernel
theorem dX5_ahead_29 : decode cX5_ahead 29 = .ok (.ldc 63, 2) := by decide +kernel
theorem dX5_ahead_31 : decode cX5_ahead 31 = .ok (.invokevirtual 69, 3) := by decide +kernel
theorem dX5_ahead_34 : decode cX5_ahead 34 = .ok (.ireturn, 1) := by decide +kernel
theorem dX5_ahead_35 : decode cX5_ahead 35 = .ok (.aload_n 0, 1) := by decide +kernel
theorem dX5_ahead_36 : decode cX5_ahead 36 = .ok (.getfield 9, 3) := by decide +kernel
theorem dX5_ahead_39 : decode cX5_ahead 39 = .ok (.aload_n 0, 1) := by decide +kernel
theorem dX5_ahead_40 : decode cX5_ahead 40 = .ok (.getfield 16, 3) := by decide +kernel
theorem dX5_ahead_43 : decode cX5_ahead 43 = .ok (.invokestatic 64, 3) := by decide +kernel
theorem dX5_ahead_46 : decode cX5_ahead 46 = .ok (.aload_n 0, 1) := by decide +kernel
theorem dX5_ahead_47 : decode cX5_ahead 47 = .ok (.iload_n 3, 1) := by decide +kernel
theorem dX5_ahead_48 : decode cX5_ahead 48 = .ok (.invokevirtual 157, 3) := by decide +kernel
theorem dX5_ahead_51 : decode cX5_ahead 51 = .ok (.aload_n 0, 1) := by decide +kernel
theorem dX5_ahead_52 : decode cX5_ahead 52 = .ok (.aload_n 0, 1) := by decide +kernel
theorem dX5_ahead_53 : decode cX5_ahead 53 = .ok (.iload_n 1, 1) := by decide +kernel
theorem dX5_ahead_54 : decode cX5_ahead 54 = .ok (.iload_n 2, 1) := by decide +kernel
theorem dX5_ahead_55 : decode cX5_ahead 55 = .ok (.invokevirtual 114, 3) := by decide +kernel
theorem dX5_ahead_58 : decode cX5_ahead 58 = .ok (.invokevirtual 185, 3) := by decide +kernel
theorem dX5_ahead_61 : decode cX5_ahead 61 = .ok (.ireturn, 1) := by decide +kernel
theorem dX5_sum_0 : decode cX5_sum 0 = .ok (.iload_n 1, 1) := by decide +kernel
theorem dX5_sum_1 : decode cX5_sum 1 = .ok (.iconst 0, 1) := by decide +kernel
theorem dX5_sum_2 : decode cX5_sum 2 = .ok (.bipush 100, 2) := by decide +kernel
theorem dX5_sum_4 : decode cX5_sum 4 = .ok (.invokestatic 73, 3) := by decide +kernel
theorem dX5_sum_7 : decode cX5_sum 7 = .ok (.ifCond .ne 10, 3) := by decide +kernel
theorem dX5_sum_10 : decode cX5_sum 10 = .ok (.aload_n 0, 1) := by decide +kernel
theorem dX5_sum_11 : decode cX5_sum 11 = .ok (.ldc 63, 2) := by decide +kernel
theorem dX5_sum_13 : decode cX5_sum 13 = .ok (.invokevirtual 69, 3) := by decide +kernel
theorem dX5_sum_16 : decode cX5_sum 16 = .ok (.ireturn, 1) := by decide +kernel
theorem dX5_sum_17 : decode cX5_sum 17 = .ok (.aload_n 0, 1) := by decide +kernel
theorem dX5_sum_18 : decode cX5_sum 18 = .ok (.getfield 9, 3) := by decide +kernel
theorem dX5_sum_21 : decode cX5_sum 21 = .ok (.aload_n 0, 1) := by decide +kernel
theorem dX5_sum_22 : decode cX5_sum 22 = .ok (.getfield 16, 3) := by decide +kernel
theorem dX5_sum_25 : decode cX5_sum 25 = .ok (.invokestatic 64, 3) := by decide +kernel
theorem dX5_sum_28 : decode cX5_sum 28 = .ok (.aload_n 0, 1) := by decide +kernel
theorem dX5_sum_29 : decode cX5_sum 29 = .ok (.iload_n 1, 1) := by decide +kernel
theorem dX5_sum_30 : decode cX5_sum 30 = .ok (.invokevirtual 157, 3) := by decide +kernel
theorem dX5_sum_33 : decode cX5_sum 33 = .ok (.aload_n 0, 1) := by decide +kernel
theorem dX5_sum_34 : decode cX5_sum 34 = .ok (.aload_n 0, 1) := by decide +kernel
theorem dX5_sum_35 : decode cX5_sum 35 = .ok (.invokevirtual 142, 3) := by decide +kernel
theorem dX5_sum_38 : decode cX5_sum 38 = .ok (.invokevirtual 185, 3) := by decide +kernel
theorem dX5_sum_41 : decode cX5_sum 41 = .ok (.ireturn, 1) := by decide +kernel
theorem dX5_when_0 : decode cX5_when 0 = .ok (.iload_n 1, 1) := by decide +kernel
theorem dX5_when_1 : decode cX5_when 1 = .ok (.iconst 0, 1) := by decide +kernel
theorem dX5_when_2 : decode cX5_when 2 = .ok (.sipush 999, 3) := by decide +kernel
theorem dX5_when_5 : decode cX5_when 5 = .ok (.invokestatic 73, 3) := by decide +kernel
theorem dX5_when_8 : decode cX5_when 8 = .ok (.ifCond .ne 10, 3) := by decide +kernel
theorem dX5_when_11 : decode cX5_when 11 = .ok (.aload_n 0, 1) := by decide +kernel
theorem dX5_when_12 : decode cX5_when 12 = .ok (.ldc 63, 2) := by decide +kernel
theorem dX5_when_14 : decode cX5_when 14 = .ok (.invokevirtual 69, 3) := by decide +kernel
theorem dX5_when_17 : decode cX5_when 17 = .ok (.ireturn, 1) := by decide +kernel
theorem dX5_when_18 : decode cX5_when 18 = .ok (.aload_n 0, 1) := by decide +kernel
theorem dX5_when_19 : decode cX5_when 19 = .ok (.getfield 9, 3) := by decide +kernel
theorem dX5_when_22 : decode cX5_when 22 = .ok (.aload_n 0, 1) := by decide +kernel
theorem dX5_when_23 : decode cX5_when 23 = .ok (.getfield 16, 3) := by decide +kernel
theorem dX5_when_26 : decode cX5_when 26 = .ok (.invokestatic 64, 3) := by decide +kernel
theorem dX5_when_29 : decode cX5_when 29 = .ok (.iconst 0, 1) := by decide +kernel
theorem dX5_when_30 : decode cX5_when 30 = .ok (.istore_n 2, 1) := by decide +kernel
theorem dX5_when_31 : decode cX5_when 31 = .ok (.iload_n 2, 1) := by decide +kernel
theorem dX5_when_32 : decode cX5_when 32 = .ok (.sipush 200, 3) := by decide +kernel
theorem dX5_when_35 : decode cX5_when 35 = .ok (.if_icmp .ge 21, 3) := by decide +kernel
theorem dX5_when_38 : decode cX5_when 38 = .ok (.aload_n 0, 1) := by decide +kernel
theorem dX5_when_39 : decode cX5_when 39 = .ok (.invokevirtual 142, 3) := by decide +kernel
theorem dX5_when_42 : decode cX5_when 42 = .ok (.iload_n 1, 1) := by decide +kernel
theorem dX5_when_43 : decode cX5_when 43 = .ok (.if_icmp .le 13, 3) := by decide +kernel
theorem dX5_when_46 : decode cX5_when 46 = .ok (.aload_n 0, 1) := by decide +kernel
theorem dX5_when_47 : decode cX5_when 47 = .ok (.invokevirtual 153, 3) := by decide +kernel
theorem dX5_when_50 : decode cX5_when 50 = .ok (.iinc 2 1, 3) := by decide +kernel
theorem dX5_when_53 : decode cX5_when 53 = .ok (.goto (-22), 3) := by decide +kernel
theorem dX5_when_56 : decode cX5_when 56 = .ok (.aload_n 0, 1) := by decide +kernel
theorem dX5_when_57 : decode cX5_when 57 = .ok (.aload_n 0, 1) := by decide +kernel
theorem dX5_when_58 : decode cX5_when 58 = .ok (.aload_n 0, 1) := by decide +kernel
theorem dX5_when_59 : decode cX5_when 59 = .ok (.invokevirtual 142, 3) := by decide +kernel
theorem dX5_when_62 : decode cX5_when 62 = .ok (.iload_n 1, 1) := by decide +kernel
theorem dX5_when_63 : decode cX5_when 63 = .ok (.if_icmp .le 7, 3) := by decide +kernel
theorem dX5_when_66 : decode cX5_when 66 = .ok (.iconst (-1), 1) := by decide +kernel
theorem dX5_when_67 : decode cX5_when 67 = .ok (.goto 4, 3) := by decide +kernel
theorem dX5_when_70 : decode cX5_when 70 = .ok (.iload_n 2, 1) := by decide +kernel
theorem dX5_when_71 : decode cX5_when 71 = .ok (.invokevirtual 185, 3) := by decide +kernel
theorem dX5_when_74 : decode cX5_when 74 = .ok (.invokevirtual 188, 3) := by decide +kernel
theorem dX5_when_77 : decode cX5_when 77 = .ok (.ireturn, 1) := by decide +kernel
theorem dX5_comes_0 : decode cX5_comes 0 = .ok (.aload_n 0, 1) := by decide +kernel
theorem dX5_comes_1 : decode cX5_comes 1 = .ok (.iload_n 1, 1) := by decide +kernel
theorem dX5_comes_2 : decode cX5_comes 2 = .ok (.invokevirtual 111, 3) := by decide +kernel
theorem dX5_comes_5 : decode cX5_comes 5 = .ok (.ifCond .eq 10, 3) := by decide +kernel
theorem dX5_comes_8 : decode cX5_comes 8 = .ok (.iload_n 2, 1) := by decide +kernel
theorem dX5_comes_9 : decode cX5_comes 9 = .ok (.invokestatic 81, 3) := by decide +kernel
theorem dX5_comes_12 : decode cX5_comes 12 = .ok (.ifCond .ne 10, 3) := by decide +kernel
theorem dX5_comes_15 : decode cX5_comes 15 = .ok (.aload_n 0, 1) := by decide +kernel
theorem dX5_comes_16 : decode cX5_comes 16 = .ok (.ldc 63, 2) := by decide +kernel
theorem dX5_comes_18 : decode cX5_comes 18 = .ok (.invokevirtual 69, 3) := by decide +kernel
theorem dX5_comes_21 : decode cX5_comes 21 = .ok (.ireturn, 1) := by decide +kernel
theorem dX5_comes_22 : decode cX5_comes 22 = .ok (.aload_n 0, 1) := by decide +kernel
theorem dX5_comes_23 : decode cX5_comes 23 = .ok (.getfield 9, 3) := by decide +kernel
theorem dX5_comes_26 : decode cX5_comes 26 = .ok (.aload_n 0, 1) := by decide +kernel
theorem dX5_comes_27 : decode cX5_comes 27 = .ok (.getfield 16, 3) := by decide +kernel
theorem dX5_comes_30 : decode cX5_comes 30 = .ok (.invokestatic 64, 3) := by decide +kernel
theorem dX5_comes_33 : decode cX5_comes 33 = .ok (.iconst 0, 1) := by decide +kernel
theorem dX5_comes_34 : decode cX5_comes 34 = .ok (.istore_n 3, 1) := by decide +kernel
theorem dX5_comes_35 : decode cX5_comes 35 = .ok (.iload_n 3, 1) := by decide +kernel
theorem dX5_comes_36 : decode cX5_comes 36 = .ok (.sipush 200, 3) := by decide +kernel
theorem dX5_comes_39 : decode cX5_comes 39 = .ok (.if_icmp .ge 22, 3) := by decide +kernel
theorem dX5_comes_42 : decode cX5_comes 42 = .ok (.aload_n 0, 1) := by decide +kernel
theorem dX5_comes_43 : decode cX5_comes 43 = .ok (.iload_n 1, 1) := by decide +kernel
theorem dX5_comes_44 : decode cX5_comes 44 = .ok (.invokevirtual 105, 3) := by decide +kernel
theorem dX5_comes_47 : decode cX5_comes 47 = .ok (.iload_n 2, 1) := by decide +kernel
theorem dX5_comes_48 : decode cX5_comes 48 = .ok (.if_icmp .eq 13, 3) := by decide +kernel
theorem dX5_comes_51 : decode cX5_comes 51 = .ok (.aload_n 0, 1) := by decide +kernel
theorem dX5_comes_52 : decode cX5_comes 52 = .ok (.invokevirtual 153, 3) := by decide +kernel
theorem dX5_comes_55 : decode cX5_comes 55 = .ok (.iinc 3 1, 3) := by decide +kernel
theorem dX5_comes_58 : decode cX5_comes 58 = .ok (.goto (-23), 3) := by decide +kernel
theorem dX5_comes_61 : decode cX5_comes 61 = .ok (.aload_n 0, 1) := by decide +kernel
theorem dX5_comes_62 : decode cX5_comes 62 = .ok (.aload_n 0, 1) := by decide +kernel
theorem dX5_comes_63 : decode cX5_comes 63 = .ok (.aload_n 0, 1) := by decide +kernel
theorem dX5_comes_64 : decode cX5_comes 64 = .ok (.iload_n 1, 1) := by decide +kernel
theorem dX5_comes_65 : decode cX5_comes 65 = .ok (.invokevirtual 105, 3) := by decide +kernel
theorem dX5_comes_68 : decode cX5_comes 68 = .ok (.iload_n 2, 1) := by decide +kernel
theorem dX5_comes_69 : decode cX5_comes 69 = .ok (.if_icmp .ne 7, 3) := by decide +kernel
theorem dX5_comes_72 : decode cX5_comes 72 = .ok (.iload_n 3, 1) := by decide +kernel
theorem dX5_comes_73 : decode cX5_comes 73 = .ok (.goto 4, 3) := by decide +kernel
theorem dX5_comes_76 : decode cX5_comes 76 = .ok (.iconst (-1), 1) := by decide +kernel
theorem dX5_comes_77 : decode cX5_comes 77 = .ok (.invokevirtual 185, 3) := by decide +kernel
theorem dX5_comes_80 : decode cX5_comes 80 = .ok (.invokevirtual 188, 3) := by decide +kernel
theorem dX5_comes_83 : decode cX5_comes 83 = .ok (.ireturn, 1) := by decide +kernel
theorem dX5_granted_0 : decode cX5_granted 0 = .ok (.aload_n 0, 1) := by decide +kernel
theorem dX5_granted_1 : decode cX5_granted 1 = .ok (.iload_n 1, 1) := by decide +kernel
theorem dX5_granted_2 : decode cX5_granted 2 = .ok (.invokevirtual 111, 3) := by decide +kernel
theorem dX5_granted_5 : decode cX5_granted 5 = .ok (.ifCond .ne 10, 3) := by decide +kernel
theorem dX5_granted_8 : decode cX5_granted 8 = .ok (.aload_n 0, 1) := by decide +kernel
theorem dX5_granted_9 : decode cX5_granted 9 = .ok (.ldc 63, 2) := by decide +kernel
theorem dX5_granted_11 : decode cX5_granted 11 = .ok (.invokevirtual 69, 3) := by decide +kernel
theorem dX5_granted_14 : decode cX5_granted 14 = .ok (.ireturn, 1) := by decide +kernel
theorem dX5_granted_15 : decode cX5_granted 15 = .ok (.aload_n 0, 1) := by decide +kernel
theorem dX5_granted_16 : decode cX5_granted 16 = .ok (.getfield 9, 3) := by decide +kernel
theorem dX5_granted_19 : decode cX5_granted 19 = .ok (.aload_n 0, 1) := by decide +kernel
theorem dX5_granted_20 : decode cX5_granted 20 = .ok (.getfield 16, 3) := by decide +kernel
theorem dX5_granted_23 : decode cX5_granted 23 = .ok (.invokestatic 64, 3) := by decide +kernel
theorem dX5_granted_26 : decode cX5_granted 26 = .ok (.iconst 0, 1) := by decide +kernel
theorem dX5_granted_27 : decode cX5_granted 27 = .ok (.istore_n 2, 1) := by decide +kernel
theorem dX5_granted_28 : decode cX5_granted 28 = .ok (.iload_n 2, 1) := by decide +kernel
theorem dX5_granted_29 : decode cX5_granted 29 = .ok (.sipush 200, 3) := by decide +kernel
theorem dX5_granted_32 : decode cX5_granted 32 = .ok (.if_icmp .ge 21, 3) := by decide +kernel
theorem dX5_granted_35 : decode cX5_granted 35 = .ok (.aload_n 0, 1) := by decide +kernel
theorem dX5_granted_36 : decode cX5_granted 36 = .ok (.iload_n 1, 1) := by decide +kernel
theorem dX5_granted_37 : decode cX5_granted 37 = .ok (.invokevirtual 161, 3) := by decide +kernel
theorem dX5_granted_40 : decode cX5_granted 40 = .ok (.ifCond .ne 13, 3) := by decide +kernel
theorem dX5_granted_43 : decode cX5_granted 43 = .ok (.aload_n 0, 1) := by decide +kernel
theorem dX5_granted_44 : decode cX5_granted 44 = .ok (.invokevirtual 153, 3) := by decide +kernel
theorem dX5_granted_47 : decode cX5_granted 47 = .ok (.iinc 2 1, 3) := by decide +kernel
theorem dX5_granted_50 : decode cX5_granted 50 = .ok (.goto (-22), 3) := by decide +kernel
theorem dX5_granted_53 : decode cX5_granted 53 = .ok (.aload_n 0, 1) := by decide +kernel
theorem dX5_granted_54 : decode cX5_granted 54 = .ok (.aload_n 0, 1) := by decide +kernel
theorem dX5_granted_55 : decode cX5_granted 55 = .ok (.aload_n 0, 1) := by decide +kernel
theorem dX5_granted_56 : decode cX5_granted 56 = .ok (.iload_n 1, 1) := by decide +kernel
theorem dX5_granted_57 : decode cX5_granted 57 = .ok (.invokevirtual 161, 3) := by decide +kernel
theorem dX5_granted_60 : decode cX5_granted 60 = .ok (.ifCond .eq 7, 3) := by decide +kernel
theorem dX5_granted_63 : decode cX5_granted 63 = .ok (.iload_n 2, 1) := by decide +kernel
theorem dX5_granted_64 : decode cX5_granted 64 = .ok (.goto 4, 3) := by decide +kernel
theorem dX5_granted_67 : decode cX5_granted 67 = .ok (.iconst (-1), 1) := by decide +kernel
theorem dX5_granted_68 : decode cX5_granted 68 = .ok (.invokevirtual 185, 3) := by decide +kernel
theorem dX5_granted_71 : decode cX5_granted 71 = .ok (.invokevirtual 188, 3) := by decide +kernel
theorem dX5_granted_74 : decode cX5_granted 74 = .ok (.ireturn, 1) := by decide +kernel
theorem dX5_leastRest_0 : decode cX5_leastRest 0 = .ok (.iload_n 1, 1) := by decide +kernel
theorem dX5_leastRest_1 : decode cX5_leastRest 1 = .ok (.iconst 1, 1) := by decide +kernel
theorem dX5_leastRest_2 : decode cX5_leastRest 2 = .ok (.iload_n 2, 1) := by decide +kernel
theorem dX5_leastRest_3 : decode cX5_leastRest 3 = .ok (.ishl, 1) := by decide +kernel
theorem dX5_leastRest_4 : decode cX5_leastRest 4 = .ok (.iconst (-1), 1) := by decide +kernel
theorem dX5_leastRest_5 : decode cX5_leastRest 5 = .ok (.ixor, 1) := by decide +kernel
theorem dX5_leastRest_6 : decode cX5_leastRest 6 = .ok (.iand, 1) := by decide +kernel
theorem dX5_leastRest_7 : decode cX5_leastRest 7 = .ok (.istore_n 3, 1) := by decide +kernel
theorem dX5_leastRest_8 : decode cX5_leastRest 8 = .ok (.iload_n 3, 1) := by decide +kernel
theorem dX5_leastRest_9 : decode cX5_leastRest 9 = .ok (.ifCond .ne 10, 3) := by decide +kernel
theorem dX5_leastRest_12 : decode cX5_leastRest 12 = .ok (.aload_n 0, 1) := by decide +kernel
theorem dX5_leastRest_13 : decode cX5_leastRest 13 = .ok (.iload_n 2, 1) := by decide +kernel
theorem dX5_leastRest_14 : decode cX5_leastRest 14 = .ok (.iconst 1, 1) := by decide +kernel
theorem dX5_leastRest_15 : decode cX5_leastRest 15 = .ok (.invokevirtual 135, 3) := by decide +kernel
theorem dX5_leastRest_18 : decode cX5_leastRest 18 = .ok (.ireturn, 1) := by decide +kernel
theorem dX5_leastRest_19 : decode cX5_leastRest 19 = .ok (.ldc 191, 2) := by decide +kernel
theorem dX5_leastRest_21 : decode cX5_leastRest 21 = .ok (.istore 4, 2) := by decide +kernel
theorem dX5_leastRest_23 : decode cX5_leastRest 23 = .ok (.iconst 0, 1) := by decide +kernel
theorem dX5_leastRest_24 : decode cX5_leastRest 24 = .ok (.istore 5, 2) := by decide +kernel
theorem dX5_leastRest_26 : decode cX5_leastRest 26 = .ok (.iload 5, 2) := by decide +kernel
theorem dX5_leastRest_28 : decode cX5_leastRest 28 = .ok (.aload_n 0, 1) := by decide +kernel
theorem dX5_leastRest_29 : decode cX5_leastRest 29 = .ok (.getfield 9, 3) := by decide +kernel
theorem dX5_leastRest_32 : decode cX5_leastRest 32 = .ok (.iconst 1, 1) := by decide +kernel
theorem dX5_leastRest_33 : decode cX5_leastRest 33 = .ok (.iaload, 1) := by decide +kernel
theorem dX5_leastRest_34 : decode cX5_leastRest 34 = .ok (.if_icmp .ge 46, 3) := by decide +kernel
theorem dX5_leastRest_37 : decode cX5_leastRest 37 = .ok (.iload_n 3, 1) := by decide +kernel
theorem dX5_leastRest_38 : decode cX5_leastRest 38 = .ok (.iload 5, 2) := by decide +kernel
theorem dX5_leastRest_40 : decode cX5_leastRest 40 = .ok (.ishr, 1) := by decide +kernel
theorem dX5_leastRest_41 : decode cX5_leastRest 41 = .ok (.iconst 1, 1) := by decide +kernel
theorem dX5_leastRest_42 : decode cX5_leastRest 42 = .ok (.iand, 1) := by decide +kernel
theorem dX5_leastRest_43 : decode cX5_leastRest 43 = .ok (.iconst 1, 1) := by decide +kernel
theorem dX5_leastRest_44 : decode cX5_leastRest 44 = .ok (.if_icmp .ne 30, 3) := by decide +kernel
theorem dX5_leastRest_47 : decode cX5_leastRest 47 = .ok (.iload 4, 2) := by decide +kernel
theorem dX5_leastRest_49 : decode cX5_leastRest 49 = .ok (.aload_n 0, 1) := by decide +kernel
theorem dX5_leastRest_50 : decode cX5_leastRest 50 = .ok (.iload_n 2, 1) := by decide +kernel
theorem dX5_leastRest_51 : decode cX5_leastRest 51 = .ok (.iload 5, 2) := by decide +kernel
theorem dX5_leastRest_53 : decode cX5_leastRest 53 = .ok (.invokevirtual 132, 3) := by decide +kernel
theorem dX5_leastRest_56 : decode cX5_leastRest 56 = .ok (.aload_n 0, 1) := by decide +kernel
theorem dX5_leastRest_57 : decode cX5_leastRest 57 = .ok (.getfield 22, 3) := by decide +kernel
theorem dX5_leastRest_60 : decode cX5_leastRest 60 = .ok (.bipush 8, 2) := by decide +kernel
theorem dX5_leastRest_62 : decode cX5_leastRest 62 = .ok (.iload_n 3, 1) := by decide +kernel
theorem dX5_leastRest_63 : decode cX5_leastRest 63 = .ok (.imul, 1) := by decide +kernel
theorem dX5_leastRest_64 : decode cX5_leastRest 64 = .ok (.iload 5, 2) := by decide +kernel
theorem dX5_leastRest_66 : decode cX5_leastRest 66 = .ok (.iadd, 1) := by decide +kernel
theorem dX5_leastRest_67 : decode cX5_leastRest 67 = .ok (.iaload, 1) := by decide +kernel
theorem dX5_leastRest_68 : decode cX5_leastRest 68 = .ok (.iadd, 1) := by decide +kernel
theorem dX5_leastRest_69 : decode cX5_leastRest 69 = .ok (.invokestatic 150, 3) := by decide +kernel
theorem dX5_leastRest_72 : decode cX5_leastRest 72 = .ok (.istore 4, 2) := by decide +kernel
theorem dX5_leastRest_74 : decode cX5_leastRest 74 = .ok (.iinc 5 1, 3) := by decide +kernel
theorem dX5_leastRest_77 : decode cX5_leastRest 77 = .ok (.goto (-51), 3) := by decide +kernel
theorem dX5_leastRest_80 : decode cX5_leastRest 80 = .ok (.iload 4, 2) := by decide +kernel
theorem dX5_leastRest_82 : decode cX5_leastRest 82 = .ok (.ireturn, 1) := by decide +kernel
theorem dX5_isTabled_0 : decode cX5_isTabled 0 = .ok (.iconst 1, 1) := by decide +kernel
theorem dX5_isTabled_1 : decode cX5_isTabled 1 = .ok (.istore_n 1, 1) := by decide +kernel
theorem dX5_isTabled_2 : decode cX5_isTabled 2 = .ok (.iload_n 1, 1) := by decide +kernel
theorem dX5_isTabled_3 : decode cX5_isTabled 3 = .ok (.iconst 1, 1) := by decide +kernel
theorem dX5_isTabled_4 : decode cX5_isTabled 4 = .ok (.aload_n 0, 1) := by decide +kernel
theorem dX5_isTabled_5 : decode cX5_isTabled 5 = .ok (.getfield 9, 3) := by decide +kernel
theorem dX5_isTabled_8 : decode cX5_isTabled 8 = .ok (.iconst 1, 1) := by decide +kernel
theorem dX5_isTabled_9 : decode cX5_isTabled 9 = .ok (.iaload, 1) := by decide +kernel
theorem dX5_isTabled_10 : decode cX5_isTabled 10 = .ok (.ishl, 1) := by decide +kernel
theorem dX5_isTabled_11 : decode cX5_isTabled 11 = .ok (.if_icmp .ge 53, 3) := by decide +kernel
theorem dX5_isTabled_14 : decode cX5_isTabled 14 = .ok (.iconst 0, 1) := by decide +kernel
theorem dX5_isTabled_15 : decode cX5_isTabled 15 = .ok (.istore_n 2, 1) := by decide +kernel
theorem dX5_isTabled_16 : decode cX5_isTabled 16 = .ok (.iload_n 2, 1) := by decide +kernel
theorem dX5_isTabled_17 : decode cX5_isTabled 17 = .ok (.aload_n 0, 1) := by decide +kernel
theorem dX5_isTabled_18 : decode cX5_isTabled 18 = .ok (.getfield 9, 3) := by decide +kernel
theorem dX5_isTabled_21 : decode cX5_isTabled 21 = .ok (.iconst 1, 1) := by decide +kernel
theorem dX5_isTabled_22 : decode cX5_isTabled 22 = .ok (.iaload, 1) := by decide +kernel
theorem dX5_isTabled_23 : decode cX5_isTabled 23 = .ok (.if_icmp .ge 35, 3) := by decide +kernel
theorem dX5_isTabled_26 : decode cX5_isTabled 26 = .ok (.iload_n 1, 1) := by decide +kernel
theorem dX5_isTabled_27 : decode cX5_isTabled 27 = .ok (.iload_n 2, 1) := by decide +kernel
theorem dX5_isTabled_28 : decode cX5_isTabled 28 = .ok (.ishr, 1) := by decide +kernel
theorem dX5_isTabled_29 : decode cX5_isTabled 29 = .ok (.iconst 1, 1) := by decide +kernel
theorem dX5_isTabled_30 : decode cX5_isTabled 30 = .ok (.iand, 1) := by decide +kernel
theorem dX5_isTabled_31 : decode cX5_isTabled 31 = .ok (.iconst 1, 1) := by decide +kernel
theorem dX5_isTabled_32 : decode cX5_isTabled 32 = .ok (.if_icmp .ne 20, 3) := by decide +kernel
theorem dX5_isTabled_35 : decode cX5_isTabled 35 = .ok (.aload_n 0, 1) := by decide +kernel
theorem dX5_isTabled_36 : decode cX5_isTabled 36 = .ok (.getfield 22, 3) := by decide +kernel
theorem dX5_isTabled_39 : decode cX5_isTabled 39 = .ok (.bipush 8, 2) := by decide +kernel
theorem dX5_isTabled_41 : decode cX5_isTabled 41 = .ok (.iload_n 1, 1) := by decide +kernel
theorem dX5_isTabled_42 : decode cX5_isTabled 42 = .ok (.imul, 1) := by decide +kernel
theorem dX5_isTabled_43 : decode cX5_isTabled 43 = .ok (.iload_n 2, 1) := by decide +kernel
theorem dX5_isTabled_44 : decode cX5_isTabled 44 = .ok (.iadd, 1) := by decide +kernel
theorem dX5_isTabled_45 : decode cX5_isTabled 45 = .ok (.aload_n 0, 1) := by decide +kernel
theorem dX5_isTabled_46 : decode cX5_isTabled 46 = .ok (.iload_n 1, 1) := by decide +kernel
theorem dX5_isTabled_47 : decode cX5_isTabled 47 = .ok (.iload_n 2, 1) := by decide +kernel
theorem dX5_isTabled_48 : decode cX5_isTabled 48 = .ok (.invokevirtual 192, 3) := by decide +kernel
theorem dX5_isTabled_51 : decode cX5_isTabled 51 = .ok (.iastore, 1) := by decide +kernel
theorem dX5_isTabled_52 : decode cX5_isTabled 52 = .ok (.iinc 2 1, 3) := by decide +kernel
theorem dX5_isTabled_55 : decode cX5_isTabled 55 = .ok (.goto (-39), 3) := by decide +kernel
theorem dX5_isTabled_58 : decode cX5_isTabled 58 = .ok (.iinc 1 1, 3) := by decide +kernel
theorem dX5_isTabled_61 : decode cX5_isTabled 61 = .ok (.goto (-59), 3) := by decide +kernel
theorem dX5_isTabled_64 : decode cX5_isTabled 64 = .ok (.return_, 1) := by decide +kernel
theorem dX5_bestNext_0 : decode cX5_bestNext 0 = .ok (.iconst (-1), 1) := by decide +kernel
theorem dX5_bestNext_1 : decode cX5_bestNext 1 = .ok (.istore_n 3, 1) := by decide +kernel
theorem dX5_bestNext_2 : decode cX5_bestNext 2 = .ok (.ldc 191, 2) := by decide +kernel
theorem dX5_bestNext_4 : decode cX5_bestNext 4 = .ok (.istore 4, 2) := by decide +kernel
theorem dX5_bestNext_6 : decode cX5_bestNext 6 = .ok (.iconst 0, 1) := by decide +kernel
theorem dX5_bestNext_7 : decode cX5_bestNext 7 = .ok (.istore 5, 2) := by decide +kernel
theorem dX5_bestNext_9 : decode cX5_bestNext 9 = .ok (.iload 5, 2) := by decide +kernel
theorem dX5_bestNext_11 : decode cX5_bestNext 11 = .ok (.aload_n 0, 1) := by decide +kernel
theorem dX5_bestNext_12 : decode cX5_bestNext 12 = .ok (.getfield 9, 3) := by decide +kernel
theorem dX5_bestNext_15 : decode cX5_bestNext 15 = .ok (.iconst 1, 1) := by decide +kernel
theorem dX5_bestNext_16 : decode cX5_bestNext 16 = .ok (.iaload, 1) := by decide +kernel
theorem dX5_bestNext_17 : decode cX5_bestNext 17 = .ok (.if_icmp .ge 69, 3) := by decide +kernel
theorem dX5_bestNext_20 : decode cX5_bestNext 20 = .ok (.iload_n 1, 1) := by decide +kernel
theorem dX5_bestNext_21 : decode cX5_bestNext 21 = .ok (.iload 5, 2) := by decide +kernel
theorem dX5_bestNext_23 : decode cX5_bestNext 23 = .ok (.ishr, 1) := by decide +kernel
theorem dX5_bestNext_24 : decode cX5_bestNext 24 = .ok (.iconst 1, 1) := by decide +kernel
theorem dX5_bestNext_25 : decode cX5_bestNext 25 = .ok (.iand, 1) := by decide +kernel
theorem dX5_bestNext_26 : decode cX5_bestNext 26 = .ok (.iconst 1, 1) := by decide +kernel
theorem dX5_bestNext_27 : decode cX5_bestNext 27 = .ok (.if_icmp .ne 53, 3) := by decide +kernel
theorem dX5_bestNext_30 : decode cX5_bestNext 30 = .ok (.aload_n 0, 1) := by decide +kernel
theorem dX5_bestNext_31 : decode cX5_bestNext 31 = .ok (.getfield 22, 3) := by decide +kernel
theorem dX5_bestNext_34 : decode cX5_bestNext 34 = .ok (.bipush 8, 2) := by decide +kernel
theorem dX5_bestNext_36 : decode cX5_bestNext 36 = .ok (.iload_n 1, 1) := by decide +kernel
theorem dX5_bestNext_37 : decode cX5_bestNext 37 = .ok (.imul, 1) := by decide +kernel
theorem dX5_bestNext_38 : decode cX5_bestNext 38 = .ok (.iload 5, 2) := by decide +kernel
theorem dX5_bestNext_40 : decode cX5_bestNext 40 = .ok (.iadd, 1) := by decide +kernel
theorem dX5_bestNext_41 : decode cX5_bestNext 41 = .ok (.iaload, 1) := by decide +kernel
theorem dX5_bestNext_42 : decode cX5_bestNext 42 = .ok (.iload_n 2, 1) := by decide +kernel
theorem dX5_bestNext_43 : decode cX5_bestNext 43 = .ok (.ifCond .ge 13, 3) := by decide +kernel
theorem dX5_bestNext_46 : decode cX5_bestNext 46 = .ok (.aload_n 0, 1) := by decide +kernel
theorem dX5_bestNext_47 : decode cX5_bestNext 47 = .ok (.iload 5, 2) := by decide +kernel
theorem dX5_bestNext_49 : decode cX5_bestNext 49 = .ok (.iconst 0, 1) := by decide +kernel
theorem dX5_bestNext_50 : decode cX5_bestNext 50 = .ok (.invokevirtual 135, 3) := by decide +kernel
theorem dX5_bestNext_53 : decode cX5_bestNext 53 = .ok (.goto 10, 3) := by decide +kernel
theorem dX5_bestNext_56 : decode cX5_bestNext 56 = .ok (.aload_n 0, 1) := by decide +kernel
theorem dX5_bestNext_57 : decode cX5_bestNext 57 = .ok (.iload_n 2, 1) := by decide +kernel
theorem dX5_bestNext_58 : decode cX5_bestNext 58 = .ok (.iload 5, 2) := by decide +kernel
theorem dX5_bestNext_60 : decode cX5_bestNext 60 = .ok (.invokevirtual 132, 3) := by decide +kernel
theorem dX5_bestNext_63 : decode cX5_bestNext 63 = .ok (.iadd, 1) := by decide +kernel
theorem dX5_bestNext_64 : decode cX5_bestNext 64 = .ok (.istore 6, 2) := by decide +kernel
theorem dX5_bestNext_66 : decode cX5_bestNext 66 = .ok (.iload 6, 2) := by decide +kernel
theorem dX5_bestNext_68 : decode cX5_bestNext 68 = .ok (.iload 4, 2) := by decide +kernel
theorem dX5_bestNext_70 : decode cX5_bestNext 70 = .ok (.if_icmp .ge 10, 3) := by decide +kernel
theorem dX5_bestNext_73 : decode cX5_bestNext 73 = .ok (.iload 5, 2) := by decide +kernel
theorem dX5_bestNext_75 : decode cX5_bestNext 75 = .ok (.istore_n 3, 1) := by decide +kernel
theorem dX5_bestNext_76 : decode cX5_bestNext 76 = .ok (.iload 6, 2) := by decide +kernel
theorem dX5_bestNext_78 : decode cX5_bestNext 78 = .ok (.istore 4, 2) := by decide +kernel
theorem dX5_bestNext_80 : decode cX5_bestNext 80 = .ok (.iinc 5 1, 3) := by decide +kernel
theorem dX5_bestNext_83 : decode cX5_bestNext 83 = .ok (.goto (-74), 3) := by decide +kernel
theorem dX5_bestNext_86 : decode cX5_bestNext 86 = .ok (.iload_n 3, 1) := by decide +kernel
theorem dX5_bestNext_87 : decode cX5_bestNext 87 = .ok (.ireturn, 1) := by decide +kernel
theorem dX5_everything_0 : decode cX5_everything 0 = .ok (.iconst 1, 1) := by decide +kernel
theorem dX5_everything_1 : decode cX5_everything 1 = .ok (.aload_n 0, 1) := by decide +kernel
theorem dX5_everything_2 : decode cX5_everything 2 = .ok (.getfield 9, 3) := by decide +kernel
theorem dX5_everything_5 : decode cX5_everything 5 = .ok (.iconst 1, 1) := by decide +kernel
theorem dX5_everything_6 : decode cX5_everything 6 = .ok (.iaload, 1) := by decide +kernel
theorem dX5_everything_7 : decode cX5_everything 7 = .ok (.ishl, 1) := by decide +kernel
theorem dX5_everything_8 : decode cX5_everything 8 = .ok (.iconst 1, 1) := by decide +kernel
theorem dX5_everything_9 : decode cX5_everything 9 = .ok (.isub, 1) := by decide +kernel
theorem dX5_everything_10 : decode cX5_everything 10 = .ok (.ireturn, 1) := by decide +kernel
theorem dX5_bestSum_0 : decode cX5_bestSum 0 = .ok (.aload_n 0, 1) := by decide +kernel
theorem dX5_bestSum_1 : decode cX5_bestSum 1 = .ok (.getfield 9, 3) := by decide +kernel
theorem dX5_bestSum_4 : decode cX5_bestSum 4 = .ok (.iconst 1, 1) := by decide +kernel
theorem dX5_bestSum_5 : decode cX5_bestSum 5 = .ok (.iaload, 1) := by decide +kernel
theorem dX5_bestSum_6 : decode cX5_bestSum 6 = .ok (.ifCond .ne 5, 3) := by decide +kernel
theorem dX5_bestSum_9 : decode cX5_bestSum 9 = .ok (.iconst 0, 1) := by decide +kernel
theorem dX5_bestSum_10 : decode cX5_bestSum 10 = .ok (.ireturn, 1) := by decide +kernel
theorem dX5_bestSum_11 : decode cX5_bestSum 11 = .ok (.aload_n 0, 1) := by decide +kernel
theorem dX5_bestSum_12 : decode cX5_bestSum 12 = .ok (.invokevirtual 195, 3) := by decide +kernel
theorem dX5_bestSum_15 : decode cX5_bestSum 15 = .ok (.aload_n 0, 1) := by decide +kernel
theorem dX5_bestSum_16 : decode cX5_bestSum 16 = .ok (.aload_n 0, 1) := by decide +kernel
theorem dX5_bestSum_17 : decode cX5_bestSum 17 = .ok (.invokevirtual 198, 3) := by decide +kernel
theorem dX5_bestSum_20 : decode cX5_bestSum 20 = .ok (.iconst (-1), 1) := by decide +kernel
theorem dX5_bestSum_21 : decode cX5_bestSum 21 = .ok (.invokevirtual 201, 3) := by decide +kernel
theorem dX5_bestSum_24 : decode cX5_bestSum 24 = .ok (.istore_n 1, 1) := by decide +kernel
theorem dX5_bestSum_25 : decode cX5_bestSum 25 = .ok (.aload_n 0, 1) := by decide +kernel
theorem dX5_bestSum_26 : decode cX5_bestSum 26 = .ok (.iload_n 1, 1) := by decide +kernel
theorem dX5_bestSum_27 : decode cX5_bestSum 27 = .ok (.iconst 0, 1) := by decide +kernel
theorem dX5_bestSum_28 : decode cX5_bestSum 28 = .ok (.invokevirtual 135, 3) := by decide +kernel
theorem dX5_bestSum_31 : decode cX5_bestSum 31 = .ok (.aload_n 0, 1) := by decide +kernel
theorem dX5_bestSum_32 : decode cX5_bestSum 32 = .ok (.getfield 22, 3) := by decide +kernel
theorem dX5_bestSum_35 : decode cX5_bestSum 35 = .ok (.bipush 8, 2) := by decide +kernel
theorem dX5_bestSum_37 : decode cX5_bestSum 37 = .ok (.aload_n 0, 1) := by decide +kernel
theorem dX5_bestSum_38 : decode cX5_bestSum 38 = .ok (.invokevirtual 198, 3) := by decide +kernel
theorem dX5_bestSum_41 : decode cX5_bestSum 41 = .ok (.imul, 1) := by decide +kernel
theorem dX5_bestSum_42 : decode cX5_bestSum 42 = .ok (.iload_n 1, 1) := by decide +kernel
theorem dX5_bestSum_43 : decode cX5_bestSum 43 = .ok (.iadd, 1) := by decide +kernel
theorem dX5_bestSum_44 : decode cX5_bestSum 44 = .ok (.iaload, 1) := by decide +kernel
theorem dX5_bestSum_45 : decode cX5_bestSum 45 = .ok (.iadd, 1) := by decide +kernel
theorem dX5_bestSum_46 : decode cX5_bestSum 46 = .ok (.ireturn, 1) := by decide +kernel
theorem dX5_best_0 : decode cX5_best 0 = .ok (.aload_n 0, 1) := by decide +kernel
theorem dX5_best_1 : decode cX5_best 1 = .ok (.invokevirtual 179, 3) := by decide +kernel
theorem dX5_best_4 : decode cX5_best 4 = .ok (.ireturn, 1) := by decide +kernel
theorem dX5_bestAt_0 : decode cX5_bestAt 0 = .ok (.aload_n 0, 1) := by decide +kernel
theorem dX5_bestAt_1 : decode cX5_bestAt 1 = .ok (.iload_n 1, 1) := by decide +kernel
theorem dX5_bestAt_2 : decode cX5_bestAt 2 = .ok (.invokevirtual 111, 3) := by decide +kernel
theorem dX5_bestAt_5 : decode cX5_bestAt 5 = .ok (.ifCond .ne 10, 3) := by decide +kernel
theorem dX5_bestAt_8 : decode cX5_bestAt 8 = .ok (.aload_n 0, 1) := by decide +kernel
theorem dX5_bestAt_9 : decode cX5_bestAt 9 = .ok (.ldc 63, 2) := by decide +kernel
theorem dX5_bestAt_11 : decode cX5_bestAt 11 = .ok (.invokevirtual 69, 3) := by decide +kernel
theorem dX5_bestAt_14 : decode cX5_bestAt 14 = .ok (.ireturn, 1) := by decide +kernel
theorem dX5_bestAt_15 : decode cX5_bestAt 15 = .ok (.aload_n 0, 1) := by decide +kernel
theorem dX5_bestAt_16 : decode cX5_bestAt 16 = .ok (.invokevirtual 195, 3) := by decide +kernel
theorem dX5_bestAt_19 : decode cX5_bestAt 19 = .ok (.aload_n 0, 1) := by decide +kernel
theorem dX5_bestAt_20 : decode cX5_bestAt 20 = .ok (.invokevirtual 198, 3) := by decide +kernel
theorem dX5_bestAt_23 : decode cX5_bestAt 23 = .ok (.istore_n 2, 1) := by decide +kernel
theorem dX5_bestAt_24 : decode cX5_bestAt 24 = .ok (.iconst (-1), 1) := by decide +kernel
theorem dX5_bestAt_25 : decode cX5_bestAt 25 = .ok (.istore_n 3, 1) := by decide +kernel
theorem dX5_bestAt_26 : decode cX5_bestAt 26 = .ok (.iconst 0, 1) := by decide +kernel
theorem dX5_bestAt_27 : decode cX5_bestAt 27 = .ok (.istore 4, 2) := by decide +kernel
theorem dX5_bestAt_29 : decode cX5_bestAt 29 = .ok (.iload 4, 2) := by decide +kernel
theorem dX5_bestAt_31 : decode cX5_bestAt 31 = .ok (.iload_n 1, 1) := by decide +kernel
theorem dX5_bestAt_32 : decode cX5_bestAt 32 = .ok (.if_icmp .gt 24, 3) := by decide +kernel
theorem dX5_bestAt_35 : decode cX5_bestAt 35 = .ok (.aload_n 0, 1) := by decide +kernel
theorem dX5_bestAt_36 : decode cX5_bestAt 36 = .ok (.iload_n 2, 1) := by decide +kernel
theorem dX5_bestAt_37 : decode cX5_bestAt 37 = .ok (.iload_n 3, 1) := by decide +kernel
theorem dX5_bestAt_38 : decode cX5_bestAt 38 = .ok (.invokevirtual 201, 3) := by decide +kernel
theorem dX5_bestAt_41 : decode cX5_bestAt 41 = .ok (.istore_n 3, 1) := by decide +kernel
theorem dX5_bestAt_42 : decode cX5_bestAt 42 = .ok (.iload_n 2, 1) := by decide +kernel
theorem dX5_bestAt_43 : decode cX5_bestAt 43 = .ok (.iconst 1, 1) := by decide +kernel
theorem dX5_bestAt_44 : decode cX5_bestAt 44 = .ok (.iload_n 3, 1) := by decide +kernel
theorem dX5_bestAt_45 : decode cX5_bestAt 45 = .ok (.ishl, 1) := by decide +kernel
theorem dX5_bestAt_46 : decode cX5_bestAt 46 = .ok (.iconst (-1), 1) := by decide +kernel
theorem dX5_bestAt_47 : decode cX5_bestAt 47 = .ok (.ixor, 1) := by decide +kernel
theorem dX5_bestAt_48 : decode cX5_bestAt 48 = .ok (.iand, 1) := by decide +kernel
theorem dX5_bestAt_49 : decode cX5_bestAt 49 = .ok (.istore_n 2, 1) := by decide +kernel
theorem dX5_bestAt_50 : decode cX5_bestAt 50 = .ok (.iinc 4 1, 3) := by decide +kernel
theorem dX5_bestAt_53 : decode cX5_bestAt 53 = .ok (.goto (-24), 3) := by decide +kernel
theorem dX5_bestAt_56 : decode cX5_bestAt 56 = .ok (.iload_n 3, 1) := by decide +kernel
theorem dX5_bestAt_57 : decode cX5_bestAt 57 = .ok (.ireturn, 1) := by decide +kernel
theorem dX5_betterSwap_0 : decode cX5_betterSwap 0 = .ok (.aload_n 0, 1) := by decide +kernel
theorem dX5_betterSwap_1 : decode cX5_betterSwap 1 = .ok (.invokevirtual 142, 3) := by decide +kernel
theorem dX5_betterSwap_4 : decode cX5_betterSwap 4 = .ok (.istore_n 1, 1) := by decide +kernel
theorem dX5_betterSwap_5 : decode cX5_betterSwap 5 = .ok (.iconst (-1), 1) := by decide +kernel
theorem dX5_betterSwap_6 : decode cX5_betterSwap 6 = .ok (.istore_n 2, 1) := by decide +kernel
theorem dX5_betterSwap_7 : decode cX5_betterSwap 7 = .ok (.iconst 0, 1) := by decide +kernel
theorem dX5_betterSwap_8 : decode cX5_betterSwap 8 = .ok (.istore_n 3, 1) := by decide +kernel
theorem dX5_betterSwap_9 : decode cX5_betterSwap 9 = .ok (.iload_n 3, 1) := by decide +kernel
theorem dX5_betterSwap_10 : decode cX5_betterSwap 10 = .ok (.aload_n 0, 1) := by decide +kernel
theorem dX5_betterSwap_11 : decode cX5_betterSwap 11 = .ok (.getfield 9, 3) := by decide +kernel
theorem dX5_betterSwap_14 : decode cX5_betterSwap 14 = .ok (.iconst 1, 1) := by decide +kernel
theorem dX5_betterSwap_15 : decode cX5_betterSwap 15 = .ok (.iaload, 1) := by decide +kernel
theorem dX5_betterSwap_16 : decode cX5_betterSwap 16 = .ok (.if_icmp .ge 68, 3) := by decide +kernel
theorem dX5_betterSwap_19 : decode cX5_betterSwap 19 = .ok (.iload_n 3, 1) := by decide +kernel
theorem dX5_betterSwap_20 : decode cX5_betterSwap 20 = .ok (.iconst 1, 1) := by decide +kernel
theorem dX5_betterSwap_21 : decode cX5_betterSwap 21 = .ok (.iadd, 1) := by decide +kernel
theorem dX5_betterSwap_22 : decode cX5_betterSwap 22 = .ok (.istore 4, 2) := by decide +kernel
theorem dX5_betterSwap_24 : decode cX5_betterSwap 24 = .ok (.iload 4, 2) := by decide +kernel
theorem dX5_betterSwap_26 : decode cX5_betterSwap 26 = .ok (.aload_n 0, 1) := by decide +kernel
theorem dX5_betterSwap_27 : decode cX5_betterSwap 27 = .ok (.getfield 9, 3) := by decide +kernel
theorem dX5_betterSwap_30 : decode cX5_betterSwap 30 = .ok (.iconst 1, 1) := by decide +kernel
theorem dX5_betterSwap_31 : decode cX5_betterSwap 31 = .ok (.iaload, 1) := by decide +kernel
theorem dX5_betterSwap_32 : decode cX5_betterSwap 32 = .ok (.if_icmp .ge 46, 3) := by decide +kernel
theorem dX5_betterSwap_35 : decode cX5_betterSwap 35 = .ok (.aload_n 0, 1) := by decide +kernel
theorem dX5_betterSwap_36 : decode cX5_betterSwap 36 = .ok (.iload_n 3, 1) := by decide +kernel
theorem dX5_betterSwap_37 : decode cX5_betterSwap 37 = .ok (.iload 4, 2) := by decide +kernel
theorem dX5_betterSwap_39 : decode cX5_betterSwap 39 = .ok (.invokevirtual 138, 3) := by decide +kernel
theorem dX5_betterSwap_42 : decode cX5_betterSwap 42 = .ok (.aload_n 0, 1) := by decide +kernel
theorem dX5_betterSwap_43 : decode cX5_betterSwap 43 = .ok (.invokevirtual 142, 3) := by decide +kernel
theorem dX5_betterSwap_46 : decode cX5_betterSwap 46 = .ok (.istore 5, 2) := by decide +kernel
theorem dX5_betterSwap_48 : decode cX5_betterSwap 48 = .ok (.aload_n 0, 1) := by decide +kernel
theorem dX5_betterSwap_49 : decode cX5_betterSwap 49 = .ok (.iload_n 3, 1) := by decide +kernel
theorem dX5_betterSwap_50 : decode cX5_betterSwap 50 = .ok (.iload 4, 2) := by decide +kernel
theorem dX5_betterSwap_52 : decode cX5_betterSwap 52 = .ok (.invokevirtual 138, 3) := by decide +kernel
theorem dX5_betterSwap_55 : decode cX5_betterSwap 55 = .ok (.iload 5, 2) := by decide +kernel
theorem dX5_betterSwap_57 : decode cX5_betterSwap 57 = .ok (.iload_n 1, 1) := by decide +kernel
theorem dX5_betterSwap_58 : decode cX5_betterSwap 58 = .ok (.if_icmp .ge 14, 3) := by decide +kernel
theorem dX5_betterSwap_61 : decode cX5_betterSwap 61 = .ok (.bipush 8, 2) := by decide +kernel
theorem dX5_betterSwap_63 : decode cX5_betterSwap 63 = .ok (.iload_n 3, 1) := by decide +kernel
theorem dX5_betterSwap_64 : decode cX5_betterSwap 64 = .ok (.imul, 1) := by decide +kernel
theorem dX5_betterSwap_65 : decode cX5_betterSwap 65 = .ok (.iload 4, 2) := by decide +kernel
theorem dX5_betterSwap_67 : decode cX5_betterSwap 67 = .ok (.iadd, 1) := by decide +kernel
theorem dX5_betterSwap_68 : decode cX5_betterSwap 68 = .ok (.istore_n 2, 1) := by decide +kernel
theorem dX5_betterSwap_69 : decode cX5_betterSwap 69 = .ok (.iload 5, 2) := by decide +kernel
theorem dX5_betterSwap_71 : decode cX5_betterSwap 71 = .ok (.istore_n 1, 1) := by decide +kernel
theorem dX5_betterSwap_72 : decode cX5_betterSwap 72 = .ok (.iinc 4 1, 3) := by decide +kernel
theorem dX5_betterSwap_75 : decode cX5_betterSwap 75 = .ok (.goto (-51), 3) := by decide +kernel
theorem dX5_betterSwap_78 : decode cX5_betterSwap 78 = .ok (.iinc 3 1, 3) := by decide +kernel
theorem dX5_betterSwap_81 : decode cX5_betterSwap 81 = .ok (.goto (-72), 3) := by decide +kernel
theorem dX5_betterSwap_84 : decode cX5_betterSwap 84 = .ok (.iload_n 2, 1) := by decide +kernel
theorem dX5_betterSwap_85 : decode cX5_betterSwap 85 = .ok (.ireturn, 1) := by decide +kernel
theorem dX5_settle_0 : decode cX5_settle 0 = .ok (.iconst 0, 1) := by decide +kernel
theorem dX5_settle_1 : decode cX5_settle 1 = .ok (.istore_n 1, 1) := by decide +kernel
theorem dX5_settle_2 : decode cX5_settle 2 = .ok (.aload_n 0, 1) := by decide +kernel
theorem dX5_settle_3 : decode cX5_settle 3 = .ok (.invokevirtual 182, 3) := by decide +kernel
theorem dX5_settle_6 : decode cX5_settle 6 = .ok (.istore_n 2, 1) := by decide +kernel
theorem dX5_settle_7 : decode cX5_settle 7 = .ok (.iload_n 2, 1) := by decide +kernel
theorem dX5_settle_8 : decode cX5_settle 8 = .ok (.ifCond .lt 26, 3) := by decide +kernel
theorem dX5_settle_11 : decode cX5_settle 11 = .ok (.aload_n 0, 1) := by decide +kernel
theorem dX5_settle_12 : decode cX5_settle 12 = .ok (.iload_n 2, 1) := by decide +kernel
theorem dX5_settle_13 : decode cX5_settle 13 = .ok (.bipush 8, 2) := by decide +kernel
theorem dX5_settle_15 : decode cX5_settle 15 = .ok (.idiv, 1) := by decide +kernel
theorem dX5_settle_16 : decode cX5_settle 16 = .ok (.iload_n 2, 1) := by decide +kernel
theorem dX5_settle_17 : decode cX5_settle 17 = .ok (.bipush 8, 2) := by decide +kernel
theorem dX5_settle_19 : decode cX5_settle 19 = .ok (.irem, 1) := by decide +kernel
theorem dX5_settle_20 : decode cX5_settle 20 = .ok (.invokevirtual 138, 3) := by decide +kernel
theorem dX5_settle_23 : decode cX5_settle 23 = .ok (.iinc 1 1, 3) := by decide +kernel
theorem dX5_settle_26 : decode cX5_settle 26 = .ok (.aload_n 0, 1) := by decide +kernel
theorem dX5_settle_27 : decode cX5_settle 27 = .ok (.invokevirtual 182, 3) := by decide +kernel
theorem dX5_settle_30 : decode cX5_settle 30 = .ok (.istore_n 2, 1) := by decide +kernel
theorem dX5_settle_31 : decode cX5_settle 31 = .ok (.goto (-24), 3) := by decide +kernel
theorem dX5_settle_34 : decode cX5_settle 34 = .ok (.iload_n 1, 1) := by decide +kernel
theorem dX5_settle_35 : decode cX5_settle 35 = .ok (.ireturn, 1) := by decide +kernel
theorem dX5_cheapest_0 : decode cX5_cheapest 0 = .ok (.aload_n 0, 1) := by decide +kernel
theorem dX5_cheapest_1 : decode cX5_cheapest 1 = .ok (.getfield 9, 3) := by decide +kernel
theorem dX5_cheapest_4 : decode cX5_cheapest 4 = .ok (.iload_n 1, 1) := by decide +kernel
theorem dX5_cheapest_5 : decode cX5_cheapest 5 = .ok (.iaload, 1) := by decide +kernel
theorem dX5_cheapest_6 : decode cX5_cheapest 6 = .ok (.istore_n 3, 1) := by decide +kernel
theorem dX5_cheapest_7 : decode cX5_cheapest 7 = .ok (.iconst 0, 1) := by decide +kernel
theorem dX5_cheapest_8 : decode cX5_cheapest 8 = .ok (.istore 4, 2) := by decide +kernel
theorem dX5_cheapest_10 : decode cX5_cheapest 10 = .ok (.ldc 191, 2) := by decide +kernel
theorem dX5_cheapest_12 : decode cX5_cheapest 12 = .ok (.istore 5, 2) := by decide +kernel
theorem dX5_cheapest_14 : decode cX5_cheapest 14 = .ok (.iconst 0, 1) := by decide +kernel
theorem dX5_cheapest_15 : decode cX5_cheapest 15 = .ok (.istore 6, 2) := by decide +kernel
theorem dX5_cheapest_17 : decode cX5_cheapest 17 = .ok (.iload 6, 2) := by decide +kernel
theorem dX5_cheapest_19 : decode cX5_cheapest 19 = .ok (.iload_n 2, 1) := by decide +kernel
theorem dX5_cheapest_20 : decode cX5_cheapest 20 = .ok (.if_icmp .ge 38, 3) := by decide +kernel
theorem dX5_cheapest_23 : decode cX5_cheapest 23 = .ok (.aload_n 0, 1) := by decide +kernel
theorem dX5_cheapest_24 : decode cX5_cheapest 24 = .ok (.getfield 9, 3) := by decide +kernel
theorem dX5_cheapest_27 : decode cX5_cheapest 27 = .ok (.iload_n 1, 1) := by decide +kernel
theorem dX5_cheapest_28 : decode cX5_cheapest 28 = .ok (.iload 6, 2) := by decide +kernel
theorem dX5_cheapest_30 : decode cX5_cheapest 30 = .ok (.iastore, 1) := by decide +kernel
theorem dX5_cheapest_31 : decode cX5_cheapest 31 = .ok (.aload_n 0, 1) := by decide +kernel
theorem dX5_cheapest_32 : decode cX5_cheapest 32 = .ok (.invokevirtual 179, 3) := by decide +kernel
theorem dX5_cheapest_35 : decode cX5_cheapest 35 = .ok (.istore 7, 2) := by decide +kernel
theorem dX5_cheapest_37 : decode cX5_cheapest 37 = .ok (.iload 7, 2) := by decide +kernel
theorem dX5_cheapest_39 : decode cX5_cheapest 39 = .ok (.iload 5, 2) := by decide +kernel
theorem dX5_cheapest_41 : decode cX5_cheapest 41 = .ok (.if_icmp .ge 11, 3) := by decide +kernel
theorem dX5_cheapest_44 : decode cX5_cheapest 44 = .ok (.iload 6, 2) := by decide +kernel
theorem dX5_cheapest_46 : decode cX5_cheapest 46 = .ok (.istore 4, 2) := by decide +kernel
theorem dX5_cheapest_48 : decode cX5_cheapest 48 = .ok (.iload 7, 2) := by decide +kernel
theorem dX5_cheapest_50 : decode cX5_cheapest 50 = .ok (.istore 5, 2) := by decide +kernel
theorem dX5_cheapest_52 : decode cX5_cheapest 52 = .ok (.iinc 6 1, 3) := by decide +kernel
theorem dX5_cheapest_55 : decode cX5_cheapest 55 = .ok (.goto (-38), 3) := by decide +kernel
theorem dX5_cheapest_58 : decode cX5_cheapest 58 = .ok (.aload_n 0, 1) := by decide +kernel
theorem dX5_cheapest_59 : decode cX5_cheapest 59 = .ok (.getfield 9, 3) := by decide +kernel
theorem dX5_cheapest_62 : decode cX5_cheapest 62 = .ok (.iload_n 1, 1) := by decide +kernel
theorem dX5_cheapest_63 : decode cX5_cheapest 63 = .ok (.iload_n 3, 1) := by decide +kernel
theorem dX5_cheapest_64 : decode cX5_cheapest 64 = .ok (.iastore, 1) := by decide +kernel
theorem dX5_cheapest_65 : decode cX5_cheapest 65 = .ok (.iload 4, 2) := by decide +kernel
theorem dX5_cheapest_67 : decode cX5_cheapest 67 = .ok (.ireturn, 1) := by decide +kernel
theorem dX5_edgeFor_0 : decode cX5_edgeFor 0 = .ok (.aload_n 0, 1) := by decide +kernel
theorem dX5_edgeFor_1 : decode cX5_edgeFor 1 = .ok (.iload_n 1, 1) := by decide +kernel
theorem dX5_edgeFor_2 : decode cX5_edgeFor 2 = .ok (.invokevirtual 111, 3) := by decide +kernel
theorem dX5_edgeFor_5 : decode cX5_edgeFor 5 = .ok (.ifCond .eq 17, 3) := by decide +kernel
theorem dX5_edgeFor_8 : decode cX5_edgeFor 8 = .ok (.aload_n 0, 1) := by decide +kernel
theorem dX5_edgeFor_9 : decode cX5_edgeFor 9 = .ok (.iload_n 1, 1) := by decide +kernel
theorem dX5_edgeFor_10 : decode cX5_edgeFor 10 = .ok (.iconst 1, 1) := by decide +kernel
theorem dX5_edgeFor_11 : decode cX5_edgeFor 11 = .ok (.invokestatic 88, 3) := by decide +kernel
theorem dX5_edgeFor_14 : decode cX5_edgeFor 14 = .ok (.bipush 10, 2) := by decide +kernel
theorem dX5_edgeFor_16 : decode cX5_edgeFor 16 = .ok (.invokevirtual 204, 3) := by decide +kernel
theorem dX5_edgeFor_19 : decode cX5_edgeFor 19 = .ok (.goto 9, 3) := by decide +kernel
theorem dX5_edgeFor_22 : decode cX5_edgeFor 22 = .ok (.aload_n 0, 1) := by decide +kernel
theorem dX5_edgeFor_23 : decode cX5_edgeFor 23 = .ok (.ldc 63, 2) := by decide +kernel
theorem dX5_edgeFor_25 : decode cX5_edgeFor 25 = .ok (.invokevirtual 69, 3) := by decide +kernel
theorem dX5_edgeFor_28 : decode cX5_edgeFor 28 = .ok (.ireturn, 1) := by decide +kernel
theorem dX5_kindFor_0 : decode cX5_kindFor 0 = .ok (.aload_n 0, 1) := by decide +kernel
theorem dX5_kindFor_1 : decode cX5_kindFor 1 = .ok (.iload_n 1, 1) := by decide +kernel
theorem dX5_kindFor_2 : decode cX5_kindFor 2 = .ok (.invokevirtual 111, 3) := by decide +kernel
theorem dX5_kindFor_5 : decode cX5_kindFor 5 = .ok (.ifCond .eq 17, 3) := by decide +kernel
theorem dX5_kindFor_8 : decode cX5_kindFor 8 = .ok (.aload_n 0, 1) := by decide +kernel
theorem dX5_kindFor_9 : decode cX5_kindFor 9 = .ok (.iload_n 1, 1) := by decide +kernel
theorem dX5_kindFor_10 : decode cX5_kindFor 10 = .ok (.iconst 0, 1) := by decide +kernel
theorem dX5_kindFor_11 : decode cX5_kindFor 11 = .ok (.invokestatic 88, 3) := by decide +kernel
theorem dX5_kindFor_14 : decode cX5_kindFor 14 = .ok (.bipush 7, 2) := by decide +kernel
theorem dX5_kindFor_16 : decode cX5_kindFor 16 = .ok (.invokevirtual 204, 3) := by decide +kernel
theorem dX5_kindFor_19 : decode cX5_kindFor 19 = .ok (.goto 9, 3) := by decide +kernel
theorem dX5_kindFor_22 : decode cX5_kindFor 22 = .ok (.aload_n 0, 1) := by decide +kernel
theorem dX5_kindFor_23 : decode cX5_kindFor 23 = .ok (.ldc 63, 2) := by decide +kernel
theorem dX5_kindFor_25 : decode cX5_kindFor 25 = .ok (.invokevirtual 69, 3) := by decide +kernel
theorem dX5_kindFor_28 : decode cX5_kindFor 28 = .ok (.ireturn, 1) := by decide +kernel
theorem dX5_sumTurned_0 : decode cX5_sumTurned 0 = .ok (.iconst 0, 1) := by decide +kernel
theorem dX5_sumTurned_1 : decode cX5_sumTurned 1 = .ok (.istore_n 2, 1) := by decide +kernel
theorem dX5_sumTurned_2 : decode cX5_sumTurned 2 = .ok (.iload_n 2, 1) := by decide +kernel
theorem dX5_sumTurned_3 : decode cX5_sumTurned 3 = .ok (.aload_n 0, 1) := by decide +kernel
theorem dX5_sumTurned_4 : decode cX5_sumTurned 4 = .ok (.getfield 9, 3) := by decide +kernel
theorem dX5_sumTurned_7 : decode cX5_sumTurned 7 = .ok (.iconst 1, 1) := by decide +kernel
theorem dX5_sumTurned_8 : decode cX5_sumTurned 8 = .ok (.iaload, 1) := by decide +kernel
theorem dX5_sumTurned_9 : decode cX5_sumTurned 9 = .ok (.if_icmp .ge 27, 3) := by decide +kernel
theorem dX5_sumTurned_12 : decode cX5_sumTurned 12 = .ok (.aload_n 0, 1) := by decide +kernel
theorem dX5_sumTurned_13 : decode cX5_sumTurned 13 = .ok (.getfield 9, 3) := by decide +kernel
theorem dX5_sumTurned_16 : decode cX5_sumTurned 16 = .ok (.iload_n 2, 1) := by decide +kernel
theorem dX5_sumTurned_17 : decode cX5_sumTurned 17 = .ok (.iconst 4, 1) := by decide +kernel
theorem dX5_sumTurned_18 : decode cX5_sumTurned 18 = .ok (.invokestatic 88, 3) := by decide +kernel
theorem dX5_sumTurned_21 : decode cX5_sumTurned 21 = .ok (.dup2, 1) := by decide +kernel
theorem dX5_sumTurned_22 : decode cX5_sumTurned 22 = .ok (.iaload, 1) := by decide +kernel
theorem dX5_sumTurned_23 : decode cX5_sumTurned 23 = .ok (.iload_n 1, 1) := by decide +kernel
theorem dX5_sumTurned_24 : decode cX5_sumTurned 24 = .ok (.iload_n 2, 1) := by decide +kernel
theorem dX5_sumTurned_25 : decode cX5_sumTurned 25 = .ok (.ishr, 1) := by decide +kernel
theorem dX5_sumTurned_26 : decode cX5_sumTurned 26 = .ok (.iconst 1, 1) := by decide +kernel
theorem dX5_sumTurned_27 : decode cX5_sumTurned 27 = .ok (.iand, 1) := by decide +kernel
theorem dX5_sumTurned_28 : decode cX5_sumTurned 28 = .ok (.ixor, 1) := by decide +kernel
theorem dX5_sumTurned_29 : decode cX5_sumTurned 29 = .ok (.iastore, 1) := by decide +kernel
theorem dX5_sumTurned_30 : decode cX5_sumTurned 30 = .ok (.iinc 2 1, 3) := by decide +kernel
theorem dX5_sumTurned_33 : decode cX5_sumTurned 33 = .ok (.goto (-31), 3) := by decide +kernel
theorem dX5_sumTurned_36 : decode cX5_sumTurned 36 = .ok (.aload_n 0, 1) := by decide +kernel
theorem dX5_sumTurned_37 : decode cX5_sumTurned 37 = .ok (.invokevirtual 142, 3) := by decide +kernel
theorem dX5_sumTurned_40 : decode cX5_sumTurned 40 = .ok (.istore_n 2, 1) := by decide +kernel
theorem dX5_sumTurned_41 : decode cX5_sumTurned 41 = .ok (.iconst 0, 1) := by decide +kernel
theorem dX5_sumTurned_42 : decode cX5_sumTurned 42 = .ok (.istore_n 3, 1) := by decide +kernel
theorem dX5_sumTurned_43 : decode cX5_sumTurned 43 = .ok (.iload_n 3, 1) := by decide +kernel
theorem dX5_sumTurned_44 : decode cX5_sumTurned 44 = .ok (.aload_n 0, 1) := by decide +kernel
theorem dX5_sumTurned_45 : decode cX5_sumTurned 45 = .ok (.getfield 9, 3) := by decide +kernel
theorem dX5_sumTurned_48 : decode cX5_sumTurned 48 = .ok (.iconst 1, 1) := by decide +kernel
theorem dX5_sumTurned_49 : decode cX5_sumTurned 49 = .ok (.iaload, 1) := by decide +kernel
theorem dX5_sumTurned_50 : decode cX5_sumTurned 50 = .ok (.if_icmp .ge 27, 3) := by decide +kernel
theorem dX5_sumTurned_53 : decode cX5_sumTurned 53 = .ok (.aload_n 0, 1) := by decide +kernel
theorem dX5_sumTurned_54 : decode cX5_sumTurned 54 = .ok (.getfield 9, 3) := by decide +kernel
theorem dX5_sumTurned_57 : decode cX5_sumTurned 57 = .ok (.iload_n 3, 1) := by decide +kernel
theorem dX5_sumTurned_58 : decode cX5_sumTurned 58 = .ok (.iconst 4, 1) := by decide +kernel
theorem dX5_sumTurned_59 : decode cX5_sumTurned 59 = .ok (.invokestatic 88, 3) := by decide +kernel
theorem dX5_sumTurned_62 : decode cX5_sumTurned 62 = .ok (.dup2, 1) := by decide +kernel
theorem dX5_sumTurned_63 : decode cX5_sumTurned 63 = .ok (.iaload, 1) := by decide +kernel
theorem dX5_sumTurned_64 : decode cX5_sumTurned 64 = .ok (.iload_n 1, 1) := by decide +kernel
theorem dX5_sumTurned_65 : decode cX5_sumTurned 65 = .ok (.iload_n 3, 1) := by decide +kernel
theorem dX5_sumTurned_66 : decode cX5_sumTurned 66 = .ok (.ishr, 1) := by decide +kernel
theorem dX5_sumTurned_67 : decode cX5_sumTurned 67 = .ok (.iconst 1, 1) := by decide +kernel
theorem dX5_sumTurned_68 : decode cX5_sumTurned 68 = .ok (.iand, 1) := by decide +kernel
theorem dX5_sumTurned_69 : decode cX5_sumTurned 69 = .ok (.ixor, 1) := by decide +kernel
theorem dX5_sumTurned_70 : decode cX5_sumTurned 70 = .ok (.iastore, 1) := by decide +kernel
theorem dX5_sumTurned_71 : decode cX5_sumTurned 71 = .ok (.iinc 3 1, 3) := by decide +kernel
theorem dX5_sumTurned_74 : decode cX5_sumTurned 74 = .ok (.goto (-31), 3) := by decide +kernel
theorem dX5_sumTurned_77 : decode cX5_sumTurned 77 = .ok (.iload_n 2, 1) := by decide +kernel
theorem dX5_sumTurned_78 : decode cX5_sumTurned 78 = .ok (.ireturn, 1) := by decide +kernel
theorem dX5_turn_0 : decode cX5_turn 0 = .ok (.iload_n 1, 1) := by decide +kernel
theorem dX5_turn_1 : decode cX5_turn 1 = .ok (.iconst 0, 1) := by decide +kernel
theorem dX5_turn_2 : decode cX5_turn 2 = .ok (.sipush 999, 3) := by decide +kernel
theorem dX5_turn_5 : decode cX5_turn 5 = .ok (.invokestatic 73, 3) := by decide +kernel
theorem dX5_turn_8 : decode cX5_turn 8 = .ok (.ifCond .ne 10, 3) := by decide +kernel
theorem dX5_turn_11 : decode cX5_turn 11 = .ok (.aload_n 0, 1) := by decide +kernel
theorem dX5_turn_12 : decode cX5_turn 12 = .ok (.ldc 63, 2) := by decide +kernel
theorem dX5_turn_14 : decode cX5_turn 14 = .ok (.invokevirtual 69, 3) := by decide +kernel
