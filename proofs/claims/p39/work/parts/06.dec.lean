theorem dX7_lookAhead_130 : decode cX7_lookAhead 130 = .ok (.invokevirtual 103, 3) := by decide +kernel
theorem dX7_lookAhead_133 : decode cX7_lookAhead 133 = .ok (.pop, 1) := by decide +kernel
theorem dX7_lookAhead_134 : decode cX7_lookAhead 134 = .ok (.aload_n 0, 1) := by decide +kernel
theorem dX7_lookAhead_135 : decode cX7_lookAhead 135 = .ok (.iload_n 1, 1) := by decide +kernel
theorem dX7_lookAhead_136 : decode cX7_lookAhead 136 = .ok (.iconst 1, 1) := by decide +kernel
theorem dX7_lookAhead_137 : decode cX7_lookAhead 137 = .ok (.iadd, 1) := by decide +kernel
theorem dX7_lookAhead_138 : decode cX7_lookAhead 138 = .ok (.invokevirtual 65, 3) := by decide +kernel
theorem dX7_lookAhead_141 : decode cX7_lookAhead 141 = .ok (.aload_n 0, 1) := by decide +kernel
theorem dX7_lookAhead_142 : decode cX7_lookAhead 142 = .ok (.iload_n 1, 1) := by decide +kernel
theorem dX7_lookAhead_143 : decode cX7_lookAhead 143 = .ok (.iconst 1, 1) := by decide +kernel
theorem dX7_lookAhead_144 : decode cX7_lookAhead 144 = .ok (.iadd, 1) := by decide +kernel
theorem dX7_lookAhead_145 : decode cX7_lookAhead 145 = .ok (.iload_n 3, 1) := by decide +kernel
theorem dX7_lookAhead_146 : decode cX7_lookAhead 146 = .ok (.invokevirtual 107, 3) := by decide +kernel
theorem dX7_lookAhead_149 : decode cX7_lookAhead 149 = .ok (.aload_n 0, 1) := by decide +kernel
theorem dX7_lookAhead_150 : decode cX7_lookAhead 150 = .ok (.iload_n 1, 1) := by decide +kernel
theorem dX7_lookAhead_151 : decode cX7_lookAhead 151 = .ok (.iload_n 3, 1) := by decide +kernel
theorem dX7_lookAhead_152 : decode cX7_lookAhead 152 = .ok (.invokevirtual 107, 3) := by decide +kernel
theorem dX7_lookAhead_155 : decode cX7_lookAhead 155 = .ok (.if_icmp .le 8, 3) := by decide +kernel
theorem dX7_lookAhead_158 : decode cX7_lookAhead 158 = .ok (.aload_n 0, 1) := by decide +kernel
theorem dX7_lookAhead_159 : decode cX7_lookAhead 159 = .ok (.iload_n 1, 1) := by decide +kernel
theorem dX7_lookAhead_160 : decode cX7_lookAhead 160 = .ok (.invokevirtual 93, 3) := by decide +kernel
theorem dX7_lookAhead_163 : decode cX7_lookAhead 163 = .ok (.iinc 5 1, 3) := by decide +kernel
theorem dX7_lookAhead_166 : decode cX7_lookAhead 166 = .ok (.goto (-69), 3) := by decide +kernel
theorem dX7_lookAhead_169 : decode cX7_lookAhead 169 = .ok (.return_, 1) := by decide +kernel
theorem dX7_worthAtEnd_0 : decode cX7_worthAtEnd 0 = .ok (.aload_n 0, 1) := by decide +kernel
theorem dX7_worthAtEnd_1 : decode cX7_worthAtEnd 1 = .ok (.getfield 43, 3) := by decide +kernel
theorem dX7_worthAtEnd_4 : decode cX7_worthAtEnd 4 = .ok (.iload_n 2, 1) := by decide +kernel
theorem dX7_worthAtEnd_5 : decode cX7_worthAtEnd 5 = .ok (.aload_n 0, 1) := by decide +kernel
theorem dX7_worthAtEnd_6 : decode cX7_worthAtEnd 6 = .ok (.getfield 19, 3) := by decide +kernel
theorem dX7_worthAtEnd_9 : decode cX7_worthAtEnd 9 = .ok (.iload_n 1, 1) := by decide +kernel
theorem dX7_worthAtEnd_10 : decode cX7_worthAtEnd 10 = .ok (.aaload, 1) := by decide +kernel
theorem dX7_worthAtEnd_11 : decode cX7_worthAtEnd 11 = .ok (.iload_n 2, 1) := by decide +kernel
theorem dX7_worthAtEnd_12 : decode cX7_worthAtEnd 12 = .ok (.iaload, 1) := by decide +kernel
theorem dX7_worthAtEnd_13 : decode cX7_worthAtEnd 13 = .ok (.invokevirtual 110, 3) := by decide +kernel
theorem dX7_worthAtEnd_16 : decode cX7_worthAtEnd 16 = .ok (.ireturn, 1) := by decide +kernel
theorem dX7_comeTo_0 : decode cX7_comeTo 0 = .ok (.aload_n 0, 1) := by decide +kernel
theorem dX7_comeTo_1 : decode cX7_comeTo 1 = .ok (.getfield 19, 3) := by decide +kernel
theorem dX7_comeTo_4 : decode cX7_comeTo 4 = .ok (.iload_n 1, 1) := by decide +kernel
theorem dX7_comeTo_5 : decode cX7_comeTo 5 = .ok (.iconst 1, 1) := by decide +kernel
theorem dX7_comeTo_6 : decode cX7_comeTo 6 = .ok (.iadd, 1) := by decide +kernel
theorem dX7_comeTo_7 : decode cX7_comeTo 7 = .ok (.aaload, 1) := by decide +kernel
theorem dX7_comeTo_8 : decode cX7_comeTo 8 = .ok (.iconst 0, 1) := by decide +kernel
theorem dX7_comeTo_9 : decode cX7_comeTo 9 = .ok (.aload_n 0, 1) := by decide +kernel
theorem dX7_comeTo_10 : decode cX7_comeTo 10 = .ok (.getfield 19, 3) := by decide +kernel
theorem dX7_comeTo_13 : decode cX7_comeTo 13 = .ok (.iload_n 1, 1) := by decide +kernel
theorem dX7_comeTo_14 : decode cX7_comeTo 14 = .ok (.aaload, 1) := by decide +kernel
theorem dX7_comeTo_15 : decode cX7_comeTo 15 = .ok (.iconst 0, 1) := by decide +kernel
theorem dX7_comeTo_16 : decode cX7_comeTo 16 = .ok (.bipush 8, 2) := by decide +kernel
theorem dX7_comeTo_18 : decode cX7_comeTo 18 = .ok (.invokestatic 76, 3) := by decide +kernel
theorem dX7_comeTo_21 : decode cX7_comeTo 21 = .ok (.return_, 1) := by decide +kernel
theorem dX7_bestParting_0 : decode cX7_bestParting 0 = .ok (.aload_n 0, 1) := by decide +kernel
theorem dX7_bestParting_1 : decode cX7_bestParting 1 = .ok (.invokevirtual 113, 3) := by decide +kernel
theorem dX7_bestParting_4 : decode cX7_bestParting 4 = .ok (.iload_n 1, 1) := by decide +kernel
theorem dX7_bestParting_5 : decode cX7_bestParting 5 = .ok (.iconst (-1), 1) := by decide +kernel
theorem dX7_bestParting_6 : decode cX7_bestParting 6 = .ok (.if_icmp .ne 10, 3) := by decide +kernel
theorem dX7_bestParting_9 : decode cX7_bestParting 9 = .ok (.aload_n 0, 1) := by decide +kernel
theorem dX7_bestParting_10 : decode cX7_bestParting 10 = .ok (.getfield 22, 3) := by decide +kernel
theorem dX7_bestParting_13 : decode cX7_bestParting 13 = .ok (.iconst 0, 1) := by decide +kernel
theorem dX7_bestParting_14 : decode cX7_bestParting 14 = .ok (.iaload, 1) := by decide +kernel
theorem dX7_bestParting_15 : decode cX7_bestParting 15 = .ok (.ireturn, 1) := by decide +kernel
theorem dX7_bestParting_16 : decode cX7_bestParting 16 = .ok (.iconst 0, 1) := by decide +kernel
theorem dX7_bestParting_17 : decode cX7_bestParting 17 = .ok (.istore_n 2, 1) := by decide +kernel
theorem dX7_bestParting_18 : decode cX7_bestParting 18 = .ok (.iconst (-1), 1) := by decide +kernel
theorem dX7_bestParting_19 : decode cX7_bestParting 19 = .ok (.istore_n 3, 1) := by decide +kernel
theorem dX7_bestParting_20 : decode cX7_bestParting 20 = .ok (.iconst 0, 1) := by decide +kernel
theorem dX7_bestParting_21 : decode cX7_bestParting 21 = .ok (.istore 4, 2) := by decide +kernel
theorem dX7_bestParting_23 : decode cX7_bestParting 23 = .ok (.iload 4, 2) := by decide +kernel
theorem dX7_bestParting_25 : decode cX7_bestParting 25 = .ok (.iload_n 1, 1) := by decide +kernel
theorem dX7_bestParting_26 : decode cX7_bestParting 26 = .ok (.if_icmp .gt 40, 3) := by decide +kernel
theorem dX7_bestParting_29 : decode cX7_bestParting 29 = .ok (.iload 4, 2) := by decide +kernel
theorem dX7_bestParting_31 : decode cX7_bestParting 31 = .ok (.aload_n 0, 1) := by decide +kernel
theorem dX7_bestParting_32 : decode cX7_bestParting 32 = .ok (.getfield 43, 3) := by decide +kernel
theorem dX7_bestParting_35 : decode cX7_bestParting 35 = .ok (.getfield 52, 3) := by decide +kernel
theorem dX7_bestParting_38 : decode cX7_bestParting 38 = .ok (.if_icmp .ge 28, 3) := by decide +kernel
theorem dX7_bestParting_41 : decode cX7_bestParting 41 = .ok (.aload_n 0, 1) := by decide +kernel
theorem dX7_bestParting_42 : decode cX7_bestParting 42 = .ok (.iload 4, 2) := by decide +kernel
theorem dX7_bestParting_44 : decode cX7_bestParting 44 = .ok (.iload_n 2, 1) := by decide +kernel
theorem dX7_bestParting_45 : decode cX7_bestParting 45 = .ok (.invokevirtual 116, 3) := by decide +kernel
theorem dX7_bestParting_48 : decode cX7_bestParting 48 = .ok (.istore_n 3, 1) := by decide +kernel
theorem dX7_bestParting_49 : decode cX7_bestParting 49 = .ok (.iload_n 3, 1) := by decide +kernel
theorem dX7_bestParting_50 : decode cX7_bestParting 50 = .ok (.iconst (-1), 1) := by decide +kernel
theorem dX7_bestParting_51 : decode cX7_bestParting 51 = .ok (.if_icmp .eq 9, 3) := by decide +kernel
theorem dX7_bestParting_54 : decode cX7_bestParting 54 = .ok (.iload_n 2, 1) := by decide +kernel
theorem dX7_bestParting_55 : decode cX7_bestParting 55 = .ok (.iconst 1, 1) := by decide +kernel
theorem dX7_bestParting_56 : decode cX7_bestParting 56 = .ok (.iload_n 3, 1) := by decide +kernel
theorem dX7_bestParting_57 : decode cX7_bestParting 57 = .ok (.ishl, 1) := by decide +kernel
theorem dX7_bestParting_58 : decode cX7_bestParting 58 = .ok (.ior, 1) := by decide +kernel
theorem dX7_bestParting_59 : decode cX7_bestParting 59 = .ok (.istore_n 2, 1) := by decide +kernel
theorem dX7_bestParting_60 : decode cX7_bestParting 60 = .ok (.iinc 4 1, 3) := by decide +kernel
theorem dX7_bestParting_63 : decode cX7_bestParting 63 = .ok (.goto (-40), 3) := by decide +kernel
theorem dX7_bestParting_66 : decode cX7_bestParting 66 = .ok (.iload_n 3, 1) := by decide +kernel
theorem dX7_bestParting_67 : decode cX7_bestParting 67 = .ok (.ireturn, 1) := by decide +kernel
theorem dX7_fillMostBehind_0 : decode cX7_fillMostBehind 0 = .ok (.iconst 1, 1) := by decide +kernel
theorem dX7_fillMostBehind_1 : decode cX7_fillMostBehind 1 = .ok (.aload_n 0, 1) := by decide +kernel
theorem dX7_fillMostBehind_2 : decode cX7_fillMostBehind 2 = .ok (.getfield 43, 3) := by decide +kernel
theorem dX7_fillMostBehind_5 : decode cX7_fillMostBehind 5 = .ok (.getfield 52, 3) := by decide +kernel
theorem dX7_fillMostBehind_8 : decode cX7_fillMostBehind 8 = .ok (.ishl, 1) := by decide +kernel
theorem dX7_fillMostBehind_9 : decode cX7_fillMostBehind 9 = .ok (.iconst 1, 1) := by decide +kernel
theorem dX7_fillMostBehind_10 : decode cX7_fillMostBehind 10 = .ok (.isub, 1) := by decide +kernel
theorem dX7_fillMostBehind_11 : decode cX7_fillMostBehind 11 = .ok (.istore_n 1, 1) := by decide +kernel
theorem dX7_fillMostBehind_12 : decode cX7_fillMostBehind 12 = .ok (.aload_n 0, 1) := by decide +kernel
theorem dX7_fillMostBehind_13 : decode cX7_fillMostBehind 13 = .ok (.getfield 22, 3) := by decide +kernel
theorem dX7_fillMostBehind_16 : decode cX7_fillMostBehind 16 = .ok (.iload_n 1, 1) := by decide +kernel
theorem dX7_fillMostBehind_17 : decode cX7_fillMostBehind 17 = .ok (.iconst 0, 1) := by decide +kernel
theorem dX7_fillMostBehind_18 : decode cX7_fillMostBehind 18 = .ok (.iastore, 1) := by decide +kernel
theorem dX7_fillMostBehind_19 : decode cX7_fillMostBehind 19 = .ok (.iload_n 1, 1) := by decide +kernel
theorem dX7_fillMostBehind_20 : decode cX7_fillMostBehind 20 = .ok (.iconst 1, 1) := by decide +kernel
theorem dX7_fillMostBehind_21 : decode cX7_fillMostBehind 21 = .ok (.isub, 1) := by decide +kernel
theorem dX7_fillMostBehind_22 : decode cX7_fillMostBehind 22 = .ok (.istore_n 2, 1) := by decide +kernel
theorem dX7_fillMostBehind_23 : decode cX7_fillMostBehind 23 = .ok (.iload_n 2, 1) := by decide +kernel
theorem dX7_fillMostBehind_24 : decode cX7_fillMostBehind 24 = .ok (.ifCond .lt 70, 3) := by decide +kernel
theorem dX7_fillMostBehind_27 : decode cX7_fillMostBehind 27 = .ok (.iload_n 2, 1) := by decide +kernel
theorem dX7_fillMostBehind_28 : decode cX7_fillMostBehind 28 = .ok (.invokestatic 119, 3) := by decide +kernel
theorem dX7_fillMostBehind_31 : decode cX7_fillMostBehind 31 = .ok (.istore_n 3, 1) := by decide +kernel
theorem dX7_fillMostBehind_32 : decode cX7_fillMostBehind 32 = .ok (.iconst 0, 1) := by decide +kernel
theorem dX7_fillMostBehind_33 : decode cX7_fillMostBehind 33 = .ok (.istore 4, 2) := by decide +kernel
theorem dX7_fillMostBehind_35 : decode cX7_fillMostBehind 35 = .ok (.iconst 0, 1) := by decide +kernel
theorem dX7_fillMostBehind_36 : decode cX7_fillMostBehind 36 = .ok (.istore 5, 2) := by decide +kernel
theorem dX7_fillMostBehind_38 : decode cX7_fillMostBehind 38 = .ok (.iload 5, 2) := by decide +kernel
theorem dX7_fillMostBehind_40 : decode cX7_fillMostBehind 40 = .ok (.aload_n 0, 1) := by decide +kernel
theorem dX7_fillMostBehind_41 : decode cX7_fillMostBehind 41 = .ok (.getfield 43, 3) := by decide +kernel
theorem dX7_fillMostBehind_44 : decode cX7_fillMostBehind 44 = .ok (.getfield 52, 3) := by decide +kernel
theorem dX7_fillMostBehind_47 : decode cX7_fillMostBehind 47 = .ok (.if_icmp .ge 33, 3) := by decide +kernel
theorem dX7_fillMostBehind_50 : decode cX7_fillMostBehind 50 = .ok (.iload_n 2, 1) := by decide +kernel
theorem dX7_fillMostBehind_51 : decode cX7_fillMostBehind 51 = .ok (.iload 5, 2) := by decide +kernel
theorem dX7_fillMostBehind_53 : decode cX7_fillMostBehind 53 = .ok (.ishr, 1) := by decide +kernel
theorem dX7_fillMostBehind_54 : decode cX7_fillMostBehind 54 = .ok (.iconst 1, 1) := by decide +kernel
theorem dX7_fillMostBehind_55 : decode cX7_fillMostBehind 55 = .ok (.iand, 1) := by decide +kernel
theorem dX7_fillMostBehind_56 : decode cX7_fillMostBehind 56 = .ok (.ifCond .ne 18, 3) := by decide +kernel
theorem dX7_fillMostBehind_59 : decode cX7_fillMostBehind 59 = .ok (.iload 4, 2) := by decide +kernel
theorem dX7_fillMostBehind_61 : decode cX7_fillMostBehind 61 = .ok (.aload_n 0, 1) := by decide +kernel
theorem dX7_fillMostBehind_62 : decode cX7_fillMostBehind 62 = .ok (.iload_n 3, 1) := by decide +kernel
theorem dX7_fillMostBehind_63 : decode cX7_fillMostBehind 63 = .ok (.iload 5, 2) := by decide +kernel
theorem dX7_fillMostBehind_65 : decode cX7_fillMostBehind 65 = .ok (.iload_n 2, 1) := by decide +kernel
theorem dX7_fillMostBehind_66 : decode cX7_fillMostBehind 66 = .ok (.invokevirtual 124, 3) := by decide +kernel
theorem dX7_fillMostBehind_69 : decode cX7_fillMostBehind 69 = .ok (.invokestatic 128, 3) := by decide +kernel
theorem dX7_fillMostBehind_72 : decode cX7_fillMostBehind 72 = .ok (.istore 4, 2) := by decide +kernel
theorem dX7_fillMostBehind_74 : decode cX7_fillMostBehind 74 = .ok (.iinc 5 1, 3) := by decide +kernel
theorem dX7_fillMostBehind_77 : decode cX7_fillMostBehind 77 = .ok (.goto (-39), 3) := by decide +kernel
theorem dX7_fillMostBehind_80 : decode cX7_fillMostBehind 80 = .ok (.aload_n 0, 1) := by decide +kernel
theorem dX7_fillMostBehind_81 : decode cX7_fillMostBehind 81 = .ok (.getfield 22, 3) := by decide +kernel
theorem dX7_fillMostBehind_84 : decode cX7_fillMostBehind 84 = .ok (.iload_n 2, 1) := by decide +kernel
theorem dX7_fillMostBehind_85 : decode cX7_fillMostBehind 85 = .ok (.iload 4, 2) := by decide +kernel
theorem dX7_fillMostBehind_87 : decode cX7_fillMostBehind 87 = .ok (.iastore, 1) := by decide +kernel
theorem dX7_fillMostBehind_88 : decode cX7_fillMostBehind 88 = .ok (.iinc 2 (-1), 3) := by decide +kernel
theorem dX7_fillMostBehind_91 : decode cX7_fillMostBehind 91 = .ok (.goto (-68), 3) := by decide +kernel
theorem dX7_fillMostBehind_94 : decode cX7_fillMostBehind 94 = .ok (.return_, 1) := by decide +kernel
theorem dX7_worthWithAllBehind_0 : decode cX7_worthWithAllBehind 0 = .ok (.aload_n 0, 1) := by decide +kernel
theorem dX7_worthWithAllBehind_1 : decode cX7_worthWithAllBehind 1 = .ok (.getfield 43, 3) := by decide +kernel
theorem dX7_worthWithAllBehind_4 : decode cX7_worthWithAllBehind 4 = .ok (.iload_n 1, 1) := by decide +kernel
theorem dX7_worthWithAllBehind_5 : decode cX7_worthWithAllBehind 5 = .ok (.iload_n 2, 1) := by decide +kernel
theorem dX7_worthWithAllBehind_6 : decode cX7_worthWithAllBehind 6 = .ok (.invokevirtual 110, 3) := by decide +kernel
theorem dX7_worthWithAllBehind_9 : decode cX7_worthWithAllBehind 9 = .ok (.aload_n 0, 1) := by decide +kernel
theorem dX7_worthWithAllBehind_10 : decode cX7_worthWithAllBehind 10 = .ok (.getfield 22, 3) := by decide +kernel
theorem dX7_worthWithAllBehind_13 : decode cX7_worthWithAllBehind 13 = .ok (.iload_n 3, 1) := by decide +kernel
theorem dX7_worthWithAllBehind_14 : decode cX7_worthWithAllBehind 14 = .ok (.iconst 1, 1) := by decide +kernel
theorem dX7_worthWithAllBehind_15 : decode cX7_worthWithAllBehind 15 = .ok (.iload_n 2, 1) := by decide +kernel
theorem dX7_worthWithAllBehind_16 : decode cX7_worthWithAllBehind 16 = .ok (.ishl, 1) := by decide +kernel
theorem dX7_worthWithAllBehind_17 : decode cX7_worthWithAllBehind 17 = .ok (.ior, 1) := by decide +kernel
theorem dX7_worthWithAllBehind_18 : decode cX7_worthWithAllBehind 18 = .ok (.iaload, 1) := by decide +kernel
theorem dX7_worthWithAllBehind_19 : decode cX7_worthWithAllBehind 19 = .ok (.iadd, 1) := by decide +kernel
theorem dX7_worthWithAllBehind_20 : decode cX7_worthWithAllBehind 20 = .ok (.ireturn, 1) := by decide +kernel
theorem dX7_firstBest_0 : decode cX7_firstBest 0 = .ok (.iconst 0, 1) := by decide +kernel
theorem dX7_firstBest_1 : decode cX7_firstBest 1 = .ok (.istore_n 3, 1) := by decide +kernel
theorem dX7_firstBest_2 : decode cX7_firstBest 2 = .ok (.iload_n 3, 1) := by decide +kernel
theorem dX7_firstBest_3 : decode cX7_firstBest 3 = .ok (.aload_n 0, 1) := by decide +kernel
theorem dX7_firstBest_4 : decode cX7_firstBest 4 = .ok (.getfield 43, 3) := by decide +kernel
theorem dX7_firstBest_7 : decode cX7_firstBest 7 = .ok (.getfield 52, 3) := by decide +kernel
theorem dX7_firstBest_10 : decode cX7_firstBest 10 = .ok (.if_icmp .ge 35, 3) := by decide +kernel
theorem dX7_firstBest_13 : decode cX7_firstBest 13 = .ok (.iload_n 2, 1) := by decide +kernel
theorem dX7_firstBest_14 : decode cX7_firstBest 14 = .ok (.iload_n 3, 1) := by decide +kernel
theorem dX7_firstBest_15 : decode cX7_firstBest 15 = .ok (.ishr, 1) := by decide +kernel
theorem dX7_firstBest_16 : decode cX7_firstBest 16 = .ok (.iconst 1, 1) := by decide +kernel
theorem dX7_firstBest_17 : decode cX7_firstBest 17 = .ok (.iand, 1) := by decide +kernel
theorem dX7_firstBest_18 : decode cX7_firstBest 18 = .ok (.ifCond .ne 21, 3) := by decide +kernel
theorem dX7_firstBest_21 : decode cX7_firstBest 21 = .ok (.aload_n 0, 1) := by decide +kernel
theorem dX7_firstBest_22 : decode cX7_firstBest 22 = .ok (.iload_n 1, 1) := by decide +kernel
theorem dX7_firstBest_23 : decode cX7_firstBest 23 = .ok (.iload_n 3, 1) := by decide +kernel
theorem dX7_firstBest_24 : decode cX7_firstBest 24 = .ok (.iload_n 2, 1) := by decide +kernel
theorem dX7_firstBest_25 : decode cX7_firstBest 25 = .ok (.invokevirtual 124, 3) := by decide +kernel
theorem dX7_firstBest_28 : decode cX7_firstBest 28 = .ok (.aload_n 0, 1) := by decide +kernel
theorem dX7_firstBest_29 : decode cX7_firstBest 29 = .ok (.getfield 22, 3) := by decide +kernel
theorem dX7_firstBest_32 : decode cX7_firstBest 32 = .ok (.iload_n 2, 1) := by decide +kernel
theorem dX7_firstBest_33 : decode cX7_firstBest 33 = .ok (.iaload, 1) := by decide +kernel
theorem dX7_firstBest_34 : decode cX7_firstBest 34 = .ok (.if_icmp .ne 5, 3) := by decide +kernel
theorem dX7_firstBest_37 : decode cX7_firstBest 37 = .ok (.iload_n 3, 1) := by decide +kernel
theorem dX7_firstBest_38 : decode cX7_firstBest 38 = .ok (.ireturn, 1) := by decide +kernel
theorem dX7_firstBest_39 : decode cX7_firstBest 39 = .ok (.iinc 3 1, 3) := by decide +kernel
theorem dX7_firstBest_42 : decode cX7_firstBest 42 = .ok (.goto (-40), 3) := by decide +kernel
theorem dX7_firstBest_45 : decode cX7_firstBest 45 = .ok (.iconst (-1), 1) := by decide +kernel
theorem dX7_firstBest_46 : decode cX7_firstBest 46 = .ok (.ireturn, 1) := by decide +kernel
theorem dX7_pairsWhoWouldChange_0 : decode cX7_pairsWhoWouldChange 0 = .ok (.aload_n 0, 1) := by decide +kernel
theorem dX7_pairsWhoWouldChange_1 : decode cX7_pairsWhoWouldChange 1 = .ok (.aload_n 1, 1) := by decide +kernel
theorem dX7_pairsWhoWouldChange_2 : decode cX7_pairsWhoWouldChange 2 = .ok (.invokevirtual 133, 3) := by decide +kernel
theorem dX7_pairsWhoWouldChange_5 : decode cX7_pairsWhoWouldChange 5 = .ok (.astore_n 2, 1) := by decide +kernel
theorem dX7_pairsWhoWouldChange_6 : decode cX7_pairsWhoWouldChange 6 = .ok (.iconst 0, 1) := by decide +kernel
theorem dX7_pairsWhoWouldChange_7 : decode cX7_pairsWhoWouldChange 7 = .ok (.istore_n 3, 1) := by decide +kernel
theorem dX7_pairsWhoWouldChange_8 : decode cX7_pairsWhoWouldChange 8 = .ok (.iconst 0, 1) := by decide +kernel
theorem dX7_pairsWhoWouldChange_9 : decode cX7_pairsWhoWouldChange 9 = .ok (.istore 4, 2) := by decide +kernel
theorem dX7_pairsWhoWouldChange_11 : decode cX7_pairsWhoWouldChange 11 = .ok (.iload 4, 2) := by decide +kernel
theorem dX7_pairsWhoWouldChange_13 : decode cX7_pairsWhoWouldChange 13 = .ok (.aload_n 0, 1) := by decide +kernel
theorem dX7_pairsWhoWouldChange_14 : decode cX7_pairsWhoWouldChange 14 = .ok (.getfield 43, 3) := by decide +kernel
theorem dX7_pairsWhoWouldChange_17 : decode cX7_pairsWhoWouldChange 17 = .ok (.getfield 52, 3) := by decide +kernel
theorem dX7_pairsWhoWouldChange_20 : decode cX7_pairsWhoWouldChange 20 = .ok (.if_icmp .ge 60, 3) := by decide +kernel
theorem dX7_pairsWhoWouldChange_23 : decode cX7_pairsWhoWouldChange 23 = .ok (.iload 4, 2) := by decide +kernel
theorem dX7_pairsWhoWouldChange_25 : decode cX7_pairsWhoWouldChange 25 = .ok (.iconst 1, 1) := by decide +kernel
theorem dX7_pairsWhoWouldChange_26 : decode cX7_pairsWhoWouldChange 26 = .ok (.iadd, 1) := by decide +kernel
theorem dX7_pairsWhoWouldChange_27 : decode cX7_pairsWhoWouldChange 27 = .ok (.istore 5, 2) := by decide +kernel
theorem dX7_pairsWhoWouldChange_29 : decode cX7_pairsWhoWouldChange 29 = .ok (.iload 5, 2) := by decide +kernel
theorem dX7_pairsWhoWouldChange_31 : decode cX7_pairsWhoWouldChange 31 = .ok (.aload_n 0, 1) := by decide +kernel
theorem dX7_pairsWhoWouldChange_32 : decode cX7_pairsWhoWouldChange 32 = .ok (.getfield 43, 3) := by decide +kernel
theorem dX7_pairsWhoWouldChange_35 : decode cX7_pairsWhoWouldChange 35 = .ok (.getfield 52, 3) := by decide +kernel
theorem dX7_pairsWhoWouldChange_38 : decode cX7_pairsWhoWouldChange 38 = .ok (.if_icmp .ge 36, 3) := by decide +kernel
theorem dX7_pairsWhoWouldChange_41 : decode cX7_pairsWhoWouldChange 41 = .ok (.aload_n 0, 1) := by decide +kernel
theorem dX7_pairsWhoWouldChange_42 : decode cX7_pairsWhoWouldChange 42 = .ok (.aload_n 2, 1) := by decide +kernel
theorem dX7_pairsWhoWouldChange_43 : decode cX7_pairsWhoWouldChange 43 = .ok (.iload 4, 2) := by decide +kernel
theorem dX7_pairsWhoWouldChange_45 : decode cX7_pairsWhoWouldChange 45 = .ok (.iload 5, 2) := by decide +kernel
theorem dX7_pairsWhoWouldChange_47 : decode cX7_pairsWhoWouldChange 47 = .ok (.invokevirtual 137, 3) := by decide +kernel
theorem dX7_pairsWhoWouldChange_50 : decode cX7_pairsWhoWouldChange 50 = .ok (.ifCond .eq 18, 3) := by decide +kernel
theorem dX7_pairsWhoWouldChange_53 : decode cX7_pairsWhoWouldChange 53 = .ok (.aload_n 0, 1) := by decide +kernel
theorem dX7_pairsWhoWouldChange_54 : decode cX7_pairsWhoWouldChange 54 = .ok (.aload_n 2, 1) := by decide +kernel
theorem dX7_pairsWhoWouldChange_55 : decode cX7_pairsWhoWouldChange 55 = .ok (.iload 5, 2) := by decide +kernel
theorem dX7_pairsWhoWouldChange_57 : decode cX7_pairsWhoWouldChange 57 = .ok (.iload 4, 2) := by decide +kernel
theorem dX7_pairsWhoWouldChange_59 : decode cX7_pairsWhoWouldChange 59 = .ok (.invokevirtual 137, 3) := by decide +kernel
theorem dX7_pairsWhoWouldChange_62 : decode cX7_pairsWhoWouldChange 62 = .ok (.ifCond .eq 6, 3) := by decide +kernel
theorem dX7_pairsWhoWouldChange_65 : decode cX7_pairsWhoWouldChange 65 = .ok (.iinc 3 1, 3) := by decide +kernel
theorem dX7_pairsWhoWouldChange_68 : decode cX7_pairsWhoWouldChange 68 = .ok (.iinc 5 1, 3) := by decide +kernel
theorem dX7_pairsWhoWouldChange_71 : decode cX7_pairsWhoWouldChange 71 = .ok (.goto (-42), 3) := by decide +kernel
theorem dX7_pairsWhoWouldChange_74 : decode cX7_pairsWhoWouldChange 74 = .ok (.iinc 4 1, 3) := by decide +kernel
theorem dX7_pairsWhoWouldChange_77 : decode cX7_pairsWhoWouldChange 77 = .ok (.goto (-66), 3) := by decide +kernel
theorem dX7_pairsWhoWouldChange_80 : decode cX7_pairsWhoWouldChange 80 = .ok (.iload_n 3, 1) := by decide +kernel
theorem dX7_pairsWhoWouldChange_81 : decode cX7_pairsWhoWouldChange 81 = .ok (.ireturn, 1) := by decide +kernel
theorem dX7_envies_0 : decode cX7_envies 0 = .ok (.aload_n 0, 1) := by decide +kernel
theorem dX7_envies_1 : decode cX7_envies 1 = .ok (.getfield 43, 3) := by decide +kernel
theorem dX7_envies_4 : decode cX7_envies 4 = .ok (.iload_n 2, 1) := by decide +kernel
theorem dX7_envies_5 : decode cX7_envies 5 = .ok (.aload_n 1, 1) := by decide +kernel
theorem dX7_envies_6 : decode cX7_envies 6 = .ok (.getfield 73, 3) := by decide +kernel
theorem dX7_envies_9 : decode cX7_envies 9 = .ok (.iload_n 3, 1) := by decide +kernel
theorem dX7_envies_10 : decode cX7_envies 10 = .ok (.iaload, 1) := by decide +kernel
theorem dX7_envies_11 : decode cX7_envies 11 = .ok (.invokevirtual 110, 3) := by decide +kernel
theorem dX7_envies_14 : decode cX7_envies 14 = .ok (.aload_n 0, 1) := by decide +kernel
theorem dX7_envies_15 : decode cX7_envies 15 = .ok (.getfield 43, 3) := by decide +kernel
theorem dX7_envies_18 : decode cX7_envies 18 = .ok (.iload_n 2, 1) := by decide +kernel
theorem dX7_envies_19 : decode cX7_envies 19 = .ok (.aload_n 1, 1) := by decide +kernel
theorem dX7_envies_20 : decode cX7_envies 20 = .ok (.getfield 73, 3) := by decide +kernel
theorem dX7_envies_23 : decode cX7_envies 23 = .ok (.iload_n 2, 1) := by decide +kernel
theorem dX7_envies_24 : decode cX7_envies 24 = .ok (.iaload, 1) := by decide +kernel
theorem dX7_envies_25 : decode cX7_envies 25 = .ok (.invokevirtual 110, 3) := by decide +kernel
theorem dX7_envies_28 : decode cX7_envies 28 = .ok (.if_icmp .le 7, 3) := by decide +kernel
theorem dX7_envies_31 : decode cX7_envies 31 = .ok (.iconst 1, 1) := by decide +kernel
theorem dX7_envies_32 : decode cX7_envies 32 = .ok (.goto 4, 3) := by decide +kernel
theorem dX7_envies_35 : decode cX7_envies 35 = .ok (.iconst 0, 1) := by decide +kernel
theorem dX7_envies_36 : decode cX7_envies 36 = .ok (.ireturn, 1) := by decide +kernel
theorem dX7_leastFace_0 : decode cX7_leastFace 0 = .ok (.iconst 0, 1) := by decide +kernel
theorem dX7_leastFace_1 : decode cX7_leastFace 1 = .ok (.istore_n 3, 1) := by decide +kernel
theorem dX7_leastFace_2 : decode cX7_leastFace 2 = .ok (.iload_n 3, 1) := by decide +kernel
theorem dX7_leastFace_3 : decode cX7_leastFace 3 = .ok (.aload_n 0, 1) := by decide +kernel
theorem dX7_leastFace_4 : decode cX7_leastFace 4 = .ok (.getfield 43, 3) := by decide +kernel
theorem dX7_leastFace_7 : decode cX7_leastFace 7 = .ok (.getfield 52, 3) := by decide +kernel
theorem dX7_leastFace_10 : decode cX7_leastFace 10 = .ok (.if_icmp .ge 29, 3) := by decide +kernel
theorem dX7_leastFace_13 : decode cX7_leastFace 13 = .ok (.aload_n 0, 1) := by decide +kernel
theorem dX7_leastFace_14 : decode cX7_leastFace 14 = .ok (.getfield 26, 3) := by decide +kernel
theorem dX7_leastFace_17 : decode cX7_leastFace 17 = .ok (.iload_n 3, 1) := by decide +kernel
theorem dX7_leastFace_18 : decode cX7_leastFace 18 = .ok (.aload_n 0, 1) := by decide +kernel
theorem dX7_leastFace_19 : decode cX7_leastFace 19 = .ok (.getfield 43, 3) := by decide +kernel
theorem dX7_leastFace_22 : decode cX7_leastFace 22 = .ok (.getfield 141, 3) := by decide +kernel
theorem dX7_leastFace_25 : decode cX7_leastFace 25 = .ok (.bipush 10, 2) := by decide +kernel
theorem dX7_leastFace_27 : decode cX7_leastFace 27 = .ok (.iload_n 3, 1) := by decide +kernel
theorem dX7_leastFace_28 : decode cX7_leastFace 28 = .ok (.imul, 1) := by decide +kernel
theorem dX7_leastFace_29 : decode cX7_leastFace 29 = .ok (.iload_n 2, 1) := by decide +kernel
theorem dX7_leastFace_30 : decode cX7_leastFace 30 = .ok (.iadd, 1) := by decide +kernel
theorem dX7_leastFace_31 : decode cX7_leastFace 31 = .ok (.iaload, 1) := by decide +kernel
theorem dX7_leastFace_32 : decode cX7_leastFace 32 = .ok (.iastore, 1) := by decide +kernel
theorem dX7_leastFace_33 : decode cX7_leastFace 33 = .ok (.iinc 3 1, 3) := by decide +kernel
theorem dX7_leastFace_36 : decode cX7_leastFace 36 = .ok (.goto (-34), 3) := by decide +kernel
theorem dX7_leastFace_39 : decode cX7_leastFace 39 = .ok (.bipush (-2), 2) := by decide +kernel
theorem dX7_leastFace_41 : decode cX7_leastFace 41 = .ok (.istore_n 3, 1) := by decide +kernel
theorem dX7_leastFace_42 : decode cX7_leastFace 42 = .ok (.iconst 0, 1) := by decide +kernel
theorem dX7_leastFace_43 : decode cX7_leastFace 43 = .ok (.istore 4, 2) := by decide +kernel
theorem dX7_leastFace_45 : decode cX7_leastFace 45 = .ok (.iload 4, 2) := by decide +kernel
theorem dX7_leastFace_47 : decode cX7_leastFace 47 = .ok (.bipush 99, 2) := by decide +kernel
theorem dX7_leastFace_49 : decode cX7_leastFace 49 = .ok (.if_icmp .gt 38, 3) := by decide +kernel
theorem dX7_leastFace_52 : decode cX7_leastFace 52 = .ok (.iload_n 3, 1) := by decide +kernel
theorem dX7_leastFace_53 : decode cX7_leastFace 53 = .ok (.bipush (-2), 2) := by decide +kernel
theorem dX7_leastFace_55 : decode cX7_leastFace 55 = .ok (.if_icmp .ne 32, 3) := by decide +kernel
theorem dX7_leastFace_58 : decode cX7_leastFace 58 = .ok (.aload_n 0, 1) := by decide +kernel
theorem dX7_leastFace_59 : decode cX7_leastFace 59 = .ok (.iload_n 2, 1) := by decide +kernel
theorem dX7_leastFace_60 : decode cX7_leastFace 60 = .ok (.iload 4, 2) := by decide +kernel
theorem dX7_leastFace_62 : decode cX7_leastFace 62 = .ok (.invokevirtual 144, 3) := by decide +kernel
theorem dX7_leastFace_65 : decode cX7_leastFace 65 = .ok (.aload_n 0, 1) := by decide +kernel
theorem dX7_leastFace_66 : decode cX7_leastFace 66 = .ok (.aload_n 1, 1) := by decide +kernel
theorem dX7_leastFace_67 : decode cX7_leastFace 67 = .ok (.invokevirtual 133, 3) := by decide +kernel
theorem dX7_leastFace_70 : decode cX7_leastFace 70 = .ok (.getfield 148, 3) := by decide +kernel
theorem dX7_leastFace_73 : decode cX7_leastFace 73 = .ok (.iload_n 2, 1) := by decide +kernel
theorem dX7_leastFace_74 : decode cX7_leastFace 74 = .ok (.iaload, 1) := by decide +kernel
theorem dX7_leastFace_75 : decode cX7_leastFace 75 = .ok (.ifCond .ne 6, 3) := by decide +kernel
theorem dX7_leastFace_78 : decode cX7_leastFace 78 = .ok (.iload 4, 2) := by decide +kernel
theorem dX7_leastFace_80 : decode cX7_leastFace 80 = .ok (.istore_n 3, 1) := by decide +kernel
theorem dX7_leastFace_81 : decode cX7_leastFace 81 = .ok (.iinc 4 1, 3) := by decide +kernel
theorem dX7_leastFace_84 : decode cX7_leastFace 84 = .ok (.goto (-39), 3) := by decide +kernel
theorem dX7_leastFace_87 : decode cX7_leastFace 87 = .ok (.aload_n 0, 1) := by decide +kernel
theorem dX7_leastFace_88 : decode cX7_leastFace 88 = .ok (.iload_n 2, 1) := by decide +kernel
theorem dX7_leastFace_89 : decode cX7_leastFace 89 = .ok (.iconst 0, 1) := by decide +kernel
theorem dX7_leastFace_90 : decode cX7_leastFace 90 = .ok (.invokevirtual 144, 3) := by decide +kernel
theorem dX7_leastFace_93 : decode cX7_leastFace 93 = .ok (.iload_n 3, 1) := by decide +kernel
theorem dX7_leastFace_94 : decode cX7_leastFace 94 = .ok (.ireturn, 1) := by decide +kernel
theorem dX7_lessen_0 : decode cX7_lessen 0 = .ok (.iconst 0, 1) := by decide +kernel
theorem dX7_lessen_1 : decode cX7_lessen 1 = .ok (.istore_n 3, 1) := by decide +kernel
theorem dX7_lessen_2 : decode cX7_lessen 2 = .ok (.iload_n 3, 1) := by decide +kernel
theorem dX7_lessen_3 : decode cX7_lessen 3 = .ok (.aload_n 0, 1) := by decide +kernel
theorem dX7_lessen_4 : decode cX7_lessen 4 = .ok (.getfield 43, 3) := by decide +kernel
theorem dX7_lessen_7 : decode cX7_lessen 7 = .ok (.getfield 52, 3) := by decide +kernel
theorem dX7_lessen_10 : decode cX7_lessen 10 = .ok (.if_icmp .ge 35, 3) := by decide +kernel
theorem dX7_lessen_13 : decode cX7_lessen 13 = .ok (.aload_n 0, 1) := by decide +kernel
theorem dX7_lessen_14 : decode cX7_lessen 14 = .ok (.getfield 43, 3) := by decide +kernel
theorem dX7_lessen_17 : decode cX7_lessen 17 = .ok (.getfield 141, 3) := by decide +kernel
theorem dX7_lessen_20 : decode cX7_lessen 20 = .ok (.bipush 10, 2) := by decide +kernel
theorem dX7_lessen_22 : decode cX7_lessen 22 = .ok (.iload_n 3, 1) := by decide +kernel
theorem dX7_lessen_23 : decode cX7_lessen 23 = .ok (.imul, 1) := by decide +kernel
theorem dX7_lessen_24 : decode cX7_lessen 24 = .ok (.iload_n 1, 1) := by decide +kernel
theorem dX7_lessen_25 : decode cX7_lessen 25 = .ok (.iadd, 1) := by decide +kernel
theorem dX7_lessen_26 : decode cX7_lessen 26 = .ok (.aload_n 0, 1) := by decide +kernel
theorem dX7_lessen_27 : decode cX7_lessen 27 = .ok (.getfield 26, 3) := by decide +kernel
theorem dX7_lessen_30 : decode cX7_lessen 30 = .ok (.iload_n 3, 1) := by decide +kernel
theorem dX7_lessen_31 : decode cX7_lessen 31 = .ok (.iaload, 1) := by decide +kernel
theorem dX7_lessen_32 : decode cX7_lessen 32 = .ok (.iload_n 2, 1) := by decide +kernel
theorem dX7_lessen_33 : decode cX7_lessen 33 = .ok (.isub, 1) := by decide +kernel
theorem dX7_lessen_34 : decode cX7_lessen 34 = .ok (.iconst 0, 1) := by decide +kernel
theorem dX7_lessen_35 : decode cX7_lessen 35 = .ok (.invokestatic 128, 3) := by decide +kernel
theorem dX7_lessen_38 : decode cX7_lessen 38 = .ok (.iastore, 1) := by decide +kernel
theorem dX7_lessen_39 : decode cX7_lessen 39 = .ok (.iinc 3 1, 3) := by decide +kernel
theorem dX7_lessen_42 : decode cX7_lessen 42 = .ok (.goto (-40), 3) := by decide +kernel
theorem dX7_lessen_45 : decode cX7_lessen 45 = .ok (.return_, 1) := by decide +kernel
theorem dX7_drawNumbers_0 : decode cX7_drawNumbers 0 = .ok (.aload_n 0, 1) := by decide +kernel
theorem dX7_drawNumbers_1 : decode cX7_drawNumbers 1 = .ok (.getfield 32, 3) := by decide +kernel
theorem dX7_drawNumbers_4 : decode cX7_drawNumbers 4 = .ok (.iconst 0, 1) := by decide +kernel
theorem dX7_drawNumbers_5 : decode cX7_drawNumbers 5 = .ok (.invokestatic 151, 3) := by decide +kernel
theorem dX7_drawNumbers_8 : decode cX7_drawNumbers 8 = .ok (.iload_n 2, 1) := by decide +kernel
theorem dX7_drawNumbers_9 : decode cX7_drawNumbers 9 = .ok (.istore 4, 2) := by decide +kernel
theorem dX7_drawNumbers_11 : decode cX7_drawNumbers 11 = .ok (.iconst 0, 1) := by decide +kernel
theorem dX7_drawNumbers_12 : decode cX7_drawNumbers 12 = .ok (.istore 5, 2) := by decide +kernel
theorem dX7_drawNumbers_14 : decode cX7_drawNumbers 14 = .ok (.iload 5, 2) := by decide +kernel
theorem dX7_drawNumbers_16 : decode cX7_drawNumbers 16 = .ok (.iload_n 3, 1) := by decide +kernel
theorem dX7_drawNumbers_17 : decode cX7_drawNumbers 17 = .ok (.if_icmp .ge 166, 3) := by decide +kernel
theorem dX7_drawNumbers_20 : decode cX7_drawNumbers 20 = .ok (.aload_n 1, 1) := by decide +kernel
theorem dX7_drawNumbers_21 : decode cX7_drawNumbers 21 = .ok (.iconst 0, 1) := by decide +kernel
theorem dX7_drawNumbers_22 : decode cX7_drawNumbers 22 = .ok (.aload_n 0, 1) := by decide +kernel
theorem dX7_drawNumbers_23 : decode cX7_drawNumbers 23 = .ok (.getfield 29, 3) := by decide +kernel
theorem dX7_drawNumbers_26 : decode cX7_drawNumbers 26 = .ok (.iconst 0, 1) := by decide +kernel
theorem dX7_drawNumbers_27 : decode cX7_drawNumbers 27 = .ok (.bipush 7, 2) := by decide +kernel
theorem dX7_drawNumbers_29 : decode cX7_drawNumbers 29 = .ok (.invokestatic 76, 3) := by decide +kernel
theorem dX7_drawNumbers_32 : decode cX7_drawNumbers 32 = .ok (.aload_n 0, 1) := by decide +kernel
theorem dX7_drawNumbers_33 : decode cX7_drawNumbers 33 = .ok (.getfield 43, 3) := by decide +kernel
theorem dX7_drawNumbers_36 : decode cX7_drawNumbers 36 = .ok (.getfield 52, 3) := by decide +kernel
theorem dX7_drawNumbers_39 : decode cX7_drawNumbers 39 = .ok (.iconst 1, 1) := by decide +kernel
theorem dX7_drawNumbers_40 : decode cX7_drawNumbers 40 = .ok (.isub, 1) := by decide +kernel
theorem dX7_drawNumbers_41 : decode cX7_drawNumbers 41 = .ok (.istore 6, 2) := by decide +kernel
theorem dX7_drawNumbers_43 : decode cX7_drawNumbers 43 = .ok (.iload 6, 2) := by decide +kernel
theorem dX7_drawNumbers_45 : decode cX7_drawNumbers 45 = .ok (.iconst 1, 1) := by decide +kernel
theorem dX7_drawNumbers_46 : decode cX7_drawNumbers 46 = .ok (.if_icmp .lt 64, 3) := by decide +kernel
theorem dX7_drawNumbers_49 : decode cX7_drawNumbers 49 = .ok (.iload 4, 2) := by decide +kernel
theorem dX7_drawNumbers_51 : decode cX7_drawNumbers 51 = .ok (.ldc 157, 2) := by decide +kernel
theorem dX7_drawNumbers_53 : decode cX7_drawNumbers 53 = .ok (.imul, 1) := by decide +kernel
theorem dX7_drawNumbers_54 : decode cX7_drawNumbers 54 = .ok (.sipush 12345, 3) := by decide +kernel
theorem dX7_drawNumbers_57 : decode cX7_drawNumbers 57 = .ok (.iadd, 1) := by decide +kernel
theorem dX7_drawNumbers_58 : decode cX7_drawNumbers 58 = .ok (.istore 4, 2) := by decide +kernel
theorem dX7_drawNumbers_60 : decode cX7_drawNumbers 60 = .ok (.iload 4, 2) := by decide +kernel
theorem dX7_drawNumbers_62 : decode cX7_drawNumbers 62 = .ok (.bipush 8, 2) := by decide +kernel
theorem dX7_drawNumbers_64 : decode cX7_drawNumbers 64 = .ok (.iushr, 1) := by decide +kernel
theorem dX7_drawNumbers_65 : decode cX7_drawNumbers 65 = .ok (.iload 6, 2) := by decide +kernel
theorem dX7_drawNumbers_67 : decode cX7_drawNumbers 67 = .ok (.iconst 1, 1) := by decide +kernel
theorem dX7_drawNumbers_68 : decode cX7_drawNumbers 68 = .ok (.iadd, 1) := by decide +kernel
theorem dX7_drawNumbers_69 : decode cX7_drawNumbers 69 = .ok (.irem, 1) := by decide +kernel
theorem dX7_drawNumbers_70 : decode cX7_drawNumbers 70 = .ok (.istore 7, 2) := by decide +kernel
theorem dX7_drawNumbers_72 : decode cX7_drawNumbers 72 = .ok (.aload_n 0, 1) := by decide +kernel
theorem dX7_drawNumbers_73 : decode cX7_drawNumbers 73 = .ok (.getfield 29, 3) := by decide +kernel
theorem dX7_drawNumbers_76 : decode cX7_drawNumbers 76 = .ok (.iload 6, 2) := by decide +kernel
theorem dX7_drawNumbers_78 : decode cX7_drawNumbers 78 = .ok (.iaload, 1) := by decide +kernel
theorem dX7_drawNumbers_79 : decode cX7_drawNumbers 79 = .ok (.istore 8, 2) := by decide +kernel
theorem dX7_drawNumbers_81 : decode cX7_drawNumbers 81 = .ok (.aload_n 0, 1) := by decide +kernel
theorem dX7_drawNumbers_82 : decode cX7_drawNumbers 82 = .ok (.getfield 29, 3) := by decide +kernel
theorem dX7_drawNumbers_85 : decode cX7_drawNumbers 85 = .ok (.iload 6, 2) := by decide +kernel
theorem dX7_drawNumbers_87 : decode cX7_drawNumbers 87 = .ok (.aload_n 0, 1) := by decide +kernel
theorem dX7_drawNumbers_88 : decode cX7_drawNumbers 88 = .ok (.getfield 29, 3) := by decide +kernel
theorem dX7_drawNumbers_91 : decode cX7_drawNumbers 91 = .ok (.iload 7, 2) := by decide +kernel
theorem dX7_drawNumbers_93 : decode cX7_drawNumbers 93 = .ok (.iaload, 1) := by decide +kernel
theorem dX7_drawNumbers_94 : decode cX7_drawNumbers 94 = .ok (.iastore, 1) := by decide +kernel
theorem dX7_drawNumbers_95 : decode cX7_drawNumbers 95 = .ok (.aload_n 0, 1) := by decide +kernel
theorem dX7_drawNumbers_96 : decode cX7_drawNumbers 96 = .ok (.getfield 29, 3) := by decide +kernel
theorem dX7_drawNumbers_99 : decode cX7_drawNumbers 99 = .ok (.iload 7, 2) := by decide +kernel
theorem dX7_drawNumbers_101 : decode cX7_drawNumbers 101 = .ok (.iload 8, 2) := by decide +kernel
theorem dX7_drawNumbers_103 : decode cX7_drawNumbers 103 = .ok (.iastore, 1) := by decide +kernel
theorem dX7_drawNumbers_104 : decode cX7_drawNumbers 104 = .ok (.iinc 6 (-1), 3) := by decide +kernel
theorem dX7_drawNumbers_107 : decode cX7_drawNumbers 107 = .ok (.goto (-64), 3) := by decide +kernel
theorem dX7_drawNumbers_110 : decode cX7_drawNumbers 110 = .ok (.aload_n 0, 1) := by decide +kernel
theorem dX7_drawNumbers_111 : decode cX7_drawNumbers 111 = .ok (.aload_n 0, 1) := by decide +kernel
theorem dX7_drawNumbers_112 : decode cX7_drawNumbers 112 = .ok (.getfield 29, 3) := by decide +kernel
theorem dX7_drawNumbers_115 : decode cX7_drawNumbers 115 = .ok (.invokevirtual 133, 3) := by decide +kernel
theorem dX7_drawNumbers_118 : decode cX7_drawNumbers 118 = .ok (.astore 6, 2) := by decide +kernel
theorem dX7_drawNumbers_120 : decode cX7_drawNumbers 120 = .ok (.iconst 0, 1) := by decide +kernel
theorem dX7_drawNumbers_121 : decode cX7_drawNumbers 121 = .ok (.istore 7, 2) := by decide +kernel
theorem dX7_drawNumbers_123 : decode cX7_drawNumbers 123 = .ok (.iload 7, 2) := by decide +kernel
theorem dX7_drawNumbers_125 : decode cX7_drawNumbers 125 = .ok (.aload_n 0, 1) := by decide +kernel
theorem dX7_drawNumbers_126 : decode cX7_drawNumbers 126 = .ok (.getfield 43, 3) := by decide +kernel
theorem dX7_drawNumbers_129 : decode cX7_drawNumbers 129 = .ok (.getfield 52, 3) := by decide +kernel
theorem dX7_drawNumbers_132 : decode cX7_drawNumbers 132 = .ok (.if_icmp .ge 45, 3) := by decide +kernel
theorem dX7_drawNumbers_135 : decode cX7_drawNumbers 135 = .ok (.aload_n 0, 1) := by decide +kernel
theorem dX7_drawNumbers_136 : decode cX7_drawNumbers 136 = .ok (.getfield 29, 3) := by decide +kernel
theorem dX7_drawNumbers_139 : decode cX7_drawNumbers 139 = .ok (.iload 7, 2) := by decide +kernel
theorem dX7_drawNumbers_141 : decode cX7_drawNumbers 141 = .ok (.iaload, 1) := by decide +kernel
theorem dX7_drawNumbers_142 : decode cX7_drawNumbers 142 = .ok (.istore 8, 2) := by decide +kernel
theorem dX7_drawNumbers_144 : decode cX7_drawNumbers 144 = .ok (.aload_n 0, 1) := by decide +kernel
theorem dX7_drawNumbers_145 : decode cX7_drawNumbers 145 = .ok (.getfield 32, 3) := by decide +kernel
theorem dX7_drawNumbers_148 : decode cX7_drawNumbers 148 = .ok (.iload 7, 2) := by decide +kernel
theorem dX7_drawNumbers_150 : decode cX7_drawNumbers 150 = .ok (.dup2, 1) := by decide +kernel
theorem dX7_drawNumbers_151 : decode cX7_drawNumbers 151 = .ok (.iaload, 1) := by decide +kernel
theorem dX7_drawNumbers_152 : decode cX7_drawNumbers 152 = .ok (.aload_n 0, 1) := by decide +kernel
theorem dX7_drawNumbers_153 : decode cX7_drawNumbers 153 = .ok (.getfield 43, 3) := by decide +kernel
theorem dX7_drawNumbers_156 : decode cX7_drawNumbers 156 = .ok (.iload 8, 2) := by decide +kernel
theorem dX7_drawNumbers_158 : decode cX7_drawNumbers 158 = .ok (.aload 6, 2) := by decide +kernel
theorem dX7_drawNumbers_160 : decode cX7_drawNumbers 160 = .ok (.getfield 73, 3) := by decide +kernel
theorem dX7_drawNumbers_163 : decode cX7_drawNumbers 163 = .ok (.iload 8, 2) := by decide +kernel
theorem dX7_drawNumbers_165 : decode cX7_drawNumbers 165 = .ok (.iaload, 1) := by decide +kernel
theorem dX7_drawNumbers_166 : decode cX7_drawNumbers 166 = .ok (.invokevirtual 110, 3) := by decide +kernel
theorem dX7_drawNumbers_169 : decode cX7_drawNumbers 169 = .ok (.iadd, 1) := by decide +kernel
theorem dX7_drawNumbers_170 : decode cX7_drawNumbers 170 = .ok (.iastore, 1) := by decide +kernel
theorem dX7_drawNumbers_171 : decode cX7_drawNumbers 171 = .ok (.iinc 7 1, 3) := by decide +kernel
theorem dX7_drawNumbers_174 : decode cX7_drawNumbers 174 = .ok (.goto (-51), 3) := by decide +kernel
theorem dX7_drawNumbers_177 : decode cX7_drawNumbers 177 = .ok (.iinc 5 1, 3) := by decide +kernel
theorem dX7_drawNumbers_180 : decode cX7_drawNumbers 180 = .ok (.goto (-166), 3) := by decide +kernel
theorem dX7_drawNumbers_183 : decode cX7_drawNumbers 183 = .ok (.return_, 1) := by decide +kernel
theorem dX7_unlike_0 : decode cX7_unlike 0 = .ok (.aload_n 0, 1) := by decide +kernel
theorem dX7_unlike_1 : decode cX7_unlike 1 = .ok (.getfield 32, 3) := by decide +kernel
theorem dX7_unlike_4 : decode cX7_unlike 4 = .ok (.iconst 0, 1) := by decide +kernel
theorem dX7_unlike_5 : decode cX7_unlike 5 = .ok (.iaload, 1) := by decide +kernel
theorem dX7_unlike_6 : decode cX7_unlike 6 = .ok (.istore_n 1, 1) := by decide +kernel
theorem dX7_unlike_7 : decode cX7_unlike 7 = .ok (.aload_n 0, 1) := by decide +kernel
theorem dX7_unlike_8 : decode cX7_unlike 8 = .ok (.getfield 32, 3) := by decide +kernel
theorem dX7_unlike_11 : decode cX7_unlike 11 = .ok (.iconst 0, 1) := by decide +kernel
theorem dX7_unlike_12 : decode cX7_unlike 12 = .ok (.iaload, 1) := by decide +kernel
theorem dX7_unlike_13 : decode cX7_unlike 13 = .ok (.istore_n 2, 1) := by decide +kernel
theorem dX7_unlike_14 : decode cX7_unlike 14 = .ok (.iconst 1, 1) := by decide +kernel
theorem dX7_unlike_15 : decode cX7_unlike 15 = .ok (.istore_n 3, 1) := by decide +kernel
theorem dX7_unlike_16 : decode cX7_unlike 16 = .ok (.iload_n 3, 1) := by decide +kernel
theorem dX7_unlike_17 : decode cX7_unlike 17 = .ok (.aload_n 0, 1) := by decide +kernel
theorem dX7_unlike_18 : decode cX7_unlike 18 = .ok (.getfield 43, 3) := by decide +kernel
theorem dX7_unlike_21 : decode cX7_unlike 21 = .ok (.getfield 52, 3) := by decide +kernel
theorem dX7_unlike_24 : decode cX7_unlike 24 = .ok (.if_icmp .ge 31, 3) := by decide +kernel
theorem dX7_unlike_27 : decode cX7_unlike 27 = .ok (.iload_n 1, 1) := by decide +kernel
theorem dX7_unlike_28 : decode cX7_unlike 28 = .ok (.aload_n 0, 1) := by decide +kernel
theorem dX7_unlike_29 : decode cX7_unlike 29 = .ok (.getfield 32, 3) := by decide +kernel
theorem dX7_unlike_32 : decode cX7_unlike 32 = .ok (.iload_n 3, 1) := by decide +kernel
theorem dX7_unlike_33 : decode cX7_unlike 33 = .ok (.iaload, 1) := by decide +kernel
theorem dX7_unlike_34 : decode cX7_unlike 34 = .ok (.invokestatic 128, 3) := by decide +kernel
theorem dX7_unlike_37 : decode cX7_unlike 37 = .ok (.istore_n 1, 1) := by decide +kernel
theorem dX7_unlike_38 : decode cX7_unlike 38 = .ok (.iload_n 2, 1) := by decide +kernel
theorem dX7_unlike_39 : decode cX7_unlike 39 = .ok (.aload_n 0, 1) := by decide +kernel
theorem dX7_unlike_40 : decode cX7_unlike 40 = .ok (.getfield 32, 3) := by decide +kernel
theorem dX7_unlike_43 : decode cX7_unlike 43 = .ok (.iload_n 3, 1) := by decide +kernel
theorem dX7_unlike_44 : decode cX7_unlike 44 = .ok (.iaload, 1) := by decide +kernel
theorem dX7_unlike_45 : decode cX7_unlike 45 = .ok (.invokestatic 158, 3) := by decide +kernel
theorem dX7_unlike_48 : decode cX7_unlike 48 = .ok (.istore_n 2, 1) := by decide +kernel
theorem dX7_unlike_49 : decode cX7_unlike 49 = .ok (.iinc 3 1, 3) := by decide +kernel
theorem dX7_unlike_52 : decode cX7_unlike 52 = .ok (.goto (-36), 3) := by decide +kernel
theorem dX7_unlike_55 : decode cX7_unlike 55 = .ok (.iload_n 1, 1) := by decide +kernel
theorem dX7_unlike_56 : decode cX7_unlike 56 = .ok (.iload_n 2, 1) := by decide +kernel
theorem dX7_unlike_57 : decode cX7_unlike 57 = .ok (.isub, 1) := by decide +kernel
theorem dX7_unlike_58 : decode cX7_unlike 58 = .ok (.ireturn, 1) := by decide +kernel
theorem dX7_hear_0 : decode cX7_hear 0 = .ok (.aload_n 0, 1) := by decide +kernel
theorem dX7_hear_1 : decode cX7_hear 1 = .ok (.aload_n 1, 1) := by decide +kernel
theorem dX7_hear_2 : decode cX7_hear 2 = .ok (.putfield 35, 3) := by decide +kernel
theorem dX7_hear_5 : decode cX7_hear 5 = .ok (.aload_n 0, 1) := by decide +kernel
theorem dX7_hear_6 : decode cX7_hear 6 = .ok (.iload_n 2, 1) := by decide +kernel
theorem dX7_hear_7 : decode cX7_hear 7 = .ok (.putfield 39, 3) := by decide +kernel
theorem dX7_hear_10 : decode cX7_hear 10 = .ok (.return_, 1) := by decide +kernel
theorem dX7_firstUnlikeTold_0 : decode cX7_firstUnlikeTold 0 = .ok (.iconst 0, 1) := by decide +kernel
theorem dX7_firstUnlikeTold_1 : decode cX7_firstUnlikeTold 1 = .ok (.istore_n 2, 1) := by decide +kernel
theorem dX7_firstUnlikeTold_2 : decode cX7_firstUnlikeTold 2 = .ok (.iload_n 2, 1) := by decide +kernel
theorem dX7_firstUnlikeTold_3 : decode cX7_firstUnlikeTold 3 = .ok (.aload_n 0, 1) := by decide +kernel
theorem dX7_firstUnlikeTold_4 : decode cX7_firstUnlikeTold 4 = .ok (.getfield 43, 3) := by decide +kernel
theorem dX7_firstUnlikeTold_7 : decode cX7_firstUnlikeTold 7 = .ok (.getfield 52, 3) := by decide +kernel
theorem dX7_firstUnlikeTold_10 : decode cX7_firstUnlikeTold 10 = .ok (.if_icmp .ge 52, 3) := by decide +kernel
theorem dX7_firstUnlikeTold_13 : decode cX7_firstUnlikeTold 13 = .ok (.aload_n 0, 1) := by decide +kernel
theorem dX7_firstUnlikeTold_14 : decode cX7_firstUnlikeTold 14 = .ok (.getfield 35, 3) := by decide +kernel
theorem dX7_firstUnlikeTold_17 : decode cX7_firstUnlikeTold 17 = .ok (.ifnull 45, 3) := by decide +kernel
theorem dX7_firstUnlikeTold_20 : decode cX7_firstUnlikeTold 20 = .ok (.iload_n 2, 1) := by decide +kernel
theorem dX7_firstUnlikeTold_21 : decode cX7_firstUnlikeTold 21 = .ok (.aload_n 0, 1) := by decide +kernel
theorem dX7_firstUnlikeTold_22 : decode cX7_firstUnlikeTold 22 = .ok (.getfield 39, 3) := by decide +kernel
theorem dX7_firstUnlikeTold_25 : decode cX7_firstUnlikeTold 25 = .ok (.if_icmp .ge 37, 3) := by decide +kernel
theorem dX7_firstUnlikeTold_28 : decode cX7_firstUnlikeTold 28 = .ok (.iload_n 2, 1) := by decide +kernel
theorem dX7_firstUnlikeTold_29 : decode cX7_firstUnlikeTold 29 = .ok (.aload_n 0, 1) := by decide +kernel
theorem dX7_firstUnlikeTold_30 : decode cX7_firstUnlikeTold 30 = .ok (.getfield 35, 3) := by decide +kernel
theorem dX7_firstUnlikeTold_33 : decode cX7_firstUnlikeTold 33 = .ok (.arraylength, 1) := by decide +kernel
theorem dX7_firstUnlikeTold_34 : decode cX7_firstUnlikeTold 34 = .ok (.if_icmp .ge 28, 3) := by decide +kernel
theorem dX7_firstUnlikeTold_37 : decode cX7_firstUnlikeTold 37 = .ok (.aload_n 0, 1) := by decide +kernel
theorem dX7_firstUnlikeTold_38 : decode cX7_firstUnlikeTold 38 = .ok (.getfield 35, 3) := by decide +kernel
theorem dX7_firstUnlikeTold_41 : decode cX7_firstUnlikeTold 41 = .ok (.iload_n 2, 1) := by decide +kernel
theorem dX7_firstUnlikeTold_42 : decode cX7_firstUnlikeTold 42 = .ok (.laload, 1) := by decide +kernel
theorem dX7_firstUnlikeTold_43 : decode cX7_firstUnlikeTold 43 = .ok (.aload_n 1, 1) := by decide +kernel
theorem dX7_firstUnlikeTold_44 : decode cX7_firstUnlikeTold 44 = .ok (.getfield 73, 3) := by decide +kernel
theorem dX7_firstUnlikeTold_47 : decode cX7_firstUnlikeTold 47 = .ok (.iload_n 2, 1) := by decide +kernel
theorem dX7_firstUnlikeTold_48 : decode cX7_firstUnlikeTold 48 = .ok (.iaload, 1) := by decide +kernel
theorem dX7_firstUnlikeTold_49 : decode cX7_firstUnlikeTold 49 = .ok (.i2l, 1) := by decide +kernel
theorem dX7_firstUnlikeTold_50 : decode cX7_firstUnlikeTold 50 = .ok (.lcmp, 1) := by decide +kernel
theorem dX7_firstUnlikeTold_51 : decode cX7_firstUnlikeTold 51 = .ok (.ifCond .eq 5, 3) := by decide +kernel
theorem dX7_firstUnlikeTold_54 : decode cX7_firstUnlikeTold 54 = .ok (.iload_n 2, 1) := by decide +kernel
theorem dX7_firstUnlikeTold_55 : decode cX7_firstUnlikeTold 55 = .ok (.ireturn, 1) := by decide +kernel
theorem dX7_firstUnlikeTold_56 : decode cX7_firstUnlikeTold 56 = .ok (.iinc 2 1, 3) := by decide +kernel
theorem dX7_firstUnlikeTold_59 : decode cX7_firstUnlikeTold 59 = .ok (.goto (-57), 3) := by decide +kernel
theorem dX7_firstUnlikeTold_62 : decode cX7_firstUnlikeTold 62 = .ok (.bipush (-2), 2) := by decide +kernel
theorem dX7_firstUnlikeTold_64 : decode cX7_firstUnlikeTold 64 = .ok (.ireturn, 1) := by decide +kernel
theorem dX7_lotsAsTold_0 : decode cX7_lotsAsTold 0 = .ok (.aload_n 0, 1) := by decide +kernel
theorem dX7_lotsAsTold_1 : decode cX7_lotsAsTold 1 = .ok (.getfield 13, 3) := by decide +kernel
theorem dX7_lotsAsTold_4 : decode cX7_lotsAsTold 4 = .ok (.iconst 0, 1) := by decide +kernel
theorem dX7_lotsAsTold_5 : decode cX7_lotsAsTold 5 = .ok (.aaload, 1) := by decide +kernel
theorem dX7_lotsAsTold_6 : decode cX7_lotsAsTold 6 = .ok (.invokevirtual 161, 3) := by decide +kernel
theorem dX7_lotsAsTold_9 : decode cX7_lotsAsTold 9 = .ok (.aload_n 0, 1) := by decide +kernel
theorem dX7_lotsAsTold_10 : decode cX7_lotsAsTold 10 = .ok (.iconst 0, 1) := by decide +kernel
theorem dX7_lotsAsTold_11 : decode cX7_lotsAsTold 11 = .ok (.iconst 0, 1) := by decide +kernel
theorem dX7_lotsAsTold_12 : decode cX7_lotsAsTold 12 = .ok (.invokevirtual 164, 3) := by decide +kernel
theorem dX7_lotsAsTold_15 : decode cX7_lotsAsTold 15 = .ok (.ireturn, 1) := by decide +kernel
theorem dX7_lotsBehind_0 : decode cX7_lotsBehind 0 = .ok (.aload_n 0, 1) := by decide +kernel
theorem dX7_lotsBehind_1 : decode cX7_lotsBehind 1 = .ok (.getfield 13, 3) := by decide +kernel
theorem dX7_lotsBehind_4 : decode cX7_lotsBehind 4 = .ok (.iload_n 1, 1) := by decide +kernel
theorem dX7_lotsBehind_5 : decode cX7_lotsBehind 5 = .ok (.aaload, 1) := by decide +kernel
theorem dX7_lotsBehind_6 : decode cX7_lotsBehind 6 = .ok (.astore_n 3, 1) := by decide +kernel
theorem dX7_lotsBehind_7 : decode cX7_lotsBehind 7 = .ok (.iload_n 1, 1) := by decide +kernel
theorem dX7_lotsBehind_8 : decode cX7_lotsBehind 8 = .ok (.aload_n 0, 1) := by decide +kernel
theorem dX7_lotsBehind_9 : decode cX7_lotsBehind 9 = .ok (.getfield 43, 3) := by decide +kernel
theorem dX7_lotsBehind_12 : decode cX7_lotsBehind 12 = .ok (.getfield 52, 3) := by decide +kernel
theorem dX7_lotsBehind_15 : decode cX7_lotsBehind 15 = .ok (.if_icmp .ge 11, 3) := by decide +kernel
theorem dX7_lotsBehind_18 : decode cX7_lotsBehind 18 = .ok (.iload_n 1, 1) := by decide +kernel
theorem dX7_lotsBehind_19 : decode cX7_lotsBehind 19 = .ok (.iconst 1, 1) := by decide +kernel
theorem dX7_lotsBehind_20 : decode cX7_lotsBehind 20 = .ok (.iadd, 1) := by decide +kernel
theorem dX7_lotsBehind_21 : decode cX7_lotsBehind 21 = .ok (.bipush 10, 2) := by decide +kernel
theorem dX7_lotsBehind_23 : decode cX7_lotsBehind 23 = .ok (.if_icmp .lt 27, 3) := by decide +kernel
theorem dX7_lotsBehind_26 : decode cX7_lotsBehind 26 = .ok (.aload_n 3, 1) := by decide +kernel
theorem dX7_lotsBehind_27 : decode cX7_lotsBehind 27 = .ok (.aload_n 0, 1) := by decide +kernel
theorem dX7_lotsBehind_28 : decode cX7_lotsBehind 28 = .ok (.getfield 43, 3) := by decide +kernel
theorem dX7_lotsBehind_31 : decode cX7_lotsBehind 31 = .ok (.invokevirtual 61, 3) := by decide +kernel
theorem dX7_lotsBehind_34 : decode cX7_lotsBehind 34 = .ok (.aload_n 0, 1) := by decide +kernel
theorem dX7_lotsBehind_35 : decode cX7_lotsBehind 35 = .ok (.aload_n 3, 1) := by decide +kernel
theorem dX7_lotsBehind_36 : decode cX7_lotsBehind 36 = .ok (.invokevirtual 167, 3) := by decide +kernel
theorem dX7_lotsBehind_39 : decode cX7_lotsBehind 39 = .ok (.bipush (-2), 2) := by decide +kernel
theorem dX7_lotsBehind_41 : decode cX7_lotsBehind 41 = .ok (.if_icmp .ne 7, 3) := by decide +kernel
theorem dX7_lotsBehind_44 : decode cX7_lotsBehind 44 = .ok (.iconst 1, 1) := by decide +kernel
theorem dX7_lotsBehind_45 : decode cX7_lotsBehind 45 = .ok (.goto 4, 3) := by decide +kernel
theorem dX7_lotsBehind_48 : decode cX7_lotsBehind 48 = .ok (.iconst 0, 1) := by decide +kernel
theorem dX7_lotsBehind_49 : decode cX7_lotsBehind 49 = .ok (.ireturn, 1) := by decide +kernel
theorem dX7_lotsBehind_50 : decode cX7_lotsBehind 50 = .ok (.aload_n 0, 1) := by decide +kernel
theorem dX7_lotsBehind_51 : decode cX7_lotsBehind 51 = .ok (.getfield 13, 3) := by decide +kernel
theorem dX7_lotsBehind_54 : decode cX7_lotsBehind 54 = .ok (.iload_n 1, 1) := by decide +kernel
theorem dX7_lotsBehind_55 : decode cX7_lotsBehind 55 = .ok (.iconst 1, 1) := by decide +kernel
theorem dX7_lotsBehind_56 : decode cX7_lotsBehind 56 = .ok (.iadd, 1) := by decide +kernel
theorem dX7_lotsBehind_57 : decode cX7_lotsBehind 57 = .ok (.aaload, 1) := by decide +kernel
theorem dX7_lotsBehind_58 : decode cX7_lotsBehind 58 = .ok (.astore 4, 2) := by decide +kernel
theorem dX7_lotsBehind_60 : decode cX7_lotsBehind 60 = .ok (.iconst 0, 1) := by decide +kernel
theorem dX7_lotsBehind_61 : decode cX7_lotsBehind 61 = .ok (.istore 5, 2) := by decide +kernel
theorem dX7_lotsBehind_63 : decode cX7_lotsBehind 63 = .ok (.iconst 0, 1) := by decide +kernel
theorem dX7_lotsBehind_64 : decode cX7_lotsBehind 64 = .ok (.istore 6, 2) := by decide +kernel
theorem dX7_lotsBehind_66 : decode cX7_lotsBehind 66 = .ok (.iload 6, 2) := by decide +kernel
theorem dX7_lotsBehind_68 : decode cX7_lotsBehind 68 = .ok (.aload_n 0, 1) := by decide +kernel
theorem dX7_lotsBehind_69 : decode cX7_lotsBehind 69 = .ok (.getfield 43, 3) := by decide +kernel
theorem dX7_lotsBehind_72 : decode cX7_lotsBehind 72 = .ok (.getfield 52, 3) := by decide +kernel
theorem dX7_lotsBehind_75 : decode cX7_lotsBehind 75 = .ok (.if_icmp .ge 64, 3) := by decide +kernel
theorem dX7_lotsBehind_78 : decode cX7_lotsBehind 78 = .ok (.iload_n 2, 1) := by decide +kernel
theorem dX7_lotsBehind_79 : decode cX7_lotsBehind 79 = .ok (.iload 6, 2) := by decide +kernel
theorem dX7_lotsBehind_81 : decode cX7_lotsBehind 81 = .ok (.ishr, 1) := by decide +kernel
theorem dX7_lotsBehind_82 : decode cX7_lotsBehind 82 = .ok (.iconst 1, 1) := by decide +kernel
theorem dX7_lotsBehind_83 : decode cX7_lotsBehind 83 = .ok (.iand, 1) := by decide +kernel
theorem dX7_lotsBehind_84 : decode cX7_lotsBehind 84 = .ok (.ifCond .ne 49, 3) := by decide +kernel
theorem dX7_lotsBehind_87 : decode cX7_lotsBehind 87 = .ok (.aload 4, 2) := by decide +kernel
theorem dX7_lotsBehind_89 : decode cX7_lotsBehind 89 = .ok (.aload_n 3, 1) := by decide +kernel
theorem dX7_lotsBehind_90 : decode cX7_lotsBehind 90 = .ok (.invokevirtual 85, 3) := by decide +kernel
theorem dX7_lotsBehind_93 : decode cX7_lotsBehind 93 = .ok (.aload 4, 2) := by decide +kernel
theorem dX7_lotsBehind_95 : decode cX7_lotsBehind 95 = .ok (.getfield 171, 3) := by decide +kernel
theorem dX7_lotsBehind_98 : decode cX7_lotsBehind 98 = .ok (.iload_n 1, 1) := by decide +kernel
theorem dX7_lotsBehind_99 : decode cX7_lotsBehind 99 = .ok (.iload 6, 2) := by decide +kernel
theorem dX7_lotsBehind_101 : decode cX7_lotsBehind 101 = .ok (.iastore, 1) := by decide +kernel
theorem dX7_lotsBehind_102 : decode cX7_lotsBehind 102 = .ok (.aload 4, 2) := by decide +kernel
theorem dX7_lotsBehind_104 : decode cX7_lotsBehind 104 = .ok (.iload_n 1, 1) := by decide +kernel
theorem dX7_lotsBehind_105 : decode cX7_lotsBehind 105 = .ok (.iconst 1, 1) := by decide +kernel
theorem dX7_lotsBehind_106 : decode cX7_lotsBehind 106 = .ok (.iadd, 1) := by decide +kernel
theorem dX7_lotsBehind_107 : decode cX7_lotsBehind 107 = .ok (.aload_n 0, 1) := by decide +kernel
theorem dX7_lotsBehind_108 : decode cX7_lotsBehind 108 = .ok (.getfield 43, 3) := by decide +kernel
theorem dX7_lotsBehind_111 : decode cX7_lotsBehind 111 = .ok (.invokevirtual 57, 3) := by decide +kernel
theorem dX7_lotsBehind_114 : decode cX7_lotsBehind 114 = .ok (.pop, 1) := by decide +kernel
theorem dX7_lotsBehind_115 : decode cX7_lotsBehind 115 = .ok (.iload 5, 2) := by decide +kernel
theorem dX7_lotsBehind_117 : decode cX7_lotsBehind 117 = .ok (.aload_n 0, 1) := by decide +kernel
theorem dX7_lotsBehind_118 : decode cX7_lotsBehind 118 = .ok (.iload_n 1, 1) := by decide +kernel
theorem dX7_lotsBehind_119 : decode cX7_lotsBehind 119 = .ok (.iconst 1, 1) := by decide +kernel
theorem dX7_lotsBehind_120 : decode cX7_lotsBehind 120 = .ok (.iadd, 1) := by decide +kernel
theorem dX7_lotsBehind_121 : decode cX7_lotsBehind 121 = .ok (.iload_n 2, 1) := by decide +kernel
theorem dX7_lotsBehind_122 : decode cX7_lotsBehind 122 = .ok (.iconst 1, 1) := by decide +kernel
theorem dX7_lotsBehind_123 : decode cX7_lotsBehind 123 = .ok (.iload 6, 2) := by decide +kernel
theorem dX7_lotsBehind_125 : decode cX7_lotsBehind 125 = .ok (.ishl, 1) := by decide +kernel
theorem dX7_lotsBehind_126 : decode cX7_lotsBehind 126 = .ok (.ior, 1) := by decide +kernel
theorem dX7_lotsBehind_127 : decode cX7_lotsBehind 127 = .ok (.invokevirtual 164, 3) := by decide +kernel
theorem dX7_lotsBehind_130 : decode cX7_lotsBehind 130 = .ok (.iadd, 1) := by decide +kernel
theorem dX7_lotsBehind_131 : decode cX7_lotsBehind 131 = .ok (.istore 5, 2) := by decide +kernel
theorem dX7_lotsBehind_133 : decode cX7_lotsBehind 133 = .ok (.iinc 6 1, 3) := by decide +kernel
theorem dX7_lotsBehind_136 : decode cX7_lotsBehind 136 = .ok (.goto (-70), 3) := by decide +kernel
theorem dX7_lotsBehind_139 : decode cX7_lotsBehind 139 = .ok (.iload 5, 2) := by decide +kernel
theorem dX7_lotsBehind_141 : decode cX7_lotsBehind 141 = .ok (.ireturn, 1) := by decide +kernel
theorem dX8_init_0 : decode cX8_init 0 = .ok (.aload_n 0, 1) := by decide +kernel
theorem dX8_init_1 : decode cX8_init 1 = .ok (.invokespecial 1, 3) := by decide +kernel
theorem dX8_init_4 : decode cX8_init 4 = .ok (.aload_n 0, 1) := by decide +kernel
theorem dX8_init_5 : decode cX8_init 5 = .ok (.new 7, 3) := by decide +kernel
theorem dX8_init_8 : decode cX8_init 8 = .ok (.dup, 1) := by decide +kernel
theorem dX8_init_9 : decode cX8_init 9 = .ok (.invokespecial 9, 3) := by decide +kernel
theorem dX8_init_12 : decode cX8_init 12 = .ok (.putfield 10, 3) := by decide +kernel
theorem dX8_init_15 : decode cX8_init 15 = .ok (.aload_n 0, 1) := by decide +kernel
theorem dX8_init_16 : decode cX8_init 16 = .ok (.new 16, 3) := by decide +kernel
theorem dX8_init_19 : decode cX8_init 19 = .ok (.dup, 1) := by decide +kernel
theorem dX8_init_20 : decode cX8_init 20 = .ok (.invokespecial 18, 3) := by decide +kernel
theorem dX8_init_23 : decode cX8_init 23 = .ok (.putfield 19, 3) := by decide +kernel
theorem dX8_init_26 : decode cX8_init 26 = .ok (.aload_n 0, 1) := by decide +kernel
theorem dX8_init_27 : decode cX8_init 27 = .ok (.new 23, 3) := by decide +kernel
theorem dX8_init_30 : decode cX8_init 30 = .ok (.dup, 1) := by decide +kernel
theorem dX8_init_31 : decode cX8_init 31 = .ok (.invokespecial 25, 3) := by decide +kernel
theorem dX8_init_34 : decode cX8_init 34 = .ok (.putfield 26, 3) := by decide +kernel
theorem dX8_init_37 : decode cX8_init 37 = .ok (.aload_n 0, 1) := by decide +kernel
theorem dX8_init_38 : decode cX8_init 38 = .ok (.new 30, 3) := by decide +kernel
theorem dX8_init_41 : decode cX8_init 41 = .ok (.dup, 1) := by decide +kernel
theorem dX8_init_42 : decode cX8_init 42 = .ok (.invokespecial 32, 3) := by decide +kernel
theorem dX8_init_45 : decode cX8_init 45 = .ok (.putfield 33, 3) := by decide +kernel
theorem dX8_init_48 : decode cX8_init 48 = .ok (.aload_n 0, 1) := by decide +kernel
theorem dX8_init_49 : decode cX8_init 49 = .ok (.new 30, 3) := by decide +kernel
theorem dX8_init_52 : decode cX8_init 52 = .ok (.dup, 1) := by decide +kernel
theorem dX8_init_53 : decode cX8_init 53 = .ok (.invokespecial 32, 3) := by decide +kernel
theorem dX8_init_56 : decode cX8_init 56 = .ok (.putfield 37, 3) := by decide +kernel
theorem dX8_init_59 : decode cX8_init 59 = .ok (.aload_n 0, 1) := by decide +kernel
theorem dX8_init_60 : decode cX8_init 60 = .ok (.new 40, 3) := by decide +kernel
theorem dX8_init_63 : decode cX8_init 63 = .ok (.dup, 1) := by decide +kernel
theorem dX8_init_64 : decode cX8_init 64 = .ok (.aload_n 0, 1) := by decide +kernel
theorem dX8_init_65 : decode cX8_init 65 = .ok (.getfield 10, 3) := by decide +kernel
theorem dX8_init_68 : decode cX8_init 68 = .ok (.invokespecial 42, 3) := by decide +kernel
theorem dX8_init_71 : decode cX8_init 71 = .ok (.putfield 45, 3) := by decide +kernel
theorem dX8_init_74 : decode cX8_init 74 = .ok (.aload_n 0, 1) := by decide +kernel
theorem dX8_init_75 : decode cX8_init 75 = .ok (.new 49, 3) := by decide +kernel
theorem dX8_init_78 : decode cX8_init 78 = .ok (.dup, 1) := by decide +kernel
theorem dX8_init_79 : decode cX8_init 79 = .ok (.invokespecial 51, 3) := by decide +kernel
theorem dX8_init_82 : decode cX8_init 82 = .ok (.putfield 52, 3) := by decide +kernel
theorem dX8_init_85 : decode cX8_init 85 = .ok (.aload_n 0, 1) := by decide +kernel
theorem dX8_init_86 : decode cX8_init 86 = .ok (.new 56, 3) := by decide +kernel
theorem dX8_init_89 : decode cX8_init 89 = .ok (.dup, 1) := by decide +kernel
theorem dX8_init_90 : decode cX8_init 90 = .ok (.invokespecial 58, 3) := by decide +kernel
theorem dX8_init_93 : decode cX8_init 93 = .ok (.putfield 59, 3) := by decide +kernel
theorem dX8_init_96 : decode cX8_init 96 = .ok (.aload_n 0, 1) := by decide +kernel
theorem dX8_init_97 : decode cX8_init 97 = .ok (.iconst (-1), 1) := by decide +kernel
theorem dX8_init_98 : decode cX8_init 98 = .ok (.putfield 63, 3) := by decide +kernel
theorem dX8_init_101 : decode cX8_init 101 = .ok (.return_, 1) := by decide +kernel
theorem dX8_person_0 : decode cX8_person 0 = .ok (.iload_n 1, 1) := by decide +kernel
theorem dX8_person_1 : decode cX8_person 1 = .ok (.ifCond .lt 8, 3) := by decide +kernel
theorem dX8_person_4 : decode cX8_person 4 = .ok (.iload_n 1, 1) := by decide +kernel
theorem dX8_person_5 : decode cX8_person 5 = .ok (.iconst 2, 1) := by decide +kernel
theorem dX8_person_6 : decode cX8_person 6 = .ok (.if_icmp .le 5, 3) := by decide +kernel
theorem dX8_person_9 : decode cX8_person 9 = .ok (.iconst (-1), 1) := by decide +kernel
theorem dX8_person_10 : decode cX8_person 10 = .ok (.ireturn, 1) := by decide +kernel
theorem dX8_person_11 : decode cX8_person 11 = .ok (.aload_n 0, 1) := by decide +kernel
theorem dX8_person_12 : decode cX8_person 12 = .ok (.getfield 33, 3) := by decide +kernel
theorem dX8_person_15 : decode cX8_person 15 = .ok (.invokevirtual 67, 3) := by decide +kernel
theorem dX8_person_18 : decode cX8_person 18 = .ok (.ifCond .eq 6, 3) := by decide +kernel
theorem dX8_person_21 : decode cX8_person 21 = .ok (.bipush (-5), 2) := by decide +kernel
theorem dX8_person_23 : decode cX8_person 23 = .ok (.ireturn, 1) := by decide +kernel
theorem dX8_person_24 : decode cX8_person 24 = .ok (.aload_n 0, 1) := by decide +kernel
theorem dX8_person_25 : decode cX8_person 25 = .ok (.getfield 10, 3) := by decide +kernel
theorem dX8_person_28 : decode cX8_person 28 = .ok (.getfield 71, 3) := by decide +kernel
theorem dX8_person_31 : decode cX8_person 31 = .ok (.bipush 7, 2) := by decide +kernel
theorem dX8_person_33 : decode cX8_person 33 = .ok (.if_icmp .lt 8, 3) := by decide +kernel
theorem dX8_person_36 : decode cX8_person 36 = .ok (.bipush (-3), 2) := by decide +kernel
theorem dX8_person_38 : decode cX8_person 38 = .ok (.goto 8, 3) := by decide +kernel
theorem dX8_person_41 : decode cX8_person 41 = .ok (.aload_n 0, 1) := by decide +kernel
theorem dX8_person_42 : decode cX8_person 42 = .ok (.iload_n 1, 1) := by decide +kernel
theorem dX8_person_43 : decode cX8_person 43 = .ok (.invokevirtual 74, 3) := by decide +kernel
theorem dX8_person_46 : decode cX8_person 46 = .ok (.ireturn, 1) := by decide +kernel
theorem dX8_mend_0 : decode cX8_mend 0 = .ok (.aload_n 0, 1) := by decide +kernel
theorem dX8_mend_1 : decode cX8_mend 1 = .ok (.getfield 10, 3) := by decide +kernel
theorem dX8_mend_4 : decode cX8_mend 4 = .ok (.iload_n 1, 1) := by decide +kernel
theorem dX8_mend_5 : decode cX8_mend 5 = .ok (.iload_n 2, 1) := by decide +kernel
theorem dX8_mend_6 : decode cX8_mend 6 = .ok (.invokevirtual 89, 3) := by decide +kernel
theorem dX8_mend_9 : decode cX8_mend 9 = .ok (.ifCond .eq 11, 3) := by decide +kernel
theorem dX8_mend_12 : decode cX8_mend 12 = .ok (.iload_n 2, 1) := by decide +kernel
theorem dX8_mend_13 : decode cX8_mend 13 = .ok (.iload_n 3, 1) := by decide +kernel
theorem dX8_mend_14 : decode cX8_mend 14 = .ok (.invokestatic 92, 3) := by decide +kernel
theorem dX8_mend_17 : decode cX8_mend 17 = .ok (.ifCond .ne 5, 3) := by decide +kernel
theorem dX8_mend_20 : decode cX8_mend 20 = .ok (.iconst (-1), 1) := by decide +kernel
theorem dX8_mend_21 : decode cX8_mend 21 = .ok (.ireturn, 1) := by decide +kernel
theorem dX8_mend_22 : decode cX8_mend 22 = .ok (.aload_n 0, 1) := by decide +kernel
theorem dX8_mend_23 : decode cX8_mend 23 = .ok (.getfield 10, 3) := by decide +kernel
theorem dX8_mend_26 : decode cX8_mend 26 = .ok (.iload_n 1, 1) := by decide +kernel
theorem dX8_mend_27 : decode cX8_mend 27 = .ok (.iload_n 2, 1) := by decide +kernel
theorem dX8_mend_28 : decode cX8_mend 28 = .ok (.invokevirtual 95, 3) := by decide +kernel
theorem dX8_mend_31 : decode cX8_mend 31 = .ok (.istore 4, 2) := by decide +kernel
theorem dX8_mend_33 : decode cX8_mend 33 = .ok (.aload_n 0, 1) := by decide +kernel
theorem dX8_mend_34 : decode cX8_mend 34 = .ok (.getfield 19, 3) := by decide +kernel
theorem dX8_mend_37 : decode cX8_mend 37 = .ok (.iload_n 1, 1) := by decide +kernel
theorem dX8_mend_38 : decode cX8_mend 38 = .ok (.iload_n 2, 1) := by decide +kernel
theorem dX8_mend_39 : decode cX8_mend 39 = .ok (.iload 4, 2) := by decide +kernel
theorem dX8_mend_41 : decode cX8_mend 41 = .ok (.iload_n 3, 1) := by decide +kernel
theorem dX8_mend_42 : decode cX8_mend 42 = .ok (.invokevirtual 99, 3) := by decide +kernel
theorem dX8_mend_45 : decode cX8_mend 45 = .ok (.aload_n 0, 1) := by decide +kernel
theorem dX8_mend_46 : decode cX8_mend 46 = .ok (.getfield 10, 3) := by decide +kernel
theorem dX8_mend_49 : decode cX8_mend 49 = .ok (.iload_n 1, 1) := by decide +kernel
theorem dX8_mend_50 : decode cX8_mend 50 = .ok (.iload_n 2, 1) := by decide +kernel
theorem dX8_mend_51 : decode cX8_mend 51 = .ok (.iload_n 3, 1) := by decide +kernel
theorem dX8_mend_52 : decode cX8_mend 52 = .ok (.invokevirtual 103, 3) := by decide +kernel
theorem dX8_mend_55 : decode cX8_mend 55 = .ok (.iload 4, 2) := by decide +kernel
theorem dX8_mend_57 : decode cX8_mend 57 = .ok (.ireturn, 1) := by decide +kernel
theorem dX8_of_0 : decode cX8_of 0 = .ok (.iload_n 2, 1) := by decide +kernel
theorem dX8_of_1 : decode cX8_of 1 = .ok (.ifCond .lt 34, 3) := by decide +kernel
theorem dX8_of_4 : decode cX8_of 4 = .ok (.iload_n 2, 1) := by decide +kernel
theorem dX8_of_5 : decode cX8_of 5 = .ok (.iconst 4, 1) := by decide +kernel
theorem dX8_of_6 : decode cX8_of 6 = .ok (.if_icmp .gt 29, 3) := by decide +kernel
theorem dX8_of_9 : decode cX8_of 9 = .ok (.aload_n 0, 1) := by decide +kernel
theorem dX8_of_10 : decode cX8_of 10 = .ok (.getfield 10, 3) := by decide +kernel
theorem dX8_of_13 : decode cX8_of 13 = .ok (.iload_n 1, 1) := by decide +kernel
theorem dX8_of_14 : decode cX8_of 14 = .ok (.iload_n 2, 1) := by decide +kernel
theorem dX8_of_15 : decode cX8_of 15 = .ok (.invokevirtual 89, 3) := by decide +kernel
theorem dX8_of_18 : decode cX8_of 18 = .ok (.ifCond .eq 15, 3) := by decide +kernel
theorem dX8_of_21 : decode cX8_of 21 = .ok (.aload_n 0, 1) := by decide +kernel
theorem dX8_of_22 : decode cX8_of 22 = .ok (.getfield 10, 3) := by decide +kernel
theorem dX8_of_25 : decode cX8_of 25 = .ok (.iload_n 1, 1) := by decide +kernel
theorem dX8_of_26 : decode cX8_of 26 = .ok (.iload_n 2, 1) := by decide +kernel
theorem dX8_of_27 : decode cX8_of 27 = .ok (.invokevirtual 95, 3) := by decide +kernel
theorem dX8_of_30 : decode cX8_of 30 = .ok (.goto 4, 3) := by decide +kernel
theorem dX8_of_33 : decode cX8_of 33 = .ok (.iconst (-1), 1) := by decide +kernel
theorem dX8_of_34 : decode cX8_of 34 = .ok (.ireturn, 1) := by decide +kernel
theorem dX8_of_35 : decode cX8_of 35 = .ok (.aload_n 0, 1) := by decide +kernel
theorem dX8_of_36 : decode cX8_of 36 = .ok (.getfield 10, 3) := by decide +kernel
theorem dX8_of_39 : decode cX8_of 39 = .ok (.iload_n 1, 1) := by decide +kernel
theorem dX8_of_40 : decode cX8_of 40 = .ok (.invokevirtual 107, 3) := by decide +kernel
theorem dX8_of_43 : decode cX8_of 43 = .ok (.ifCond .ne 5, 3) := by decide +kernel
theorem dX8_of_46 : decode cX8_of 46 = .ok (.iconst (-1), 1) := by decide +kernel
theorem dX8_of_47 : decode cX8_of 47 = .ok (.ireturn, 1) := by decide +kernel
theorem dX8_of_48 : decode cX8_of 48 = .ok (.iload_n 2, 1) := by decide +kernel
theorem dX8_of_49 : decode cX8_of 49 = .ok (.tableswitch 95 10 13 #[31, 41, 68, 78], 31) := by decide +kernel
