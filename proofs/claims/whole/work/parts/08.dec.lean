theorem dX9_back_99 : decode cX9_back 99 = .ok (.iconst 2, 1) := by decide +kernel
theorem dX9_back_100 : decode cX9_back 100 = .ok (.iaload, 1) := by decide +kernel
theorem dX9_back_101 : decode cX9_back 101 = .ok (.iastore, 1) := by decide +kernel
theorem dX9_back_102 : decode cX9_back 102 = .ok (.aload_n 0, 1) := by decide +kernel
theorem dX9_back_103 : decode cX9_back 103 = .ok (.getfield 41, 3) := by decide +kernel
theorem dX9_back_106 : decode cX9_back 106 = .ok (.iconst 0, 1) := by decide +kernel
theorem dX9_back_107 : decode cX9_back 107 = .ok (.aload_n 0, 1) := by decide +kernel
theorem dX9_back_108 : decode cX9_back 108 = .ok (.getfield 130, 3) := by decide +kernel
theorem dX9_back_111 : decode cX9_back 111 = .ok (.iconst 3, 1) := by decide +kernel
theorem dX9_back_112 : decode cX9_back 112 = .ok (.iaload, 1) := by decide +kernel
theorem dX9_back_113 : decode cX9_back 113 = .ok (.iastore, 1) := by decide +kernel
theorem dX9_back_114 : decode cX9_back 114 = .ok (.aload_n 0, 1) := by decide +kernel
theorem dX9_back_115 : decode cX9_back 115 = .ok (.getfield 44, 3) := by decide +kernel
theorem dX9_back_118 : decode cX9_back 118 = .ok (.iconst 0, 1) := by decide +kernel
theorem dX9_back_119 : decode cX9_back 119 = .ok (.aload_n 0, 1) := by decide +kernel
theorem dX9_back_120 : decode cX9_back 120 = .ok (.getfield 130, 3) := by decide +kernel
theorem dX9_back_123 : decode cX9_back 123 = .ok (.iconst 4, 1) := by decide +kernel
theorem dX9_back_124 : decode cX9_back 124 = .ok (.iaload, 1) := by decide +kernel
theorem dX9_back_125 : decode cX9_back 125 = .ok (.iastore, 1) := by decide +kernel
theorem dX9_back_126 : decode cX9_back 126 = .ok (.aload_n 0, 1) := by decide +kernel
theorem dX9_back_127 : decode cX9_back 127 = .ok (.aload_n 0, 1) := by decide +kernel
theorem dX9_back_128 : decode cX9_back 128 = .ok (.getfield 130, 3) := by decide +kernel
theorem dX9_back_131 : decode cX9_back 131 = .ok (.iconst 5, 1) := by decide +kernel
theorem dX9_back_132 : decode cX9_back 132 = .ok (.iaload, 1) := by decide +kernel
theorem dX9_back_133 : decode cX9_back 133 = .ok (.putfield 166, 3) := by decide +kernel
theorem dX9_back_136 : decode cX9_back 136 = .ok (.aload_n 0, 1) := by decide +kernel
theorem dX9_back_137 : decode cX9_back 137 = .ok (.aload_n 0, 1) := by decide +kernel
theorem dX9_back_138 : decode cX9_back 138 = .ok (.getfield 130, 3) := by decide +kernel
theorem dX9_back_141 : decode cX9_back 141 = .ok (.bipush 6, 2) := by decide +kernel
theorem dX9_back_143 : decode cX9_back 143 = .ok (.iaload, 1) := by decide +kernel
theorem dX9_back_144 : decode cX9_back 144 = .ok (.putfield 326, 3) := by decide +kernel
theorem dX9_back_147 : decode cX9_back 147 = .ok (.aload_n 0, 1) := by decide +kernel
theorem dX9_back_148 : decode cX9_back 148 = .ok (.aload_n 0, 1) := by decide +kernel
theorem dX9_back_149 : decode cX9_back 149 = .ok (.getfield 130, 3) := by decide +kernel
theorem dX9_back_152 : decode cX9_back 152 = .ok (.bipush 7, 2) := by decide +kernel
theorem dX9_back_154 : decode cX9_back 154 = .ok (.iaload, 1) := by decide +kernel
theorem dX9_back_155 : decode cX9_back 155 = .ok (.putfield 47, 3) := by decide +kernel
theorem dX9_back_158 : decode cX9_back 158 = .ok (.aload_n 0, 1) := by decide +kernel
theorem dX9_back_159 : decode cX9_back 159 = .ok (.aload_n 0, 1) := by decide +kernel
theorem dX9_back_160 : decode cX9_back 160 = .ok (.getfield 130, 3) := by decide +kernel
theorem dX9_back_163 : decode cX9_back 163 = .ok (.bipush 8, 2) := by decide +kernel
theorem dX9_back_165 : decode cX9_back 165 = .ok (.iaload, 1) := by decide +kernel
theorem dX9_back_166 : decode cX9_back 166 = .ok (.putfield 314, 3) := by decide +kernel
theorem dX9_back_169 : decode cX9_back 169 = .ok (.aload_n 0, 1) := by decide +kernel
theorem dX9_back_170 : decode cX9_back 170 = .ok (.aload_n 0, 1) := by decide +kernel
theorem dX9_back_171 : decode cX9_back 171 = .ok (.getfield 130, 3) := by decide +kernel
theorem dX9_back_174 : decode cX9_back 174 = .ok (.bipush 9, 2) := by decide +kernel
theorem dX9_back_176 : decode cX9_back 176 = .ok (.iaload, 1) := by decide +kernel
theorem dX9_back_177 : decode cX9_back 177 = .ok (.putfield 317, 3) := by decide +kernel
theorem dX9_back_180 : decode cX9_back 180 = .ok (.aload_n 0, 1) := by decide +kernel
theorem dX9_back_181 : decode cX9_back 181 = .ok (.getfield 155, 3) := by decide +kernel
theorem dX9_back_184 : decode cX9_back 184 = .ok (.ireturn, 1) := by decide +kernel
theorem dX9_safeMany_0 : decode cX9_safeMany 0 = .ok (.iconst 0, 1) := by decide +kernel
theorem dX9_safeMany_1 : decode cX9_safeMany 1 = .ok (.istore_n 1, 1) := by decide +kernel
theorem dX9_safeMany_2 : decode cX9_safeMany 2 = .ok (.iconst 0, 1) := by decide +kernel
theorem dX9_safeMany_3 : decode cX9_safeMany 3 = .ok (.istore_n 2, 1) := by decide +kernel
theorem dX9_safeMany_4 : decode cX9_safeMany 4 = .ok (.iload_n 2, 1) := by decide +kernel
theorem dX9_safeMany_5 : decode cX9_safeMany 5 = .ok (.aload_n 0, 1) := by decide +kernel
theorem dX9_safeMany_6 : decode cX9_safeMany 6 = .ok (.getfield 155, 3) := by decide +kernel
theorem dX9_safeMany_9 : decode cX9_safeMany 9 = .ok (.if_icmp .ge 25, 3) := by decide +kernel
theorem dX9_safeMany_12 : decode cX9_safeMany 12 = .ok (.aload_n 0, 1) := by decide +kernel
theorem dX9_safeMany_13 : decode cX9_safeMany 13 = .ok (.getfield 29, 3) := by decide +kernel
theorem dX9_safeMany_16 : decode cX9_safeMany 16 = .ok (.iload_n 2, 1) := by decide +kernel
theorem dX9_safeMany_17 : decode cX9_safeMany 17 = .ok (.iaload, 1) := by decide +kernel
theorem dX9_safeMany_18 : decode cX9_safeMany 18 = .ok (.aload_n 0, 1) := by decide +kernel
theorem dX9_safeMany_19 : decode cX9_safeMany 19 = .ok (.getfield 19, 3) := by decide +kernel
theorem dX9_safeMany_22 : decode cX9_safeMany 22 = .ok (.if_icmp .lt 6, 3) := by decide +kernel
theorem dX9_safeMany_25 : decode cX9_safeMany 25 = .ok (.iinc 1 1, 3) := by decide +kernel
theorem dX9_safeMany_28 : decode cX9_safeMany 28 = .ok (.iinc 2 1, 3) := by decide +kernel
theorem dX9_safeMany_31 : decode cX9_safeMany 31 = .ok (.goto (-27), 3) := by decide +kernel
theorem dX9_safeMany_34 : decode cX9_safeMany 34 = .ok (.iload_n 1, 1) := by decide +kernel
theorem dX9_safeMany_35 : decode cX9_safeMany 35 = .ok (.ireturn, 1) := by decide +kernel
theorem dX9_isBody_0 : decode cX9_isBody 0 = .ok (.iload_n 1, 1) := by decide +kernel
theorem dX9_isBody_1 : decode cX9_isBody 1 = .ok (.iconst 0, 1) := by decide +kernel
theorem dX9_isBody_2 : decode cX9_isBody 2 = .ok (.aload_n 0, 1) := by decide +kernel
theorem dX9_isBody_3 : decode cX9_isBody 3 = .ok (.getfield 374, 3) := by decide +kernel
theorem dX9_isBody_6 : decode cX9_isBody 6 = .ok (.iconst 1, 1) := by decide +kernel
theorem dX9_isBody_7 : decode cX9_isBody 7 = .ok (.isub, 1) := by decide +kernel
theorem dX9_isBody_8 : decode cX9_isBody 8 = .ok (.invokestatic 158, 3) := by decide +kernel
theorem dX9_isBody_11 : decode cX9_isBody 11 = .ok (.ireturn, 1) := by decide +kernel
theorem dX9_ran_0 : decode cX9_ran 0 = .ok (.aload_n 0, 1) := by decide +kernel
theorem dX9_ran_1 : decode cX9_ran 1 = .ok (.getfield 377, 3) := by decide +kernel
theorem dX9_ran_4 : decode cX9_ran 4 = .ok (.bipush 24, 2) := by decide +kernel
theorem dX9_ran_6 : decode cX9_ran 6 = .ok (.if_icmp .ge 13, 3) := by decide +kernel
theorem dX9_ran_9 : decode cX9_ran 9 = .ok (.aload_n 0, 1) := by decide +kernel
theorem dX9_ran_10 : decode cX9_ran 10 = .ok (.getfield 136, 3) := by decide +kernel
theorem dX9_ran_13 : decode cX9_ran 13 = .ok (.aload_n 0, 1) := by decide +kernel
theorem dX9_ran_14 : decode cX9_ran 14 = .ok (.getfield 377, 3) := by decide +kernel
theorem dX9_ran_17 : decode cX9_ran 17 = .ok (.iload_n 1, 1) := by decide +kernel
theorem dX9_ran_18 : decode cX9_ran 18 = .ok (.iastore, 1) := by decide +kernel
theorem dX9_ran_19 : decode cX9_ran 19 = .ok (.aload_n 0, 1) := by decide +kernel
theorem dX9_ran_20 : decode cX9_ran 20 = .ok (.dup, 1) := by decide +kernel
theorem dX9_ran_21 : decode cX9_ran 21 = .ok (.getfield 377, 3) := by decide +kernel
theorem dX9_ran_24 : decode cX9_ran 24 = .ok (.iconst 1, 1) := by decide +kernel
theorem dX9_ran_25 : decode cX9_ran 25 = .ok (.iadd, 1) := by decide +kernel
theorem dX9_ran_26 : decode cX9_ran 26 = .ok (.putfield 377, 3) := by decide +kernel
theorem dX9_ran_29 : decode cX9_ran 29 = .ok (.return_, 1) := by decide +kernel
theorem dX9_trace_0 : decode cX9_trace 0 = .ok (.iload_n 1, 1) := by decide +kernel
theorem dX9_trace_1 : decode cX9_trace 1 = .ok (.ifCond .lt 26, 3) := by decide +kernel
theorem dX9_trace_4 : decode cX9_trace 4 = .ok (.iload_n 1, 1) := by decide +kernel
theorem dX9_trace_5 : decode cX9_trace 5 = .ok (.aload_n 0, 1) := by decide +kernel
theorem dX9_trace_6 : decode cX9_trace 6 = .ok (.getfield 377, 3) := by decide +kernel
theorem dX9_trace_9 : decode cX9_trace 9 = .ok (.if_icmp .ge 18, 3) := by decide +kernel
theorem dX9_trace_12 : decode cX9_trace 12 = .ok (.iload_n 1, 1) := by decide +kernel
theorem dX9_trace_13 : decode cX9_trace 13 = .ok (.bipush 24, 2) := by decide +kernel
theorem dX9_trace_15 : decode cX9_trace 15 = .ok (.if_icmp .ge 12, 3) := by decide +kernel
theorem dX9_trace_18 : decode cX9_trace 18 = .ok (.aload_n 0, 1) := by decide +kernel
theorem dX9_trace_19 : decode cX9_trace 19 = .ok (.getfield 136, 3) := by decide +kernel
theorem dX9_trace_22 : decode cX9_trace 22 = .ok (.iload_n 1, 1) := by decide +kernel
theorem dX9_trace_23 : decode cX9_trace 23 = .ok (.iaload, 1) := by decide +kernel
theorem dX9_trace_24 : decode cX9_trace 24 = .ok (.goto 4, 3) := by decide +kernel
theorem dX9_trace_27 : decode cX9_trace 27 = .ok (.iconst (-1), 1) := by decide +kernel
theorem dX9_trace_28 : decode cX9_trace 28 = .ok (.ireturn, 1) := by decide +kernel
theorem dX9_body_0 : decode cX9_body 0 = .ok (.iload_n 1, 1) := by decide +kernel
theorem dX9_body_1 : decode cX9_body 1 = .ok (.iconst 0, 1) := by decide +kernel
theorem dX9_body_2 : decode cX9_body 2 = .ok (.bipush 7, 2) := by decide +kernel
theorem dX9_body_4 : decode cX9_body 4 = .ok (.invokestatic 158, 3) := by decide +kernel
theorem dX9_body_7 : decode cX9_body 7 = .ok (.ifCond .ne 5, 3) := by decide +kernel
theorem dX9_body_10 : decode cX9_body 10 = .ok (.iconst (-1), 1) := by decide +kernel
theorem dX9_body_11 : decode cX9_body 11 = .ok (.ireturn, 1) := by decide +kernel
theorem dX9_body_12 : decode cX9_body 12 = .ok (.aload_n 0, 1) := by decide +kernel
theorem dX9_body_13 : decode cX9_body 13 = .ok (.getfield 374, 3) := by decide +kernel
theorem dX9_body_16 : decode cX9_body 16 = .ok (.bipush 50, 2) := by decide +kernel
theorem dX9_body_18 : decode cX9_body 18 = .ok (.if_icmp .ne 6, 3) := by decide +kernel
theorem dX9_body_21 : decode cX9_body 21 = .ok (.bipush (-3), 2) := by decide +kernel
theorem dX9_body_23 : decode cX9_body 23 = .ok (.ireturn, 1) := by decide +kernel
theorem dX9_body_24 : decode cX9_body 24 = .ok (.aload_n 0, 1) := by decide +kernel
theorem dX9_body_25 : decode cX9_body 25 = .ok (.getfield 133, 3) := by decide +kernel
theorem dX9_body_28 : decode cX9_body 28 = .ok (.aload_n 0, 1) := by decide +kernel
theorem dX9_body_29 : decode cX9_body 29 = .ok (.getfield 374, 3) := by decide +kernel
theorem dX9_body_32 : decode cX9_body 32 = .ok (.iload_n 1, 1) := by decide +kernel
theorem dX9_body_33 : decode cX9_body 33 = .ok (.iastore, 1) := by decide +kernel
theorem dX9_body_34 : decode cX9_body 34 = .ok (.aload_n 0, 1) := by decide +kernel
theorem dX9_body_35 : decode cX9_body 35 = .ok (.dup, 1) := by decide +kernel
theorem dX9_body_36 : decode cX9_body 36 = .ok (.getfield 374, 3) := by decide +kernel
theorem dX9_body_39 : decode cX9_body 39 = .ok (.iconst 1, 1) := by decide +kernel
theorem dX9_body_40 : decode cX9_body 40 = .ok (.iadd, 1) := by decide +kernel
theorem dX9_body_41 : decode cX9_body 41 = .ok (.putfield 374, 3) := by decide +kernel
theorem dX9_body_44 : decode cX9_body 44 = .ok (.aload_n 0, 1) := by decide +kernel
theorem dX9_body_45 : decode cX9_body 45 = .ok (.getfield 374, 3) := by decide +kernel
theorem dX9_body_48 : decode cX9_body 48 = .ok (.iconst 1, 1) := by decide +kernel
theorem dX9_body_49 : decode cX9_body 49 = .ok (.isub, 1) := by decide +kernel
theorem dX9_body_50 : decode cX9_body 50 = .ok (.ireturn, 1) := by decide +kernel
theorem dX9_isUnder_0 : decode cX9_isUnder 0 = .ok (.iload_n 1, 1) := by decide +kernel
theorem dX9_isUnder_1 : decode cX9_isUnder 1 = .ok (.ifCond .eq 55, 3) := by decide +kernel
theorem dX9_isUnder_4 : decode cX9_isUnder 4 = .ok (.iload_n 0, 1) := by decide +kernel
theorem dX9_isUnder_5 : decode cX9_isUnder 5 = .ok (.iload_n 1, 1) := by decide +kernel
theorem dX9_isUnder_6 : decode cX9_isUnder 6 = .ok (.if_icmp .eq 50, 3) := by decide +kernel
theorem dX9_isUnder_9 : decode cX9_isUnder 9 = .ok (.iload_n 1, 1) := by decide +kernel
theorem dX9_isUnder_10 : decode cX9_isUnder 10 = .ok (.iconst 1, 1) := by decide +kernel
theorem dX9_isUnder_11 : decode cX9_isUnder 11 = .ok (.if_icmp .ne 8, 3) := by decide +kernel
theorem dX9_isUnder_14 : decode cX9_isUnder 14 = .ok (.iload_n 0, 1) := by decide +kernel
theorem dX9_isUnder_15 : decode cX9_isUnder 15 = .ok (.iconst 4, 1) := by decide +kernel
theorem dX9_isUnder_16 : decode cX9_isUnder 16 = .ok (.if_icmp .eq 40, 3) := by decide +kernel
theorem dX9_isUnder_19 : decode cX9_isUnder 19 = .ok (.iload_n 1, 1) := by decide +kernel
theorem dX9_isUnder_20 : decode cX9_isUnder 20 = .ok (.iconst 2, 1) := by decide +kernel
theorem dX9_isUnder_21 : decode cX9_isUnder 21 = .ok (.if_icmp .ne 13, 3) := by decide +kernel
theorem dX9_isUnder_24 : decode cX9_isUnder 24 = .ok (.iload_n 0, 1) := by decide +kernel
theorem dX9_isUnder_25 : decode cX9_isUnder 25 = .ok (.iconst 3, 1) := by decide +kernel
theorem dX9_isUnder_26 : decode cX9_isUnder 26 = .ok (.if_icmp .eq 30, 3) := by decide +kernel
theorem dX9_isUnder_29 : decode cX9_isUnder 29 = .ok (.iload_n 0, 1) := by decide +kernel
theorem dX9_isUnder_30 : decode cX9_isUnder 30 = .ok (.iconst 5, 1) := by decide +kernel
theorem dX9_isUnder_31 : decode cX9_isUnder 31 = .ok (.if_icmp .eq 25, 3) := by decide +kernel
theorem dX9_isUnder_34 : decode cX9_isUnder 34 = .ok (.iload_n 1, 1) := by decide +kernel
theorem dX9_isUnder_35 : decode cX9_isUnder 35 = .ok (.iconst 3, 1) := by decide +kernel
theorem dX9_isUnder_36 : decode cX9_isUnder 36 = .ok (.if_icmp .ne 8, 3) := by decide +kernel
theorem dX9_isUnder_39 : decode cX9_isUnder 39 = .ok (.iload_n 0, 1) := by decide +kernel
theorem dX9_isUnder_40 : decode cX9_isUnder 40 = .ok (.iconst 5, 1) := by decide +kernel
theorem dX9_isUnder_41 : decode cX9_isUnder 41 = .ok (.if_icmp .eq 15, 3) := by decide +kernel
theorem dX9_isUnder_44 : decode cX9_isUnder 44 = .ok (.iload_n 1, 1) := by decide +kernel
theorem dX9_isUnder_45 : decode cX9_isUnder 45 = .ok (.bipush 6, 2) := by decide +kernel
theorem dX9_isUnder_47 : decode cX9_isUnder 47 = .ok (.if_icmp .ne 13, 3) := by decide +kernel
theorem dX9_isUnder_50 : decode cX9_isUnder 50 = .ok (.iload_n 0, 1) := by decide +kernel
theorem dX9_isUnder_51 : decode cX9_isUnder 51 = .ok (.bipush 7, 2) := by decide +kernel
theorem dX9_isUnder_53 : decode cX9_isUnder 53 = .ok (.if_icmp .ne 7, 3) := by decide +kernel
theorem dX9_isUnder_56 : decode cX9_isUnder 56 = .ok (.iconst 1, 1) := by decide +kernel
theorem dX9_isUnder_57 : decode cX9_isUnder 57 = .ok (.goto 4, 3) := by decide +kernel
theorem dX9_isUnder_60 : decode cX9_isUnder 60 = .ok (.iconst 0, 1) := by decide +kernel
theorem dX9_isUnder_61 : decode cX9_isUnder 61 = .ok (.ireturn, 1) := by decide +kernel
theorem dX9_plainOpens_0 : decode cX9_plainOpens 0 = .ok (.aload_n 0, 1) := by decide +kernel
theorem dX9_plainOpens_1 : decode cX9_plainOpens 1 = .ok (.iconst 1, 1) := by decide +kernel
theorem dX9_plainOpens_2 : decode cX9_plainOpens 2 = .ok (.invokevirtual 380, 3) := by decide +kernel
theorem dX9_plainOpens_5 : decode cX9_plainOpens 5 = .ok (.iload_n 2, 1) := by decide +kernel
theorem dX9_plainOpens_6 : decode cX9_plainOpens 6 = .ok (.iload_n 1, 1) := by decide +kernel
theorem dX9_plainOpens_7 : decode cX9_plainOpens 7 = .ok (.iadd, 1) := by decide +kernel
theorem dX9_plainOpens_8 : decode cX9_plainOpens 8 = .ok (.ireturn, 1) := by decide +kernel
theorem dX9_knownOpens_0 : decode cX9_knownOpens 0 = .ok (.aload_n 0, 1) := by decide +kernel
theorem dX9_knownOpens_1 : decode cX9_knownOpens 1 = .ok (.bipush 70, 2) := by decide +kernel
theorem dX9_knownOpens_3 : decode cX9_knownOpens 3 = .ok (.invokevirtual 380, 3) := by decide +kernel
theorem dX9_knownOpens_6 : decode cX9_knownOpens 6 = .ok (.aload_n 0, 1) := by decide +kernel
theorem dX9_knownOpens_7 : decode cX9_knownOpens 7 = .ok (.iload_n 1, 1) := by decide +kernel
theorem dX9_knownOpens_8 : decode cX9_knownOpens 8 = .ok (.iload_n 2, 1) := by decide +kernel
theorem dX9_knownOpens_9 : decode cX9_knownOpens 9 = .ok (.invokevirtual 383, 3) := by decide +kernel
theorem dX9_knownOpens_12 : decode cX9_knownOpens 12 = .ok (.iconst 2, 1) := by decide +kernel
theorem dX9_knownOpens_13 : decode cX9_knownOpens 13 = .ok (.imul, 1) := by decide +kernel
theorem dX9_knownOpens_14 : decode cX9_knownOpens 14 = .ok (.ireturn, 1) := by decide +kernel
theorem dX9_opening_0 : decode cX9_opening 0 = .ok (.aload_n 0, 1) := by decide +kernel
theorem dX9_opening_1 : decode cX9_opening 1 = .ok (.getfield 133, 3) := by decide +kernel
theorem dX9_opening_4 : decode cX9_opening 4 = .ok (.iload_n 1, 1) := by decide +kernel
theorem dX9_opening_5 : decode cX9_opening 5 = .ok (.iaload, 1) := by decide +kernel
theorem dX9_opening_6 : decode cX9_opening 6 = .ok (.iconst 1, 1) := by decide +kernel
theorem dX9_opening_7 : decode cX9_opening 7 = .ok (.invokestatic 386, 3) := by decide +kernel
theorem dX9_opening_10 : decode cX9_opening 10 = .ok (.ifCond .eq 18, 3) := by decide +kernel
theorem dX9_opening_13 : decode cX9_opening 13 = .ok (.aload_n 0, 1) := by decide +kernel
theorem dX9_opening_14 : decode cX9_opening 14 = .ok (.bipush 20, 2) := by decide +kernel
theorem dX9_opening_16 : decode cX9_opening 16 = .ok (.invokevirtual 380, 3) := by decide +kernel
theorem dX9_opening_19 : decode cX9_opening 19 = .ok (.aload_n 0, 1) := by decide +kernel
theorem dX9_opening_20 : decode cX9_opening 20 = .ok (.iload_n 1, 1) := by decide +kernel
theorem dX9_opening_21 : decode cX9_opening 21 = .ok (.iload_n 2, 1) := by decide +kernel
theorem dX9_opening_22 : decode cX9_opening 22 = .ok (.invokevirtual 383, 3) := by decide +kernel
theorem dX9_opening_25 : decode cX9_opening 25 = .ok (.iconst 3, 1) := by decide +kernel
theorem dX9_opening_26 : decode cX9_opening 26 = .ok (.iadd, 1) := by decide +kernel
theorem dX9_opening_27 : decode cX9_opening 27 = .ok (.ireturn, 1) := by decide +kernel
theorem dX9_opening_28 : decode cX9_opening 28 = .ok (.aload_n 0, 1) := by decide +kernel
theorem dX9_opening_29 : decode cX9_opening 29 = .ok (.getfield 133, 3) := by decide +kernel
theorem dX9_opening_32 : decode cX9_opening 32 = .ok (.iload_n 1, 1) := by decide +kernel
theorem dX9_opening_33 : decode cX9_opening 33 = .ok (.iaload, 1) := by decide +kernel
theorem dX9_opening_34 : decode cX9_opening 34 = .ok (.bipush 7, 2) := by decide +kernel
theorem dX9_opening_36 : decode cX9_opening 36 = .ok (.if_icmp .ne 18, 3) := by decide +kernel
theorem dX9_opening_39 : decode cX9_opening 39 = .ok (.aload_n 0, 1) := by decide +kernel
theorem dX9_opening_40 : decode cX9_opening 40 = .ok (.bipush 81, 2) := by decide +kernel
theorem dX9_opening_42 : decode cX9_opening 42 = .ok (.invokevirtual 380, 3) := by decide +kernel
theorem dX9_opening_45 : decode cX9_opening 45 = .ok (.aload_n 0, 1) := by decide +kernel
theorem dX9_opening_46 : decode cX9_opening 46 = .ok (.iload_n 1, 1) := by decide +kernel
theorem dX9_opening_47 : decode cX9_opening 47 = .ok (.iload_n 2, 1) := by decide +kernel
theorem dX9_opening_48 : decode cX9_opening 48 = .ok (.invokevirtual 389, 3) := by decide +kernel
theorem dX9_opening_51 : decode cX9_opening 51 = .ok (.iconst 1, 1) := by decide +kernel
theorem dX9_opening_52 : decode cX9_opening 52 = .ok (.isub, 1) := by decide +kernel
theorem dX9_opening_53 : decode cX9_opening 53 = .ok (.ireturn, 1) := by decide +kernel
theorem dX9_opening_54 : decode cX9_opening 54 = .ok (.aload_n 0, 1) := by decide +kernel
theorem dX9_opening_55 : decode cX9_opening 55 = .ok (.getfield 133, 3) := by decide +kernel
theorem dX9_opening_58 : decode cX9_opening 58 = .ok (.iload_n 1, 1) := by decide +kernel
theorem dX9_opening_59 : decode cX9_opening 59 = .ok (.iaload, 1) := by decide +kernel
theorem dX9_opening_60 : decode cX9_opening 60 = .ok (.bipush 6, 2) := by decide +kernel
theorem dX9_opening_62 : decode cX9_opening 62 = .ok (.if_icmp .ne 12, 3) := by decide +kernel
theorem dX9_opening_65 : decode cX9_opening 65 = .ok (.aload_n 0, 1) := by decide +kernel
theorem dX9_opening_66 : decode cX9_opening 66 = .ok (.iload_n 1, 1) := by decide +kernel
theorem dX9_opening_67 : decode cX9_opening 67 = .ok (.iload_n 2, 1) := by decide +kernel
theorem dX9_opening_68 : decode cX9_opening 68 = .ok (.invokevirtual 389, 3) := by decide +kernel
theorem dX9_opening_71 : decode cX9_opening 71 = .ok (.goto 9, 3) := by decide +kernel
theorem dX9_opening_74 : decode cX9_opening 74 = .ok (.aload_n 0, 1) := by decide +kernel
theorem dX9_opening_75 : decode cX9_opening 75 = .ok (.iload_n 1, 1) := by decide +kernel
theorem dX9_opening_76 : decode cX9_opening 76 = .ok (.iload_n 2, 1) := by decide +kernel
theorem dX9_opening_77 : decode cX9_opening 77 = .ok (.invokevirtual 383, 3) := by decide +kernel
theorem dX9_opening_80 : decode cX9_opening 80 = .ok (.ireturn, 1) := by decide +kernel
theorem dX9_plainTakes_0 : decode cX9_plainTakes 0 = .ok (.aload_n 0, 1) := by decide +kernel
theorem dX9_plainTakes_1 : decode cX9_plainTakes 1 = .ok (.bipush 10, 2) := by decide +kernel
theorem dX9_plainTakes_3 : decode cX9_plainTakes 3 = .ok (.invokevirtual 380, 3) := by decide +kernel
theorem dX9_plainTakes_6 : decode cX9_plainTakes 6 = .ok (.aload_n 0, 1) := by decide +kernel
theorem dX9_plainTakes_7 : decode cX9_plainTakes 7 = .ok (.iload_n 1, 1) := by decide +kernel
theorem dX9_plainTakes_8 : decode cX9_plainTakes 8 = .ok (.iload_n 2, 1) := by decide +kernel
theorem dX9_plainTakes_9 : decode cX9_plainTakes 9 = .ok (.invokevirtual 392, 3) := by decide +kernel
theorem dX9_plainTakes_12 : decode cX9_plainTakes 12 = .ok (.iconst 2, 1) := by decide +kernel
theorem dX9_plainTakes_13 : decode cX9_plainTakes 13 = .ok (.imul, 1) := by decide +kernel
theorem dX9_plainTakes_14 : decode cX9_plainTakes 14 = .ok (.ireturn, 1) := by decide +kernel
theorem dX9_openTakes_0 : decode cX9_openTakes 0 = .ok (.aload_n 0, 1) := by decide +kernel
theorem dX9_openTakes_1 : decode cX9_openTakes 1 = .ok (.bipush 30, 2) := by decide +kernel
theorem dX9_openTakes_3 : decode cX9_openTakes 3 = .ok (.invokevirtual 380, 3) := by decide +kernel
theorem dX9_openTakes_6 : decode cX9_openTakes 6 = .ok (.aload_n 0, 1) := by decide +kernel
theorem dX9_openTakes_7 : decode cX9_openTakes 7 = .ok (.iload_n 1, 1) := by decide +kernel
theorem dX9_openTakes_8 : decode cX9_openTakes 8 = .ok (.iload_n 2, 1) := by decide +kernel
theorem dX9_openTakes_9 : decode cX9_openTakes 9 = .ok (.invokevirtual 395, 3) := by decide +kernel
theorem dX9_openTakes_12 : decode cX9_openTakes 12 = .ok (.ineg, 1) := by decide +kernel
theorem dX9_openTakes_13 : decode cX9_openTakes 13 = .ok (.ireturn, 1) := by decide +kernel
theorem dX9_taking_0 : decode cX9_taking 0 = .ok (.aload_n 0, 1) := by decide +kernel
theorem dX9_taking_1 : decode cX9_taking 1 = .ok (.getfield 133, 3) := by decide +kernel
theorem dX9_taking_4 : decode cX9_taking 4 = .ok (.iload_n 1, 1) := by decide +kernel
theorem dX9_taking_5 : decode cX9_taking 5 = .ok (.iaload, 1) := by decide +kernel
theorem dX9_taking_6 : decode cX9_taking 6 = .ok (.iconst 3, 1) := by decide +kernel
theorem dX9_taking_7 : decode cX9_taking 7 = .ok (.invokestatic 386, 3) := by decide +kernel
theorem dX9_taking_10 : decode cX9_taking 10 = .ok (.ifCond .eq 18, 3) := by decide +kernel
theorem dX9_taking_13 : decode cX9_taking 13 = .ok (.aload_n 0, 1) := by decide +kernel
theorem dX9_taking_14 : decode cX9_taking 14 = .ok (.bipush 41, 2) := by decide +kernel
theorem dX9_taking_16 : decode cX9_taking 16 = .ok (.invokevirtual 380, 3) := by decide +kernel
theorem dX9_taking_19 : decode cX9_taking 19 = .ok (.aload_n 0, 1) := by decide +kernel
theorem dX9_taking_20 : decode cX9_taking 20 = .ok (.iload_n 1, 1) := by decide +kernel
theorem dX9_taking_21 : decode cX9_taking 21 = .ok (.iload_n 2, 1) := by decide +kernel
theorem dX9_taking_22 : decode cX9_taking 22 = .ok (.iconst 1, 1) := by decide +kernel
theorem dX9_taking_23 : decode cX9_taking 23 = .ok (.iadd, 1) := by decide +kernel
theorem dX9_taking_24 : decode cX9_taking 24 = .ok (.invokevirtual 398, 3) := by decide +kernel
theorem dX9_taking_27 : decode cX9_taking 27 = .ok (.ireturn, 1) := by decide +kernel
theorem dX9_taking_28 : decode cX9_taking 28 = .ok (.aload_n 0, 1) := by decide +kernel
theorem dX9_taking_29 : decode cX9_taking 29 = .ok (.getfield 133, 3) := by decide +kernel
theorem dX9_taking_32 : decode cX9_taking 32 = .ok (.iload_n 1, 1) := by decide +kernel
theorem dX9_taking_33 : decode cX9_taking 33 = .ok (.iaload, 1) := by decide +kernel
theorem dX9_taking_34 : decode cX9_taking 34 = .ok (.bipush 7, 2) := by decide +kernel
theorem dX9_taking_36 : decode cX9_taking 36 = .ok (.if_icmp .ne 25, 3) := by decide +kernel
theorem dX9_taking_39 : decode cX9_taking 39 = .ok (.aload_n 0, 1) := by decide +kernel
theorem dX9_taking_40 : decode cX9_taking 40 = .ok (.bipush 80, 2) := by decide +kernel
theorem dX9_taking_42 : decode cX9_taking 42 = .ok (.invokevirtual 380, 3) := by decide +kernel
theorem dX9_taking_45 : decode cX9_taking 45 = .ok (.aload_n 0, 1) := by decide +kernel
theorem dX9_taking_46 : decode cX9_taking 46 = .ok (.iload_n 1, 1) := by decide +kernel
theorem dX9_taking_47 : decode cX9_taking 47 = .ok (.iload_n 2, 1) := by decide +kernel
theorem dX9_taking_48 : decode cX9_taking 48 = .ok (.invokevirtual 395, 3) := by decide +kernel
theorem dX9_taking_51 : decode cX9_taking 51 = .ok (.istore_n 3, 1) := by decide +kernel
theorem dX9_taking_52 : decode cX9_taking 52 = .ok (.iload_n 3, 1) := by decide +kernel
theorem dX9_taking_53 : decode cX9_taking 53 = .ok (.aload_n 0, 1) := by decide +kernel
theorem dX9_taking_54 : decode cX9_taking 54 = .ok (.iload_n 1, 1) := by decide +kernel
theorem dX9_taking_55 : decode cX9_taking 55 = .ok (.iconst 2, 1) := by decide +kernel
theorem dX9_taking_56 : decode cX9_taking 56 = .ok (.invokevirtual 401, 3) := by decide +kernel
theorem dX9_taking_59 : decode cX9_taking 59 = .ok (.iadd, 1) := by decide +kernel
theorem dX9_taking_60 : decode cX9_taking 60 = .ok (.ireturn, 1) := by decide +kernel
theorem dX9_taking_61 : decode cX9_taking 61 = .ok (.aload_n 0, 1) := by decide +kernel
theorem dX9_taking_62 : decode cX9_taking 62 = .ok (.getfield 133, 3) := by decide +kernel
theorem dX9_taking_65 : decode cX9_taking 65 = .ok (.iload_n 1, 1) := by decide +kernel
theorem dX9_taking_66 : decode cX9_taking 66 = .ok (.iaload, 1) := by decide +kernel
theorem dX9_taking_67 : decode cX9_taking 67 = .ok (.iconst 2, 1) := by decide +kernel
theorem dX9_taking_68 : decode cX9_taking 68 = .ok (.if_icmp .ne 12, 3) := by decide +kernel
theorem dX9_taking_71 : decode cX9_taking 71 = .ok (.aload_n 0, 1) := by decide +kernel
theorem dX9_taking_72 : decode cX9_taking 72 = .ok (.iload_n 1, 1) := by decide +kernel
theorem dX9_taking_73 : decode cX9_taking 73 = .ok (.iload_n 2, 1) := by decide +kernel
theorem dX9_taking_74 : decode cX9_taking 74 = .ok (.invokevirtual 398, 3) := by decide +kernel
theorem dX9_taking_77 : decode cX9_taking 77 = .ok (.goto 9, 3) := by decide +kernel
theorem dX9_taking_80 : decode cX9_taking 80 = .ok (.aload_n 0, 1) := by decide +kernel
theorem dX9_taking_81 : decode cX9_taking 81 = .ok (.iload_n 1, 1) := by decide +kernel
theorem dX9_taking_82 : decode cX9_taking 82 = .ok (.iload_n 2, 1) := by decide +kernel
theorem dX9_taking_83 : decode cX9_taking 83 = .ok (.invokevirtual 395, 3) := by decide +kernel
theorem dX9_taking_86 : decode cX9_taking 86 = .ok (.ireturn, 1) := by decide +kernel
theorem dX9_plainLooks_0 : decode cX9_plainLooks 0 = .ok (.aload_n 0, 1) := by decide +kernel
theorem dX9_plainLooks_1 : decode cX9_plainLooks 1 = .ok (.bipush 11, 2) := by decide +kernel
theorem dX9_plainLooks_3 : decode cX9_plainLooks 3 = .ok (.invokevirtual 380, 3) := by decide +kernel
theorem dX9_plainLooks_6 : decode cX9_plainLooks 6 = .ok (.iload_n 2, 1) := by decide +kernel
theorem dX9_plainLooks_7 : decode cX9_plainLooks 7 = .ok (.iload_n 1, 1) := by decide +kernel
theorem dX9_plainLooks_8 : decode cX9_plainLooks 8 = .ok (.ixor, 1) := by decide +kernel
theorem dX9_plainLooks_9 : decode cX9_plainLooks 9 = .ok (.ireturn, 1) := by decide +kernel
theorem dX9_hotLooks_0 : decode cX9_hotLooks 0 = .ok (.aload_n 0, 1) := by decide +kernel
theorem dX9_hotLooks_1 : decode cX9_hotLooks 1 = .ok (.bipush 40, 2) := by decide +kernel
theorem dX9_hotLooks_3 : decode cX9_hotLooks 3 = .ok (.invokevirtual 380, 3) := by decide +kernel
theorem dX9_hotLooks_6 : decode cX9_hotLooks 6 = .ok (.aload_n 0, 1) := by decide +kernel
theorem dX9_hotLooks_7 : decode cX9_hotLooks 7 = .ok (.iload_n 1, 1) := by decide +kernel
theorem dX9_hotLooks_8 : decode cX9_hotLooks 8 = .ok (.iload_n 2, 1) := by decide +kernel
theorem dX9_hotLooks_9 : decode cX9_hotLooks 9 = .ok (.invokevirtual 404, 3) := by decide +kernel
theorem dX9_hotLooks_12 : decode cX9_hotLooks 12 = .ok (.iconst 3, 1) := by decide +kernel
theorem dX9_hotLooks_13 : decode cX9_hotLooks 13 = .ok (.imul, 1) := by decide +kernel
theorem dX9_hotLooks_14 : decode cX9_hotLooks 14 = .ok (.ireturn, 1) := by decide +kernel
theorem dX9_looking_0 : decode cX9_looking 0 = .ok (.aload_n 0, 1) := by decide +kernel
theorem dX9_looking_1 : decode cX9_looking 1 = .ok (.getfield 133, 3) := by decide +kernel
theorem dX9_looking_4 : decode cX9_looking 4 = .ok (.iload_n 1, 1) := by decide +kernel
theorem dX9_looking_5 : decode cX9_looking 5 = .ok (.iaload, 1) := by decide +kernel
theorem dX9_looking_6 : decode cX9_looking 6 = .ok (.iconst 5, 1) := by decide +kernel
theorem dX9_looking_7 : decode cX9_looking 7 = .ok (.if_icmp .ne 25, 3) := by decide +kernel
theorem dX9_looking_10 : decode cX9_looking 10 = .ok (.aload_n 0, 1) := by decide +kernel
theorem dX9_looking_11 : decode cX9_looking 11 = .ok (.bipush 60, 2) := by decide +kernel
theorem dX9_looking_13 : decode cX9_looking 13 = .ok (.invokevirtual 380, 3) := by decide +kernel
theorem dX9_looking_16 : decode cX9_looking 16 = .ok (.aload_n 0, 1) := by decide +kernel
theorem dX9_looking_17 : decode cX9_looking 17 = .ok (.iload_n 1, 1) := by decide +kernel
theorem dX9_looking_18 : decode cX9_looking 18 = .ok (.iload_n 2, 1) := by decide +kernel
theorem dX9_looking_19 : decode cX9_looking 19 = .ok (.invokevirtual 407, 3) := by decide +kernel
theorem dX9_looking_22 : decode cX9_looking 22 = .ok (.istore_n 3, 1) := by decide +kernel
theorem dX9_looking_23 : decode cX9_looking 23 = .ok (.iload_n 3, 1) := by decide +kernel
theorem dX9_looking_24 : decode cX9_looking 24 = .ok (.aload_n 0, 1) := by decide +kernel
theorem dX9_looking_25 : decode cX9_looking 25 = .ok (.iload_n 1, 1) := by decide +kernel
theorem dX9_looking_26 : decode cX9_looking 26 = .ok (.iconst 2, 1) := by decide +kernel
theorem dX9_looking_27 : decode cX9_looking 27 = .ok (.invokevirtual 392, 3) := by decide +kernel
theorem dX9_looking_30 : decode cX9_looking 30 = .ok (.isub, 1) := by decide +kernel
theorem dX9_looking_31 : decode cX9_looking 31 = .ok (.ireturn, 1) := by decide +kernel
theorem dX9_looking_32 : decode cX9_looking 32 = .ok (.aload_n 0, 1) := by decide +kernel
theorem dX9_looking_33 : decode cX9_looking 33 = .ok (.getfield 133, 3) := by decide +kernel
theorem dX9_looking_36 : decode cX9_looking 36 = .ok (.iload_n 1, 1) := by decide +kernel
theorem dX9_looking_37 : decode cX9_looking 37 = .ok (.iaload, 1) := by decide +kernel
theorem dX9_looking_38 : decode cX9_looking 38 = .ok (.iconst 3, 1) := by decide +kernel
theorem dX9_looking_39 : decode cX9_looking 39 = .ok (.if_icmp .ne 12, 3) := by decide +kernel
theorem dX9_looking_42 : decode cX9_looking 42 = .ok (.aload_n 0, 1) := by decide +kernel
theorem dX9_looking_43 : decode cX9_looking 43 = .ok (.iload_n 1, 1) := by decide +kernel
theorem dX9_looking_44 : decode cX9_looking 44 = .ok (.iload_n 2, 1) := by decide +kernel
theorem dX9_looking_45 : decode cX9_looking 45 = .ok (.invokevirtual 407, 3) := by decide +kernel
theorem dX9_looking_48 : decode cX9_looking 48 = .ok (.goto 9, 3) := by decide +kernel
theorem dX9_looking_51 : decode cX9_looking 51 = .ok (.aload_n 0, 1) := by decide +kernel
theorem dX9_looking_52 : decode cX9_looking 52 = .ok (.iload_n 1, 1) := by decide +kernel
theorem dX9_looking_53 : decode cX9_looking 53 = .ok (.iload_n 2, 1) := by decide +kernel
theorem dX9_looking_54 : decode cX9_looking 54 = .ok (.invokevirtual 404, 3) := by decide +kernel
theorem dX9_looking_57 : decode cX9_looking 57 = .ok (.ireturn, 1) := by decide +kernel
theorem dX9_plainKeeps_0 : decode cX9_plainKeeps 0 = .ok (.aload_n 0, 1) := by decide +kernel
theorem dX9_plainKeeps_1 : decode cX9_plainKeeps 1 = .ok (.iconst 2, 1) := by decide +kernel
theorem dX9_plainKeeps_2 : decode cX9_plainKeeps 2 = .ok (.invokevirtual 380, 3) := by decide +kernel
theorem dX9_plainKeeps_5 : decode cX9_plainKeeps 5 = .ok (.aload_n 0, 1) := by decide +kernel
theorem dX9_plainKeeps_6 : decode cX9_plainKeeps 6 = .ok (.iload_n 1, 1) := by decide +kernel
theorem dX9_plainKeeps_7 : decode cX9_plainKeeps 7 = .ok (.iload_n 2, 1) := by decide +kernel
theorem dX9_plainKeeps_8 : decode cX9_plainKeeps 8 = .ok (.invokevirtual 410, 3) := by decide +kernel
theorem dX9_plainKeeps_11 : decode cX9_plainKeeps 11 = .ok (.istore_n 3, 1) := by decide +kernel
theorem dX9_plainKeeps_12 : decode cX9_plainKeeps 12 = .ok (.iload_n 3, 1) := by decide +kernel
theorem dX9_plainKeeps_13 : decode cX9_plainKeeps 13 = .ok (.aload_n 0, 1) := by decide +kernel
theorem dX9_plainKeeps_14 : decode cX9_plainKeeps 14 = .ok (.iload_n 1, 1) := by decide +kernel
theorem dX9_plainKeeps_15 : decode cX9_plainKeeps 15 = .ok (.iconst 1, 1) := by decide +kernel
theorem dX9_plainKeeps_16 : decode cX9_plainKeeps 16 = .ok (.invokevirtual 401, 3) := by decide +kernel
theorem dX9_plainKeeps_19 : decode cX9_plainKeeps 19 = .ok (.isub, 1) := by decide +kernel
theorem dX9_plainKeeps_20 : decode cX9_plainKeeps 20 = .ok (.ireturn, 1) := by decide +kernel
theorem dX9_keeping_0 : decode cX9_keeping 0 = .ok (.aload_n 0, 1) := by decide +kernel
theorem dX9_keeping_1 : decode cX9_keeping 1 = .ok (.getfield 133, 3) := by decide +kernel
theorem dX9_keeping_4 : decode cX9_keeping 4 = .ok (.iload_n 1, 1) := by decide +kernel
theorem dX9_keeping_5 : decode cX9_keeping 5 = .ok (.iaload, 1) := by decide +kernel
theorem dX9_keeping_6 : decode cX9_keeping 6 = .ok (.iconst 4, 1) := by decide +kernel
theorem dX9_keeping_7 : decode cX9_keeping 7 = .ok (.if_icmp .ne 18, 3) := by decide +kernel
theorem dX9_keeping_10 : decode cX9_keeping 10 = .ok (.aload_n 0, 1) := by decide +kernel
theorem dX9_keeping_11 : decode cX9_keeping 11 = .ok (.bipush 50, 2) := by decide +kernel
theorem dX9_keeping_13 : decode cX9_keeping 13 = .ok (.invokevirtual 380, 3) := by decide +kernel
theorem dX9_keeping_16 : decode cX9_keeping 16 = .ok (.aload_n 0, 1) := by decide +kernel
theorem dX9_keeping_17 : decode cX9_keeping 17 = .ok (.iload_n 1, 1) := by decide +kernel
theorem dX9_keeping_18 : decode cX9_keeping 18 = .ok (.iload_n 2, 1) := by decide +kernel
theorem dX9_keeping_19 : decode cX9_keeping 19 = .ok (.invokevirtual 413, 3) := by decide +kernel
theorem dX9_keeping_22 : decode cX9_keeping 22 = .ok (.iconst 5, 1) := by decide +kernel
theorem dX9_keeping_23 : decode cX9_keeping 23 = .ok (.ixor, 1) := by decide +kernel
theorem dX9_keeping_24 : decode cX9_keeping 24 = .ok (.ireturn, 1) := by decide +kernel
theorem dX9_keeping_25 : decode cX9_keeping 25 = .ok (.aload_n 0, 1) := by decide +kernel
theorem dX9_keeping_26 : decode cX9_keeping 26 = .ok (.getfield 133, 3) := by decide +kernel
theorem dX9_keeping_29 : decode cX9_keeping 29 = .ok (.iload_n 1, 1) := by decide +kernel
theorem dX9_keeping_30 : decode cX9_keeping 30 = .ok (.iaload, 1) := by decide +kernel
theorem dX9_keeping_31 : decode cX9_keeping 31 = .ok (.iconst 5, 1) := by decide +kernel
theorem dX9_keeping_32 : decode cX9_keeping 32 = .ok (.if_icmp .ne 18, 3) := by decide +kernel
theorem dX9_keeping_35 : decode cX9_keeping 35 = .ok (.aload_n 0, 1) := by decide +kernel
theorem dX9_keeping_36 : decode cX9_keeping 36 = .ok (.bipush 61, 2) := by decide +kernel
theorem dX9_keeping_38 : decode cX9_keeping 38 = .ok (.invokevirtual 380, 3) := by decide +kernel
theorem dX9_keeping_41 : decode cX9_keeping 41 = .ok (.aload_n 0, 1) := by decide +kernel
theorem dX9_keeping_42 : decode cX9_keeping 42 = .ok (.iload_n 1, 1) := by decide +kernel
theorem dX9_keeping_43 : decode cX9_keeping 43 = .ok (.iload_n 2, 1) := by decide +kernel
theorem dX9_keeping_44 : decode cX9_keeping 44 = .ok (.invokevirtual 413, 3) := by decide +kernel
theorem dX9_keeping_47 : decode cX9_keeping 47 = .ok (.iconst 1, 1) := by decide +kernel
theorem dX9_keeping_48 : decode cX9_keeping 48 = .ok (.iadd, 1) := by decide +kernel
theorem dX9_keeping_49 : decode cX9_keeping 49 = .ok (.ireturn, 1) := by decide +kernel
theorem dX9_keeping_50 : decode cX9_keeping 50 = .ok (.aload_n 0, 1) := by decide +kernel
theorem dX9_keeping_51 : decode cX9_keeping 51 = .ok (.iload_n 1, 1) := by decide +kernel
theorem dX9_keeping_52 : decode cX9_keeping 52 = .ok (.iload_n 2, 1) := by decide +kernel
theorem dX9_keeping_53 : decode cX9_keeping 53 = .ok (.invokevirtual 413, 3) := by decide +kernel
theorem dX9_keeping_56 : decode cX9_keeping 56 = .ok (.ireturn, 1) := by decide +kernel
theorem dX9_act_0 : decode cX9_act 0 = .ok (.aload_n 0, 1) := by decide +kernel
theorem dX9_act_1 : decode cX9_act 1 = .ok (.iconst 0, 1) := by decide +kernel
theorem dX9_act_2 : decode cX9_act 2 = .ok (.putfield 377, 3) := by decide +kernel
theorem dX9_act_5 : decode cX9_act 5 = .ok (.aload_n 0, 1) := by decide +kernel
theorem dX9_act_6 : decode cX9_act 6 = .ok (.iload_n 1, 1) := by decide +kernel
theorem dX9_act_7 : decode cX9_act 7 = .ok (.invokevirtual 416, 3) := by decide +kernel
theorem dX9_act_10 : decode cX9_act 10 = .ok (.ifCond .eq 12, 3) := by decide +kernel
theorem dX9_act_13 : decode cX9_act 13 = .ok (.iload_n 2, 1) := by decide +kernel
theorem dX9_act_14 : decode cX9_act 14 = .ok (.iconst 0, 1) := by decide +kernel
theorem dX9_act_15 : decode cX9_act 15 = .ok (.iconst 3, 1) := by decide +kernel
theorem dX9_act_16 : decode cX9_act 16 = .ok (.invokestatic 158, 3) := by decide +kernel
theorem dX9_act_19 : decode cX9_act 19 = .ok (.ifCond .ne 5, 3) := by decide +kernel
theorem dX9_act_22 : decode cX9_act 22 = .ok (.iconst 0, 1) := by decide +kernel
theorem dX9_act_23 : decode cX9_act 23 = .ok (.ireturn, 1) := by decide +kernel
theorem dX9_act_24 : decode cX9_act 24 = .ok (.iload_n 2, 1) := by decide +kernel
theorem dX9_act_25 : decode cX9_act 25 = .ok (.ifCond .ne 12, 3) := by decide +kernel
theorem dX9_act_28 : decode cX9_act 28 = .ok (.aload_n 0, 1) := by decide +kernel
theorem dX9_act_29 : decode cX9_act 29 = .ok (.iload_n 1, 1) := by decide +kernel
theorem dX9_act_30 : decode cX9_act 30 = .ok (.iload_n 3, 1) := by decide +kernel
theorem dX9_act_31 : decode cX9_act 31 = .ok (.invokevirtual 392, 3) := by decide +kernel
theorem dX9_act_34 : decode cX9_act 34 = .ok (.goto 37, 3) := by decide +kernel
theorem dX9_act_37 : decode cX9_act 37 = .ok (.iload_n 2, 1) := by decide +kernel
theorem dX9_act_38 : decode cX9_act 38 = .ok (.iconst 1, 1) := by decide +kernel
theorem dX9_act_39 : decode cX9_act 39 = .ok (.if_icmp .ne 12, 3) := by decide +kernel
theorem dX9_act_42 : decode cX9_act 42 = .ok (.aload_n 0, 1) := by decide +kernel
theorem dX9_act_43 : decode cX9_act 43 = .ok (.iload_n 1, 1) := by decide +kernel
theorem dX9_act_44 : decode cX9_act 44 = .ok (.iload_n 3, 1) := by decide +kernel
theorem dX9_act_45 : decode cX9_act 45 = .ok (.invokevirtual 410, 3) := by decide +kernel
theorem dX9_act_48 : decode cX9_act 48 = .ok (.goto 23, 3) := by decide +kernel
theorem dX9_act_51 : decode cX9_act 51 = .ok (.iload_n 2, 1) := by decide +kernel
theorem dX9_act_52 : decode cX9_act 52 = .ok (.iconst 2, 1) := by decide +kernel
theorem dX9_act_53 : decode cX9_act 53 = .ok (.if_icmp .ne 12, 3) := by decide +kernel
theorem dX9_act_56 : decode cX9_act 56 = .ok (.aload_n 0, 1) := by decide +kernel
theorem dX9_act_57 : decode cX9_act 57 = .ok (.iload_n 1, 1) := by decide +kernel
theorem dX9_act_58 : decode cX9_act 58 = .ok (.iload_n 3, 1) := by decide +kernel
theorem dX9_act_59 : decode cX9_act 59 = .ok (.invokevirtual 401, 3) := by decide +kernel
theorem dX9_act_62 : decode cX9_act 62 = .ok (.goto 9, 3) := by decide +kernel
theorem dX9_act_65 : decode cX9_act 65 = .ok (.aload_n 0, 1) := by decide +kernel
theorem dX9_act_66 : decode cX9_act 66 = .ok (.iload_n 1, 1) := by decide +kernel
theorem dX9_act_67 : decode cX9_act 67 = .ok (.iload_n 3, 1) := by decide +kernel
theorem dX9_act_68 : decode cX9_act 68 = .ok (.invokevirtual 419, 3) := by decide +kernel
theorem dX9_act_71 : decode cX9_act 71 = .ok (.ireturn, 1) := by decide +kernel
theorem dX9_count_0 : decode cX9_count 0 = .ok (.iload_n 1, 1) := by decide +kernel
theorem dX9_count_1 : decode cX9_count 1 = .ok (.tableswitch 83 0 6 #[43, 48, 58, 63, 68, 73, 78], 43) := by decide +kernel
theorem dX9_count_44 : decode cX9_count 44 = .ok (.aload_n 0, 1) := by decide +kernel
theorem dX9_count_45 : decode cX9_count 45 = .ok (.getfield 155, 3) := by decide +kernel
theorem dX9_count_48 : decode cX9_count 48 = .ok (.ireturn, 1) := by decide +kernel
theorem dX9_count_49 : decode cX9_count 49 = .ok (.aload_n 0, 1) := by decide +kernel
theorem dX9_count_50 : decode cX9_count 50 = .ok (.getfield 32, 3) := by decide +kernel
theorem dX9_count_53 : decode cX9_count 53 = .ok (.iconst 0, 1) := by decide +kernel
theorem dX9_count_54 : decode cX9_count 54 = .ok (.iaload, 1) := by decide +kernel
theorem dX9_count_55 : decode cX9_count 55 = .ok (.invokestatic 286, 3) := by decide +kernel
theorem dX9_count_58 : decode cX9_count 58 = .ok (.ireturn, 1) := by decide +kernel
theorem dX9_count_59 : decode cX9_count 59 = .ok (.aload_n 0, 1) := by decide +kernel
theorem dX9_count_60 : decode cX9_count 60 = .ok (.invokevirtual 422, 3) := by decide +kernel
theorem dX9_count_63 : decode cX9_count 63 = .ok (.ireturn, 1) := by decide +kernel
theorem dX9_count_64 : decode cX9_count 64 = .ok (.aload_n 0, 1) := by decide +kernel
theorem dX9_count_65 : decode cX9_count 65 = .ok (.getfield 217, 3) := by decide +kernel
theorem dX9_count_68 : decode cX9_count 68 = .ok (.ireturn, 1) := by decide +kernel
theorem dX9_count_69 : decode cX9_count 69 = .ok (.aload_n 0, 1) := by decide +kernel
theorem dX9_count_70 : decode cX9_count 70 = .ok (.getfield 187, 3) := by decide +kernel
theorem dX9_count_73 : decode cX9_count 73 = .ok (.ireturn, 1) := by decide +kernel
theorem dX9_count_74 : decode cX9_count 74 = .ok (.aload_n 0, 1) := by decide +kernel
theorem dX9_count_75 : decode cX9_count 75 = .ok (.getfield 374, 3) := by decide +kernel
theorem dX9_count_78 : decode cX9_count 78 = .ok (.ireturn, 1) := by decide +kernel
theorem dX9_count_79 : decode cX9_count 79 = .ok (.aload_n 0, 1) := by decide +kernel
theorem dX9_count_80 : decode cX9_count 80 = .ok (.getfield 377, 3) := by decide +kernel
theorem dX9_count_83 : decode cX9_count 83 = .ok (.ireturn, 1) := by decide +kernel
theorem dX9_count_84 : decode cX9_count 84 = .ok (.iconst (-1), 1) := by decide +kernel
theorem dX9_count_85 : decode cX9_count 85 = .ok (.ireturn, 1) := by decide +kernel
theorem dX9_isShelf_0 : decode cX9_isShelf 0 = .ok (.iload_n 0, 1) := by decide +kernel
theorem dX9_isShelf_1 : decode cX9_isShelf 1 = .ok (.iconst 0, 1) := by decide +kernel
theorem dX9_isShelf_2 : decode cX9_isShelf 2 = .ok (.iconst 5, 1) := by decide +kernel
theorem dX9_isShelf_3 : decode cX9_isShelf 3 = .ok (.invokestatic 158, 3) := by decide +kernel
theorem dX9_isShelf_6 : decode cX9_isShelf 6 = .ok (.ireturn, 1) := by decide +kernel
theorem dX9_keep_0 : decode cX9_keep 0 = .ok (.iload_n 1, 1) := by decide +kernel
theorem dX9_keep_1 : decode cX9_keep 1 = .ok (.invokestatic 173, 3) := by decide +kernel
theorem dX9_keep_4 : decode cX9_keep 4 = .ok (.ifCond .eq 16, 3) := by decide +kernel
theorem dX9_keep_7 : decode cX9_keep 7 = .ok (.iload_n 2, 1) := by decide +kernel
theorem dX9_keep_8 : decode cX9_keep 8 = .ok (.iconst (-1), 1) := by decide +kernel
theorem dX9_keep_9 : decode cX9_keep 9 = .ok (.if_icmp .eq 13, 3) := by decide +kernel
theorem dX9_keep_12 : decode cX9_keep 12 = .ok (.aload_n 0, 1) := by decide +kernel
theorem dX9_keep_13 : decode cX9_keep 13 = .ok (.iload_n 2, 1) := by decide +kernel
theorem dX9_keep_14 : decode cX9_keep 14 = .ok (.invokevirtual 416, 3) := by decide +kernel
theorem dX9_keep_17 : decode cX9_keep 17 = .ok (.ifCond .ne 5, 3) := by decide +kernel
theorem dX9_keep_20 : decode cX9_keep 20 = .ok (.iconst (-1), 1) := by decide +kernel
theorem dX9_keep_21 : decode cX9_keep 21 = .ok (.ireturn, 1) := by decide +kernel
theorem dX9_keep_22 : decode cX9_keep 22 = .ok (.aload_n 0, 1) := by decide +kernel
theorem dX9_keep_23 : decode cX9_keep 23 = .ok (.getfield 139, 3) := by decide +kernel
theorem dX9_keep_26 : decode cX9_keep 26 = .ok (.iload_n 1, 1) := by decide +kernel
theorem dX9_keep_27 : decode cX9_keep 27 = .ok (.iload_n 2, 1) := by decide +kernel
theorem dX9_keep_28 : decode cX9_keep 28 = .ok (.iastore, 1) := by decide +kernel
theorem dX9_keep_29 : decode cX9_keep 29 = .ok (.iconst 1, 1) := by decide +kernel
theorem dX9_keep_30 : decode cX9_keep 30 = .ok (.ireturn, 1) := by decide +kernel
theorem dX9_row_0 : decode cX9_row 0 = .ok (.iload_n 1, 1) := by decide +kernel
theorem dX9_row_1 : decode cX9_row 1 = .ok (.invokestatic 173, 3) := by decide +kernel
theorem dX9_row_4 : decode cX9_row 4 = .ok (.ifCond .eq 18, 3) := by decide +kernel
theorem dX9_row_7 : decode cX9_row 7 = .ok (.iload_n 2, 1) := by decide +kernel
theorem dX9_row_8 : decode cX9_row 8 = .ok (.iconst 0, 1) := by decide +kernel
theorem dX9_row_9 : decode cX9_row 9 = .ok (.iconst 4, 1) := by decide +kernel
theorem dX9_row_10 : decode cX9_row 10 = .ok (.invokestatic 158, 3) := by decide +kernel
theorem dX9_row_13 : decode cX9_row 13 = .ok (.ifCond .eq 9, 3) := by decide +kernel
theorem dX9_row_16 : decode cX9_row 16 = .ok (.iload_n 3, 1) := by decide +kernel
theorem dX9_row_17 : decode cX9_row 17 = .ok (.bipush 60, 2) := by decide +kernel
theorem dX9_row_19 : decode cX9_row 19 = .ok (.if_icmp .le 5, 3) := by decide +kernel
theorem dX9_row_22 : decode cX9_row 22 = .ok (.iconst (-1), 1) := by decide +kernel
theorem dX9_row_23 : decode cX9_row 23 = .ok (.ireturn, 1) := by decide +kernel
theorem dX9_row_24 : decode cX9_row 24 = .ok (.iload_n 3, 1) := by decide +kernel
theorem dX9_row_25 : decode cX9_row 25 = .ok (.ifCond .ge 6, 3) := by decide +kernel
theorem dX9_row_28 : decode cX9_row 28 = .ok (.bipush (-14), 2) := by decide +kernel
theorem dX9_row_30 : decode cX9_row 30 = .ok (.ireturn, 1) := by decide +kernel
theorem dX9_row_31 : decode cX9_row 31 = .ok (.aload_n 0, 1) := by decide +kernel
theorem dX9_row_32 : decode cX9_row 32 = .ok (.getfield 139, 3) := by decide +kernel
theorem dX9_row_35 : decode cX9_row 35 = .ok (.iload_n 1, 1) := by decide +kernel
theorem dX9_row_36 : decode cX9_row 36 = .ok (.bipush (-2), 2) := by decide +kernel
theorem dX9_row_38 : decode cX9_row 38 = .ok (.iload_n 2, 1) := by decide +kernel
theorem dX9_row_39 : decode cX9_row 39 = .ok (.isub, 1) := by decide +kernel
theorem dX9_row_40 : decode cX9_row 40 = .ok (.iastore, 1) := by decide +kernel
theorem dX9_row_41 : decode cX9_row 41 = .ok (.aload_n 0, 1) := by decide +kernel
theorem dX9_row_42 : decode cX9_row 42 = .ok (.getfield 142, 3) := by decide +kernel
theorem dX9_row_45 : decode cX9_row 45 = .ok (.iload_n 1, 1) := by decide +kernel
theorem dX9_row_46 : decode cX9_row 46 = .ok (.iload_n 3, 1) := by decide +kernel
theorem dX9_row_47 : decode cX9_row 47 = .ok (.iastore, 1) := by decide +kernel
theorem dX9_row_48 : decode cX9_row 48 = .ok (.bipush 60, 2) := by decide +kernel
theorem dX9_row_50 : decode cX9_row 50 = .ok (.iload_n 1, 1) := by decide +kernel
theorem dX9_row_51 : decode cX9_row 51 = .ok (.imul, 1) := by decide +kernel
theorem dX9_row_52 : decode cX9_row 52 = .ok (.istore 4, 2) := by decide +kernel
theorem dX9_row_54 : decode cX9_row 54 = .ok (.iload 4, 2) := by decide +kernel
theorem dX9_row_56 : decode cX9_row 56 = .ok (.bipush 60, 2) := by decide +kernel
theorem dX9_row_58 : decode cX9_row 58 = .ok (.iload_n 1, 1) := by decide +kernel
theorem dX9_row_59 : decode cX9_row 59 = .ok (.imul, 1) := by decide +kernel
theorem dX9_row_60 : decode cX9_row 60 = .ok (.bipush 60, 2) := by decide +kernel
theorem dX9_row_62 : decode cX9_row 62 = .ok (.iadd, 1) := by decide +kernel
theorem dX9_row_63 : decode cX9_row 63 = .ok (.if_icmp .ge 17, 3) := by decide +kernel
theorem dX9_row_66 : decode cX9_row 66 = .ok (.aload_n 0, 1) := by decide +kernel
theorem dX9_row_67 : decode cX9_row 67 = .ok (.getfield 145, 3) := by decide +kernel
theorem dX9_row_70 : decode cX9_row 70 = .ok (.iload 4, 2) := by decide +kernel
theorem dX9_row_72 : decode cX9_row 72 = .ok (.lconst 0, 1) := by decide +kernel
theorem dX9_row_73 : decode cX9_row 73 = .ok (.lastore, 1) := by decide +kernel
theorem dX9_row_74 : decode cX9_row 74 = .ok (.iinc 4 1, 3) := by decide +kernel
theorem dX9_row_77 : decode cX9_row 77 = .ok (.goto (-23), 3) := by decide +kernel
theorem dX9_row_80 : decode cX9_row 80 = .ok (.iconst 1, 1) := by decide +kernel
theorem dX9_row_81 : decode cX9_row 81 = .ok (.ireturn, 1) := by decide +kernel
theorem dX9_whyNoPlace_0 : decode cX9_whyNoPlace 0 = .ok (.iload_n 1, 1) := by decide +kernel
theorem dX9_whyNoPlace_1 : decode cX9_whyNoPlace 1 = .ok (.invokestatic 173, 3) := by decide +kernel
theorem dX9_whyNoPlace_4 : decode cX9_whyNoPlace 4 = .ok (.ifCond .ne 5, 3) := by decide +kernel
theorem dX9_whyNoPlace_7 : decode cX9_whyNoPlace 7 = .ok (.iconst (-1), 1) := by decide +kernel
theorem dX9_whyNoPlace_8 : decode cX9_whyNoPlace 8 = .ok (.ireturn, 1) := by decide +kernel
theorem dX9_whyNoPlace_9 : decode cX9_whyNoPlace 9 = .ok (.aload_n 0, 1) := by decide +kernel
theorem dX9_whyNoPlace_10 : decode cX9_whyNoPlace 10 = .ok (.getfield 139, 3) := by decide +kernel
theorem dX9_whyNoPlace_13 : decode cX9_whyNoPlace 13 = .ok (.iload_n 1, 1) := by decide +kernel
theorem dX9_whyNoPlace_14 : decode cX9_whyNoPlace 14 = .ok (.iaload, 1) := by decide +kernel
theorem dX9_whyNoPlace_15 : decode cX9_whyNoPlace 15 = .ok (.iconst (-1), 1) := by decide +kernel
theorem dX9_whyNoPlace_16 : decode cX9_whyNoPlace 16 = .ok (.if_icmp .ne 6, 3) := by decide +kernel
theorem dX9_whyNoPlace_19 : decode cX9_whyNoPlace 19 = .ok (.bipush (-11), 2) := by decide +kernel
theorem dX9_whyNoPlace_21 : decode cX9_whyNoPlace 21 = .ok (.ireturn, 1) := by decide +kernel
theorem dX9_whyNoPlace_22 : decode cX9_whyNoPlace 22 = .ok (.aload_n 0, 1) := by decide +kernel
theorem dX9_whyNoPlace_23 : decode cX9_whyNoPlace 23 = .ok (.getfield 139, 3) := by decide +kernel
theorem dX9_whyNoPlace_26 : decode cX9_whyNoPlace 26 = .ok (.iload_n 1, 1) := by decide +kernel
theorem dX9_whyNoPlace_27 : decode cX9_whyNoPlace 27 = .ok (.iaload, 1) := by decide +kernel
theorem dX9_whyNoPlace_28 : decode cX9_whyNoPlace 28 = .ok (.ifCond .lt 6, 3) := by decide +kernel
theorem dX9_whyNoPlace_31 : decode cX9_whyNoPlace 31 = .ok (.bipush (-12), 2) := by decide +kernel
theorem dX9_whyNoPlace_33 : decode cX9_whyNoPlace 33 = .ok (.ireturn, 1) := by decide +kernel
theorem dX9_whyNoPlace_34 : decode cX9_whyNoPlace 34 = .ok (.iload_n 2, 1) := by decide +kernel
theorem dX9_whyNoPlace_35 : decode cX9_whyNoPlace 35 = .ok (.iconst 0, 1) := by decide +kernel
theorem dX9_whyNoPlace_36 : decode cX9_whyNoPlace 36 = .ok (.aload_n 0, 1) := by decide +kernel
theorem dX9_whyNoPlace_37 : decode cX9_whyNoPlace 37 = .ok (.getfield 142, 3) := by decide +kernel
theorem dX9_whyNoPlace_40 : decode cX9_whyNoPlace 40 = .ok (.iload_n 1, 1) := by decide +kernel
theorem dX9_whyNoPlace_41 : decode cX9_whyNoPlace 41 = .ok (.iaload, 1) := by decide +kernel
theorem dX9_whyNoPlace_42 : decode cX9_whyNoPlace 42 = .ok (.iconst 1, 1) := by decide +kernel
theorem dX9_whyNoPlace_43 : decode cX9_whyNoPlace 43 = .ok (.isub, 1) := by decide +kernel
theorem dX9_whyNoPlace_44 : decode cX9_whyNoPlace 44 = .ok (.invokestatic 158, 3) := by decide +kernel
theorem dX9_whyNoPlace_47 : decode cX9_whyNoPlace 47 = .ok (.ifCond .eq 7, 3) := by decide +kernel
theorem dX9_whyNoPlace_50 : decode cX9_whyNoPlace 50 = .ok (.iconst 0, 1) := by decide +kernel
theorem dX9_whyNoPlace_51 : decode cX9_whyNoPlace 51 = .ok (.goto 5, 3) := by decide +kernel
theorem dX9_whyNoPlace_54 : decode cX9_whyNoPlace 54 = .ok (.bipush (-13), 2) := by decide +kernel
theorem dX9_whyNoPlace_56 : decode cX9_whyNoPlace 56 = .ok (.ireturn, 1) := by decide +kernel
theorem dX9_put_0 : decode cX9_put 0 = .ok (.aload_n 0, 1) := by decide +kernel
theorem dX9_put_1 : decode cX9_put 1 = .ok (.iload_n 1, 1) := by decide +kernel
theorem dX9_put_2 : decode cX9_put 2 = .ok (.iload_n 2, 1) := by decide +kernel
theorem dX9_put_3 : decode cX9_put 3 = .ok (.invokevirtual 425, 3) := by decide +kernel
theorem dX9_put_6 : decode cX9_put 6 = .ok (.istore 5, 2) := by decide +kernel
theorem dX9_put_8 : decode cX9_put 8 = .ok (.iload 5, 2) := by decide +kernel
theorem dX9_put_10 : decode cX9_put 10 = .ok (.ifCond .ge 6, 3) := by decide +kernel
theorem dX9_put_13 : decode cX9_put 13 = .ok (.iload 5, 2) := by decide +kernel
theorem dX9_put_15 : decode cX9_put 15 = .ok (.ireturn, 1) := by decide +kernel
theorem dX9_put_16 : decode cX9_put 16 = .ok (.bipush (-2), 2) := by decide +kernel
theorem dX9_put_18 : decode cX9_put 18 = .ok (.aload_n 0, 1) := by decide +kernel
theorem dX9_put_19 : decode cX9_put 19 = .ok (.getfield 139, 3) := by decide +kernel
theorem dX9_put_22 : decode cX9_put 22 = .ok (.iload_n 1, 1) := by decide +kernel
theorem dX9_put_23 : decode cX9_put 23 = .ok (.iaload, 1) := by decide +kernel
theorem dX9_put_24 : decode cX9_put 24 = .ok (.isub, 1) := by decide +kernel
theorem dX9_put_25 : decode cX9_put 25 = .ok (.istore 6, 2) := by decide +kernel
theorem dX9_put_27 : decode cX9_put 27 = .ok (.aload_n 0, 1) := by decide +kernel
theorem dX9_put_28 : decode cX9_put 28 = .ok (.getfield 145, 3) := by decide +kernel
theorem dX9_put_31 : decode cX9_put 31 = .ok (.bipush 60, 2) := by decide +kernel
theorem dX9_put_33 : decode cX9_put 33 = .ok (.iload_n 1, 1) := by decide +kernel
theorem dX9_put_34 : decode cX9_put 34 = .ok (.imul, 1) := by decide +kernel
theorem dX9_put_35 : decode cX9_put 35 = .ok (.iload_n 2, 1) := by decide +kernel
theorem dX9_put_36 : decode cX9_put 36 = .ok (.iadd, 1) := by decide +kernel
theorem dX9_put_37 : decode cX9_put 37 = .ok (.iload 6, 2) := by decide +kernel
theorem dX9_put_39 : decode cX9_put 39 = .ok (.ifCond .ne 10, 3) := by decide +kernel
theorem dX9_put_42 : decode cX9_put 42 = .ok (.lload_n 3, 1) := by decide +kernel
theorem dX9_put_43 : decode cX9_put 43 = .ok (.l2i, 1) := by decide +kernel
theorem dX9_put_44 : decode cX9_put 44 = .ok (.i2b, 1) := by decide +kernel
theorem dX9_put_45 : decode cX9_put 45 = .ok (.i2l, 1) := by decide +kernel
theorem dX9_put_46 : decode cX9_put 46 = .ok (.goto 49, 3) := by decide +kernel
theorem dX9_put_49 : decode cX9_put 49 = .ok (.iload 6, 2) := by decide +kernel
theorem dX9_put_51 : decode cX9_put 51 = .ok (.iconst 1, 1) := by decide +kernel
theorem dX9_put_52 : decode cX9_put 52 = .ok (.if_icmp .ne 10, 3) := by decide +kernel
theorem dX9_put_55 : decode cX9_put 55 = .ok (.lload_n 3, 1) := by decide +kernel
theorem dX9_put_56 : decode cX9_put 56 = .ok (.l2i, 1) := by decide +kernel
theorem dX9_put_57 : decode cX9_put 57 = .ok (.i2s, 1) := by decide +kernel
theorem dX9_put_58 : decode cX9_put 58 = .ok (.i2l, 1) := by decide +kernel
theorem dX9_put_59 : decode cX9_put 59 = .ok (.goto 36, 3) := by decide +kernel
theorem dX9_put_62 : decode cX9_put 62 = .ok (.iload 6, 2) := by decide +kernel
theorem dX9_put_64 : decode cX9_put 64 = .ok (.iconst 2, 1) := by decide +kernel
theorem dX9_put_65 : decode cX9_put 65 = .ok (.if_icmp .ne 9, 3) := by decide +kernel
theorem dX9_put_68 : decode cX9_put 68 = .ok (.lload_n 3, 1) := by decide +kernel
theorem dX9_put_69 : decode cX9_put 69 = .ok (.l2i, 1) := by decide +kernel
theorem dX9_put_70 : decode cX9_put 70 = .ok (.i2l, 1) := by decide +kernel
theorem dX9_put_71 : decode cX9_put 71 = .ok (.goto 24, 3) := by decide +kernel
theorem dX9_put_74 : decode cX9_put 74 = .ok (.iload 6, 2) := by decide +kernel
theorem dX9_put_76 : decode cX9_put 76 = .ok (.iconst 3, 1) := by decide +kernel
theorem dX9_put_77 : decode cX9_put 77 = .ok (.if_icmp .ne 7, 3) := by decide +kernel
theorem dX9_put_80 : decode cX9_put 80 = .ok (.lload_n 3, 1) := by decide +kernel
theorem dX9_put_81 : decode cX9_put 81 = .ok (.goto 14, 3) := by decide +kernel
theorem dX9_put_84 : decode cX9_put 84 = .ok (.lload_n 3, 1) := by decide +kernel
theorem dX9_put_85 : decode cX9_put 85 = .ok (.lconst 0, 1) := by decide +kernel
theorem dX9_put_86 : decode cX9_put 86 = .ok (.lcmp, 1) := by decide +kernel
theorem dX9_put_87 : decode cX9_put 87 = .ok (.ifCond .eq 7, 3) := by decide +kernel
theorem dX9_put_90 : decode cX9_put 90 = .ok (.lconst 1, 1) := by decide +kernel
theorem dX9_put_91 : decode cX9_put 91 = .ok (.goto 4, 3) := by decide +kernel
theorem dX9_put_94 : decode cX9_put 94 = .ok (.lconst 0, 1) := by decide +kernel
theorem dX9_put_95 : decode cX9_put 95 = .ok (.lastore, 1) := by decide +kernel
theorem dX9_put_96 : decode cX9_put 96 = .ok (.iconst 1, 1) := by decide +kernel
theorem dX9_put_97 : decode cX9_put 97 = .ok (.ireturn, 1) := by decide +kernel
theorem dX9_element_0 : decode cX9_element 0 = .ok (.aload_n 0, 1) := by decide +kernel
theorem dX9_element_1 : decode cX9_element 1 = .ok (.iload_n 1, 1) := by decide +kernel
theorem dX9_element_2 : decode cX9_element 2 = .ok (.iload_n 2, 1) := by decide +kernel
theorem dX9_element_3 : decode cX9_element 3 = .ok (.invokevirtual 425, 3) := by decide +kernel
theorem dX9_element_6 : decode cX9_element 6 = .ok (.ifCond .ge 9, 3) := by decide +kernel
theorem dX9_element_9 : decode cX9_element 9 = .ok (.ldc2_w 430, 3) := by decide +kernel
theorem dX9_element_12 : decode cX9_element 12 = .ok (.goto 14, 3) := by decide +kernel
theorem dX9_element_15 : decode cX9_element 15 = .ok (.aload_n 0, 1) := by decide +kernel
theorem dX9_element_16 : decode cX9_element 16 = .ok (.getfield 145, 3) := by decide +kernel
theorem dX9_element_19 : decode cX9_element 19 = .ok (.bipush 60, 2) := by decide +kernel
theorem dX9_element_21 : decode cX9_element 21 = .ok (.iload_n 1, 1) := by decide +kernel
theorem dX9_element_22 : decode cX9_element 22 = .ok (.imul, 1) := by decide +kernel
theorem dX9_element_23 : decode cX9_element 23 = .ok (.iload_n 2, 1) := by decide +kernel
theorem dX9_element_24 : decode cX9_element 24 = .ok (.iadd, 1) := by decide +kernel
theorem dX9_element_25 : decode cX9_element 25 = .ok (.laload, 1) := by decide +kernel
theorem dX9_element_26 : decode cX9_element 26 = .ok (.lreturn, 1) := by decide +kernel
theorem dX9_shift_0 : decode cX9_shift 0 = .ok (.iload_n 1, 1) := by decide +kernel
theorem dX9_shift_1 : decode cX9_shift 1 = .ok (.invokestatic 173, 3) := by decide +kernel
theorem dX9_shift_4 : decode cX9_shift 4 = .ok (.ifCond .eq 10, 3) := by decide +kernel
theorem dX9_shift_7 : decode cX9_shift 7 = .ok (.iload_n 3, 1) := by decide +kernel
theorem dX9_shift_8 : decode cX9_shift 8 = .ok (.invokestatic 173, 3) := by decide +kernel
theorem dX9_shift_11 : decode cX9_shift 11 = .ok (.ifCond .ne 5, 3) := by decide +kernel
theorem dX9_shift_14 : decode cX9_shift 14 = .ok (.iconst (-1), 1) := by decide +kernel
theorem dX9_shift_15 : decode cX9_shift 15 = .ok (.ireturn, 1) := by decide +kernel
theorem dX9_shift_16 : decode cX9_shift 16 = .ok (.aload_n 0, 1) := by decide +kernel
theorem dX9_shift_17 : decode cX9_shift 17 = .ok (.getfield 139, 3) := by decide +kernel
theorem dX9_shift_20 : decode cX9_shift 20 = .ok (.iload_n 1, 1) := by decide +kernel
theorem dX9_shift_21 : decode cX9_shift 21 = .ok (.iaload, 1) := by decide +kernel
theorem dX9_shift_22 : decode cX9_shift 22 = .ok (.iconst (-1), 1) := by decide +kernel
theorem dX9_shift_23 : decode cX9_shift 23 = .ok (.if_icmp .eq 13, 3) := by decide +kernel
theorem dX9_shift_26 : decode cX9_shift 26 = .ok (.aload_n 0, 1) := by decide +kernel
theorem dX9_shift_27 : decode cX9_shift 27 = .ok (.getfield 139, 3) := by decide +kernel
theorem dX9_shift_30 : decode cX9_shift 30 = .ok (.iload_n 3, 1) := by decide +kernel
theorem dX9_shift_31 : decode cX9_shift 31 = .ok (.iaload, 1) := by decide +kernel
theorem dX9_shift_32 : decode cX9_shift 32 = .ok (.iconst (-1), 1) := by decide +kernel
theorem dX9_shift_33 : decode cX9_shift 33 = .ok (.if_icmp .ne 6, 3) := by decide +kernel
theorem dX9_shift_36 : decode cX9_shift 36 = .ok (.bipush (-11), 2) := by decide +kernel
theorem dX9_shift_38 : decode cX9_shift 38 = .ok (.ireturn, 1) := by decide +kernel
theorem dX9_shift_39 : decode cX9_shift 39 = .ok (.aload_n 0, 1) := by decide +kernel
theorem dX9_shift_40 : decode cX9_shift 40 = .ok (.getfield 139, 3) := by decide +kernel
theorem dX9_shift_43 : decode cX9_shift 43 = .ok (.iload_n 1, 1) := by decide +kernel
theorem dX9_shift_44 : decode cX9_shift 44 = .ok (.iaload, 1) := by decide +kernel
theorem dX9_shift_45 : decode cX9_shift 45 = .ok (.ifCond .ge 18, 3) := by decide +kernel
theorem dX9_shift_48 : decode cX9_shift 48 = .ok (.aload_n 0, 1) := by decide +kernel
theorem dX9_shift_49 : decode cX9_shift 49 = .ok (.getfield 139, 3) := by decide +kernel
theorem dX9_shift_52 : decode cX9_shift 52 = .ok (.iload_n 1, 1) := by decide +kernel
theorem dX9_shift_53 : decode cX9_shift 53 = .ok (.iaload, 1) := by decide +kernel
theorem dX9_shift_54 : decode cX9_shift 54 = .ok (.aload_n 0, 1) := by decide +kernel
theorem dX9_shift_55 : decode cX9_shift 55 = .ok (.getfield 139, 3) := by decide +kernel
theorem dX9_shift_58 : decode cX9_shift 58 = .ok (.iload_n 3, 1) := by decide +kernel
theorem dX9_shift_59 : decode cX9_shift 59 = .ok (.iaload, 1) := by decide +kernel
theorem dX9_shift_60 : decode cX9_shift 60 = .ok (.if_icmp .eq 6, 3) := by decide +kernel
theorem dX9_shift_63 : decode cX9_shift 63 = .ok (.bipush (-12), 2) := by decide +kernel
theorem dX9_shift_65 : decode cX9_shift 65 = .ok (.ireturn, 1) := by decide +kernel
theorem dX9_shift_66 : decode cX9_shift 66 = .ok (.iload 5, 2) := by decide +kernel
theorem dX9_shift_68 : decode cX9_shift 68 = .ok (.ifCond .lt 39, 3) := by decide +kernel
theorem dX9_shift_71 : decode cX9_shift 71 = .ok (.iload_n 2, 1) := by decide +kernel
theorem dX9_shift_72 : decode cX9_shift 72 = .ok (.ifCond .lt 35, 3) := by decide +kernel
theorem dX9_shift_75 : decode cX9_shift 75 = .ok (.iload 4, 2) := by decide +kernel
theorem dX9_shift_77 : decode cX9_shift 77 = .ok (.ifCond .lt 30, 3) := by decide +kernel
theorem dX9_shift_80 : decode cX9_shift 80 = .ok (.iload_n 2, 1) := by decide +kernel
theorem dX9_shift_81 : decode cX9_shift 81 = .ok (.aload_n 0, 1) := by decide +kernel
theorem dX9_shift_82 : decode cX9_shift 82 = .ok (.getfield 142, 3) := by decide +kernel
theorem dX9_shift_85 : decode cX9_shift 85 = .ok (.iload_n 1, 1) := by decide +kernel
theorem dX9_shift_86 : decode cX9_shift 86 = .ok (.iaload, 1) := by decide +kernel
theorem dX9_shift_87 : decode cX9_shift 87 = .ok (.iload 5, 2) := by decide +kernel
theorem dX9_shift_89 : decode cX9_shift 89 = .ok (.isub, 1) := by decide +kernel
theorem dX9_shift_90 : decode cX9_shift 90 = .ok (.if_icmp .gt 17, 3) := by decide +kernel
theorem dX9_shift_93 : decode cX9_shift 93 = .ok (.iload 4, 2) := by decide +kernel
theorem dX9_shift_95 : decode cX9_shift 95 = .ok (.aload_n 0, 1) := by decide +kernel
theorem dX9_shift_96 : decode cX9_shift 96 = .ok (.getfield 142, 3) := by decide +kernel
theorem dX9_shift_99 : decode cX9_shift 99 = .ok (.iload_n 3, 1) := by decide +kernel
theorem dX9_shift_100 : decode cX9_shift 100 = .ok (.iaload, 1) := by decide +kernel
theorem dX9_shift_101 : decode cX9_shift 101 = .ok (.iload 5, 2) := by decide +kernel
theorem dX9_shift_103 : decode cX9_shift 103 = .ok (.isub, 1) := by decide +kernel
theorem dX9_shift_104 : decode cX9_shift 104 = .ok (.if_icmp .le 6, 3) := by decide +kernel
theorem dX9_shift_107 : decode cX9_shift 107 = .ok (.bipush (-13), 2) := by decide +kernel
theorem dX9_shift_109 : decode cX9_shift 109 = .ok (.ireturn, 1) := by decide +kernel
theorem dX9_shift_110 : decode cX9_shift 110 = .ok (.iconst 0, 1) := by decide +kernel
theorem dX9_shift_111 : decode cX9_shift 111 = .ok (.istore 6, 2) := by decide +kernel
theorem dX9_shift_113 : decode cX9_shift 113 = .ok (.iload 6, 2) := by decide +kernel
theorem dX9_shift_115 : decode cX9_shift 115 = .ok (.iload 5, 2) := by decide +kernel
theorem dX9_shift_117 : decode cX9_shift 117 = .ok (.if_icmp .ge 30, 3) := by decide +kernel
theorem dX9_shift_120 : decode cX9_shift 120 = .ok (.aload_n 0, 1) := by decide +kernel
theorem dX9_shift_121 : decode cX9_shift 121 = .ok (.getfield 149, 3) := by decide +kernel
theorem dX9_shift_124 : decode cX9_shift 124 = .ok (.iload 6, 2) := by decide +kernel
theorem dX9_shift_126 : decode cX9_shift 126 = .ok (.aload_n 0, 1) := by decide +kernel
theorem dX9_shift_127 : decode cX9_shift 127 = .ok (.getfield 145, 3) := by decide +kernel
theorem dX9_shift_130 : decode cX9_shift 130 = .ok (.bipush 60, 2) := by decide +kernel
theorem dX9_shift_132 : decode cX9_shift 132 = .ok (.iload_n 1, 1) := by decide +kernel
theorem dX9_shift_133 : decode cX9_shift 133 = .ok (.imul, 1) := by decide +kernel
theorem dX9_shift_134 : decode cX9_shift 134 = .ok (.iload_n 2, 1) := by decide +kernel
theorem dX9_shift_135 : decode cX9_shift 135 = .ok (.iadd, 1) := by decide +kernel
theorem dX9_shift_136 : decode cX9_shift 136 = .ok (.iload 6, 2) := by decide +kernel
theorem dX9_shift_138 : decode cX9_shift 138 = .ok (.iadd, 1) := by decide +kernel
theorem dX9_shift_139 : decode cX9_shift 139 = .ok (.laload, 1) := by decide +kernel
theorem dX9_shift_140 : decode cX9_shift 140 = .ok (.lastore, 1) := by decide +kernel
theorem dX9_shift_141 : decode cX9_shift 141 = .ok (.iinc 6 1, 3) := by decide +kernel
theorem dX9_shift_144 : decode cX9_shift 144 = .ok (.goto (-31), 3) := by decide +kernel
theorem dX9_shift_147 : decode cX9_shift 147 = .ok (.iconst 0, 1) := by decide +kernel
theorem dX9_shift_148 : decode cX9_shift 148 = .ok (.istore 6, 2) := by decide +kernel
theorem dX9_shift_150 : decode cX9_shift 150 = .ok (.iload 6, 2) := by decide +kernel
theorem dX9_shift_152 : decode cX9_shift 152 = .ok (.iload 5, 2) := by decide +kernel
theorem dX9_shift_154 : decode cX9_shift 154 = .ok (.if_icmp .ge 31, 3) := by decide +kernel
theorem dX9_shift_157 : decode cX9_shift 157 = .ok (.aload_n 0, 1) := by decide +kernel
theorem dX9_shift_158 : decode cX9_shift 158 = .ok (.getfield 145, 3) := by decide +kernel
theorem dX9_shift_161 : decode cX9_shift 161 = .ok (.bipush 60, 2) := by decide +kernel
theorem dX9_shift_163 : decode cX9_shift 163 = .ok (.iload_n 3, 1) := by decide +kernel
theorem dX9_shift_164 : decode cX9_shift 164 = .ok (.imul, 1) := by decide +kernel
theorem dX9_shift_165 : decode cX9_shift 165 = .ok (.iload 4, 2) := by decide +kernel
theorem dX9_shift_167 : decode cX9_shift 167 = .ok (.iadd, 1) := by decide +kernel
theorem dX9_shift_168 : decode cX9_shift 168 = .ok (.iload 6, 2) := by decide +kernel
theorem dX9_shift_170 : decode cX9_shift 170 = .ok (.iadd, 1) := by decide +kernel
theorem dX9_shift_171 : decode cX9_shift 171 = .ok (.aload_n 0, 1) := by decide +kernel
theorem dX9_shift_172 : decode cX9_shift 172 = .ok (.getfield 149, 3) := by decide +kernel
theorem dX9_shift_175 : decode cX9_shift 175 = .ok (.iload 6, 2) := by decide +kernel
theorem dX9_shift_177 : decode cX9_shift 177 = .ok (.laload, 1) := by decide +kernel
theorem dX9_shift_178 : decode cX9_shift 178 = .ok (.lastore, 1) := by decide +kernel
theorem dX9_shift_179 : decode cX9_shift 179 = .ok (.iinc 6 1, 3) := by decide +kernel
theorem dX9_shift_182 : decode cX9_shift 182 = .ok (.goto (-32), 3) := by decide +kernel
theorem dX9_shift_185 : decode cX9_shift 185 = .ok (.iload 5, 2) := by decide +kernel
theorem dX9_shift_187 : decode cX9_shift 187 = .ok (.ireturn, 1) := by decide +kernel
theorem dX9_taken_0 : decode cX9_taken 0 = .ok (.iload_n 1, 1) := by decide +kernel
theorem dX9_taken_1 : decode cX9_taken 1 = .ok (.invokestatic 173, 3) := by decide +kernel
theorem dX9_taken_4 : decode cX9_taken 4 = .ok (.ifCond .eq 13, 3) := by decide +kernel
theorem dX9_taken_7 : decode cX9_taken 7 = .ok (.iload_n 2, 1) := by decide +kernel
theorem dX9_taken_8 : decode cX9_taken 8 = .ok (.iconst 0, 1) := by decide +kernel
theorem dX9_taken_9 : decode cX9_taken 9 = .ok (.bipush 7, 2) := by decide +kernel
theorem dX9_taken_11 : decode cX9_taken 11 = .ok (.invokestatic 158, 3) := by decide +kernel
theorem dX9_taken_14 : decode cX9_taken 14 = .ok (.ifCond .ne 5, 3) := by decide +kernel
theorem dX9_taken_17 : decode cX9_taken 17 = .ok (.iconst (-1), 1) := by decide +kernel
theorem dX9_taken_18 : decode cX9_taken 18 = .ok (.ireturn, 1) := by decide +kernel
theorem dX9_taken_19 : decode cX9_taken 19 = .ok (.aload_n 0, 1) := by decide +kernel
theorem dX9_taken_20 : decode cX9_taken 20 = .ok (.getfield 139, 3) := by decide +kernel
theorem dX9_taken_23 : decode cX9_taken 23 = .ok (.iload_n 1, 1) := by decide +kernel
theorem dX9_taken_24 : decode cX9_taken 24 = .ok (.iaload, 1) := by decide +kernel
theorem dX9_taken_25 : decode cX9_taken 25 = .ok (.iconst (-1), 1) := by decide +kernel
theorem dX9_taken_26 : decode cX9_taken 26 = .ok (.if_icmp .ne 6, 3) := by decide +kernel
theorem dX9_taken_29 : decode cX9_taken 29 = .ok (.bipush (-11), 2) := by decide +kernel
theorem dX9_taken_31 : decode cX9_taken 31 = .ok (.ireturn, 1) := by decide +kernel
theorem dX9_taken_32 : decode cX9_taken 32 = .ok (.aload_n 0, 1) := by decide +kernel
theorem dX9_taken_33 : decode cX9_taken 33 = .ok (.getfield 139, 3) := by decide +kernel
theorem dX9_taken_36 : decode cX9_taken 36 = .ok (.iload_n 1, 1) := by decide +kernel
theorem dX9_taken_37 : decode cX9_taken 37 = .ok (.iaload, 1) := by decide +kernel
theorem dX9_taken_38 : decode cX9_taken 38 = .ok (.ifCond .lt 35, 3) := by decide +kernel
theorem dX9_taken_41 : decode cX9_taken 41 = .ok (.aload_n 0, 1) := by decide +kernel
theorem dX9_taken_42 : decode cX9_taken 42 = .ok (.getfield 133, 3) := by decide +kernel
theorem dX9_taken_45 : decode cX9_taken 45 = .ok (.aload_n 0, 1) := by decide +kernel
theorem dX9_taken_46 : decode cX9_taken 46 = .ok (.getfield 139, 3) := by decide +kernel
theorem dX9_taken_49 : decode cX9_taken 49 = .ok (.iload_n 1, 1) := by decide +kernel
theorem dX9_taken_50 : decode cX9_taken 50 = .ok (.iaload, 1) := by decide +kernel
theorem dX9_taken_51 : decode cX9_taken 51 = .ok (.iaload, 1) := by decide +kernel
theorem dX9_taken_52 : decode cX9_taken 52 = .ok (.iload_n 2, 1) := by decide +kernel
theorem dX9_taken_53 : decode cX9_taken 53 = .ok (.invokestatic 386, 3) := by decide +kernel
theorem dX9_taken_56 : decode cX9_taken 56 = .ok (.ifCond .eq 17, 3) := by decide +kernel
theorem dX9_taken_59 : decode cX9_taken 59 = .ok (.aload_n 0, 1) := by decide +kernel
theorem dX9_taken_60 : decode cX9_taken 60 = .ok (.getfield 133, 3) := by decide +kernel
theorem dX9_taken_63 : decode cX9_taken 63 = .ok (.aload_n 0, 1) := by decide +kernel
theorem dX9_taken_64 : decode cX9_taken 64 = .ok (.getfield 139, 3) := by decide +kernel
theorem dX9_taken_67 : decode cX9_taken 67 = .ok (.iload_n 1, 1) := by decide +kernel
theorem dX9_taken_68 : decode cX9_taken 68 = .ok (.iaload, 1) := by decide +kernel
theorem dX9_taken_69 : decode cX9_taken 69 = .ok (.iaload, 1) := by decide +kernel
theorem dX9_taken_70 : decode cX9_taken 70 = .ok (.goto 5, 3) := by decide +kernel
theorem dX9_taken_73 : decode cX9_taken 73 = .ok (.bipush (-12), 2) := by decide +kernel
theorem dX9_taken_75 : decode cX9_taken 75 = .ok (.ireturn, 1) := by decide +kernel
theorem dJ6_bitCount_0f7a4_0 : decode cJ6_bitCount_0f7a4 0 = .ok (.iload_n 0, 1) := by decide +kernel
theorem dJ6_bitCount_0f7a4_1 : decode cJ6_bitCount_0f7a4 1 = .ok (.iload_n 0, 1) := by decide +kernel
theorem dJ6_bitCount_0f7a4_2 : decode cJ6_bitCount_0f7a4 2 = .ok (.iconst 1, 1) := by decide +kernel
theorem dJ6_bitCount_0f7a4_3 : decode cJ6_bitCount_0f7a4 3 = .ok (.iushr, 1) := by decide +kernel
theorem dJ6_bitCount_0f7a4_4 : decode cJ6_bitCount_0f7a4 4 = .ok (.ldc_w 265, 3) := by decide +kernel
theorem dJ6_bitCount_0f7a4_7 : decode cJ6_bitCount_0f7a4 7 = .ok (.iand, 1) := by decide +kernel
theorem dJ6_bitCount_0f7a4_8 : decode cJ6_bitCount_0f7a4 8 = .ok (.isub, 1) := by decide +kernel
theorem dJ6_bitCount_0f7a4_9 : decode cJ6_bitCount_0f7a4 9 = .ok (.istore_n 0, 1) := by decide +kernel
theorem dJ6_bitCount_0f7a4_10 : decode cJ6_bitCount_0f7a4 10 = .ok (.iload_n 0, 1) := by decide +kernel
theorem dJ6_bitCount_0f7a4_11 : decode cJ6_bitCount_0f7a4 11 = .ok (.ldc_w 266, 3) := by decide +kernel
theorem dJ6_bitCount_0f7a4_14 : decode cJ6_bitCount_0f7a4 14 = .ok (.iand, 1) := by decide +kernel
theorem dJ6_bitCount_0f7a4_15 : decode cJ6_bitCount_0f7a4 15 = .ok (.iload_n 0, 1) := by decide +kernel
theorem dJ6_bitCount_0f7a4_16 : decode cJ6_bitCount_0f7a4 16 = .ok (.iconst 2, 1) := by decide +kernel
theorem dJ6_bitCount_0f7a4_17 : decode cJ6_bitCount_0f7a4 17 = .ok (.iushr, 1) := by decide +kernel
theorem dJ6_bitCount_0f7a4_18 : decode cJ6_bitCount_0f7a4 18 = .ok (.ldc_w 266, 3) := by decide +kernel
theorem dJ6_bitCount_0f7a4_21 : decode cJ6_bitCount_0f7a4 21 = .ok (.iand, 1) := by decide +kernel
theorem dJ6_bitCount_0f7a4_22 : decode cJ6_bitCount_0f7a4 22 = .ok (.iadd, 1) := by decide +kernel
theorem dJ6_bitCount_0f7a4_23 : decode cJ6_bitCount_0f7a4 23 = .ok (.istore_n 0, 1) := by decide +kernel
theorem dJ6_bitCount_0f7a4_24 : decode cJ6_bitCount_0f7a4 24 = .ok (.iload_n 0, 1) := by decide +kernel
theorem dJ6_bitCount_0f7a4_25 : decode cJ6_bitCount_0f7a4 25 = .ok (.iload_n 0, 1) := by decide +kernel
theorem dJ6_bitCount_0f7a4_26 : decode cJ6_bitCount_0f7a4 26 = .ok (.iconst 4, 1) := by decide +kernel
theorem dJ6_bitCount_0f7a4_27 : decode cJ6_bitCount_0f7a4 27 = .ok (.iushr, 1) := by decide +kernel
theorem dJ6_bitCount_0f7a4_28 : decode cJ6_bitCount_0f7a4 28 = .ok (.iadd, 1) := by decide +kernel
theorem dJ6_bitCount_0f7a4_29 : decode cJ6_bitCount_0f7a4 29 = .ok (.ldc_w 267, 3) := by decide +kernel
theorem dJ6_bitCount_0f7a4_32 : decode cJ6_bitCount_0f7a4 32 = .ok (.iand, 1) := by decide +kernel
theorem dJ6_bitCount_0f7a4_33 : decode cJ6_bitCount_0f7a4 33 = .ok (.istore_n 0, 1) := by decide +kernel
theorem dJ6_bitCount_0f7a4_34 : decode cJ6_bitCount_0f7a4 34 = .ok (.iload_n 0, 1) := by decide +kernel
theorem dJ6_bitCount_0f7a4_35 : decode cJ6_bitCount_0f7a4 35 = .ok (.iload_n 0, 1) := by decide +kernel
theorem dJ6_bitCount_0f7a4_36 : decode cJ6_bitCount_0f7a4 36 = .ok (.bipush 8, 2) := by decide +kernel
theorem dJ6_bitCount_0f7a4_38 : decode cJ6_bitCount_0f7a4 38 = .ok (.iushr, 1) := by decide +kernel
theorem dJ6_bitCount_0f7a4_39 : decode cJ6_bitCount_0f7a4 39 = .ok (.iadd, 1) := by decide +kernel
theorem dJ6_bitCount_0f7a4_40 : decode cJ6_bitCount_0f7a4 40 = .ok (.istore_n 0, 1) := by decide +kernel
theorem dJ6_bitCount_0f7a4_41 : decode cJ6_bitCount_0f7a4 41 = .ok (.iload_n 0, 1) := by decide +kernel
theorem dJ6_bitCount_0f7a4_42 : decode cJ6_bitCount_0f7a4 42 = .ok (.iload_n 0, 1) := by decide +kernel
theorem dJ6_bitCount_0f7a4_43 : decode cJ6_bitCount_0f7a4 43 = .ok (.bipush 16, 2) := by decide +kernel
theorem dJ6_bitCount_0f7a4_45 : decode cJ6_bitCount_0f7a4 45 = .ok (.iushr, 1) := by decide +kernel
theorem dJ6_bitCount_0f7a4_46 : decode cJ6_bitCount_0f7a4 46 = .ok (.iadd, 1) := by decide +kernel
theorem dJ6_bitCount_0f7a4_47 : decode cJ6_bitCount_0f7a4 47 = .ok (.istore_n 0, 1) := by decide +kernel
theorem dJ6_bitCount_0f7a4_48 : decode cJ6_bitCount_0f7a4 48 = .ok (.iload_n 0, 1) := by decide +kernel
theorem dJ6_bitCount_0f7a4_49 : decode cJ6_bitCount_0f7a4 49 = .ok (.bipush 63, 2) := by decide +kernel
theorem dJ6_bitCount_0f7a4_51 : decode cJ6_bitCount_0f7a4 51 = .ok (.iand, 1) := by decide +kernel
theorem dJ6_bitCount_0f7a4_52 : decode cJ6_bitCount_0f7a4 52 = .ok (.ireturn, 1) := by decide +kernel
theorem dJ9_max_7cf53_0 : decode cJ9_max_7cf53 0 = .ok (.iload_n 0, 1) := by decide +kernel
theorem dJ9_max_7cf53_1 : decode cJ9_max_7cf53 1 = .ok (.iload_n 1, 1) := by decide +kernel
theorem dJ9_max_7cf53_2 : decode cJ9_max_7cf53 2 = .ok (.if_icmp .lt 7, 3) := by decide +kernel
theorem dJ9_max_7cf53_5 : decode cJ9_max_7cf53 5 = .ok (.iload_n 0, 1) := by decide +kernel
theorem dJ9_max_7cf53_6 : decode cJ9_max_7cf53 6 = .ok (.goto 4, 3) := by decide +kernel
theorem dJ9_max_7cf53_9 : decode cJ9_max_7cf53 9 = .ok (.iload_n 1, 1) := by decide +kernel
theorem dJ9_max_7cf53_10 : decode cJ9_max_7cf53 10 = .ok (.ireturn, 1) := by decide +kernel
theorem dJ9_min_7cf53_0 : decode cJ9_min_7cf53 0 = .ok (.iload_n 0, 1) := by decide +kernel
theorem dJ9_min_7cf53_1 : decode cJ9_min_7cf53 1 = .ok (.iload_n 1, 1) := by decide +kernel
theorem dJ9_min_7cf53_2 : decode cJ9_min_7cf53 2 = .ok (.if_icmp .gt 7, 3) := by decide +kernel
theorem dJ9_min_7cf53_5 : decode cJ9_min_7cf53 5 = .ok (.iload_n 0, 1) := by decide +kernel
theorem dJ9_min_7cf53_6 : decode cJ9_min_7cf53 6 = .ok (.goto 4, 3) := by decide +kernel
theorem dJ9_min_7cf53_9 : decode cJ9_min_7cf53 9 = .ok (.iload_n 1, 1) := by decide +kernel
theorem dJ9_min_7cf53_10 : decode cJ9_min_7cf53 10 = .ok (.ireturn, 1) := by decide +kernel
theorem dJ7_fill_d0a16_0 : decode cJ7_fill_d0a16 0 = .ok (.iconst 0, 1) := by decide +kernel
theorem dJ7_fill_d0a16_1 : decode cJ7_fill_d0a16 1 = .ok (.istore_n 3, 1) := by decide +kernel
theorem dJ7_fill_d0a16_2 : decode cJ7_fill_d0a16 2 = .ok (.aload_n 0, 1) := by decide +kernel
theorem dJ7_fill_d0a16_3 : decode cJ7_fill_d0a16 3 = .ok (.arraylength, 1) := by decide +kernel
theorem dJ7_fill_d0a16_4 : decode cJ7_fill_d0a16 4 = .ok (.istore 4, 2) := by decide +kernel
theorem dJ7_fill_d0a16_6 : decode cJ7_fill_d0a16 6 = .ok (.iload_n 3, 1) := by decide +kernel
theorem dJ7_fill_d0a16_7 : decode cJ7_fill_d0a16 7 = .ok (.iload 4, 2) := by decide +kernel
theorem dJ7_fill_d0a16_9 : decode cJ7_fill_d0a16 9 = .ok (.if_icmp .ge 13, 3) := by decide +kernel
theorem dJ7_fill_d0a16_12 : decode cJ7_fill_d0a16 12 = .ok (.aload_n 0, 1) := by decide +kernel
theorem dJ7_fill_d0a16_13 : decode cJ7_fill_d0a16 13 = .ok (.iload_n 3, 1) := by decide +kernel
theorem dJ7_fill_d0a16_14 : decode cJ7_fill_d0a16 14 = .ok (.lload_n 1, 1) := by decide +kernel
theorem dJ7_fill_d0a16_15 : decode cJ7_fill_d0a16 15 = .ok (.lastore, 1) := by decide +kernel
theorem dJ7_fill_d0a16_16 : decode cJ7_fill_d0a16 16 = .ok (.iinc 3 1, 3) := by decide +kernel
theorem dJ7_fill_d0a16_19 : decode cJ7_fill_d0a16 19 = .ok (.goto (-13), 3) := by decide +kernel
theorem dJ7_fill_d0a16_22 : decode cJ7_fill_d0a16 22 = .ok (.return_, 1) := by decide +kernel
theorem dJ7_fill_53178_0 : decode cJ7_fill_53178 0 = .ok (.iconst 0, 1) := by decide +kernel
theorem dJ7_fill_53178_1 : decode cJ7_fill_53178 1 = .ok (.istore_n 2, 1) := by decide +kernel
theorem dJ7_fill_53178_2 : decode cJ7_fill_53178 2 = .ok (.aload_n 0, 1) := by decide +kernel
theorem dJ7_fill_53178_3 : decode cJ7_fill_53178 3 = .ok (.arraylength, 1) := by decide +kernel
theorem dJ7_fill_53178_4 : decode cJ7_fill_53178 4 = .ok (.istore_n 3, 1) := by decide +kernel
theorem dJ7_fill_53178_5 : decode cJ7_fill_53178 5 = .ok (.iload_n 2, 1) := by decide +kernel
theorem dJ7_fill_53178_6 : decode cJ7_fill_53178 6 = .ok (.iload_n 3, 1) := by decide +kernel
theorem dJ7_fill_53178_7 : decode cJ7_fill_53178 7 = .ok (.if_icmp .ge 13, 3) := by decide +kernel
theorem dJ7_fill_53178_10 : decode cJ7_fill_53178 10 = .ok (.aload_n 0, 1) := by decide +kernel
theorem dJ7_fill_53178_11 : decode cJ7_fill_53178 11 = .ok (.iload_n 2, 1) := by decide +kernel
theorem dJ7_fill_53178_12 : decode cJ7_fill_53178 12 = .ok (.iload_n 1, 1) := by decide +kernel
theorem dJ7_fill_53178_13 : decode cJ7_fill_53178 13 = .ok (.iastore, 1) := by decide +kernel
theorem dJ7_fill_53178_14 : decode cJ7_fill_53178 14 = .ok (.iinc 2 1, 3) := by decide +kernel
theorem dJ7_fill_53178_17 : decode cJ7_fill_53178 17 = .ok (.goto (-12), 3) := by decide +kernel
theorem dJ7_fill_53178_20 : decode cJ7_fill_53178 20 = .ok (.return_, 1) := by decide +kernel
theorem dL_law_0 : decode cL_law 0 = .ok (.new 7, 3) := by decide +kernel
theorem dL_law_3 : decode cL_law 3 = .ok (.dup, 1) := by decide +kernel
theorem dL_law_4 : decode cL_law 4 = .ok (.invokespecial 9, 3) := by decide +kernel
theorem dL_law_7 : decode cL_law 7 = .ok (.astore_n 1, 1) := by decide +kernel
theorem dL_law_8 : decode cL_law 8 = .ok (.new 10, 3) := by decide +kernel
theorem dL_law_11 : decode cL_law 11 = .ok (.dup, 1) := by decide +kernel
theorem dL_law_12 : decode cL_law 12 = .ok (.invokespecial 12, 3) := by decide +kernel
theorem dL_law_15 : decode cL_law 15 = .ok (.astore_n 2, 1) := by decide +kernel
theorem dL_law_16 : decode cL_law 16 = .ok (.iconst 0, 1) := by decide +kernel
theorem dL_law_17 : decode cL_law 17 = .ok (.istore_n 3, 1) := by decide +kernel
theorem dL_law_18 : decode cL_law 18 = .ok (.iload_n 3, 1) := by decide +kernel
theorem dL_law_19 : decode cL_law 19 = .ok (.aload_n 0, 1) := by decide +kernel
theorem dL_law_20 : decode cL_law 20 = .ok (.arraylength, 1) := by decide +kernel
theorem dL_law_21 : decode cL_law 21 = .ok (.bipush 6, 2) := by decide +kernel
theorem dL_law_23 : decode cL_law 23 = .ok (.isub, 1) := by decide +kernel
theorem dL_law_24 : decode cL_law 24 = .ok (.if_icmp .gt 1133, 3) := by decide +kernel
theorem dL_law_27 : decode cL_law 27 = .ok (.aload_n 0, 1) := by decide +kernel
theorem dL_law_28 : decode cL_law 28 = .ok (.iload_n 3, 1) := by decide +kernel
theorem dL_law_29 : decode cL_law 29 = .ok (.iaload, 1) := by decide +kernel
theorem dL_law_30 : decode cL_law 30 = .ok (.bipush 63, 2) := by decide +kernel
theorem dL_law_32 : decode cL_law 32 = .ok (.iand, 1) := by decide +kernel
theorem dL_law_33 : decode cL_law 33 = .ok (.tableswitch 1118 0 35 #[159, 182, 225, 268, 301, 324, 347, 360, 373, 386, 409, 422, 435, 448, 471, 504, 527, 550, 563, 586, 629, 652, 675, 688, 701, 714, 727, 750, 793, 816, 849, 892, 965, 999, 1062, 1095], 159) := by decide +kernel
theorem dL_law_192 : decode cL_law 192 = .ok (.aload_n 1, 1) := by decide +kernel
theorem dL_law_193 : decode cL_law 193 = .ok (.aload_n 0, 1) := by decide +kernel
theorem dL_law_194 : decode cL_law 194 = .ok (.iload_n 3, 1) := by decide +kernel
theorem dL_law_195 : decode cL_law 195 = .ok (.iconst 1, 1) := by decide +kernel
theorem dL_law_196 : decode cL_law 196 = .ok (.iadd, 1) := by decide +kernel
theorem dL_law_197 : decode cL_law 197 = .ok (.iaload, 1) := by decide +kernel
theorem dL_law_198 : decode cL_law 198 = .ok (.invokevirtual 13, 3) := by decide +kernel
theorem dL_law_201 : decode cL_law 201 = .ok (.aload_n 2, 1) := by decide +kernel
theorem dL_law_202 : decode cL_law 202 = .ok (.aload_n 0, 1) := by decide +kernel
theorem dL_law_203 : decode cL_law 203 = .ok (.iload_n 3, 1) := by decide +kernel
theorem dL_law_204 : decode cL_law 204 = .ok (.iconst 1, 1) := by decide +kernel
theorem dL_law_205 : decode cL_law 205 = .ok (.iadd, 1) := by decide +kernel
theorem dL_law_206 : decode cL_law 206 = .ok (.iaload, 1) := by decide +kernel
theorem dL_law_207 : decode cL_law 207 = .ok (.invokevirtual 17, 3) := by decide +kernel
theorem dL_law_210 : decode cL_law 210 = .ok (.if_icmp .eq 941, 3) := by decide +kernel
theorem dL_law_213 : decode cL_law 213 = .ok (.iconst 0, 1) := by decide +kernel
theorem dL_law_214 : decode cL_law 214 = .ok (.ireturn, 1) := by decide +kernel
theorem dL_law_215 : decode cL_law 215 = .ok (.aload_n 1, 1) := by decide +kernel
theorem dL_law_216 : decode cL_law 216 = .ok (.aload_n 0, 1) := by decide +kernel
theorem dL_law_217 : decode cL_law 217 = .ok (.iload_n 3, 1) := by decide +kernel
theorem dL_law_218 : decode cL_law 218 = .ok (.iconst 1, 1) := by decide +kernel
theorem dL_law_219 : decode cL_law 219 = .ok (.iadd, 1) := by decide +kernel
theorem dL_law_220 : decode cL_law 220 = .ok (.iaload, 1) := by decide +kernel
theorem dL_law_221 : decode cL_law 221 = .ok (.aload_n 0, 1) := by decide +kernel
theorem dL_law_222 : decode cL_law 222 = .ok (.iload_n 3, 1) := by decide +kernel
theorem dL_law_223 : decode cL_law 223 = .ok (.iconst 2, 1) := by decide +kernel
theorem dL_law_224 : decode cL_law 224 = .ok (.iadd, 1) := by decide +kernel
theorem dL_law_225 : decode cL_law 225 = .ok (.iaload, 1) := by decide +kernel
theorem dL_law_226 : decode cL_law 226 = .ok (.aload_n 0, 1) := by decide +kernel
theorem dL_law_227 : decode cL_law 227 = .ok (.iload_n 3, 1) := by decide +kernel
theorem dL_law_228 : decode cL_law 228 = .ok (.iconst 3, 1) := by decide +kernel
theorem dL_law_229 : decode cL_law 229 = .ok (.iadd, 1) := by decide +kernel
theorem dL_law_230 : decode cL_law 230 = .ok (.iaload, 1) := by decide +kernel
theorem dL_law_231 : decode cL_law 231 = .ok (.invokevirtual 18, 3) := by decide +kernel
theorem dL_law_234 : decode cL_law 234 = .ok (.aload_n 2, 1) := by decide +kernel
theorem dL_law_235 : decode cL_law 235 = .ok (.aload_n 0, 1) := by decide +kernel
theorem dL_law_236 : decode cL_law 236 = .ok (.iload_n 3, 1) := by decide +kernel
theorem dL_law_237 : decode cL_law 237 = .ok (.iconst 1, 1) := by decide +kernel
theorem dL_law_238 : decode cL_law 238 = .ok (.iadd, 1) := by decide +kernel
theorem dL_law_239 : decode cL_law 239 = .ok (.iaload, 1) := by decide +kernel
theorem dL_law_240 : decode cL_law 240 = .ok (.aload_n 0, 1) := by decide +kernel
theorem dL_law_241 : decode cL_law 241 = .ok (.iload_n 3, 1) := by decide +kernel
theorem dL_law_242 : decode cL_law 242 = .ok (.iconst 2, 1) := by decide +kernel
theorem dL_law_243 : decode cL_law 243 = .ok (.iadd, 1) := by decide +kernel
theorem dL_law_244 : decode cL_law 244 = .ok (.iaload, 1) := by decide +kernel
theorem dL_law_245 : decode cL_law 245 = .ok (.aload_n 0, 1) := by decide +kernel
theorem dL_law_246 : decode cL_law 246 = .ok (.iload_n 3, 1) := by decide +kernel
theorem dL_law_247 : decode cL_law 247 = .ok (.iconst 3, 1) := by decide +kernel
theorem dL_law_248 : decode cL_law 248 = .ok (.iadd, 1) := by decide +kernel
theorem dL_law_249 : decode cL_law 249 = .ok (.iaload, 1) := by decide +kernel
theorem dL_law_250 : decode cL_law 250 = .ok (.invokevirtual 22, 3) := by decide +kernel
theorem dL_law_253 : decode cL_law 253 = .ok (.if_icmp .eq 898, 3) := by decide +kernel
theorem dL_law_256 : decode cL_law 256 = .ok (.iconst 0, 1) := by decide +kernel
theorem dL_law_257 : decode cL_law 257 = .ok (.ireturn, 1) := by decide +kernel
theorem dL_law_258 : decode cL_law 258 = .ok (.aload_n 1, 1) := by decide +kernel
theorem dL_law_259 : decode cL_law 259 = .ok (.aload_n 0, 1) := by decide +kernel
theorem dL_law_260 : decode cL_law 260 = .ok (.iload_n 3, 1) := by decide +kernel
theorem dL_law_261 : decode cL_law 261 = .ok (.iconst 1, 1) := by decide +kernel
theorem dL_law_262 : decode cL_law 262 = .ok (.iadd, 1) := by decide +kernel
theorem dL_law_263 : decode cL_law 263 = .ok (.iaload, 1) := by decide +kernel
theorem dL_law_264 : decode cL_law 264 = .ok (.aload_n 0, 1) := by decide +kernel
theorem dL_law_265 : decode cL_law 265 = .ok (.iload_n 3, 1) := by decide +kernel
theorem dL_law_266 : decode cL_law 266 = .ok (.iconst 2, 1) := by decide +kernel
theorem dL_law_267 : decode cL_law 267 = .ok (.iadd, 1) := by decide +kernel
theorem dL_law_268 : decode cL_law 268 = .ok (.iaload, 1) := by decide +kernel
theorem dL_law_269 : decode cL_law 269 = .ok (.aload_n 0, 1) := by decide +kernel
theorem dL_law_270 : decode cL_law 270 = .ok (.iload_n 3, 1) := by decide +kernel
theorem dL_law_271 : decode cL_law 271 = .ok (.iconst 3, 1) := by decide +kernel
theorem dL_law_272 : decode cL_law 272 = .ok (.iadd, 1) := by decide +kernel
theorem dL_law_273 : decode cL_law 273 = .ok (.iaload, 1) := by decide +kernel
theorem dL_law_274 : decode cL_law 274 = .ok (.invokevirtual 23, 3) := by decide +kernel
theorem dL_law_277 : decode cL_law 277 = .ok (.aload_n 2, 1) := by decide +kernel
theorem dL_law_278 : decode cL_law 278 = .ok (.aload_n 0, 1) := by decide +kernel
theorem dL_law_279 : decode cL_law 279 = .ok (.iload_n 3, 1) := by decide +kernel
theorem dL_law_280 : decode cL_law 280 = .ok (.iconst 1, 1) := by decide +kernel
theorem dL_law_281 : decode cL_law 281 = .ok (.iadd, 1) := by decide +kernel
theorem dL_law_282 : decode cL_law 282 = .ok (.iaload, 1) := by decide +kernel
theorem dL_law_283 : decode cL_law 283 = .ok (.aload_n 0, 1) := by decide +kernel
theorem dL_law_284 : decode cL_law 284 = .ok (.iload_n 3, 1) := by decide +kernel
theorem dL_law_285 : decode cL_law 285 = .ok (.iconst 2, 1) := by decide +kernel
theorem dL_law_286 : decode cL_law 286 = .ok (.iadd, 1) := by decide +kernel
theorem dL_law_287 : decode cL_law 287 = .ok (.iaload, 1) := by decide +kernel
theorem dL_law_288 : decode cL_law 288 = .ok (.aload_n 0, 1) := by decide +kernel
theorem dL_law_289 : decode cL_law 289 = .ok (.iload_n 3, 1) := by decide +kernel
theorem dL_law_290 : decode cL_law 290 = .ok (.iconst 3, 1) := by decide +kernel
theorem dL_law_291 : decode cL_law 291 = .ok (.iadd, 1) := by decide +kernel
theorem dL_law_292 : decode cL_law 292 = .ok (.iaload, 1) := by decide +kernel
theorem dL_law_293 : decode cL_law 293 = .ok (.invokevirtual 26, 3) := by decide +kernel
theorem dL_law_296 : decode cL_law 296 = .ok (.if_icmp .eq 855, 3) := by decide +kernel
theorem dL_law_299 : decode cL_law 299 = .ok (.iconst 0, 1) := by decide +kernel
theorem dL_law_300 : decode cL_law 300 = .ok (.ireturn, 1) := by decide +kernel
theorem dL_law_301 : decode cL_law 301 = .ok (.aload_n 1, 1) := by decide +kernel
theorem dL_law_302 : decode cL_law 302 = .ok (.aload_n 0, 1) := by decide +kernel
theorem dL_law_303 : decode cL_law 303 = .ok (.iload_n 3, 1) := by decide +kernel
theorem dL_law_304 : decode cL_law 304 = .ok (.iconst 1, 1) := by decide +kernel
theorem dL_law_305 : decode cL_law 305 = .ok (.iadd, 1) := by decide +kernel
theorem dL_law_306 : decode cL_law 306 = .ok (.iaload, 1) := by decide +kernel
theorem dL_law_307 : decode cL_law 307 = .ok (.aload_n 0, 1) := by decide +kernel
theorem dL_law_308 : decode cL_law 308 = .ok (.iload_n 3, 1) := by decide +kernel
theorem dL_law_309 : decode cL_law 309 = .ok (.iconst 2, 1) := by decide +kernel
theorem dL_law_310 : decode cL_law 310 = .ok (.iadd, 1) := by decide +kernel
theorem dL_law_311 : decode cL_law 311 = .ok (.iaload, 1) := by decide +kernel
theorem dL_law_312 : decode cL_law 312 = .ok (.invokevirtual 27, 3) := by decide +kernel
theorem dL_law_315 : decode cL_law 315 = .ok (.aload_n 2, 1) := by decide +kernel
theorem dL_law_316 : decode cL_law 316 = .ok (.aload_n 0, 1) := by decide +kernel
theorem dL_law_317 : decode cL_law 317 = .ok (.iload_n 3, 1) := by decide +kernel
theorem dL_law_318 : decode cL_law 318 = .ok (.iconst 1, 1) := by decide +kernel
theorem dL_law_319 : decode cL_law 319 = .ok (.iadd, 1) := by decide +kernel
theorem dL_law_320 : decode cL_law 320 = .ok (.iaload, 1) := by decide +kernel
theorem dL_law_321 : decode cL_law 321 = .ok (.aload_n 0, 1) := by decide +kernel
theorem dL_law_322 : decode cL_law 322 = .ok (.iload_n 3, 1) := by decide +kernel
theorem dL_law_323 : decode cL_law 323 = .ok (.iconst 2, 1) := by decide +kernel
theorem dL_law_324 : decode cL_law 324 = .ok (.iadd, 1) := by decide +kernel
theorem dL_law_325 : decode cL_law 325 = .ok (.iaload, 1) := by decide +kernel
theorem dL_law_326 : decode cL_law 326 = .ok (.invokevirtual 31, 3) := by decide +kernel
theorem dL_law_329 : decode cL_law 329 = .ok (.if_icmp .eq 822, 3) := by decide +kernel
theorem dL_law_332 : decode cL_law 332 = .ok (.iconst 0, 1) := by decide +kernel
theorem dL_law_333 : decode cL_law 333 = .ok (.ireturn, 1) := by decide +kernel
theorem dL_law_334 : decode cL_law 334 = .ok (.aload_n 1, 1) := by decide +kernel
theorem dL_law_335 : decode cL_law 335 = .ok (.aload_n 0, 1) := by decide +kernel
theorem dL_law_336 : decode cL_law 336 = .ok (.iload_n 3, 1) := by decide +kernel
theorem dL_law_337 : decode cL_law 337 = .ok (.iconst 1, 1) := by decide +kernel
theorem dL_law_338 : decode cL_law 338 = .ok (.iadd, 1) := by decide +kernel
theorem dL_law_339 : decode cL_law 339 = .ok (.iaload, 1) := by decide +kernel
theorem dL_law_340 : decode cL_law 340 = .ok (.invokevirtual 32, 3) := by decide +kernel
theorem dL_law_343 : decode cL_law 343 = .ok (.aload_n 2, 1) := by decide +kernel
theorem dL_law_344 : decode cL_law 344 = .ok (.aload_n 0, 1) := by decide +kernel
theorem dL_law_345 : decode cL_law 345 = .ok (.iload_n 3, 1) := by decide +kernel
theorem dL_law_346 : decode cL_law 346 = .ok (.iconst 1, 1) := by decide +kernel
theorem dL_law_347 : decode cL_law 347 = .ok (.iadd, 1) := by decide +kernel
theorem dL_law_348 : decode cL_law 348 = .ok (.iaload, 1) := by decide +kernel
theorem dL_law_349 : decode cL_law 349 = .ok (.invokevirtual 35, 3) := by decide +kernel
theorem dL_law_352 : decode cL_law 352 = .ok (.if_icmp .eq 799, 3) := by decide +kernel
theorem dL_law_355 : decode cL_law 355 = .ok (.iconst 0, 1) := by decide +kernel
theorem dL_law_356 : decode cL_law 356 = .ok (.ireturn, 1) := by decide +kernel
theorem dL_law_357 : decode cL_law 357 = .ok (.aload_n 1, 1) := by decide +kernel
theorem dL_law_358 : decode cL_law 358 = .ok (.aload_n 0, 1) := by decide +kernel
theorem dL_law_359 : decode cL_law 359 = .ok (.iload_n 3, 1) := by decide +kernel
theorem dL_law_360 : decode cL_law 360 = .ok (.iconst 1, 1) := by decide +kernel
theorem dL_law_361 : decode cL_law 361 = .ok (.iadd, 1) := by decide +kernel
theorem dL_law_362 : decode cL_law 362 = .ok (.iaload, 1) := by decide +kernel
theorem dL_law_363 : decode cL_law 363 = .ok (.invokevirtual 36, 3) := by decide +kernel
theorem dL_law_366 : decode cL_law 366 = .ok (.aload_n 2, 1) := by decide +kernel
theorem dL_law_367 : decode cL_law 367 = .ok (.aload_n 0, 1) := by decide +kernel
theorem dL_law_368 : decode cL_law 368 = .ok (.iload_n 3, 1) := by decide +kernel
theorem dL_law_369 : decode cL_law 369 = .ok (.iconst 1, 1) := by decide +kernel
theorem dL_law_370 : decode cL_law 370 = .ok (.iadd, 1) := by decide +kernel
theorem dL_law_371 : decode cL_law 371 = .ok (.iaload, 1) := by decide +kernel
theorem dL_law_372 : decode cL_law 372 = .ok (.invokevirtual 39, 3) := by decide +kernel
theorem dL_law_375 : decode cL_law 375 = .ok (.if_icmp .eq 776, 3) := by decide +kernel
theorem dL_law_378 : decode cL_law 378 = .ok (.iconst 0, 1) := by decide +kernel
theorem dL_law_379 : decode cL_law 379 = .ok (.ireturn, 1) := by decide +kernel
theorem dL_law_380 : decode cL_law 380 = .ok (.aload_n 1, 1) := by decide +kernel
theorem dL_law_381 : decode cL_law 381 = .ok (.invokevirtual 40, 3) := by decide +kernel
theorem dL_law_384 : decode cL_law 384 = .ok (.aload_n 2, 1) := by decide +kernel
theorem dL_law_385 : decode cL_law 385 = .ok (.invokevirtual 44, 3) := by decide +kernel
theorem dL_law_388 : decode cL_law 388 = .ok (.if_icmp .eq 763, 3) := by decide +kernel
theorem dL_law_391 : decode cL_law 391 = .ok (.iconst 0, 1) := by decide +kernel
theorem dL_law_392 : decode cL_law 392 = .ok (.ireturn, 1) := by decide +kernel
theorem dL_law_393 : decode cL_law 393 = .ok (.aload_n 1, 1) := by decide +kernel
theorem dL_law_394 : decode cL_law 394 = .ok (.invokevirtual 45, 3) := by decide +kernel
theorem dL_law_397 : decode cL_law 397 = .ok (.aload_n 2, 1) := by decide +kernel
theorem dL_law_398 : decode cL_law 398 = .ok (.invokevirtual 48, 3) := by decide +kernel
theorem dL_law_401 : decode cL_law 401 = .ok (.if_icmp .eq 750, 3) := by decide +kernel
theorem dL_law_404 : decode cL_law 404 = .ok (.iconst 0, 1) := by decide +kernel
theorem dL_law_405 : decode cL_law 405 = .ok (.ireturn, 1) := by decide +kernel
theorem dL_law_406 : decode cL_law 406 = .ok (.aload_n 1, 1) := by decide +kernel
theorem dL_law_407 : decode cL_law 407 = .ok (.invokevirtual 49, 3) := by decide +kernel
theorem dL_law_410 : decode cL_law 410 = .ok (.aload_n 2, 1) := by decide +kernel
theorem dL_law_411 : decode cL_law 411 = .ok (.invokevirtual 52, 3) := by decide +kernel
theorem dL_law_414 : decode cL_law 414 = .ok (.if_icmp .eq 737, 3) := by decide +kernel
theorem dL_law_417 : decode cL_law 417 = .ok (.iconst 0, 1) := by decide +kernel
theorem dL_law_418 : decode cL_law 418 = .ok (.ireturn, 1) := by decide +kernel
theorem dL_law_419 : decode cL_law 419 = .ok (.aload_n 1, 1) := by decide +kernel
theorem dL_law_420 : decode cL_law 420 = .ok (.aload_n 0, 1) := by decide +kernel
theorem dL_law_421 : decode cL_law 421 = .ok (.iload_n 3, 1) := by decide +kernel
theorem dL_law_422 : decode cL_law 422 = .ok (.iconst 1, 1) := by decide +kernel
theorem dL_law_423 : decode cL_law 423 = .ok (.iadd, 1) := by decide +kernel
theorem dL_law_424 : decode cL_law 424 = .ok (.iaload, 1) := by decide +kernel
theorem dL_law_425 : decode cL_law 425 = .ok (.invokevirtual 53, 3) := by decide +kernel
theorem dL_law_428 : decode cL_law 428 = .ok (.aload_n 2, 1) := by decide +kernel
theorem dL_law_429 : decode cL_law 429 = .ok (.aload_n 0, 1) := by decide +kernel
theorem dL_law_430 : decode cL_law 430 = .ok (.iload_n 3, 1) := by decide +kernel
theorem dL_law_431 : decode cL_law 431 = .ok (.iconst 1, 1) := by decide +kernel
theorem dL_law_432 : decode cL_law 432 = .ok (.iadd, 1) := by decide +kernel
theorem dL_law_433 : decode cL_law 433 = .ok (.iaload, 1) := by decide +kernel
theorem dL_law_434 : decode cL_law 434 = .ok (.invokevirtual 56, 3) := by decide +kernel
theorem dL_law_437 : decode cL_law 437 = .ok (.if_icmp .eq 714, 3) := by decide +kernel
theorem dL_law_440 : decode cL_law 440 = .ok (.iconst 0, 1) := by decide +kernel
theorem dL_law_441 : decode cL_law 441 = .ok (.ireturn, 1) := by decide +kernel
theorem dL_law_442 : decode cL_law 442 = .ok (.aload_n 1, 1) := by decide +kernel
theorem dL_law_443 : decode cL_law 443 = .ok (.invokevirtual 57, 3) := by decide +kernel
theorem dL_law_446 : decode cL_law 446 = .ok (.aload_n 2, 1) := by decide +kernel
theorem dL_law_447 : decode cL_law 447 = .ok (.invokevirtual 60, 3) := by decide +kernel
theorem dL_law_450 : decode cL_law 450 = .ok (.if_icmp .eq 701, 3) := by decide +kernel
theorem dL_law_453 : decode cL_law 453 = .ok (.iconst 0, 1) := by decide +kernel
theorem dL_law_454 : decode cL_law 454 = .ok (.ireturn, 1) := by decide +kernel
theorem dL_law_455 : decode cL_law 455 = .ok (.aload_n 1, 1) := by decide +kernel
theorem dL_law_456 : decode cL_law 456 = .ok (.invokevirtual 61, 3) := by decide +kernel
theorem dL_law_459 : decode cL_law 459 = .ok (.aload_n 2, 1) := by decide +kernel
theorem dL_law_460 : decode cL_law 460 = .ok (.invokevirtual 64, 3) := by decide +kernel
theorem dL_law_463 : decode cL_law 463 = .ok (.if_icmp .eq 688, 3) := by decide +kernel
theorem dL_law_466 : decode cL_law 466 = .ok (.iconst 0, 1) := by decide +kernel
theorem dL_law_467 : decode cL_law 467 = .ok (.ireturn, 1) := by decide +kernel
theorem dL_law_468 : decode cL_law 468 = .ok (.aload_n 1, 1) := by decide +kernel
theorem dL_law_469 : decode cL_law 469 = .ok (.invokevirtual 65, 3) := by decide +kernel
theorem dL_law_472 : decode cL_law 472 = .ok (.aload_n 2, 1) := by decide +kernel
theorem dL_law_473 : decode cL_law 473 = .ok (.invokevirtual 68, 3) := by decide +kernel
theorem dL_law_476 : decode cL_law 476 = .ok (.if_icmp .eq 675, 3) := by decide +kernel
theorem dL_law_479 : decode cL_law 479 = .ok (.iconst 0, 1) := by decide +kernel
theorem dL_law_480 : decode cL_law 480 = .ok (.ireturn, 1) := by decide +kernel
theorem dL_law_481 : decode cL_law 481 = .ok (.aload_n 1, 1) := by decide +kernel
theorem dL_law_482 : decode cL_law 482 = .ok (.aload_n 0, 1) := by decide +kernel
theorem dL_law_483 : decode cL_law 483 = .ok (.iload_n 3, 1) := by decide +kernel
theorem dL_law_484 : decode cL_law 484 = .ok (.iconst 1, 1) := by decide +kernel
theorem dL_law_485 : decode cL_law 485 = .ok (.iadd, 1) := by decide +kernel
theorem dL_law_486 : decode cL_law 486 = .ok (.iaload, 1) := by decide +kernel
theorem dL_law_487 : decode cL_law 487 = .ok (.invokevirtual 69, 3) := by decide +kernel
theorem dL_law_490 : decode cL_law 490 = .ok (.aload_n 2, 1) := by decide +kernel
theorem dL_law_491 : decode cL_law 491 = .ok (.aload_n 0, 1) := by decide +kernel
theorem dL_law_492 : decode cL_law 492 = .ok (.iload_n 3, 1) := by decide +kernel
theorem dL_law_493 : decode cL_law 493 = .ok (.iconst 1, 1) := by decide +kernel
theorem dL_law_494 : decode cL_law 494 = .ok (.iadd, 1) := by decide +kernel
theorem dL_law_495 : decode cL_law 495 = .ok (.iaload, 1) := by decide +kernel
theorem dL_law_496 : decode cL_law 496 = .ok (.invokevirtual 72, 3) := by decide +kernel
theorem dL_law_499 : decode cL_law 499 = .ok (.if_icmp .eq 652, 3) := by decide +kernel
theorem dL_law_502 : decode cL_law 502 = .ok (.iconst 0, 1) := by decide +kernel
theorem dL_law_503 : decode cL_law 503 = .ok (.ireturn, 1) := by decide +kernel
theorem dL_law_504 : decode cL_law 504 = .ok (.aload_n 1, 1) := by decide +kernel
theorem dL_law_505 : decode cL_law 505 = .ok (.aload_n 0, 1) := by decide +kernel
theorem dL_law_506 : decode cL_law 506 = .ok (.iload_n 3, 1) := by decide +kernel
theorem dL_law_507 : decode cL_law 507 = .ok (.iconst 1, 1) := by decide +kernel
theorem dL_law_508 : decode cL_law 508 = .ok (.iadd, 1) := by decide +kernel
theorem dL_law_509 : decode cL_law 509 = .ok (.iaload, 1) := by decide +kernel
theorem dL_law_510 : decode cL_law 510 = .ok (.aload_n 0, 1) := by decide +kernel
theorem dL_law_511 : decode cL_law 511 = .ok (.iload_n 3, 1) := by decide +kernel
theorem dL_law_512 : decode cL_law 512 = .ok (.iconst 2, 1) := by decide +kernel
theorem dL_law_513 : decode cL_law 513 = .ok (.iadd, 1) := by decide +kernel
theorem dL_law_514 : decode cL_law 514 = .ok (.iaload, 1) := by decide +kernel
theorem dL_law_515 : decode cL_law 515 = .ok (.invokevirtual 73, 3) := by decide +kernel
theorem dL_law_518 : decode cL_law 518 = .ok (.aload_n 2, 1) := by decide +kernel
theorem dL_law_519 : decode cL_law 519 = .ok (.aload_n 0, 1) := by decide +kernel
theorem dL_law_520 : decode cL_law 520 = .ok (.iload_n 3, 1) := by decide +kernel
theorem dL_law_521 : decode cL_law 521 = .ok (.iconst 1, 1) := by decide +kernel
theorem dL_law_522 : decode cL_law 522 = .ok (.iadd, 1) := by decide +kernel
theorem dL_law_523 : decode cL_law 523 = .ok (.iaload, 1) := by decide +kernel
theorem dL_law_524 : decode cL_law 524 = .ok (.aload_n 0, 1) := by decide +kernel
theorem dL_law_525 : decode cL_law 525 = .ok (.iload_n 3, 1) := by decide +kernel
theorem dL_law_526 : decode cL_law 526 = .ok (.iconst 2, 1) := by decide +kernel
theorem dL_law_527 : decode cL_law 527 = .ok (.iadd, 1) := by decide +kernel
theorem dL_law_528 : decode cL_law 528 = .ok (.iaload, 1) := by decide +kernel
theorem dL_law_529 : decode cL_law 529 = .ok (.invokevirtual 76, 3) := by decide +kernel
theorem dL_law_532 : decode cL_law 532 = .ok (.if_icmp .eq 619, 3) := by decide +kernel
theorem dL_law_535 : decode cL_law 535 = .ok (.iconst 0, 1) := by decide +kernel
theorem dL_law_536 : decode cL_law 536 = .ok (.ireturn, 1) := by decide +kernel
theorem dL_law_537 : decode cL_law 537 = .ok (.aload_n 1, 1) := by decide +kernel
theorem dL_law_538 : decode cL_law 538 = .ok (.aload_n 0, 1) := by decide +kernel
theorem dL_law_539 : decode cL_law 539 = .ok (.iload_n 3, 1) := by decide +kernel
theorem dL_law_540 : decode cL_law 540 = .ok (.iconst 1, 1) := by decide +kernel
theorem dL_law_541 : decode cL_law 541 = .ok (.iadd, 1) := by decide +kernel
theorem dL_law_542 : decode cL_law 542 = .ok (.iaload, 1) := by decide +kernel
theorem dL_law_543 : decode cL_law 543 = .ok (.invokevirtual 77, 3) := by decide +kernel
theorem dL_law_546 : decode cL_law 546 = .ok (.aload_n 2, 1) := by decide +kernel
theorem dL_law_547 : decode cL_law 547 = .ok (.aload_n 0, 1) := by decide +kernel
theorem dL_law_548 : decode cL_law 548 = .ok (.iload_n 3, 1) := by decide +kernel
theorem dL_law_549 : decode cL_law 549 = .ok (.iconst 1, 1) := by decide +kernel
theorem dL_law_550 : decode cL_law 550 = .ok (.iadd, 1) := by decide +kernel
theorem dL_law_551 : decode cL_law 551 = .ok (.iaload, 1) := by decide +kernel
theorem dL_law_552 : decode cL_law 552 = .ok (.invokevirtual 80, 3) := by decide +kernel
theorem dL_law_555 : decode cL_law 555 = .ok (.if_icmp .eq 596, 3) := by decide +kernel
theorem dL_law_558 : decode cL_law 558 = .ok (.iconst 0, 1) := by decide +kernel
theorem dL_law_559 : decode cL_law 559 = .ok (.ireturn, 1) := by decide +kernel
theorem dL_law_560 : decode cL_law 560 = .ok (.aload_n 1, 1) := by decide +kernel
theorem dL_law_561 : decode cL_law 561 = .ok (.aload_n 0, 1) := by decide +kernel
theorem dL_law_562 : decode cL_law 562 = .ok (.iload_n 3, 1) := by decide +kernel
theorem dL_law_563 : decode cL_law 563 = .ok (.iconst 1, 1) := by decide +kernel
theorem dL_law_564 : decode cL_law 564 = .ok (.iadd, 1) := by decide +kernel
theorem dL_law_565 : decode cL_law 565 = .ok (.iaload, 1) := by decide +kernel
theorem dL_law_566 : decode cL_law 566 = .ok (.invokevirtual 81, 3) := by decide +kernel
theorem dL_law_569 : decode cL_law 569 = .ok (.aload_n 2, 1) := by decide +kernel
theorem dL_law_570 : decode cL_law 570 = .ok (.aload_n 0, 1) := by decide +kernel
theorem dL_law_571 : decode cL_law 571 = .ok (.iload_n 3, 1) := by decide +kernel
theorem dL_law_572 : decode cL_law 572 = .ok (.iconst 1, 1) := by decide +kernel
theorem dL_law_573 : decode cL_law 573 = .ok (.iadd, 1) := by decide +kernel
theorem dL_law_574 : decode cL_law 574 = .ok (.iaload, 1) := by decide +kernel
theorem dL_law_575 : decode cL_law 575 = .ok (.invokevirtual 84, 3) := by decide +kernel
theorem dL_law_578 : decode cL_law 578 = .ok (.if_icmp .eq 573, 3) := by decide +kernel
theorem dL_law_581 : decode cL_law 581 = .ok (.iconst 0, 1) := by decide +kernel
theorem dL_law_582 : decode cL_law 582 = .ok (.ireturn, 1) := by decide +kernel
theorem dL_law_583 : decode cL_law 583 = .ok (.aload_n 1, 1) := by decide +kernel
theorem dL_law_584 : decode cL_law 584 = .ok (.invokevirtual 85, 3) := by decide +kernel
theorem dL_law_587 : decode cL_law 587 = .ok (.aload_n 2, 1) := by decide +kernel
theorem dL_law_588 : decode cL_law 588 = .ok (.invokevirtual 88, 3) := by decide +kernel
theorem dL_law_591 : decode cL_law 591 = .ok (.if_icmp .eq 560, 3) := by decide +kernel
theorem dL_law_594 : decode cL_law 594 = .ok (.iconst 0, 1) := by decide +kernel
theorem dL_law_595 : decode cL_law 595 = .ok (.ireturn, 1) := by decide +kernel
theorem dL_law_596 : decode cL_law 596 = .ok (.aload_n 1, 1) := by decide +kernel
theorem dL_law_597 : decode cL_law 597 = .ok (.aload_n 0, 1) := by decide +kernel
theorem dL_law_598 : decode cL_law 598 = .ok (.iload_n 3, 1) := by decide +kernel
theorem dL_law_599 : decode cL_law 599 = .ok (.iconst 1, 1) := by decide +kernel
theorem dL_law_600 : decode cL_law 600 = .ok (.iadd, 1) := by decide +kernel
theorem dL_law_601 : decode cL_law 601 = .ok (.iaload, 1) := by decide +kernel
theorem dL_law_602 : decode cL_law 602 = .ok (.invokevirtual 89, 3) := by decide +kernel
theorem dL_law_605 : decode cL_law 605 = .ok (.aload_n 2, 1) := by decide +kernel
theorem dL_law_606 : decode cL_law 606 = .ok (.aload_n 0, 1) := by decide +kernel
theorem dL_law_607 : decode cL_law 607 = .ok (.iload_n 3, 1) := by decide +kernel
theorem dL_law_608 : decode cL_law 608 = .ok (.iconst 1, 1) := by decide +kernel
theorem dL_law_609 : decode cL_law 609 = .ok (.iadd, 1) := by decide +kernel
theorem dL_law_610 : decode cL_law 610 = .ok (.iaload, 1) := by decide +kernel
theorem dL_law_611 : decode cL_law 611 = .ok (.invokevirtual 92, 3) := by decide +kernel
theorem dL_law_614 : decode cL_law 614 = .ok (.if_icmp .eq 537, 3) := by decide +kernel
theorem dL_law_617 : decode cL_law 617 = .ok (.iconst 0, 1) := by decide +kernel
theorem dL_law_618 : decode cL_law 618 = .ok (.ireturn, 1) := by decide +kernel
theorem dL_law_619 : decode cL_law 619 = .ok (.aload_n 1, 1) := by decide +kernel
theorem dL_law_620 : decode cL_law 620 = .ok (.aload_n 0, 1) := by decide +kernel
theorem dL_law_621 : decode cL_law 621 = .ok (.iload_n 3, 1) := by decide +kernel
theorem dL_law_622 : decode cL_law 622 = .ok (.iconst 1, 1) := by decide +kernel
theorem dL_law_623 : decode cL_law 623 = .ok (.iadd, 1) := by decide +kernel
theorem dL_law_624 : decode cL_law 624 = .ok (.iaload, 1) := by decide +kernel
theorem dL_law_625 : decode cL_law 625 = .ok (.aload_n 0, 1) := by decide +kernel
theorem dL_law_626 : decode cL_law 626 = .ok (.iload_n 3, 1) := by decide +kernel
theorem dL_law_627 : decode cL_law 627 = .ok (.iconst 2, 1) := by decide +kernel
theorem dL_law_628 : decode cL_law 628 = .ok (.iadd, 1) := by decide +kernel
theorem dL_law_629 : decode cL_law 629 = .ok (.iaload, 1) := by decide +kernel
theorem dL_law_630 : decode cL_law 630 = .ok (.aload_n 0, 1) := by decide +kernel
theorem dL_law_631 : decode cL_law 631 = .ok (.iload_n 3, 1) := by decide +kernel
theorem dL_law_632 : decode cL_law 632 = .ok (.iconst 3, 1) := by decide +kernel
theorem dL_law_633 : decode cL_law 633 = .ok (.iadd, 1) := by decide +kernel
theorem dL_law_634 : decode cL_law 634 = .ok (.iaload, 1) := by decide +kernel
theorem dL_law_635 : decode cL_law 635 = .ok (.invokevirtual 93, 3) := by decide +kernel
theorem dL_law_638 : decode cL_law 638 = .ok (.aload_n 2, 1) := by decide +kernel
theorem dL_law_639 : decode cL_law 639 = .ok (.aload_n 0, 1) := by decide +kernel
theorem dL_law_640 : decode cL_law 640 = .ok (.iload_n 3, 1) := by decide +kernel
theorem dL_law_641 : decode cL_law 641 = .ok (.iconst 1, 1) := by decide +kernel
theorem dL_law_642 : decode cL_law 642 = .ok (.iadd, 1) := by decide +kernel
theorem dL_law_643 : decode cL_law 643 = .ok (.iaload, 1) := by decide +kernel
theorem dL_law_644 : decode cL_law 644 = .ok (.aload_n 0, 1) := by decide +kernel
theorem dL_law_645 : decode cL_law 645 = .ok (.iload_n 3, 1) := by decide +kernel
theorem dL_law_646 : decode cL_law 646 = .ok (.iconst 2, 1) := by decide +kernel
theorem dL_law_647 : decode cL_law 647 = .ok (.iadd, 1) := by decide +kernel
theorem dL_law_648 : decode cL_law 648 = .ok (.iaload, 1) := by decide +kernel
theorem dL_law_649 : decode cL_law 649 = .ok (.aload_n 0, 1) := by decide +kernel
theorem dL_law_650 : decode cL_law 650 = .ok (.iload_n 3, 1) := by decide +kernel
theorem dL_law_651 : decode cL_law 651 = .ok (.iconst 3, 1) := by decide +kernel
theorem dL_law_652 : decode cL_law 652 = .ok (.iadd, 1) := by decide +kernel
theorem dL_law_653 : decode cL_law 653 = .ok (.iaload, 1) := by decide +kernel
theorem dL_law_654 : decode cL_law 654 = .ok (.invokevirtual 96, 3) := by decide +kernel
theorem dL_law_657 : decode cL_law 657 = .ok (.if_icmp .eq 494, 3) := by decide +kernel
theorem dL_law_660 : decode cL_law 660 = .ok (.iconst 0, 1) := by decide +kernel
theorem dL_law_661 : decode cL_law 661 = .ok (.ireturn, 1) := by decide +kernel
theorem dL_law_662 : decode cL_law 662 = .ok (.aload_n 1, 1) := by decide +kernel
theorem dL_law_663 : decode cL_law 663 = .ok (.aload_n 0, 1) := by decide +kernel
theorem dL_law_664 : decode cL_law 664 = .ok (.iload_n 3, 1) := by decide +kernel
theorem dL_law_665 : decode cL_law 665 = .ok (.iconst 1, 1) := by decide +kernel
theorem dL_law_666 : decode cL_law 666 = .ok (.iadd, 1) := by decide +kernel
theorem dL_law_667 : decode cL_law 667 = .ok (.iaload, 1) := by decide +kernel
theorem dL_law_668 : decode cL_law 668 = .ok (.invokevirtual 97, 3) := by decide +kernel
theorem dL_law_671 : decode cL_law 671 = .ok (.aload_n 2, 1) := by decide +kernel
theorem dL_law_672 : decode cL_law 672 = .ok (.aload_n 0, 1) := by decide +kernel
theorem dL_law_673 : decode cL_law 673 = .ok (.iload_n 3, 1) := by decide +kernel
theorem dL_law_674 : decode cL_law 674 = .ok (.iconst 1, 1) := by decide +kernel
theorem dL_law_675 : decode cL_law 675 = .ok (.iadd, 1) := by decide +kernel
theorem dL_law_676 : decode cL_law 676 = .ok (.iaload, 1) := by decide +kernel
theorem dL_law_677 : decode cL_law 677 = .ok (.invokevirtual 100, 3) := by decide +kernel
theorem dL_law_680 : decode cL_law 680 = .ok (.if_icmp .eq 471, 3) := by decide +kernel
theorem dL_law_683 : decode cL_law 683 = .ok (.iconst 0, 1) := by decide +kernel
theorem dL_law_684 : decode cL_law 684 = .ok (.ireturn, 1) := by decide +kernel
theorem dL_law_685 : decode cL_law 685 = .ok (.aload_n 1, 1) := by decide +kernel
theorem dL_law_686 : decode cL_law 686 = .ok (.aload_n 0, 1) := by decide +kernel
theorem dL_law_687 : decode cL_law 687 = .ok (.iload_n 3, 1) := by decide +kernel
theorem dL_law_688 : decode cL_law 688 = .ok (.iconst 1, 1) := by decide +kernel
theorem dL_law_689 : decode cL_law 689 = .ok (.iadd, 1) := by decide +kernel
theorem dL_law_690 : decode cL_law 690 = .ok (.iaload, 1) := by decide +kernel
theorem dL_law_691 : decode cL_law 691 = .ok (.invokevirtual 101, 3) := by decide +kernel
theorem dL_law_694 : decode cL_law 694 = .ok (.aload_n 2, 1) := by decide +kernel
theorem dL_law_695 : decode cL_law 695 = .ok (.aload_n 0, 1) := by decide +kernel
theorem dL_law_696 : decode cL_law 696 = .ok (.iload_n 3, 1) := by decide +kernel
theorem dL_law_697 : decode cL_law 697 = .ok (.iconst 1, 1) := by decide +kernel
theorem dL_law_698 : decode cL_law 698 = .ok (.iadd, 1) := by decide +kernel
theorem dL_law_699 : decode cL_law 699 = .ok (.iaload, 1) := by decide +kernel
theorem dL_law_700 : decode cL_law 700 = .ok (.invokevirtual 104, 3) := by decide +kernel
theorem dL_law_703 : decode cL_law 703 = .ok (.if_icmp .eq 448, 3) := by decide +kernel
theorem dL_law_706 : decode cL_law 706 = .ok (.iconst 0, 1) := by decide +kernel
theorem dL_law_707 : decode cL_law 707 = .ok (.ireturn, 1) := by decide +kernel
theorem dL_law_708 : decode cL_law 708 = .ok (.aload_n 1, 1) := by decide +kernel
theorem dL_law_709 : decode cL_law 709 = .ok (.invokevirtual 105, 3) := by decide +kernel
theorem dL_law_712 : decode cL_law 712 = .ok (.aload_n 2, 1) := by decide +kernel
theorem dL_law_713 : decode cL_law 713 = .ok (.invokevirtual 108, 3) := by decide +kernel
theorem dL_law_716 : decode cL_law 716 = .ok (.if_icmp .eq 435, 3) := by decide +kernel
theorem dL_law_719 : decode cL_law 719 = .ok (.iconst 0, 1) := by decide +kernel
theorem dL_law_720 : decode cL_law 720 = .ok (.ireturn, 1) := by decide +kernel
theorem dL_law_721 : decode cL_law 721 = .ok (.aload_n 1, 1) := by decide +kernel
theorem dL_law_722 : decode cL_law 722 = .ok (.invokevirtual 109, 3) := by decide +kernel
theorem dL_law_725 : decode cL_law 725 = .ok (.aload_n 2, 1) := by decide +kernel
theorem dL_law_726 : decode cL_law 726 = .ok (.invokevirtual 112, 3) := by decide +kernel
theorem dL_law_729 : decode cL_law 729 = .ok (.if_icmp .eq 422, 3) := by decide +kernel
theorem dL_law_732 : decode cL_law 732 = .ok (.iconst 0, 1) := by decide +kernel
theorem dL_law_733 : decode cL_law 733 = .ok (.ireturn, 1) := by decide +kernel
theorem dL_law_734 : decode cL_law 734 = .ok (.aload_n 1, 1) := by decide +kernel
theorem dL_law_735 : decode cL_law 735 = .ok (.invokevirtual 113, 3) := by decide +kernel
theorem dL_law_738 : decode cL_law 738 = .ok (.aload_n 2, 1) := by decide +kernel
theorem dL_law_739 : decode cL_law 739 = .ok (.invokevirtual 116, 3) := by decide +kernel
theorem dL_law_742 : decode cL_law 742 = .ok (.if_icmp .eq 409, 3) := by decide +kernel
theorem dL_law_745 : decode cL_law 745 = .ok (.iconst 0, 1) := by decide +kernel
theorem dL_law_746 : decode cL_law 746 = .ok (.ireturn, 1) := by decide +kernel
theorem dL_law_747 : decode cL_law 747 = .ok (.aload_n 1, 1) := by decide +kernel
theorem dL_law_748 : decode cL_law 748 = .ok (.invokevirtual 117, 3) := by decide +kernel
theorem dL_law_751 : decode cL_law 751 = .ok (.aload_n 2, 1) := by decide +kernel
theorem dL_law_752 : decode cL_law 752 = .ok (.invokevirtual 120, 3) := by decide +kernel
theorem dL_law_755 : decode cL_law 755 = .ok (.if_icmp .eq 396, 3) := by decide +kernel
theorem dL_law_758 : decode cL_law 758 = .ok (.iconst 0, 1) := by decide +kernel
theorem dL_law_759 : decode cL_law 759 = .ok (.ireturn, 1) := by decide +kernel
theorem dL_law_760 : decode cL_law 760 = .ok (.aload_n 1, 1) := by decide +kernel
theorem dL_law_761 : decode cL_law 761 = .ok (.aload_n 0, 1) := by decide +kernel
theorem dL_law_762 : decode cL_law 762 = .ok (.iload_n 3, 1) := by decide +kernel
theorem dL_law_763 : decode cL_law 763 = .ok (.iconst 1, 1) := by decide +kernel
theorem dL_law_764 : decode cL_law 764 = .ok (.iadd, 1) := by decide +kernel
theorem dL_law_765 : decode cL_law 765 = .ok (.iaload, 1) := by decide +kernel
theorem dL_law_766 : decode cL_law 766 = .ok (.invokevirtual 121, 3) := by decide +kernel
theorem dL_law_769 : decode cL_law 769 = .ok (.aload_n 2, 1) := by decide +kernel
theorem dL_law_770 : decode cL_law 770 = .ok (.aload_n 0, 1) := by decide +kernel
theorem dL_law_771 : decode cL_law 771 = .ok (.iload_n 3, 1) := by decide +kernel
theorem dL_law_772 : decode cL_law 772 = .ok (.iconst 1, 1) := by decide +kernel
theorem dL_law_773 : decode cL_law 773 = .ok (.iadd, 1) := by decide +kernel
theorem dL_law_774 : decode cL_law 774 = .ok (.iaload, 1) := by decide +kernel
theorem dL_law_775 : decode cL_law 775 = .ok (.invokevirtual 124, 3) := by decide +kernel
theorem dL_law_778 : decode cL_law 778 = .ok (.if_icmp .eq 373, 3) := by decide +kernel
theorem dL_law_781 : decode cL_law 781 = .ok (.iconst 0, 1) := by decide +kernel
theorem dL_law_782 : decode cL_law 782 = .ok (.ireturn, 1) := by decide +kernel
theorem dL_law_783 : decode cL_law 783 = .ok (.aload_n 1, 1) := by decide +kernel
theorem dL_law_784 : decode cL_law 784 = .ok (.aload_n 0, 1) := by decide +kernel
theorem dL_law_785 : decode cL_law 785 = .ok (.iload_n 3, 1) := by decide +kernel
theorem dL_law_786 : decode cL_law 786 = .ok (.iconst 1, 1) := by decide +kernel
theorem dL_law_787 : decode cL_law 787 = .ok (.iadd, 1) := by decide +kernel
theorem dL_law_788 : decode cL_law 788 = .ok (.iaload, 1) := by decide +kernel
theorem dL_law_789 : decode cL_law 789 = .ok (.aload_n 0, 1) := by decide +kernel
theorem dL_law_790 : decode cL_law 790 = .ok (.iload_n 3, 1) := by decide +kernel
theorem dL_law_791 : decode cL_law 791 = .ok (.iconst 2, 1) := by decide +kernel
theorem dL_law_792 : decode cL_law 792 = .ok (.iadd, 1) := by decide +kernel
theorem dL_law_793 : decode cL_law 793 = .ok (.iaload, 1) := by decide +kernel
theorem dL_law_794 : decode cL_law 794 = .ok (.aload_n 0, 1) := by decide +kernel
theorem dL_law_795 : decode cL_law 795 = .ok (.iload_n 3, 1) := by decide +kernel
theorem dL_law_796 : decode cL_law 796 = .ok (.iconst 3, 1) := by decide +kernel
theorem dL_law_797 : decode cL_law 797 = .ok (.iadd, 1) := by decide +kernel
theorem dL_law_798 : decode cL_law 798 = .ok (.iaload, 1) := by decide +kernel
theorem dL_law_799 : decode cL_law 799 = .ok (.invokevirtual 125, 3) := by decide +kernel
theorem dL_law_802 : decode cL_law 802 = .ok (.aload_n 2, 1) := by decide +kernel
theorem dL_law_803 : decode cL_law 803 = .ok (.aload_n 0, 1) := by decide +kernel
theorem dL_law_804 : decode cL_law 804 = .ok (.iload_n 3, 1) := by decide +kernel
theorem dL_law_805 : decode cL_law 805 = .ok (.iconst 1, 1) := by decide +kernel
theorem dL_law_806 : decode cL_law 806 = .ok (.iadd, 1) := by decide +kernel
theorem dL_law_807 : decode cL_law 807 = .ok (.iaload, 1) := by decide +kernel
theorem dL_law_808 : decode cL_law 808 = .ok (.aload_n 0, 1) := by decide +kernel
theorem dL_law_809 : decode cL_law 809 = .ok (.iload_n 3, 1) := by decide +kernel
theorem dL_law_810 : decode cL_law 810 = .ok (.iconst 2, 1) := by decide +kernel
theorem dL_law_811 : decode cL_law 811 = .ok (.iadd, 1) := by decide +kernel
theorem dL_law_812 : decode cL_law 812 = .ok (.iaload, 1) := by decide +kernel
theorem dL_law_813 : decode cL_law 813 = .ok (.aload_n 0, 1) := by decide +kernel
theorem dL_law_814 : decode cL_law 814 = .ok (.iload_n 3, 1) := by decide +kernel
theorem dL_law_815 : decode cL_law 815 = .ok (.iconst 3, 1) := by decide +kernel
theorem dL_law_816 : decode cL_law 816 = .ok (.iadd, 1) := by decide +kernel
theorem dL_law_817 : decode cL_law 817 = .ok (.iaload, 1) := by decide +kernel
theorem dL_law_818 : decode cL_law 818 = .ok (.invokevirtual 128, 3) := by decide +kernel
theorem dL_law_821 : decode cL_law 821 = .ok (.if_icmp .eq 330, 3) := by decide +kernel
theorem dL_law_824 : decode cL_law 824 = .ok (.iconst 0, 1) := by decide +kernel
theorem dL_law_825 : decode cL_law 825 = .ok (.ireturn, 1) := by decide +kernel
theorem dL_law_826 : decode cL_law 826 = .ok (.aload_n 1, 1) := by decide +kernel
theorem dL_law_827 : decode cL_law 827 = .ok (.aload_n 0, 1) := by decide +kernel
theorem dL_law_828 : decode cL_law 828 = .ok (.iload_n 3, 1) := by decide +kernel
theorem dL_law_829 : decode cL_law 829 = .ok (.iconst 1, 1) := by decide +kernel
theorem dL_law_830 : decode cL_law 830 = .ok (.iadd, 1) := by decide +kernel
theorem dL_law_831 : decode cL_law 831 = .ok (.iaload, 1) := by decide +kernel
theorem dL_law_832 : decode cL_law 832 = .ok (.invokevirtual 129, 3) := by decide +kernel
theorem dL_law_835 : decode cL_law 835 = .ok (.aload_n 2, 1) := by decide +kernel
theorem dL_law_836 : decode cL_law 836 = .ok (.aload_n 0, 1) := by decide +kernel
theorem dL_law_837 : decode cL_law 837 = .ok (.iload_n 3, 1) := by decide +kernel
theorem dL_law_838 : decode cL_law 838 = .ok (.iconst 1, 1) := by decide +kernel
theorem dL_law_839 : decode cL_law 839 = .ok (.iadd, 1) := by decide +kernel
theorem dL_law_840 : decode cL_law 840 = .ok (.iaload, 1) := by decide +kernel
theorem dL_law_841 : decode cL_law 841 = .ok (.invokevirtual 132, 3) := by decide +kernel
theorem dL_law_844 : decode cL_law 844 = .ok (.if_icmp .eq 307, 3) := by decide +kernel
theorem dL_law_847 : decode cL_law 847 = .ok (.iconst 0, 1) := by decide +kernel
theorem dL_law_848 : decode cL_law 848 = .ok (.ireturn, 1) := by decide +kernel
theorem dL_law_849 : decode cL_law 849 = .ok (.aload_n 1, 1) := by decide +kernel
theorem dL_law_850 : decode cL_law 850 = .ok (.aload_n 0, 1) := by decide +kernel
theorem dL_law_851 : decode cL_law 851 = .ok (.iload_n 3, 1) := by decide +kernel
theorem dL_law_852 : decode cL_law 852 = .ok (.iconst 1, 1) := by decide +kernel
theorem dL_law_853 : decode cL_law 853 = .ok (.iadd, 1) := by decide +kernel
theorem dL_law_854 : decode cL_law 854 = .ok (.iaload, 1) := by decide +kernel
theorem dL_law_855 : decode cL_law 855 = .ok (.aload_n 0, 1) := by decide +kernel
theorem dL_law_856 : decode cL_law 856 = .ok (.iload_n 3, 1) := by decide +kernel
theorem dL_law_857 : decode cL_law 857 = .ok (.iconst 2, 1) := by decide +kernel
theorem dL_law_858 : decode cL_law 858 = .ok (.iadd, 1) := by decide +kernel
theorem dL_law_859 : decode cL_law 859 = .ok (.iaload, 1) := by decide +kernel
theorem dL_law_860 : decode cL_law 860 = .ok (.invokevirtual 133, 3) := by decide +kernel
theorem dL_law_863 : decode cL_law 863 = .ok (.aload_n 2, 1) := by decide +kernel
theorem dL_law_864 : decode cL_law 864 = .ok (.aload_n 0, 1) := by decide +kernel
theorem dL_law_865 : decode cL_law 865 = .ok (.iload_n 3, 1) := by decide +kernel
theorem dL_law_866 : decode cL_law 866 = .ok (.iconst 1, 1) := by decide +kernel
theorem dL_law_867 : decode cL_law 867 = .ok (.iadd, 1) := by decide +kernel
theorem dL_law_868 : decode cL_law 868 = .ok (.iaload, 1) := by decide +kernel
theorem dL_law_869 : decode cL_law 869 = .ok (.aload_n 0, 1) := by decide +kernel
theorem dL_law_870 : decode cL_law 870 = .ok (.iload_n 3, 1) := by decide +kernel
theorem dL_law_871 : decode cL_law 871 = .ok (.iconst 2, 1) := by decide +kernel
theorem dL_law_872 : decode cL_law 872 = .ok (.iadd, 1) := by decide +kernel
theorem dL_law_873 : decode cL_law 873 = .ok (.iaload, 1) := by decide +kernel
theorem dL_law_874 : decode cL_law 874 = .ok (.invokevirtual 136, 3) := by decide +kernel
theorem dL_law_877 : decode cL_law 877 = .ok (.if_icmp .eq 274, 3) := by decide +kernel
theorem dL_law_880 : decode cL_law 880 = .ok (.iconst 0, 1) := by decide +kernel
theorem dL_law_881 : decode cL_law 881 = .ok (.ireturn, 1) := by decide +kernel
theorem dL_law_882 : decode cL_law 882 = .ok (.aload_n 1, 1) := by decide +kernel
theorem dL_law_883 : decode cL_law 883 = .ok (.aload_n 0, 1) := by decide +kernel
theorem dL_law_884 : decode cL_law 884 = .ok (.iload_n 3, 1) := by decide +kernel
theorem dL_law_885 : decode cL_law 885 = .ok (.iconst 1, 1) := by decide +kernel
theorem dL_law_886 : decode cL_law 886 = .ok (.iadd, 1) := by decide +kernel
theorem dL_law_887 : decode cL_law 887 = .ok (.iaload, 1) := by decide +kernel
theorem dL_law_888 : decode cL_law 888 = .ok (.aload_n 0, 1) := by decide +kernel
theorem dL_law_889 : decode cL_law 889 = .ok (.iload_n 3, 1) := by decide +kernel
theorem dL_law_890 : decode cL_law 890 = .ok (.iconst 2, 1) := by decide +kernel
theorem dL_law_891 : decode cL_law 891 = .ok (.iadd, 1) := by decide +kernel
theorem dL_law_892 : decode cL_law 892 = .ok (.iaload, 1) := by decide +kernel
theorem dL_law_893 : decode cL_law 893 = .ok (.aload_n 0, 1) := by decide +kernel
theorem dL_law_894 : decode cL_law 894 = .ok (.iload_n 3, 1) := by decide +kernel
theorem dL_law_895 : decode cL_law 895 = .ok (.iconst 3, 1) := by decide +kernel
theorem dL_law_896 : decode cL_law 896 = .ok (.iadd, 1) := by decide +kernel
theorem dL_law_897 : decode cL_law 897 = .ok (.iaload, 1) := by decide +kernel
theorem dL_law_898 : decode cL_law 898 = .ok (.invokevirtual 137, 3) := by decide +kernel
theorem dL_law_901 : decode cL_law 901 = .ok (.aload_n 2, 1) := by decide +kernel
theorem dL_law_902 : decode cL_law 902 = .ok (.aload_n 0, 1) := by decide +kernel
theorem dL_law_903 : decode cL_law 903 = .ok (.iload_n 3, 1) := by decide +kernel
theorem dL_law_904 : decode cL_law 904 = .ok (.iconst 1, 1) := by decide +kernel
theorem dL_law_905 : decode cL_law 905 = .ok (.iadd, 1) := by decide +kernel
theorem dL_law_906 : decode cL_law 906 = .ok (.iaload, 1) := by decide +kernel
theorem dL_law_907 : decode cL_law 907 = .ok (.aload_n 0, 1) := by decide +kernel
theorem dL_law_908 : decode cL_law 908 = .ok (.iload_n 3, 1) := by decide +kernel
theorem dL_law_909 : decode cL_law 909 = .ok (.iconst 2, 1) := by decide +kernel
theorem dL_law_910 : decode cL_law 910 = .ok (.iadd, 1) := by decide +kernel
theorem dL_law_911 : decode cL_law 911 = .ok (.iaload, 1) := by decide +kernel
theorem dL_law_912 : decode cL_law 912 = .ok (.aload_n 0, 1) := by decide +kernel
theorem dL_law_913 : decode cL_law 913 = .ok (.iload_n 3, 1) := by decide +kernel
theorem dL_law_914 : decode cL_law 914 = .ok (.iconst 3, 1) := by decide +kernel
theorem dL_law_915 : decode cL_law 915 = .ok (.iadd, 1) := by decide +kernel
theorem dL_law_916 : decode cL_law 916 = .ok (.iaload, 1) := by decide +kernel
theorem dL_law_917 : decode cL_law 917 = .ok (.invokevirtual 140, 3) := by decide +kernel
theorem dL_law_920 : decode cL_law 920 = .ok (.if_icmp .eq 231, 3) := by decide +kernel
theorem dL_law_923 : decode cL_law 923 = .ok (.iconst 0, 1) := by decide +kernel
theorem dL_law_924 : decode cL_law 924 = .ok (.ireturn, 1) := by decide +kernel
theorem dL_law_925 : decode cL_law 925 = .ok (.aload_n 1, 1) := by decide +kernel
theorem dL_law_926 : decode cL_law 926 = .ok (.aload_n 0, 1) := by decide +kernel
theorem dL_law_927 : decode cL_law 927 = .ok (.iload_n 3, 1) := by decide +kernel
theorem dL_law_928 : decode cL_law 928 = .ok (.iconst 1, 1) := by decide +kernel
theorem dL_law_929 : decode cL_law 929 = .ok (.iadd, 1) := by decide +kernel
theorem dL_law_930 : decode cL_law 930 = .ok (.iaload, 1) := by decide +kernel
theorem dL_law_931 : decode cL_law 931 = .ok (.aload_n 0, 1) := by decide +kernel
theorem dL_law_932 : decode cL_law 932 = .ok (.iload_n 3, 1) := by decide +kernel
theorem dL_law_933 : decode cL_law 933 = .ok (.iconst 2, 1) := by decide +kernel
theorem dL_law_934 : decode cL_law 934 = .ok (.iadd, 1) := by decide +kernel
theorem dL_law_935 : decode cL_law 935 = .ok (.iaload, 1) := by decide +kernel
theorem dL_law_936 : decode cL_law 936 = .ok (.aload_n 0, 1) := by decide +kernel
theorem dL_law_937 : decode cL_law 937 = .ok (.iload_n 3, 1) := by decide +kernel
theorem dL_law_938 : decode cL_law 938 = .ok (.iconst 3, 1) := by decide +kernel
theorem dL_law_939 : decode cL_law 939 = .ok (.iadd, 1) := by decide +kernel
theorem dL_law_940 : decode cL_law 940 = .ok (.iaload, 1) := by decide +kernel
theorem dL_law_941 : decode cL_law 941 = .ok (.i2l, 1) := by decide +kernel
theorem dL_law_942 : decode cL_law 942 = .ok (.bipush 32, 2) := by decide +kernel
theorem dL_law_944 : decode cL_law 944 = .ok (.lshl, 1) := by decide +kernel
theorem dL_law_945 : decode cL_law 945 = .ok (.aload_n 0, 1) := by decide +kernel
theorem dL_law_946 : decode cL_law 946 = .ok (.iload_n 3, 1) := by decide +kernel
theorem dL_law_947 : decode cL_law 947 = .ok (.iconst 4, 1) := by decide +kernel
theorem dL_law_948 : decode cL_law 948 = .ok (.iadd, 1) := by decide +kernel
theorem dL_law_949 : decode cL_law 949 = .ok (.iaload, 1) := by decide +kernel
theorem dL_law_950 : decode cL_law 950 = .ok (.i2l, 1) := by decide +kernel
theorem dL_law_951 : decode cL_law 951 = .ok (.ldc2_w 141, 3) := by decide +kernel
theorem dL_law_954 : decode cL_law 954 = .ok (.land, 1) := by decide +kernel
theorem dL_law_955 : decode cL_law 955 = .ok (.lor, 1) := by decide +kernel
theorem dL_law_956 : decode cL_law 956 = .ok (.invokevirtual 143, 3) := by decide +kernel
theorem dL_law_959 : decode cL_law 959 = .ok (.aload_n 2, 1) := by decide +kernel
theorem dL_law_960 : decode cL_law 960 = .ok (.aload_n 0, 1) := by decide +kernel
theorem dL_law_961 : decode cL_law 961 = .ok (.iload_n 3, 1) := by decide +kernel
theorem dL_law_962 : decode cL_law 962 = .ok (.iconst 1, 1) := by decide +kernel
theorem dL_law_963 : decode cL_law 963 = .ok (.iadd, 1) := by decide +kernel
theorem dL_law_964 : decode cL_law 964 = .ok (.iaload, 1) := by decide +kernel
theorem dL_law_965 : decode cL_law 965 = .ok (.aload_n 0, 1) := by decide +kernel
theorem dL_law_966 : decode cL_law 966 = .ok (.iload_n 3, 1) := by decide +kernel
theorem dL_law_967 : decode cL_law 967 = .ok (.iconst 2, 1) := by decide +kernel
theorem dL_law_968 : decode cL_law 968 = .ok (.iadd, 1) := by decide +kernel
theorem dL_law_969 : decode cL_law 969 = .ok (.iaload, 1) := by decide +kernel
theorem dL_law_970 : decode cL_law 970 = .ok (.aload_n 0, 1) := by decide +kernel
theorem dL_law_971 : decode cL_law 971 = .ok (.iload_n 3, 1) := by decide +kernel
theorem dL_law_972 : decode cL_law 972 = .ok (.iconst 3, 1) := by decide +kernel
theorem dL_law_973 : decode cL_law 973 = .ok (.iadd, 1) := by decide +kernel
theorem dL_law_974 : decode cL_law 974 = .ok (.iaload, 1) := by decide +kernel
theorem dL_law_975 : decode cL_law 975 = .ok (.i2l, 1) := by decide +kernel
theorem dL_law_976 : decode cL_law 976 = .ok (.bipush 32, 2) := by decide +kernel
theorem dL_law_978 : decode cL_law 978 = .ok (.lshl, 1) := by decide +kernel
theorem dL_law_979 : decode cL_law 979 = .ok (.aload_n 0, 1) := by decide +kernel
theorem dL_law_980 : decode cL_law 980 = .ok (.iload_n 3, 1) := by decide +kernel
theorem dL_law_981 : decode cL_law 981 = .ok (.iconst 4, 1) := by decide +kernel
theorem dL_law_982 : decode cL_law 982 = .ok (.iadd, 1) := by decide +kernel
theorem dL_law_983 : decode cL_law 983 = .ok (.iaload, 1) := by decide +kernel
theorem dL_law_984 : decode cL_law 984 = .ok (.i2l, 1) := by decide +kernel
theorem dL_law_985 : decode cL_law 985 = .ok (.ldc2_w 141, 3) := by decide +kernel
theorem dL_law_988 : decode cL_law 988 = .ok (.land, 1) := by decide +kernel
theorem dL_law_989 : decode cL_law 989 = .ok (.lor, 1) := by decide +kernel
theorem dL_law_990 : decode cL_law 990 = .ok (.invokevirtual 147, 3) := by decide +kernel
theorem dL_law_993 : decode cL_law 993 = .ok (.if_icmp .eq 158, 3) := by decide +kernel
theorem dL_law_996 : decode cL_law 996 = .ok (.iconst 0, 1) := by decide +kernel
theorem dL_law_997 : decode cL_law 997 = .ok (.ireturn, 1) := by decide +kernel
theorem dL_law_998 : decode cL_law 998 = .ok (.aload_n 1, 1) := by decide +kernel
theorem dL_law_999 : decode cL_law 999 = .ok (.aload_n 0, 1) := by decide +kernel
theorem dL_law_1000 : decode cL_law 1000 = .ok (.iload_n 3, 1) := by decide +kernel
theorem dL_law_1001 : decode cL_law 1001 = .ok (.iconst 1, 1) := by decide +kernel
theorem dL_law_1002 : decode cL_law 1002 = .ok (.iadd, 1) := by decide +kernel
theorem dL_law_1003 : decode cL_law 1003 = .ok (.iaload, 1) := by decide +kernel
theorem dL_law_1004 : decode cL_law 1004 = .ok (.aload_n 0, 1) := by decide +kernel
theorem dL_law_1005 : decode cL_law 1005 = .ok (.iload_n 3, 1) := by decide +kernel
theorem dL_law_1006 : decode cL_law 1006 = .ok (.iconst 2, 1) := by decide +kernel
theorem dL_law_1007 : decode cL_law 1007 = .ok (.iadd, 1) := by decide +kernel
theorem dL_law_1008 : decode cL_law 1008 = .ok (.iaload, 1) := by decide +kernel
theorem dL_law_1009 : decode cL_law 1009 = .ok (.invokevirtual 148, 3) := by decide +kernel
theorem dL_law_1012 : decode cL_law 1012 = .ok (.aload_n 2, 1) := by decide +kernel
theorem dL_law_1013 : decode cL_law 1013 = .ok (.aload_n 0, 1) := by decide +kernel
theorem dL_law_1014 : decode cL_law 1014 = .ok (.iload_n 3, 1) := by decide +kernel
theorem dL_law_1015 : decode cL_law 1015 = .ok (.iconst 1, 1) := by decide +kernel
theorem dL_law_1016 : decode cL_law 1016 = .ok (.iadd, 1) := by decide +kernel
theorem dL_law_1017 : decode cL_law 1017 = .ok (.iaload, 1) := by decide +kernel
theorem dL_law_1018 : decode cL_law 1018 = .ok (.aload_n 0, 1) := by decide +kernel
theorem dL_law_1019 : decode cL_law 1019 = .ok (.iload_n 3, 1) := by decide +kernel
theorem dL_law_1020 : decode cL_law 1020 = .ok (.iconst 2, 1) := by decide +kernel
theorem dL_law_1021 : decode cL_law 1021 = .ok (.iadd, 1) := by decide +kernel
theorem dL_law_1022 : decode cL_law 1022 = .ok (.iaload, 1) := by decide +kernel
theorem dL_law_1023 : decode cL_law 1023 = .ok (.invokevirtual 152, 3) := by decide +kernel
theorem dL_law_1026 : decode cL_law 1026 = .ok (.lcmp, 1) := by decide +kernel
theorem dL_law_1027 : decode cL_law 1027 = .ok (.ifCond .eq 124, 3) := by decide +kernel
theorem dL_law_1030 : decode cL_law 1030 = .ok (.iconst 0, 1) := by decide +kernel
theorem dL_law_1031 : decode cL_law 1031 = .ok (.ireturn, 1) := by decide +kernel
theorem dL_law_1032 : decode cL_law 1032 = .ok (.aload_n 1, 1) := by decide +kernel
theorem dL_law_1033 : decode cL_law 1033 = .ok (.aload_n 0, 1) := by decide +kernel
theorem dL_law_1034 : decode cL_law 1034 = .ok (.iload_n 3, 1) := by decide +kernel
theorem dL_law_1035 : decode cL_law 1035 = .ok (.iconst 1, 1) := by decide +kernel
theorem dL_law_1036 : decode cL_law 1036 = .ok (.iadd, 1) := by decide +kernel
theorem dL_law_1037 : decode cL_law 1037 = .ok (.iaload, 1) := by decide +kernel
theorem dL_law_1038 : decode cL_law 1038 = .ok (.aload_n 0, 1) := by decide +kernel
theorem dL_law_1039 : decode cL_law 1039 = .ok (.iload_n 3, 1) := by decide +kernel
theorem dL_law_1040 : decode cL_law 1040 = .ok (.iconst 2, 1) := by decide +kernel
theorem dL_law_1041 : decode cL_law 1041 = .ok (.iadd, 1) := by decide +kernel
theorem dL_law_1042 : decode cL_law 1042 = .ok (.iaload, 1) := by decide +kernel
theorem dL_law_1043 : decode cL_law 1043 = .ok (.aload_n 0, 1) := by decide +kernel
theorem dL_law_1044 : decode cL_law 1044 = .ok (.iload_n 3, 1) := by decide +kernel
theorem dL_law_1045 : decode cL_law 1045 = .ok (.iconst 3, 1) := by decide +kernel
theorem dL_law_1046 : decode cL_law 1046 = .ok (.iadd, 1) := by decide +kernel
theorem dL_law_1047 : decode cL_law 1047 = .ok (.iaload, 1) := by decide +kernel
theorem dL_law_1048 : decode cL_law 1048 = .ok (.aload_n 0, 1) := by decide +kernel
theorem dL_law_1049 : decode cL_law 1049 = .ok (.iload_n 3, 1) := by decide +kernel
theorem dL_law_1050 : decode cL_law 1050 = .ok (.iconst 4, 1) := by decide +kernel
theorem dL_law_1051 : decode cL_law 1051 = .ok (.iadd, 1) := by decide +kernel
theorem dL_law_1052 : decode cL_law 1052 = .ok (.iaload, 1) := by decide +kernel
theorem dL_law_1053 : decode cL_law 1053 = .ok (.aload_n 0, 1) := by decide +kernel
theorem dL_law_1054 : decode cL_law 1054 = .ok (.iload_n 3, 1) := by decide +kernel
theorem dL_law_1055 : decode cL_law 1055 = .ok (.iconst 5, 1) := by decide +kernel
theorem dL_law_1056 : decode cL_law 1056 = .ok (.iadd, 1) := by decide +kernel
theorem dL_law_1057 : decode cL_law 1057 = .ok (.iaload, 1) := by decide +kernel
theorem dL_law_1058 : decode cL_law 1058 = .ok (.invokevirtual 153, 3) := by decide +kernel
theorem dL_law_1061 : decode cL_law 1061 = .ok (.aload_n 2, 1) := by decide +kernel
theorem dL_law_1062 : decode cL_law 1062 = .ok (.aload_n 0, 1) := by decide +kernel
theorem dL_law_1063 : decode cL_law 1063 = .ok (.iload_n 3, 1) := by decide +kernel
theorem dL_law_1064 : decode cL_law 1064 = .ok (.iconst 1, 1) := by decide +kernel
theorem dL_law_1065 : decode cL_law 1065 = .ok (.iadd, 1) := by decide +kernel
theorem dL_law_1066 : decode cL_law 1066 = .ok (.iaload, 1) := by decide +kernel
theorem dL_law_1067 : decode cL_law 1067 = .ok (.aload_n 0, 1) := by decide +kernel
theorem dL_law_1068 : decode cL_law 1068 = .ok (.iload_n 3, 1) := by decide +kernel
theorem dL_law_1069 : decode cL_law 1069 = .ok (.iconst 2, 1) := by decide +kernel
theorem dL_law_1070 : decode cL_law 1070 = .ok (.iadd, 1) := by decide +kernel
theorem dL_law_1071 : decode cL_law 1071 = .ok (.iaload, 1) := by decide +kernel
theorem dL_law_1072 : decode cL_law 1072 = .ok (.aload_n 0, 1) := by decide +kernel
theorem dL_law_1073 : decode cL_law 1073 = .ok (.iload_n 3, 1) := by decide +kernel
theorem dL_law_1074 : decode cL_law 1074 = .ok (.iconst 3, 1) := by decide +kernel
theorem dL_law_1075 : decode cL_law 1075 = .ok (.iadd, 1) := by decide +kernel
theorem dL_law_1076 : decode cL_law 1076 = .ok (.iaload, 1) := by decide +kernel
theorem dL_law_1077 : decode cL_law 1077 = .ok (.aload_n 0, 1) := by decide +kernel
theorem dL_law_1078 : decode cL_law 1078 = .ok (.iload_n 3, 1) := by decide +kernel
theorem dL_law_1079 : decode cL_law 1079 = .ok (.iconst 4, 1) := by decide +kernel
theorem dL_law_1080 : decode cL_law 1080 = .ok (.iadd, 1) := by decide +kernel
theorem dL_law_1081 : decode cL_law 1081 = .ok (.iaload, 1) := by decide +kernel
theorem dL_law_1082 : decode cL_law 1082 = .ok (.aload_n 0, 1) := by decide +kernel
theorem dL_law_1083 : decode cL_law 1083 = .ok (.iload_n 3, 1) := by decide +kernel
theorem dL_law_1084 : decode cL_law 1084 = .ok (.iconst 5, 1) := by decide +kernel
theorem dL_law_1085 : decode cL_law 1085 = .ok (.iadd, 1) := by decide +kernel
theorem dL_law_1086 : decode cL_law 1086 = .ok (.iaload, 1) := by decide +kernel
theorem dL_law_1087 : decode cL_law 1087 = .ok (.invokevirtual 157, 3) := by decide +kernel
theorem dL_law_1090 : decode cL_law 1090 = .ok (.if_icmp .eq 61, 3) := by decide +kernel
theorem dL_law_1093 : decode cL_law 1093 = .ok (.iconst 0, 1) := by decide +kernel
theorem dL_law_1094 : decode cL_law 1094 = .ok (.ireturn, 1) := by decide +kernel
theorem dL_law_1095 : decode cL_law 1095 = .ok (.aload_n 1, 1) := by decide +kernel
theorem dL_law_1096 : decode cL_law 1096 = .ok (.aload_n 0, 1) := by decide +kernel
theorem dL_law_1097 : decode cL_law 1097 = .ok (.iload_n 3, 1) := by decide +kernel
theorem dL_law_1098 : decode cL_law 1098 = .ok (.iconst 1, 1) := by decide +kernel
theorem dL_law_1099 : decode cL_law 1099 = .ok (.iadd, 1) := by decide +kernel
theorem dL_law_1100 : decode cL_law 1100 = .ok (.iaload, 1) := by decide +kernel
theorem dL_law_1101 : decode cL_law 1101 = .ok (.aload_n 0, 1) := by decide +kernel
theorem dL_law_1102 : decode cL_law 1102 = .ok (.iload_n 3, 1) := by decide +kernel
theorem dL_law_1103 : decode cL_law 1103 = .ok (.iconst 2, 1) := by decide +kernel
theorem dL_law_1104 : decode cL_law 1104 = .ok (.iadd, 1) := by decide +kernel
theorem dL_law_1105 : decode cL_law 1105 = .ok (.iaload, 1) := by decide +kernel
theorem dL_law_1106 : decode cL_law 1106 = .ok (.invokevirtual 158, 3) := by decide +kernel
theorem dL_law_1109 : decode cL_law 1109 = .ok (.aload_n 2, 1) := by decide +kernel
theorem dL_law_1110 : decode cL_law 1110 = .ok (.aload_n 0, 1) := by decide +kernel
theorem dL_law_1111 : decode cL_law 1111 = .ok (.iload_n 3, 1) := by decide +kernel
theorem dL_law_1112 : decode cL_law 1112 = .ok (.iconst 1, 1) := by decide +kernel
theorem dL_law_1113 : decode cL_law 1113 = .ok (.iadd, 1) := by decide +kernel
theorem dL_law_1114 : decode cL_law 1114 = .ok (.iaload, 1) := by decide +kernel
theorem dL_law_1115 : decode cL_law 1115 = .ok (.aload_n 0, 1) := by decide +kernel
theorem dL_law_1116 : decode cL_law 1116 = .ok (.iload_n 3, 1) := by decide +kernel
theorem dL_law_1117 : decode cL_law 1117 = .ok (.iconst 2, 1) := by decide +kernel
theorem dL_law_1118 : decode cL_law 1118 = .ok (.iadd, 1) := by decide +kernel
theorem dL_law_1119 : decode cL_law 1119 = .ok (.iaload, 1) := by decide +kernel
theorem dL_law_1120 : decode cL_law 1120 = .ok (.invokevirtual 161, 3) := by decide +kernel
theorem dL_law_1123 : decode cL_law 1123 = .ok (.if_icmp .eq 28, 3) := by decide +kernel
theorem dL_law_1126 : decode cL_law 1126 = .ok (.iconst 0, 1) := by decide +kernel
theorem dL_law_1127 : decode cL_law 1127 = .ok (.ireturn, 1) := by decide +kernel
theorem dL_law_1128 : decode cL_law 1128 = .ok (.aload_n 1, 1) := by decide +kernel
theorem dL_law_1129 : decode cL_law 1129 = .ok (.aload_n 0, 1) := by decide +kernel
theorem dL_law_1130 : decode cL_law 1130 = .ok (.iload_n 3, 1) := by decide +kernel
theorem dL_law_1131 : decode cL_law 1131 = .ok (.iconst 1, 1) := by decide +kernel
theorem dL_law_1132 : decode cL_law 1132 = .ok (.iadd, 1) := by decide +kernel
theorem dL_law_1133 : decode cL_law 1133 = .ok (.iaload, 1) := by decide +kernel
theorem dL_law_1134 : decode cL_law 1134 = .ok (.invokevirtual 162, 3) := by decide +kernel
theorem dL_law_1137 : decode cL_law 1137 = .ok (.aload_n 2, 1) := by decide +kernel
theorem dL_law_1138 : decode cL_law 1138 = .ok (.aload_n 0, 1) := by decide +kernel
theorem dL_law_1139 : decode cL_law 1139 = .ok (.iload_n 3, 1) := by decide +kernel
theorem dL_law_1140 : decode cL_law 1140 = .ok (.iconst 1, 1) := by decide +kernel
theorem dL_law_1141 : decode cL_law 1141 = .ok (.iadd, 1) := by decide +kernel
theorem dL_law_1142 : decode cL_law 1142 = .ok (.iaload, 1) := by decide +kernel
theorem dL_law_1143 : decode cL_law 1143 = .ok (.invokevirtual 165, 3) := by decide +kernel
theorem dL_law_1146 : decode cL_law 1146 = .ok (.if_icmp .eq 5, 3) := by decide +kernel
theorem dL_law_1149 : decode cL_law 1149 = .ok (.iconst 0, 1) := by decide +kernel
theorem dL_law_1150 : decode cL_law 1150 = .ok (.ireturn, 1) := by decide +kernel
theorem dL_law_1151 : decode cL_law 1151 = .ok (.iinc 3 6, 3) := by decide +kernel
theorem dL_law_1154 : decode cL_law 1154 = .ok (.goto (-1136), 3) := by decide +kernel
theorem dL_law_1157 : decode cL_law 1157 = .ok (.iconst 1, 1) := by decide +kernel
theorem dL_law_1158 : decode cL_law 1158 = .ok (.ireturn, 1) := by decide +kernel
