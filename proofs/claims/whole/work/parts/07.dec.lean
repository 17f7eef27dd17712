theorem dX9_choice_81 : decode cX9_choice 81 = .ok (.iconst 1, 1) := by decide +kernel
theorem dX9_choice_82 : decode cX9_choice 82 = .ok (.if_icmp .ne 27, 3) := by decide +kernel
theorem dX9_choice_85 : decode cX9_choice 85 = .ok (.aload_n 0, 1) := by decide +kernel
theorem dX9_choice_86 : decode cX9_choice 86 = .ok (.getfield 7, 3) := by decide +kernel
theorem dX9_choice_89 : decode cX9_choice 89 = .ok (.bipush 7, 2) := by decide +kernel
theorem dX9_choice_91 : decode cX9_choice 91 = .ok (.iload_n 2, 1) := by decide +kernel
theorem dX9_choice_92 : decode cX9_choice 92 = .ok (.imul, 1) := by decide +kernel
theorem dX9_choice_93 : decode cX9_choice 93 = .ok (.iload 5, 2) := by decide +kernel
theorem dX9_choice_95 : decode cX9_choice 95 = .ok (.iadd, 1) := by decide +kernel
theorem dX9_choice_96 : decode cX9_choice 96 = .ok (.iaload, 1) := by decide +kernel
theorem dX9_choice_97 : decode cX9_choice 97 = .ok (.aload_n 0, 1) := by decide +kernel
theorem dX9_choice_98 : decode cX9_choice 98 = .ok (.iload_n 1, 1) := by decide +kernel
theorem dX9_choice_99 : decode cX9_choice 99 = .ok (.iload_n 2, 1) := by decide +kernel
theorem dX9_choice_100 : decode cX9_choice 100 = .ok (.invokevirtual 292, 3) := by decide +kernel
theorem dX9_choice_103 : decode cX9_choice 103 = .ok (.if_icmp .gt 6, 3) := by decide +kernel
theorem dX9_choice_106 : decode cX9_choice 106 = .ok (.goto 91, 3) := by decide +kernel
theorem dX9_choice_109 : decode cX9_choice 109 = .ok (.aload_n 0, 1) := by decide +kernel
theorem dX9_choice_110 : decode cX9_choice 110 = .ok (.getfield 16, 3) := by decide +kernel
theorem dX9_choice_113 : decode cX9_choice 113 = .ok (.iload_n 2, 1) := by decide +kernel
theorem dX9_choice_114 : decode cX9_choice 114 = .ok (.iaload, 1) := by decide +kernel
theorem dX9_choice_115 : decode cX9_choice 115 = .ok (.iconst 2, 1) := by decide +kernel
theorem dX9_choice_116 : decode cX9_choice 116 = .ok (.if_icmp .ne 14, 3) := by decide +kernel
theorem dX9_choice_119 : decode cX9_choice 119 = .ok (.aload_n 0, 1) := by decide +kernel
theorem dX9_choice_120 : decode cX9_choice 120 = .ok (.iload_n 1, 1) := by decide +kernel
theorem dX9_choice_121 : decode cX9_choice 121 = .ok (.iload_n 2, 1) := by decide +kernel
theorem dX9_choice_122 : decode cX9_choice 122 = .ok (.iload 5, 2) := by decide +kernel
theorem dX9_choice_124 : decode cX9_choice 124 = .ok (.invokevirtual 298, 3) := by decide +kernel
theorem dX9_choice_127 : decode cX9_choice 127 = .ok (.goto 51, 3) := by decide +kernel
theorem dX9_choice_130 : decode cX9_choice 130 = .ok (.aload_n 0, 1) := by decide +kernel
theorem dX9_choice_131 : decode cX9_choice 131 = .ok (.getfield 16, 3) := by decide +kernel
theorem dX9_choice_134 : decode cX9_choice 134 = .ok (.iload_n 2, 1) := by decide +kernel
theorem dX9_choice_135 : decode cX9_choice 135 = .ok (.iaload, 1) := by decide +kernel
theorem dX9_choice_136 : decode cX9_choice 136 = .ok (.iconst 1, 1) := by decide +kernel
theorem dX9_choice_137 : decode cX9_choice 137 = .ok (.if_icmp .ne 29, 3) := by decide +kernel
theorem dX9_choice_140 : decode cX9_choice 140 = .ok (.aload_n 0, 1) := by decide +kernel
theorem dX9_choice_141 : decode cX9_choice 141 = .ok (.getfield 13, 3) := by decide +kernel
theorem dX9_choice_144 : decode cX9_choice 144 = .ok (.bipush 7, 2) := by decide +kernel
theorem dX9_choice_146 : decode cX9_choice 146 = .ok (.iload_n 2, 1) := by decide +kernel
theorem dX9_choice_147 : decode cX9_choice 147 = .ok (.imul, 1) := by decide +kernel
theorem dX9_choice_148 : decode cX9_choice 148 = .ok (.aload_n 0, 1) := by decide +kernel
theorem dX9_choice_149 : decode cX9_choice 149 = .ok (.getfield 26, 3) := by decide +kernel
theorem dX9_choice_152 : decode cX9_choice 152 = .ok (.bipush 7, 2) := by decide +kernel
theorem dX9_choice_154 : decode cX9_choice 154 = .ok (.iload_n 1, 1) := by decide +kernel
theorem dX9_choice_155 : decode cX9_choice 155 = .ok (.imul, 1) := by decide +kernel
theorem dX9_choice_156 : decode cX9_choice 156 = .ok (.iload 5, 2) := by decide +kernel
theorem dX9_choice_158 : decode cX9_choice 158 = .ok (.iadd, 1) := by decide +kernel
theorem dX9_choice_159 : decode cX9_choice 159 = .ok (.iaload, 1) := by decide +kernel
theorem dX9_choice_160 : decode cX9_choice 160 = .ok (.iadd, 1) := by decide +kernel
theorem dX9_choice_161 : decode cX9_choice 161 = .ok (.iaload, 1) := by decide +kernel
theorem dX9_choice_162 : decode cX9_choice 162 = .ok (.ineg, 1) := by decide +kernel
theorem dX9_choice_163 : decode cX9_choice 163 = .ok (.goto 15, 3) := by decide +kernel
theorem dX9_choice_166 : decode cX9_choice 166 = .ok (.aload_n 0, 1) := by decide +kernel
theorem dX9_choice_167 : decode cX9_choice 167 = .ok (.getfield 7, 3) := by decide +kernel
theorem dX9_choice_170 : decode cX9_choice 170 = .ok (.bipush 7, 2) := by decide +kernel
theorem dX9_choice_172 : decode cX9_choice 172 = .ok (.iload_n 2, 1) := by decide +kernel
theorem dX9_choice_173 : decode cX9_choice 173 = .ok (.imul, 1) := by decide +kernel
theorem dX9_choice_174 : decode cX9_choice 174 = .ok (.iload 5, 2) := by decide +kernel
theorem dX9_choice_176 : decode cX9_choice 176 = .ok (.iadd, 1) := by decide +kernel
theorem dX9_choice_177 : decode cX9_choice 177 = .ok (.iaload, 1) := by decide +kernel
theorem dX9_choice_178 : decode cX9_choice 178 = .ok (.istore 6, 2) := by decide +kernel
theorem dX9_choice_180 : decode cX9_choice 180 = .ok (.iload 6, 2) := by decide +kernel
theorem dX9_choice_182 : decode cX9_choice 182 = .ok (.iload 4, 2) := by decide +kernel
theorem dX9_choice_184 : decode cX9_choice 184 = .ok (.if_icmp .gt 6, 3) := by decide +kernel
theorem dX9_choice_187 : decode cX9_choice 187 = .ok (.goto 10, 3) := by decide +kernel
theorem dX9_choice_190 : decode cX9_choice 190 = .ok (.iload 5, 2) := by decide +kernel
theorem dX9_choice_192 : decode cX9_choice 192 = .ok (.istore_n 3, 1) := by decide +kernel
theorem dX9_choice_193 : decode cX9_choice 193 = .ok (.iload 6, 2) := by decide +kernel
theorem dX9_choice_195 : decode cX9_choice 195 = .ok (.istore 4, 2) := by decide +kernel
theorem dX9_choice_197 : decode cX9_choice 197 = .ok (.iinc 5 1, 3) := by decide +kernel
theorem dX9_choice_200 : decode cX9_choice 200 = .ok (.goto (-144), 3) := by decide +kernel
theorem dX9_choice_203 : decode cX9_choice 203 = .ok (.iload_n 3, 1) := by decide +kernel
theorem dX9_choice_204 : decode cX9_choice 204 = .ok (.ireturn, 1) := by decide +kernel
theorem dX9_goTurn_0 : decode cX9_goTurn 0 = .ok (.aload_n 0, 1) := by decide +kernel
theorem dX9_goTurn_1 : decode cX9_goTurn 1 = .ok (.iload_n 1, 1) := by decide +kernel
theorem dX9_goTurn_2 : decode cX9_goTurn 2 = .ok (.invokevirtual 305, 3) := by decide +kernel
theorem dX9_goTurn_5 : decode cX9_goTurn 5 = .ok (.istore_n 2, 1) := by decide +kernel
theorem dX9_goTurn_6 : decode cX9_goTurn 6 = .ok (.iload_n 2, 1) := by decide +kernel
theorem dX9_goTurn_7 : decode cX9_goTurn 7 = .ok (.ifCond .ge 9, 3) := by decide +kernel
theorem dX9_goTurn_10 : decode cX9_goTurn 10 = .ok (.aload_n 0, 1) := by decide +kernel
theorem dX9_goTurn_11 : decode cX9_goTurn 11 = .ok (.iload_n 1, 1) := by decide +kernel
theorem dX9_goTurn_12 : decode cX9_goTurn 12 = .ok (.invokevirtual 308, 3) := by decide +kernel
theorem dX9_goTurn_15 : decode cX9_goTurn 15 = .ok (.ireturn, 1) := by decide +kernel
theorem dX9_goTurn_16 : decode cX9_goTurn 16 = .ok (.aload_n 0, 1) := by decide +kernel
theorem dX9_goTurn_17 : decode cX9_goTurn 17 = .ok (.iload_n 1, 1) := by decide +kernel
theorem dX9_goTurn_18 : decode cX9_goTurn 18 = .ok (.iload_n 2, 1) := by decide +kernel
theorem dX9_goTurn_19 : decode cX9_goTurn 19 = .ok (.invokevirtual 311, 3) := by decide +kernel
theorem dX9_goTurn_22 : decode cX9_goTurn 22 = .ok (.pop, 1) := by decide +kernel
theorem dX9_goTurn_23 : decode cX9_goTurn 23 = .ok (.iload_n 2, 1) := by decide +kernel
theorem dX9_goTurn_24 : decode cX9_goTurn 24 = .ok (.ireturn, 1) := by decide +kernel
theorem dX9_againChoice_0 : decode cX9_againChoice 0 = .ok (.aload_n 0, 1) := by decide +kernel
theorem dX9_againChoice_1 : decode cX9_againChoice 1 = .ok (.getfield 23, 3) := by decide +kernel
theorem dX9_againChoice_4 : decode cX9_againChoice 4 = .ok (.iconst 0, 1) := by decide +kernel
theorem dX9_againChoice_5 : decode cX9_againChoice 5 = .ok (.iaload, 1) := by decide +kernel
theorem dX9_againChoice_6 : decode cX9_againChoice 6 = .ok (.istore_n 2, 1) := by decide +kernel
theorem dX9_againChoice_7 : decode cX9_againChoice 7 = .ok (.aload_n 0, 1) := by decide +kernel
theorem dX9_againChoice_8 : decode cX9_againChoice 8 = .ok (.iload_n 1, 1) := by decide +kernel
theorem dX9_againChoice_9 : decode cX9_againChoice 9 = .ok (.iload_n 2, 1) := by decide +kernel
theorem dX9_againChoice_10 : decode cX9_againChoice 10 = .ok (.invokevirtual 207, 3) := by decide +kernel
theorem dX9_againChoice_13 : decode cX9_againChoice 13 = .ok (.istore_n 3, 1) := by decide +kernel
theorem dX9_againChoice_14 : decode cX9_againChoice 14 = .ok (.iconst (-1), 1) := by decide +kernel
theorem dX9_againChoice_15 : decode cX9_againChoice 15 = .ok (.istore 4, 2) := by decide +kernel
theorem dX9_againChoice_17 : decode cX9_againChoice 17 = .ok (.iconst 0, 1) := by decide +kernel
theorem dX9_againChoice_18 : decode cX9_againChoice 18 = .ok (.istore 5, 2) := by decide +kernel
theorem dX9_againChoice_20 : decode cX9_againChoice 20 = .ok (.iload 5, 2) := by decide +kernel
theorem dX9_againChoice_22 : decode cX9_againChoice 22 = .ok (.aload_n 0, 1) := by decide +kernel
theorem dX9_againChoice_23 : decode cX9_againChoice 23 = .ok (.getfield 155, 3) := by decide +kernel
theorem dX9_againChoice_26 : decode cX9_againChoice 26 = .ok (.if_icmp .ge 77, 3) := by decide +kernel
theorem dX9_againChoice_29 : decode cX9_againChoice 29 = .ok (.iload 5, 2) := by decide +kernel
theorem dX9_againChoice_31 : decode cX9_againChoice 31 = .ok (.iload_n 3, 1) := by decide +kernel
theorem dX9_againChoice_32 : decode cX9_againChoice 32 = .ok (.if_icmp .eq 65, 3) := by decide +kernel
theorem dX9_againChoice_35 : decode cX9_againChoice 35 = .ok (.aload_n 0, 1) := by decide +kernel
theorem dX9_againChoice_36 : decode cX9_againChoice 36 = .ok (.getfield 29, 3) := by decide +kernel
theorem dX9_againChoice_39 : decode cX9_againChoice 39 = .ok (.bipush 7, 2) := by decide +kernel
theorem dX9_againChoice_41 : decode cX9_againChoice 41 = .ok (.iload_n 1, 1) := by decide +kernel
theorem dX9_againChoice_42 : decode cX9_againChoice 42 = .ok (.imul, 1) := by decide +kernel
theorem dX9_againChoice_43 : decode cX9_againChoice 43 = .ok (.iload 5, 2) := by decide +kernel
theorem dX9_againChoice_45 : decode cX9_againChoice 45 = .ok (.iadd, 1) := by decide +kernel
theorem dX9_againChoice_46 : decode cX9_againChoice 46 = .ok (.iaload, 1) := by decide +kernel
theorem dX9_againChoice_47 : decode cX9_againChoice 47 = .ok (.aload_n 0, 1) := by decide +kernel
theorem dX9_againChoice_48 : decode cX9_againChoice 48 = .ok (.getfield 19, 3) := by decide +kernel
theorem dX9_againChoice_51 : decode cX9_againChoice 51 = .ok (.if_icmp .ge 46, 3) := by decide +kernel
theorem dX9_againChoice_54 : decode cX9_againChoice 54 = .ok (.aload_n 0, 1) := by decide +kernel
theorem dX9_againChoice_55 : decode cX9_againChoice 55 = .ok (.getfield 7, 3) := by decide +kernel
theorem dX9_againChoice_58 : decode cX9_againChoice 58 = .ok (.bipush 7, 2) := by decide +kernel
theorem dX9_againChoice_60 : decode cX9_againChoice 60 = .ok (.iload_n 2, 1) := by decide +kernel
theorem dX9_againChoice_61 : decode cX9_againChoice 61 = .ok (.imul, 1) := by decide +kernel
theorem dX9_againChoice_62 : decode cX9_againChoice 62 = .ok (.iload 5, 2) := by decide +kernel
theorem dX9_againChoice_64 : decode cX9_againChoice 64 = .ok (.iadd, 1) := by decide +kernel
theorem dX9_againChoice_65 : decode cX9_againChoice 65 = .ok (.iaload, 1) := by decide +kernel
theorem dX9_againChoice_66 : decode cX9_againChoice 66 = .ok (.aload_n 0, 1) := by decide +kernel
theorem dX9_againChoice_67 : decode cX9_againChoice 67 = .ok (.getfield 7, 3) := by decide +kernel
theorem dX9_againChoice_70 : decode cX9_againChoice 70 = .ok (.bipush 7, 2) := by decide +kernel
theorem dX9_againChoice_72 : decode cX9_againChoice 72 = .ok (.iload_n 2, 1) := by decide +kernel
theorem dX9_againChoice_73 : decode cX9_againChoice 73 = .ok (.imul, 1) := by decide +kernel
theorem dX9_againChoice_74 : decode cX9_againChoice 74 = .ok (.iload 4, 2) := by decide +kernel
theorem dX9_againChoice_76 : decode cX9_againChoice 76 = .ok (.ifCond .ge 7, 3) := by decide +kernel
theorem dX9_againChoice_79 : decode cX9_againChoice 79 = .ok (.iload_n 3, 1) := by decide +kernel
theorem dX9_againChoice_80 : decode cX9_againChoice 80 = .ok (.goto 5, 3) := by decide +kernel
theorem dX9_againChoice_83 : decode cX9_againChoice 83 = .ok (.iload 4, 2) := by decide +kernel
theorem dX9_againChoice_85 : decode cX9_againChoice 85 = .ok (.iadd, 1) := by decide +kernel
theorem dX9_againChoice_86 : decode cX9_againChoice 86 = .ok (.iaload, 1) := by decide +kernel
theorem dX9_againChoice_87 : decode cX9_againChoice 87 = .ok (.if_icmp .gt 6, 3) := by decide +kernel
theorem dX9_againChoice_90 : decode cX9_againChoice 90 = .ok (.goto 7, 3) := by decide +kernel
theorem dX9_againChoice_93 : decode cX9_againChoice 93 = .ok (.iload 5, 2) := by decide +kernel
theorem dX9_againChoice_95 : decode cX9_againChoice 95 = .ok (.istore 4, 2) := by decide +kernel
theorem dX9_againChoice_97 : decode cX9_againChoice 97 = .ok (.iinc 5 1, 3) := by decide +kernel
theorem dX9_againChoice_100 : decode cX9_againChoice 100 = .ok (.goto (-80), 3) := by decide +kernel
theorem dX9_againChoice_103 : decode cX9_againChoice 103 = .ok (.iload 4, 2) := by decide +kernel
theorem dX9_againChoice_105 : decode cX9_againChoice 105 = .ok (.ireturn, 1) := by decide +kernel
theorem dX9_changeAt_0 : decode cX9_changeAt 0 = .ok (.aload_n 0, 1) := by decide +kernel
theorem dX9_changeAt_1 : decode cX9_changeAt 1 = .ok (.getfield 23, 3) := by decide +kernel
theorem dX9_changeAt_4 : decode cX9_changeAt 4 = .ok (.iconst 0, 1) := by decide +kernel
theorem dX9_changeAt_5 : decode cX9_changeAt 5 = .ok (.iaload, 1) := by decide +kernel
theorem dX9_changeAt_6 : decode cX9_changeAt 6 = .ok (.istore_n 3, 1) := by decide +kernel
theorem dX9_changeAt_7 : decode cX9_changeAt 7 = .ok (.aload_n 0, 1) := by decide +kernel
theorem dX9_changeAt_8 : decode cX9_changeAt 8 = .ok (.iload_n 1, 1) := by decide +kernel
theorem dX9_changeAt_9 : decode cX9_changeAt 9 = .ok (.iload_n 3, 1) := by decide +kernel
theorem dX9_changeAt_10 : decode cX9_changeAt 10 = .ok (.invokevirtual 207, 3) := by decide +kernel
theorem dX9_changeAt_13 : decode cX9_changeAt 13 = .ok (.istore 4, 2) := by decide +kernel
theorem dX9_changeAt_15 : decode cX9_changeAt 15 = .ok (.aload_n 0, 1) := by decide +kernel
theorem dX9_changeAt_16 : decode cX9_changeAt 16 = .ok (.getfield 26, 3) := by decide +kernel
theorem dX9_changeAt_19 : decode cX9_changeAt 19 = .ok (.bipush 7, 2) := by decide +kernel
theorem dX9_changeAt_21 : decode cX9_changeAt 21 = .ok (.iload_n 1, 1) := by decide +kernel
theorem dX9_changeAt_22 : decode cX9_changeAt 22 = .ok (.imul, 1) := by decide +kernel
theorem dX9_changeAt_23 : decode cX9_changeAt 23 = .ok (.iload 4, 2) := by decide +kernel
theorem dX9_changeAt_25 : decode cX9_changeAt 25 = .ok (.iadd, 1) := by decide +kernel
theorem dX9_changeAt_26 : decode cX9_changeAt 26 = .ok (.aload_n 0, 1) := by decide +kernel
theorem dX9_changeAt_27 : decode cX9_changeAt 27 = .ok (.getfield 26, 3) := by decide +kernel
theorem dX9_changeAt_30 : decode cX9_changeAt 30 = .ok (.bipush 7, 2) := by decide +kernel
theorem dX9_changeAt_32 : decode cX9_changeAt 32 = .ok (.iload_n 1, 1) := by decide +kernel
theorem dX9_changeAt_33 : decode cX9_changeAt 33 = .ok (.imul, 1) := by decide +kernel
theorem dX9_changeAt_34 : decode cX9_changeAt 34 = .ok (.iload_n 2, 1) := by decide +kernel
theorem dX9_changeAt_35 : decode cX9_changeAt 35 = .ok (.iadd, 1) := by decide +kernel
theorem dX9_changeAt_36 : decode cX9_changeAt 36 = .ok (.iaload, 1) := by decide +kernel
theorem dX9_changeAt_37 : decode cX9_changeAt 37 = .ok (.iastore, 1) := by decide +kernel
theorem dX9_changeAt_38 : decode cX9_changeAt 38 = .ok (.aload_n 0, 1) := by decide +kernel
theorem dX9_changeAt_39 : decode cX9_changeAt 39 = .ok (.getfield 26, 3) := by decide +kernel
theorem dX9_changeAt_42 : decode cX9_changeAt 42 = .ok (.bipush 7, 2) := by decide +kernel
theorem dX9_changeAt_44 : decode cX9_changeAt 44 = .ok (.iload_n 1, 1) := by decide +kernel
theorem dX9_changeAt_45 : decode cX9_changeAt 45 = .ok (.imul, 1) := by decide +kernel
theorem dX9_changeAt_46 : decode cX9_changeAt 46 = .ok (.iload_n 2, 1) := by decide +kernel
theorem dX9_changeAt_47 : decode cX9_changeAt 47 = .ok (.iadd, 1) := by decide +kernel
theorem dX9_changeAt_48 : decode cX9_changeAt 48 = .ok (.iload_n 3, 1) := by decide +kernel
theorem dX9_changeAt_49 : decode cX9_changeAt 49 = .ok (.iastore, 1) := by decide +kernel
theorem dX9_changeAt_50 : decode cX9_changeAt 50 = .ok (.aload_n 0, 1) := by decide +kernel
theorem dX9_changeAt_51 : decode cX9_changeAt 51 = .ok (.getfield 29, 3) := by decide +kernel
theorem dX9_changeAt_54 : decode cX9_changeAt 54 = .ok (.bipush 7, 2) := by decide +kernel
theorem dX9_changeAt_56 : decode cX9_changeAt 56 = .ok (.iload_n 1, 1) := by decide +kernel
theorem dX9_changeAt_57 : decode cX9_changeAt 57 = .ok (.imul, 1) := by decide +kernel
theorem dX9_changeAt_58 : decode cX9_changeAt 58 = .ok (.iload_n 2, 1) := by decide +kernel
theorem dX9_changeAt_59 : decode cX9_changeAt 59 = .ok (.iadd, 1) := by decide +kernel
theorem dX9_changeAt_60 : decode cX9_changeAt 60 = .ok (.dup2, 1) := by decide +kernel
theorem dX9_changeAt_61 : decode cX9_changeAt 61 = .ok (.iaload, 1) := by decide +kernel
theorem dX9_changeAt_62 : decode cX9_changeAt 62 = .ok (.iconst 1, 1) := by decide +kernel
theorem dX9_changeAt_63 : decode cX9_changeAt 63 = .ok (.iadd, 1) := by decide +kernel
theorem dX9_changeAt_64 : decode cX9_changeAt 64 = .ok (.iastore, 1) := by decide +kernel
theorem dX9_changeAt_65 : decode cX9_changeAt 65 = .ok (.aload_n 0, 1) := by decide +kernel
theorem dX9_changeAt_66 : decode cX9_changeAt 66 = .ok (.getfield 44, 3) := by decide +kernel
theorem dX9_changeAt_69 : decode cX9_changeAt 69 = .ok (.iload_n 1, 1) := by decide +kernel
theorem dX9_changeAt_70 : decode cX9_changeAt 70 = .ok (.dup2, 1) := by decide +kernel
theorem dX9_changeAt_71 : decode cX9_changeAt 71 = .ok (.iaload, 1) := by decide +kernel
theorem dX9_changeAt_72 : decode cX9_changeAt 72 = .ok (.iconst 1, 1) := by decide +kernel
theorem dX9_changeAt_73 : decode cX9_changeAt 73 = .ok (.iadd, 1) := by decide +kernel
theorem dX9_changeAt_74 : decode cX9_changeAt 74 = .ok (.iastore, 1) := by decide +kernel
theorem dX9_changeAt_75 : decode cX9_changeAt 75 = .ok (.return_, 1) := by decide +kernel
theorem dX9_lead_0 : decode cX9_lead 0 = .ok (.aload_n 0, 1) := by decide +kernel
theorem dX9_lead_1 : decode cX9_lead 1 = .ok (.iload_n 1, 1) := by decide +kernel
theorem dX9_lead_2 : decode cX9_lead 2 = .ok (.putfield 47, 3) := by decide +kernel
theorem dX9_lead_5 : decode cX9_lead 5 = .ok (.aload_n 0, 1) := by decide +kernel
theorem dX9_lead_6 : decode cX9_lead 6 = .ok (.iload_n 2, 1) := by decide +kernel
theorem dX9_lead_7 : decode cX9_lead 7 = .ok (.putfield 314, 3) := by decide +kernel
theorem dX9_lead_10 : decode cX9_lead 10 = .ok (.aload_n 0, 1) := by decide +kernel
theorem dX9_lead_11 : decode cX9_lead 11 = .ok (.dup, 1) := by decide +kernel
theorem dX9_lead_12 : decode cX9_lead 12 = .ok (.getfield 317, 3) := by decide +kernel
theorem dX9_lead_15 : decode cX9_lead 15 = .ok (.iconst 1, 1) := by decide +kernel
theorem dX9_lead_16 : decode cX9_lead 16 = .ok (.iadd, 1) := by decide +kernel
theorem dX9_lead_17 : decode cX9_lead 17 = .ok (.putfield 317, 3) := by decide +kernel
theorem dX9_lead_20 : decode cX9_lead 20 = .ok (.aload_n 0, 1) := by decide +kernel
theorem dX9_lead_21 : decode cX9_lead 21 = .ok (.dup, 1) := by decide +kernel
theorem dX9_lead_22 : decode cX9_lead 22 = .ok (.getfield 166, 3) := by decide +kernel
theorem dX9_lead_25 : decode cX9_lead 25 = .ok (.iconst 1, 1) := by decide +kernel
theorem dX9_lead_26 : decode cX9_lead 26 = .ok (.iadd, 1) := by decide +kernel
theorem dX9_lead_27 : decode cX9_lead 27 = .ok (.putfield 166, 3) := by decide +kernel
theorem dX9_lead_30 : decode cX9_lead 30 = .ok (.return_, 1) := by decide +kernel
theorem dX9_turn_0 : decode cX9_turn 0 = .ok (.aload_n 0, 1) := by decide +kernel
theorem dX9_turn_1 : decode cX9_turn 1 = .ok (.getfield 35, 3) := by decide +kernel
theorem dX9_turn_4 : decode cX9_turn 4 = .ok (.iconst 0, 1) := by decide +kernel
theorem dX9_turn_5 : decode cX9_turn 5 = .ok (.iaload, 1) := by decide +kernel
theorem dX9_turn_6 : decode cX9_turn 6 = .ok (.ifCond .ge 8, 3) := by decide +kernel
theorem dX9_turn_9 : decode cX9_turn 9 = .ok (.bipush (-2), 2) := by decide +kernel
theorem dX9_turn_11 : decode cX9_turn 11 = .ok (.goto 9, 3) := by decide +kernel
theorem dX9_turn_14 : decode cX9_turn 14 = .ok (.aload_n 0, 1) := by decide +kernel
theorem dX9_turn_15 : decode cX9_turn 15 = .ok (.getfield 35, 3) := by decide +kernel
theorem dX9_turn_18 : decode cX9_turn 18 = .ok (.iconst 0, 1) := by decide +kernel
theorem dX9_turn_19 : decode cX9_turn 19 = .ok (.iaload, 1) := by decide +kernel
theorem dX9_turn_20 : decode cX9_turn 20 = .ok (.ireturn, 1) := by decide +kernel
theorem dX9_open_0 : decode cX9_open 0 = .ok (.aload_n 0, 1) := by decide +kernel
theorem dX9_open_1 : decode cX9_open 1 = .ok (.getfield 35, 3) := by decide +kernel
theorem dX9_open_4 : decode cX9_open 4 = .ok (.iconst 0, 1) := by decide +kernel
theorem dX9_open_5 : decode cX9_open 5 = .ok (.iaload, 1) := by decide +kernel
theorem dX9_open_6 : decode cX9_open 6 = .ok (.istore_n 1, 1) := by decide +kernel
theorem dX9_open_7 : decode cX9_open 7 = .ok (.iload_n 1, 1) := by decide +kernel
theorem dX9_open_8 : decode cX9_open 8 = .ok (.ifCond .ge 6, 3) := by decide +kernel
theorem dX9_open_11 : decode cX9_open 11 = .ok (.bipush (-5), 2) := by decide +kernel
theorem dX9_open_13 : decode cX9_open 13 = .ok (.ireturn, 1) := by decide +kernel
theorem dX9_open_14 : decode cX9_open 14 = .ok (.aload_n 0, 1) := by decide +kernel
theorem dX9_open_15 : decode cX9_open 15 = .ok (.iconst 0, 1) := by decide +kernel
theorem dX9_open_16 : decode cX9_open 16 = .ok (.invokevirtual 308, 3) := by decide +kernel
theorem dX9_open_19 : decode cX9_open 19 = .ok (.istore_n 2, 1) := by decide +kernel
theorem dX9_open_20 : decode cX9_open 20 = .ok (.aload_n 0, 1) := by decide +kernel
theorem dX9_open_21 : decode cX9_open 21 = .ok (.iload_n 1, 1) := by decide +kernel
theorem dX9_open_22 : decode cX9_open 22 = .ok (.iload_n 2, 1) := by decide +kernel
theorem dX9_open_23 : decode cX9_open 23 = .ok (.invokevirtual 320, 3) := by decide +kernel
theorem dX9_open_26 : decode cX9_open 26 = .ok (.iload_n 2, 1) := by decide +kernel
theorem dX9_open_27 : decode cX9_open 27 = .ok (.ireturn, 1) := by decide +kernel
theorem dX9_take_0 : decode cX9_take 0 = .ok (.aload_n 0, 1) := by decide +kernel
theorem dX9_take_1 : decode cX9_take 1 = .ok (.iload_n 1, 1) := by decide +kernel
theorem dX9_take_2 : decode cX9_take 2 = .ok (.invokevirtual 194, 3) := by decide +kernel
theorem dX9_take_5 : decode cX9_take 5 = .ok (.ifCond .ne 5, 3) := by decide +kernel
theorem dX9_take_8 : decode cX9_take 8 = .ok (.iconst (-1), 1) := by decide +kernel
theorem dX9_take_9 : decode cX9_take 9 = .ok (.ireturn, 1) := by decide +kernel
theorem dX9_take_10 : decode cX9_take 10 = .ok (.aload_n 0, 1) := by decide +kernel
theorem dX9_take_11 : decode cX9_take 11 = .ok (.getfield 35, 3) := by decide +kernel
theorem dX9_take_14 : decode cX9_take 14 = .ok (.iconst 0, 1) := by decide +kernel
theorem dX9_take_15 : decode cX9_take 15 = .ok (.iaload, 1) := by decide +kernel
theorem dX9_take_16 : decode cX9_take 16 = .ok (.istore_n 2, 1) := by decide +kernel
theorem dX9_take_17 : decode cX9_take 17 = .ok (.iload_n 2, 1) := by decide +kernel
theorem dX9_take_18 : decode cX9_take 18 = .ok (.ifCond .ge 6, 3) := by decide +kernel
theorem dX9_take_21 : decode cX9_take 21 = .ok (.bipush (-5), 2) := by decide +kernel
theorem dX9_take_23 : decode cX9_take 23 = .ok (.ireturn, 1) := by decide +kernel
theorem dX9_take_24 : decode cX9_take 24 = .ok (.aload_n 0, 1) := by decide +kernel
theorem dX9_take_25 : decode cX9_take 25 = .ok (.iconst 0, 1) := by decide +kernel
theorem dX9_take_26 : decode cX9_take 26 = .ok (.iload_n 1, 1) := by decide +kernel
theorem dX9_take_27 : decode cX9_take 27 = .ok (.invokevirtual 301, 3) := by decide +kernel
theorem dX9_take_30 : decode cX9_take 30 = .ok (.ifCond .ne 6, 3) := by decide +kernel
theorem dX9_take_33 : decode cX9_take 33 = .ok (.bipush (-2), 2) := by decide +kernel
theorem dX9_take_35 : decode cX9_take 35 = .ok (.ireturn, 1) := by decide +kernel
theorem dX9_take_36 : decode cX9_take 36 = .ok (.aload_n 0, 1) := by decide +kernel
theorem dX9_take_37 : decode cX9_take 37 = .ok (.iconst 0, 1) := by decide +kernel
theorem dX9_take_38 : decode cX9_take 38 = .ok (.iload_n 1, 1) := by decide +kernel
theorem dX9_take_39 : decode cX9_take 39 = .ok (.invokevirtual 311, 3) := by decide +kernel
theorem dX9_take_42 : decode cX9_take 42 = .ok (.istore_n 3, 1) := by decide +kernel
theorem dX9_take_43 : decode cX9_take 43 = .ok (.aload_n 0, 1) := by decide +kernel
theorem dX9_take_44 : decode cX9_take 44 = .ok (.iload_n 2, 1) := by decide +kernel
theorem dX9_take_45 : decode cX9_take 45 = .ok (.iload_n 1, 1) := by decide +kernel
theorem dX9_take_46 : decode cX9_take 46 = .ok (.invokevirtual 320, 3) := by decide +kernel
theorem dX9_take_49 : decode cX9_take 49 = .ok (.iload_n 3, 1) := by decide +kernel
theorem dX9_take_50 : decode cX9_take 50 = .ok (.ireturn, 1) := by decide +kernel
theorem dX9_goOn_0 : decode cX9_goOn 0 = .ok (.iconst 0, 1) := by decide +kernel
theorem dX9_goOn_1 : decode cX9_goOn 1 = .ok (.istore_n 1, 1) := by decide +kernel
theorem dX9_goOn_2 : decode cX9_goOn 2 = .ok (.aload_n 0, 1) := by decide +kernel
theorem dX9_goOn_3 : decode cX9_goOn 3 = .ok (.getfield 35, 3) := by decide +kernel
theorem dX9_goOn_6 : decode cX9_goOn 6 = .ok (.iconst 0, 1) := by decide +kernel
theorem dX9_goOn_7 : decode cX9_goOn 7 = .ok (.iaload, 1) := by decide +kernel
theorem dX9_goOn_8 : decode cX9_goOn 8 = .ok (.ifCond .lt 26, 3) := by decide +kernel
theorem dX9_goOn_11 : decode cX9_goOn 11 = .ok (.aload_n 0, 1) := by decide +kernel
theorem dX9_goOn_12 : decode cX9_goOn 12 = .ok (.getfield 35, 3) := by decide +kernel
theorem dX9_goOn_15 : decode cX9_goOn 15 = .ok (.iconst 0, 1) := by decide +kernel
theorem dX9_goOn_16 : decode cX9_goOn 16 = .ok (.iaload, 1) := by decide +kernel
theorem dX9_goOn_17 : decode cX9_goOn 17 = .ok (.istore_n 2, 1) := by decide +kernel
theorem dX9_goOn_18 : decode cX9_goOn 18 = .ok (.aload_n 0, 1) := by decide +kernel
theorem dX9_goOn_19 : decode cX9_goOn 19 = .ok (.iload_n 2, 1) := by decide +kernel
theorem dX9_goOn_20 : decode cX9_goOn 20 = .ok (.aload_n 0, 1) := by decide +kernel
theorem dX9_goOn_21 : decode cX9_goOn 21 = .ok (.iconst 0, 1) := by decide +kernel
theorem dX9_goOn_22 : decode cX9_goOn 22 = .ok (.invokevirtual 323, 3) := by decide +kernel
theorem dX9_goOn_25 : decode cX9_goOn 25 = .ok (.invokevirtual 320, 3) := by decide +kernel
theorem dX9_goOn_28 : decode cX9_goOn 28 = .ok (.iinc 1 1, 3) := by decide +kernel
theorem dX9_goOn_31 : decode cX9_goOn 31 = .ok (.goto (-29), 3) := by decide +kernel
theorem dX9_goOn_34 : decode cX9_goOn 34 = .ok (.iload_n 1, 1) := by decide +kernel
theorem dX9_goOn_35 : decode cX9_goOn 35 = .ok (.ireturn, 1) := by decide +kernel
theorem dX9_again_0 : decode cX9_again 0 = .ok (.aload_n 0, 1) := by decide +kernel
theorem dX9_again_1 : decode cX9_again 1 = .ok (.getfield 177, 3) := by decide +kernel
theorem dX9_again_4 : decode cX9_again 4 = .ok (.ifCond .eq 27, 3) := by decide +kernel
theorem dX9_again_7 : decode cX9_again 7 = .ok (.aload_n 0, 1) := by decide +kernel
theorem dX9_again_8 : decode cX9_again 8 = .ok (.getfield 326, 3) := by decide +kernel
theorem dX9_again_11 : decode cX9_again 11 = .ok (.iconst 1, 1) := by decide +kernel
theorem dX9_again_12 : decode cX9_again 12 = .ok (.if_icmp .eq 19, 3) := by decide +kernel
theorem dX9_again_15 : decode cX9_again 15 = .ok (.aload_n 0, 1) := by decide +kernel
theorem dX9_again_16 : decode cX9_again 16 = .ok (.getfield 35, 3) := by decide +kernel
theorem dX9_again_19 : decode cX9_again 19 = .ok (.iconst 0, 1) := by decide +kernel
theorem dX9_again_20 : decode cX9_again 20 = .ok (.iaload, 1) := by decide +kernel
theorem dX9_again_21 : decode cX9_again 21 = .ok (.ifCond .ge 10, 3) := by decide +kernel
theorem dX9_again_24 : decode cX9_again 24 = .ok (.aload_n 0, 1) := by decide +kernel
theorem dX9_again_25 : decode cX9_again 25 = .ok (.getfield 155, 3) := by decide +kernel
theorem dX9_again_28 : decode cX9_again 28 = .ok (.ifCond .ne 6, 3) := by decide +kernel
theorem dX9_again_31 : decode cX9_again 31 = .ok (.bipush (-5), 2) := by decide +kernel
theorem dX9_again_33 : decode cX9_again 33 = .ok (.ireturn, 1) := by decide +kernel
theorem dX9_again_34 : decode cX9_again 34 = .ok (.aload_n 0, 1) := by decide +kernel
theorem dX9_again_35 : decode cX9_again 35 = .ok (.iconst 1, 1) := by decide +kernel
theorem dX9_again_36 : decode cX9_again 36 = .ok (.putfield 326, 3) := by decide +kernel
theorem dX9_again_39 : decode cX9_again 39 = .ok (.aload_n 0, 1) := by decide +kernel
theorem dX9_again_40 : decode cX9_again 40 = .ok (.iconst 0, 1) := by decide +kernel
theorem dX9_again_41 : decode cX9_again 41 = .ok (.invokevirtual 329, 3) := by decide +kernel
theorem dX9_again_44 : decode cX9_again 44 = .ok (.istore_n 1, 1) := by decide +kernel
theorem dX9_again_45 : decode cX9_again 45 = .ok (.iload_n 1, 1) := by decide +kernel
theorem dX9_again_46 : decode cX9_again 46 = .ok (.ifCond .lt 20, 3) := by decide +kernel
theorem dX9_again_49 : decode cX9_again 49 = .ok (.aload_n 0, 1) := by decide +kernel
theorem dX9_again_50 : decode cX9_again 50 = .ok (.iconst 0, 1) := by decide +kernel
theorem dX9_again_51 : decode cX9_again 51 = .ok (.iload_n 1, 1) := by decide +kernel
theorem dX9_again_52 : decode cX9_again 52 = .ok (.invokevirtual 332, 3) := by decide +kernel
theorem dX9_again_55 : decode cX9_again 55 = .ok (.aload_n 0, 1) := by decide +kernel
theorem dX9_again_56 : decode cX9_again 56 = .ok (.aload_n 0, 1) := by decide +kernel
theorem dX9_again_57 : decode cX9_again 57 = .ok (.getfield 23, 3) := by decide +kernel
theorem dX9_again_60 : decode cX9_again 60 = .ok (.iconst 0, 1) := by decide +kernel
theorem dX9_again_61 : decode cX9_again 61 = .ok (.iaload, 1) := by decide +kernel
theorem dX9_again_62 : decode cX9_again 62 = .ok (.iload_n 1, 1) := by decide +kernel
theorem dX9_again_63 : decode cX9_again 63 = .ok (.invokevirtual 320, 3) := by decide +kernel
theorem dX9_again_66 : decode cX9_again 66 = .ok (.aload_n 0, 1) := by decide +kernel
theorem dX9_again_67 : decode cX9_again 67 = .ok (.iconst 0, 1) := by decide +kernel
theorem dX9_again_68 : decode cX9_again 68 = .ok (.aload_n 0, 1) := by decide +kernel
theorem dX9_again_69 : decode cX9_again 69 = .ok (.getfield 23, 3) := by decide +kernel
theorem dX9_again_72 : decode cX9_again 72 = .ok (.iconst 0, 1) := by decide +kernel
theorem dX9_again_73 : decode cX9_again 73 = .ok (.iaload, 1) := by decide +kernel
theorem dX9_again_74 : decode cX9_again 74 = .ok (.invokevirtual 207, 3) := by decide +kernel
theorem dX9_again_77 : decode cX9_again 77 = .ok (.ireturn, 1) := by decide +kernel
theorem dX9_anew_0 : decode cX9_anew 0 = .ok (.aload_n 0, 1) := by decide +kernel
theorem dX9_anew_1 : decode cX9_anew 1 = .ok (.iconst 0, 1) := by decide +kernel
theorem dX9_anew_2 : decode cX9_anew 2 = .ok (.invokevirtual 162, 3) := by decide +kernel
theorem dX9_anew_5 : decode cX9_anew 5 = .ok (.aload_n 0, 1) := by decide +kernel
theorem dX9_anew_6 : decode cX9_anew 6 = .ok (.iconst 0, 1) := by decide +kernel
theorem dX9_anew_7 : decode cX9_anew 7 = .ok (.putfield 166, 3) := by decide +kernel
theorem dX9_anew_10 : decode cX9_anew 10 = .ok (.aload_n 0, 1) := by decide +kernel
theorem dX9_anew_11 : decode cX9_anew 11 = .ok (.iconst 0, 1) := by decide +kernel
theorem dX9_anew_12 : decode cX9_anew 12 = .ok (.putfield 326, 3) := by decide +kernel
theorem dX9_anew_15 : decode cX9_anew 15 = .ok (.aload_n 0, 1) := by decide +kernel
theorem dX9_anew_16 : decode cX9_anew 16 = .ok (.getfield 155, 3) := by decide +kernel
theorem dX9_anew_19 : decode cX9_anew 19 = .ok (.ireturn, 1) := by decide +kernel
theorem dX9_led_0 : decode cX9_led 0 = .ok (.iload_n 1, 1) := by decide +kernel
theorem dX9_led_1 : decode cX9_led 1 = .ok (.iconst 0, 1) := by decide +kernel
theorem dX9_led_2 : decode cX9_led 2 = .ok (.iconst 2, 1) := by decide +kernel
theorem dX9_led_3 : decode cX9_led 3 = .ok (.invokestatic 158, 3) := by decide +kernel
theorem dX9_led_6 : decode cX9_led 6 = .ok (.ifCond .ne 5, 3) := by decide +kernel
theorem dX9_led_9 : decode cX9_led 9 = .ok (.iconst (-1), 1) := by decide +kernel
theorem dX9_led_10 : decode cX9_led 10 = .ok (.ireturn, 1) := by decide +kernel
theorem dX9_led_11 : decode cX9_led 11 = .ok (.iload_n 1, 1) := by decide +kernel
theorem dX9_led_12 : decode cX9_led 12 = .ok (.iconst 2, 1) := by decide +kernel
theorem dX9_led_13 : decode cX9_led 13 = .ok (.if_icmp .ne 8, 3) := by decide +kernel
theorem dX9_led_16 : decode cX9_led 16 = .ok (.aload_n 0, 1) := by decide +kernel
theorem dX9_led_17 : decode cX9_led 17 = .ok (.getfield 317, 3) := by decide +kernel
theorem dX9_led_20 : decode cX9_led 20 = .ok (.ireturn, 1) := by decide +kernel
theorem dX9_led_21 : decode cX9_led 21 = .ok (.aload_n 0, 1) := by decide +kernel
theorem dX9_led_22 : decode cX9_led 22 = .ok (.getfield 317, 3) := by decide +kernel
theorem dX9_led_25 : decode cX9_led 25 = .ok (.ifCond .ne 8, 3) := by decide +kernel
theorem dX9_led_28 : decode cX9_led 28 = .ok (.bipush (-5), 2) := by decide +kernel
theorem dX9_led_30 : decode cX9_led 30 = .ok (.goto 18, 3) := by decide +kernel
theorem dX9_led_33 : decode cX9_led 33 = .ok (.iload_n 1, 1) := by decide +kernel
theorem dX9_led_34 : decode cX9_led 34 = .ok (.ifCond .ne 10, 3) := by decide +kernel
theorem dX9_led_37 : decode cX9_led 37 = .ok (.aload_n 0, 1) := by decide +kernel
theorem dX9_led_38 : decode cX9_led 38 = .ok (.getfield 47, 3) := by decide +kernel
theorem dX9_led_41 : decode cX9_led 41 = .ok (.goto 7, 3) := by decide +kernel
theorem dX9_led_44 : decode cX9_led 44 = .ok (.aload_n 0, 1) := by decide +kernel
theorem dX9_led_45 : decode cX9_led 45 = .ok (.getfield 314, 3) := by decide +kernel
theorem dX9_led_48 : decode cX9_led 48 = .ok (.ireturn, 1) := by decide +kernel
theorem dX9_goEvening_0 : decode cX9_goEvening 0 = .ok (.aload_n 0, 1) := by decide +kernel
theorem dX9_goEvening_1 : decode cX9_goEvening 1 = .ok (.iconst 1, 1) := by decide +kernel
theorem dX9_goEvening_2 : decode cX9_goEvening 2 = .ok (.invokevirtual 162, 3) := by decide +kernel
theorem dX9_goEvening_5 : decode cX9_goEvening 5 = .ok (.aload_n 0, 1) := by decide +kernel
theorem dX9_goEvening_6 : decode cX9_goEvening 6 = .ok (.getfield 35, 3) := by decide +kernel
theorem dX9_goEvening_9 : decode cX9_goEvening 9 = .ok (.iconst 1, 1) := by decide +kernel
theorem dX9_goEvening_10 : decode cX9_goEvening 10 = .ok (.iaload, 1) := by decide +kernel
theorem dX9_goEvening_11 : decode cX9_goEvening 11 = .ok (.ifCond .lt 12, 3) := by decide +kernel
theorem dX9_goEvening_14 : decode cX9_goEvening 14 = .ok (.aload_n 0, 1) := by decide +kernel
theorem dX9_goEvening_15 : decode cX9_goEvening 15 = .ok (.iconst 1, 1) := by decide +kernel
theorem dX9_goEvening_16 : decode cX9_goEvening 16 = .ok (.invokevirtual 323, 3) := by decide +kernel
theorem dX9_goEvening_19 : decode cX9_goEvening 19 = .ok (.pop, 1) := by decide +kernel
theorem dX9_goEvening_20 : decode cX9_goEvening 20 = .ok (.goto (-15), 3) := by decide +kernel
theorem dX9_goEvening_23 : decode cX9_goEvening 23 = .ok (.aload_n 0, 1) := by decide +kernel
theorem dX9_goEvening_24 : decode cX9_goEvening 24 = .ok (.getfield 177, 3) := by decide +kernel
theorem dX9_goEvening_27 : decode cX9_goEvening 27 = .ok (.ifCond .eq 10, 3) := by decide +kernel
theorem dX9_goEvening_30 : decode cX9_goEvening 30 = .ok (.aload_n 0, 1) := by decide +kernel
theorem dX9_goEvening_31 : decode cX9_goEvening 31 = .ok (.getfield 155, 3) := by decide +kernel
theorem dX9_goEvening_34 : decode cX9_goEvening 34 = .ok (.ifCond .ne 4, 3) := by decide +kernel
theorem dX9_goEvening_37 : decode cX9_goEvening 37 = .ok (.return_, 1) := by decide +kernel
theorem dX9_goEvening_38 : decode cX9_goEvening 38 = .ok (.aload_n 0, 1) := by decide +kernel
theorem dX9_goEvening_39 : decode cX9_goEvening 39 = .ok (.iconst 1, 1) := by decide +kernel
theorem dX9_goEvening_40 : decode cX9_goEvening 40 = .ok (.invokevirtual 329, 3) := by decide +kernel
theorem dX9_goEvening_43 : decode cX9_goEvening 43 = .ok (.istore_n 1, 1) := by decide +kernel
theorem dX9_goEvening_44 : decode cX9_goEvening 44 = .ok (.iload_n 1, 1) := by decide +kernel
theorem dX9_goEvening_45 : decode cX9_goEvening 45 = .ok (.ifCond .lt 9, 3) := by decide +kernel
theorem dX9_goEvening_48 : decode cX9_goEvening 48 = .ok (.aload_n 0, 1) := by decide +kernel
theorem dX9_goEvening_49 : decode cX9_goEvening 49 = .ok (.iconst 1, 1) := by decide +kernel
theorem dX9_goEvening_50 : decode cX9_goEvening 50 = .ok (.iload_n 1, 1) := by decide +kernel
theorem dX9_goEvening_51 : decode cX9_goEvening 51 = .ok (.invokevirtual 332, 3) := by decide +kernel
theorem dX9_goEvening_54 : decode cX9_goEvening 54 = .ok (.return_, 1) := by decide +kernel
theorem dX9_evening_0 : decode cX9_evening 0 = .ok (.iload_n 2, 1) := by decide +kernel
theorem dX9_evening_1 : decode cX9_evening 1 = .ok (.iconst 0, 1) := by decide +kernel
theorem dX9_evening_2 : decode cX9_evening 2 = .ok (.iconst 3, 1) := by decide +kernel
theorem dX9_evening_3 : decode cX9_evening 3 = .ok (.invokestatic 158, 3) := by decide +kernel
theorem dX9_evening_6 : decode cX9_evening 6 = .ok (.ifCond .eq 28, 3) := by decide +kernel
theorem dX9_evening_9 : decode cX9_evening 9 = .ok (.iload_n 2, 1) := by decide +kernel
theorem dX9_evening_10 : decode cX9_evening 10 = .ok (.iconst 1, 1) := by decide +kernel
theorem dX9_evening_11 : decode cX9_evening 11 = .ok (.if_icmp .eq 8, 3) := by decide +kernel
theorem dX9_evening_14 : decode cX9_evening 14 = .ok (.iload_n 2, 1) := by decide +kernel
theorem dX9_evening_15 : decode cX9_evening 15 = .ok (.iconst 2, 1) := by decide +kernel
theorem dX9_evening_16 : decode cX9_evening 16 = .ok (.if_icmp .ne 10, 3) := by decide +kernel
theorem dX9_evening_19 : decode cX9_evening 19 = .ok (.iload_n 1, 1) := by decide +kernel
theorem dX9_evening_20 : decode cX9_evening 20 = .ok (.ifCond .eq 16, 3) := by decide +kernel
theorem dX9_evening_23 : decode cX9_evening 23 = .ok (.goto 11, 3) := by decide +kernel
theorem dX9_evening_26 : decode cX9_evening 26 = .ok (.aload_n 0, 1) := by decide +kernel
theorem dX9_evening_27 : decode cX9_evening 27 = .ok (.iload_n 1, 1) := by decide +kernel
theorem dX9_evening_28 : decode cX9_evening 28 = .ok (.invokevirtual 194, 3) := by decide +kernel
theorem dX9_evening_31 : decode cX9_evening 31 = .ok (.ifCond .ne 5, 3) := by decide +kernel
theorem dX9_evening_34 : decode cX9_evening 34 = .ok (.iconst (-1), 1) := by decide +kernel
theorem dX9_evening_35 : decode cX9_evening 35 = .ok (.ireturn, 1) := by decide +kernel
theorem dX9_evening_36 : decode cX9_evening 36 = .ok (.aload_n 0, 1) := by decide +kernel
theorem dX9_evening_37 : decode cX9_evening 37 = .ok (.invokevirtual 334, 3) := by decide +kernel
theorem dX9_evening_40 : decode cX9_evening 40 = .ok (.iload_n 2, 1) := by decide +kernel
theorem dX9_evening_41 : decode cX9_evening 41 = .ok (.ifCond .ne 10, 3) := by decide +kernel
theorem dX9_evening_44 : decode cX9_evening 44 = .ok (.aload_n 0, 1) := by decide +kernel
theorem dX9_evening_45 : decode cX9_evening 45 = .ok (.iconst 1, 1) := by decide +kernel
theorem dX9_evening_46 : decode cX9_evening 46 = .ok (.iload_n 1, 1) := by decide +kernel
theorem dX9_evening_47 : decode cX9_evening 47 = .ok (.invokevirtual 207, 3) := by decide +kernel
theorem dX9_evening_50 : decode cX9_evening 50 = .ok (.ireturn, 1) := by decide +kernel
theorem dX9_evening_51 : decode cX9_evening 51 = .ok (.iload_n 2, 1) := by decide +kernel
theorem dX9_evening_52 : decode cX9_evening 52 = .ok (.iconst 1, 1) := by decide +kernel
theorem dX9_evening_53 : decode cX9_evening 53 = .ok (.if_icmp .ne 10, 3) := by decide +kernel
theorem dX9_evening_56 : decode cX9_evening 56 = .ok (.aload_n 0, 1) := by decide +kernel
theorem dX9_evening_57 : decode cX9_evening 57 = .ok (.getfield 44, 3) := by decide +kernel
theorem dX9_evening_60 : decode cX9_evening 60 = .ok (.iconst 1, 1) := by decide +kernel
theorem dX9_evening_61 : decode cX9_evening 61 = .ok (.iaload, 1) := by decide +kernel
theorem dX9_evening_62 : decode cX9_evening 62 = .ok (.ireturn, 1) := by decide +kernel
theorem dX9_evening_63 : decode cX9_evening 63 = .ok (.iload_n 2, 1) := by decide +kernel
theorem dX9_evening_64 : decode cX9_evening 64 = .ok (.iconst 3, 1) := by decide +kernel
theorem dX9_evening_65 : decode cX9_evening 65 = .ok (.if_icmp .ne 13, 3) := by decide +kernel
theorem dX9_evening_68 : decode cX9_evening 68 = .ok (.aload_n 0, 1) := by decide +kernel
theorem dX9_evening_69 : decode cX9_evening 69 = .ok (.getfield 29, 3) := by decide +kernel
theorem dX9_evening_72 : decode cX9_evening 72 = .ok (.bipush 7, 2) := by decide +kernel
theorem dX9_evening_74 : decode cX9_evening 74 = .ok (.iload_n 1, 1) := by decide +kernel
theorem dX9_evening_75 : decode cX9_evening 75 = .ok (.iadd, 1) := by decide +kernel
theorem dX9_evening_76 : decode cX9_evening 76 = .ok (.iaload, 1) := by decide +kernel
theorem dX9_evening_77 : decode cX9_evening 77 = .ok (.ireturn, 1) := by decide +kernel
theorem dX9_evening_78 : decode cX9_evening 78 = .ok (.iconst 0, 1) := by decide +kernel
theorem dX9_evening_79 : decode cX9_evening 79 = .ok (.istore_n 3, 1) := by decide +kernel
theorem dX9_evening_80 : decode cX9_evening 80 = .ok (.iconst 0, 1) := by decide +kernel
theorem dX9_evening_81 : decode cX9_evening 81 = .ok (.istore 4, 2) := by decide +kernel
theorem dX9_evening_83 : decode cX9_evening 83 = .ok (.iload 4, 2) := by decide +kernel
theorem dX9_evening_85 : decode cX9_evening 85 = .ok (.aload_n 0, 1) := by decide +kernel
theorem dX9_evening_86 : decode cX9_evening 86 = .ok (.getfield 155, 3) := by decide +kernel
theorem dX9_evening_89 : decode cX9_evening 89 = .ok (.if_icmp .ge 33, 3) := by decide +kernel
theorem dX9_evening_92 : decode cX9_evening 92 = .ok (.iload_n 3, 1) := by decide +kernel
theorem dX9_evening_93 : decode cX9_evening 93 = .ok (.aload_n 0, 1) := by decide +kernel
theorem dX9_evening_94 : decode cX9_evening 94 = .ok (.getfield 7, 3) := by decide +kernel
theorem dX9_evening_97 : decode cX9_evening 97 = .ok (.bipush 7, 2) := by decide +kernel
theorem dX9_evening_99 : decode cX9_evening 99 = .ok (.aload_n 0, 1) := by decide +kernel
theorem dX9_evening_100 : decode cX9_evening 100 = .ok (.getfield 26, 3) := by decide +kernel
theorem dX9_evening_103 : decode cX9_evening 103 = .ok (.bipush 7, 2) := by decide +kernel
theorem dX9_evening_105 : decode cX9_evening 105 = .ok (.iload 4, 2) := by decide +kernel
theorem dX9_evening_107 : decode cX9_evening 107 = .ok (.iadd, 1) := by decide +kernel
theorem dX9_evening_108 : decode cX9_evening 108 = .ok (.iaload, 1) := by decide +kernel
theorem dX9_evening_109 : decode cX9_evening 109 = .ok (.imul, 1) := by decide +kernel
theorem dX9_evening_110 : decode cX9_evening 110 = .ok (.iload 4, 2) := by decide +kernel
theorem dX9_evening_112 : decode cX9_evening 112 = .ok (.iadd, 1) := by decide +kernel
theorem dX9_evening_113 : decode cX9_evening 113 = .ok (.iaload, 1) := by decide +kernel
theorem dX9_evening_114 : decode cX9_evening 114 = .ok (.iadd, 1) := by decide +kernel
theorem dX9_evening_115 : decode cX9_evening 115 = .ok (.istore_n 3, 1) := by decide +kernel
theorem dX9_evening_116 : decode cX9_evening 116 = .ok (.iinc 4 1, 3) := by decide +kernel
theorem dX9_evening_119 : decode cX9_evening 119 = .ok (.goto (-36), 3) := by decide +kernel
theorem dX9_evening_122 : decode cX9_evening 122 = .ok (.iload_n 3, 1) := by decide +kernel
theorem dX9_evening_123 : decode cX9_evening 123 = .ok (.ireturn, 1) := by decide +kernel
theorem dX9_keepAt_0 : decode cX9_keepAt 0 = .ok (.iconst 0, 1) := by decide +kernel
theorem dX9_keepAt_1 : decode cX9_keepAt 1 = .ok (.istore_n 2, 1) := by decide +kernel
theorem dX9_keepAt_2 : decode cX9_keepAt 2 = .ok (.iload_n 2, 1) := by decide +kernel
theorem dX9_keepAt_3 : decode cX9_keepAt 3 = .ok (.aload_n 0, 1) := by decide +kernel
theorem dX9_keepAt_4 : decode cX9_keepAt 4 = .ok (.getfield 155, 3) := by decide +kernel
theorem dX9_keepAt_7 : decode cX9_keepAt 7 = .ok (.if_icmp .ge 47, 3) := by decide +kernel
theorem dX9_keepAt_10 : decode cX9_keepAt 10 = .ok (.aload_n 0, 1) := by decide +kernel
theorem dX9_keepAt_11 : decode cX9_keepAt 11 = .ok (.getfield 88, 3) := by decide +kernel
theorem dX9_keepAt_14 : decode cX9_keepAt 14 = .ok (.iconst 3, 1) := by decide +kernel
theorem dX9_keepAt_15 : decode cX9_keepAt 15 = .ok (.iload_n 1, 1) := by decide +kernel
theorem dX9_keepAt_16 : decode cX9_keepAt 16 = .ok (.imul, 1) := by decide +kernel
theorem dX9_keepAt_17 : decode cX9_keepAt 17 = .ok (.iload_n 2, 1) := by decide +kernel
theorem dX9_keepAt_18 : decode cX9_keepAt 18 = .ok (.iadd, 1) := by decide +kernel
theorem dX9_keepAt_19 : decode cX9_keepAt 19 = .ok (.aload_n 0, 1) := by decide +kernel
theorem dX9_keepAt_20 : decode cX9_keepAt 20 = .ok (.getfield 26, 3) := by decide +kernel
theorem dX9_keepAt_23 : decode cX9_keepAt 23 = .ok (.bipush 7, 2) := by decide +kernel
theorem dX9_keepAt_25 : decode cX9_keepAt 25 = .ok (.iload_n 2, 1) := by decide +kernel
theorem dX9_keepAt_26 : decode cX9_keepAt 26 = .ok (.iadd, 1) := by decide +kernel
theorem dX9_keepAt_27 : decode cX9_keepAt 27 = .ok (.iaload, 1) := by decide +kernel
theorem dX9_keepAt_28 : decode cX9_keepAt 28 = .ok (.iastore, 1) := by decide +kernel
theorem dX9_keepAt_29 : decode cX9_keepAt 29 = .ok (.aload_n 0, 1) := by decide +kernel
theorem dX9_keepAt_30 : decode cX9_keepAt 30 = .ok (.getfield 91, 3) := by decide +kernel
theorem dX9_keepAt_33 : decode cX9_keepAt 33 = .ok (.iconst 3, 1) := by decide +kernel
theorem dX9_keepAt_34 : decode cX9_keepAt 34 = .ok (.iload_n 1, 1) := by decide +kernel
theorem dX9_keepAt_35 : decode cX9_keepAt 35 = .ok (.imul, 1) := by decide +kernel
theorem dX9_keepAt_36 : decode cX9_keepAt 36 = .ok (.iload_n 2, 1) := by decide +kernel
theorem dX9_keepAt_37 : decode cX9_keepAt 37 = .ok (.iadd, 1) := by decide +kernel
theorem dX9_keepAt_38 : decode cX9_keepAt 38 = .ok (.aload_n 0, 1) := by decide +kernel
theorem dX9_keepAt_39 : decode cX9_keepAt 39 = .ok (.getfield 29, 3) := by decide +kernel
theorem dX9_keepAt_42 : decode cX9_keepAt 42 = .ok (.bipush 7, 2) := by decide +kernel
theorem dX9_keepAt_44 : decode cX9_keepAt 44 = .ok (.iload_n 2, 1) := by decide +kernel
theorem dX9_keepAt_45 : decode cX9_keepAt 45 = .ok (.iadd, 1) := by decide +kernel
theorem dX9_keepAt_46 : decode cX9_keepAt 46 = .ok (.iaload, 1) := by decide +kernel
theorem dX9_keepAt_47 : decode cX9_keepAt 47 = .ok (.iastore, 1) := by decide +kernel
theorem dX9_keepAt_48 : decode cX9_keepAt 48 = .ok (.iinc 2 1, 3) := by decide +kernel
theorem dX9_keepAt_51 : decode cX9_keepAt 51 = .ok (.goto (-49), 3) := by decide +kernel
theorem dX9_keepAt_54 : decode cX9_keepAt 54 = .ok (.aload_n 0, 1) := by decide +kernel
theorem dX9_keepAt_55 : decode cX9_keepAt 55 = .ok (.getfield 94, 3) := by decide +kernel
theorem dX9_keepAt_58 : decode cX9_keepAt 58 = .ok (.iconst 5, 1) := by decide +kernel
theorem dX9_keepAt_59 : decode cX9_keepAt 59 = .ok (.iload_n 1, 1) := by decide +kernel
theorem dX9_keepAt_60 : decode cX9_keepAt 60 = .ok (.imul, 1) := by decide +kernel
theorem dX9_keepAt_61 : decode cX9_keepAt 61 = .ok (.aload_n 0, 1) := by decide +kernel
theorem dX9_keepAt_62 : decode cX9_keepAt 62 = .ok (.getfield 32, 3) := by decide +kernel
theorem dX9_keepAt_65 : decode cX9_keepAt 65 = .ok (.iconst 1, 1) := by decide +kernel
theorem dX9_keepAt_66 : decode cX9_keepAt 66 = .ok (.iaload, 1) := by decide +kernel
theorem dX9_keepAt_67 : decode cX9_keepAt 67 = .ok (.iastore, 1) := by decide +kernel
theorem dX9_keepAt_68 : decode cX9_keepAt 68 = .ok (.aload_n 0, 1) := by decide +kernel
theorem dX9_keepAt_69 : decode cX9_keepAt 69 = .ok (.getfield 94, 3) := by decide +kernel
theorem dX9_keepAt_72 : decode cX9_keepAt 72 = .ok (.iconst 5, 1) := by decide +kernel
theorem dX9_keepAt_73 : decode cX9_keepAt 73 = .ok (.iload_n 1, 1) := by decide +kernel
theorem dX9_keepAt_74 : decode cX9_keepAt 74 = .ok (.imul, 1) := by decide +kernel
theorem dX9_keepAt_75 : decode cX9_keepAt 75 = .ok (.iconst 1, 1) := by decide +kernel
theorem dX9_keepAt_76 : decode cX9_keepAt 76 = .ok (.iadd, 1) := by decide +kernel
theorem dX9_keepAt_77 : decode cX9_keepAt 77 = .ok (.aload_n 0, 1) := by decide +kernel
theorem dX9_keepAt_78 : decode cX9_keepAt 78 = .ok (.getfield 35, 3) := by decide +kernel
theorem dX9_keepAt_81 : decode cX9_keepAt 81 = .ok (.iconst 1, 1) := by decide +kernel
theorem dX9_keepAt_82 : decode cX9_keepAt 82 = .ok (.iaload, 1) := by decide +kernel
theorem dX9_keepAt_83 : decode cX9_keepAt 83 = .ok (.iastore, 1) := by decide +kernel
theorem dX9_keepAt_84 : decode cX9_keepAt 84 = .ok (.aload_n 0, 1) := by decide +kernel
theorem dX9_keepAt_85 : decode cX9_keepAt 85 = .ok (.getfield 94, 3) := by decide +kernel
theorem dX9_keepAt_88 : decode cX9_keepAt 88 = .ok (.iconst 5, 1) := by decide +kernel
theorem dX9_keepAt_89 : decode cX9_keepAt 89 = .ok (.iload_n 1, 1) := by decide +kernel
theorem dX9_keepAt_90 : decode cX9_keepAt 90 = .ok (.imul, 1) := by decide +kernel
theorem dX9_keepAt_91 : decode cX9_keepAt 91 = .ok (.iconst 2, 1) := by decide +kernel
theorem dX9_keepAt_92 : decode cX9_keepAt 92 = .ok (.iadd, 1) := by decide +kernel
theorem dX9_keepAt_93 : decode cX9_keepAt 93 = .ok (.aload_n 0, 1) := by decide +kernel
theorem dX9_keepAt_94 : decode cX9_keepAt 94 = .ok (.getfield 38, 3) := by decide +kernel
theorem dX9_keepAt_97 : decode cX9_keepAt 97 = .ok (.iconst 1, 1) := by decide +kernel
theorem dX9_keepAt_98 : decode cX9_keepAt 98 = .ok (.iaload, 1) := by decide +kernel
theorem dX9_keepAt_99 : decode cX9_keepAt 99 = .ok (.iastore, 1) := by decide +kernel
theorem dX9_keepAt_100 : decode cX9_keepAt 100 = .ok (.aload_n 0, 1) := by decide +kernel
theorem dX9_keepAt_101 : decode cX9_keepAt 101 = .ok (.getfield 94, 3) := by decide +kernel
theorem dX9_keepAt_104 : decode cX9_keepAt 104 = .ok (.iconst 5, 1) := by decide +kernel
theorem dX9_keepAt_105 : decode cX9_keepAt 105 = .ok (.iload_n 1, 1) := by decide +kernel
theorem dX9_keepAt_106 : decode cX9_keepAt 106 = .ok (.imul, 1) := by decide +kernel
theorem dX9_keepAt_107 : decode cX9_keepAt 107 = .ok (.iconst 3, 1) := by decide +kernel
theorem dX9_keepAt_108 : decode cX9_keepAt 108 = .ok (.iadd, 1) := by decide +kernel
theorem dX9_keepAt_109 : decode cX9_keepAt 109 = .ok (.aload_n 0, 1) := by decide +kernel
theorem dX9_keepAt_110 : decode cX9_keepAt 110 = .ok (.getfield 41, 3) := by decide +kernel
theorem dX9_keepAt_113 : decode cX9_keepAt 113 = .ok (.iconst 1, 1) := by decide +kernel
theorem dX9_keepAt_114 : decode cX9_keepAt 114 = .ok (.iaload, 1) := by decide +kernel
theorem dX9_keepAt_115 : decode cX9_keepAt 115 = .ok (.iastore, 1) := by decide +kernel
theorem dX9_keepAt_116 : decode cX9_keepAt 116 = .ok (.aload_n 0, 1) := by decide +kernel
theorem dX9_keepAt_117 : decode cX9_keepAt 117 = .ok (.getfield 94, 3) := by decide +kernel
theorem dX9_keepAt_120 : decode cX9_keepAt 120 = .ok (.iconst 5, 1) := by decide +kernel
theorem dX9_keepAt_121 : decode cX9_keepAt 121 = .ok (.iload_n 1, 1) := by decide +kernel
theorem dX9_keepAt_122 : decode cX9_keepAt 122 = .ok (.imul, 1) := by decide +kernel
theorem dX9_keepAt_123 : decode cX9_keepAt 123 = .ok (.iconst 4, 1) := by decide +kernel
theorem dX9_keepAt_124 : decode cX9_keepAt 124 = .ok (.iadd, 1) := by decide +kernel
theorem dX9_keepAt_125 : decode cX9_keepAt 125 = .ok (.aload_n 0, 1) := by decide +kernel
theorem dX9_keepAt_126 : decode cX9_keepAt 126 = .ok (.getfield 44, 3) := by decide +kernel
theorem dX9_keepAt_129 : decode cX9_keepAt 129 = .ok (.iconst 1, 1) := by decide +kernel
theorem dX9_keepAt_130 : decode cX9_keepAt 130 = .ok (.iaload, 1) := by decide +kernel
theorem dX9_keepAt_131 : decode cX9_keepAt 131 = .ok (.iastore, 1) := by decide +kernel
theorem dX9_keepAt_132 : decode cX9_keepAt 132 = .ok (.return_, 1) := by decide +kernel
theorem dX9_layAt_0 : decode cX9_layAt 0 = .ok (.iconst 0, 1) := by decide +kernel
theorem dX9_layAt_1 : decode cX9_layAt 1 = .ok (.istore_n 2, 1) := by decide +kernel
theorem dX9_layAt_2 : decode cX9_layAt 2 = .ok (.iload_n 2, 1) := by decide +kernel
theorem dX9_layAt_3 : decode cX9_layAt 3 = .ok (.aload_n 0, 1) := by decide +kernel
theorem dX9_layAt_4 : decode cX9_layAt 4 = .ok (.getfield 155, 3) := by decide +kernel
theorem dX9_layAt_7 : decode cX9_layAt 7 = .ok (.if_icmp .ge 47, 3) := by decide +kernel
theorem dX9_layAt_10 : decode cX9_layAt 10 = .ok (.aload_n 0, 1) := by decide +kernel
theorem dX9_layAt_11 : decode cX9_layAt 11 = .ok (.getfield 26, 3) := by decide +kernel
theorem dX9_layAt_14 : decode cX9_layAt 14 = .ok (.bipush 7, 2) := by decide +kernel
theorem dX9_layAt_16 : decode cX9_layAt 16 = .ok (.iload_n 2, 1) := by decide +kernel
theorem dX9_layAt_17 : decode cX9_layAt 17 = .ok (.iadd, 1) := by decide +kernel
theorem dX9_layAt_18 : decode cX9_layAt 18 = .ok (.aload_n 0, 1) := by decide +kernel
theorem dX9_layAt_19 : decode cX9_layAt 19 = .ok (.getfield 88, 3) := by decide +kernel
theorem dX9_layAt_22 : decode cX9_layAt 22 = .ok (.iconst 3, 1) := by decide +kernel
theorem dX9_layAt_23 : decode cX9_layAt 23 = .ok (.iload_n 1, 1) := by decide +kernel
theorem dX9_layAt_24 : decode cX9_layAt 24 = .ok (.imul, 1) := by decide +kernel
theorem dX9_layAt_25 : decode cX9_layAt 25 = .ok (.iload_n 2, 1) := by decide +kernel
theorem dX9_layAt_26 : decode cX9_layAt 26 = .ok (.iadd, 1) := by decide +kernel
theorem dX9_layAt_27 : decode cX9_layAt 27 = .ok (.iaload, 1) := by decide +kernel
theorem dX9_layAt_28 : decode cX9_layAt 28 = .ok (.iastore, 1) := by decide +kernel
theorem dX9_layAt_29 : decode cX9_layAt 29 = .ok (.aload_n 0, 1) := by decide +kernel
theorem dX9_layAt_30 : decode cX9_layAt 30 = .ok (.getfield 29, 3) := by decide +kernel
theorem dX9_layAt_33 : decode cX9_layAt 33 = .ok (.bipush 7, 2) := by decide +kernel
theorem dX9_layAt_35 : decode cX9_layAt 35 = .ok (.iload_n 2, 1) := by decide +kernel
theorem dX9_layAt_36 : decode cX9_layAt 36 = .ok (.iadd, 1) := by decide +kernel
theorem dX9_layAt_37 : decode cX9_layAt 37 = .ok (.aload_n 0, 1) := by decide +kernel
theorem dX9_layAt_38 : decode cX9_layAt 38 = .ok (.getfield 91, 3) := by decide +kernel
theorem dX9_layAt_41 : decode cX9_layAt 41 = .ok (.iconst 3, 1) := by decide +kernel
theorem dX9_layAt_42 : decode cX9_layAt 42 = .ok (.iload_n 1, 1) := by decide +kernel
theorem dX9_layAt_43 : decode cX9_layAt 43 = .ok (.imul, 1) := by decide +kernel
theorem dX9_layAt_44 : decode cX9_layAt 44 = .ok (.iload_n 2, 1) := by decide +kernel
theorem dX9_layAt_45 : decode cX9_layAt 45 = .ok (.iadd, 1) := by decide +kernel
theorem dX9_layAt_46 : decode cX9_layAt 46 = .ok (.iaload, 1) := by decide +kernel
theorem dX9_layAt_47 : decode cX9_layAt 47 = .ok (.iastore, 1) := by decide +kernel
theorem dX9_layAt_48 : decode cX9_layAt 48 = .ok (.iinc 2 1, 3) := by decide +kernel
theorem dX9_layAt_51 : decode cX9_layAt 51 = .ok (.goto (-49), 3) := by decide +kernel
theorem dX9_layAt_54 : decode cX9_layAt 54 = .ok (.aload_n 0, 1) := by decide +kernel
theorem dX9_layAt_55 : decode cX9_layAt 55 = .ok (.getfield 32, 3) := by decide +kernel
theorem dX9_layAt_58 : decode cX9_layAt 58 = .ok (.iconst 1, 1) := by decide +kernel
theorem dX9_layAt_59 : decode cX9_layAt 59 = .ok (.aload_n 0, 1) := by decide +kernel
theorem dX9_layAt_60 : decode cX9_layAt 60 = .ok (.getfield 94, 3) := by decide +kernel
theorem dX9_layAt_63 : decode cX9_layAt 63 = .ok (.iconst 5, 1) := by decide +kernel
theorem dX9_layAt_64 : decode cX9_layAt 64 = .ok (.iload_n 1, 1) := by decide +kernel
theorem dX9_layAt_65 : decode cX9_layAt 65 = .ok (.imul, 1) := by decide +kernel
theorem dX9_layAt_66 : decode cX9_layAt 66 = .ok (.iaload, 1) := by decide +kernel
theorem dX9_layAt_67 : decode cX9_layAt 67 = .ok (.iastore, 1) := by decide +kernel
theorem dX9_layAt_68 : decode cX9_layAt 68 = .ok (.aload_n 0, 1) := by decide +kernel
theorem dX9_layAt_69 : decode cX9_layAt 69 = .ok (.getfield 35, 3) := by decide +kernel
theorem dX9_layAt_72 : decode cX9_layAt 72 = .ok (.iconst 1, 1) := by decide +kernel
theorem dX9_layAt_73 : decode cX9_layAt 73 = .ok (.aload_n 0, 1) := by decide +kernel
theorem dX9_layAt_74 : decode cX9_layAt 74 = .ok (.getfield 94, 3) := by decide +kernel
theorem dX9_layAt_77 : decode cX9_layAt 77 = .ok (.iconst 5, 1) := by decide +kernel
theorem dX9_layAt_78 : decode cX9_layAt 78 = .ok (.iload_n 1, 1) := by decide +kernel
theorem dX9_layAt_79 : decode cX9_layAt 79 = .ok (.imul, 1) := by decide +kernel
theorem dX9_layAt_80 : decode cX9_layAt 80 = .ok (.iconst 1, 1) := by decide +kernel
theorem dX9_layAt_81 : decode cX9_layAt 81 = .ok (.iadd, 1) := by decide +kernel
theorem dX9_layAt_82 : decode cX9_layAt 82 = .ok (.iaload, 1) := by decide +kernel
theorem dX9_layAt_83 : decode cX9_layAt 83 = .ok (.iastore, 1) := by decide +kernel
theorem dX9_layAt_84 : decode cX9_layAt 84 = .ok (.aload_n 0, 1) := by decide +kernel
theorem dX9_layAt_85 : decode cX9_layAt 85 = .ok (.getfield 38, 3) := by decide +kernel
theorem dX9_layAt_88 : decode cX9_layAt 88 = .ok (.iconst 1, 1) := by decide +kernel
theorem dX9_layAt_89 : decode cX9_layAt 89 = .ok (.aload_n 0, 1) := by decide +kernel
theorem dX9_layAt_90 : decode cX9_layAt 90 = .ok (.getfield 94, 3) := by decide +kernel
theorem dX9_layAt_93 : decode cX9_layAt 93 = .ok (.iconst 5, 1) := by decide +kernel
theorem dX9_layAt_94 : decode cX9_layAt 94 = .ok (.iload_n 1, 1) := by decide +kernel
theorem dX9_layAt_95 : decode cX9_layAt 95 = .ok (.imul, 1) := by decide +kernel
theorem dX9_layAt_96 : decode cX9_layAt 96 = .ok (.iconst 2, 1) := by decide +kernel
theorem dX9_layAt_97 : decode cX9_layAt 97 = .ok (.iadd, 1) := by decide +kernel
theorem dX9_layAt_98 : decode cX9_layAt 98 = .ok (.iaload, 1) := by decide +kernel
theorem dX9_layAt_99 : decode cX9_layAt 99 = .ok (.iastore, 1) := by decide +kernel
theorem dX9_layAt_100 : decode cX9_layAt 100 = .ok (.aload_n 0, 1) := by decide +kernel
theorem dX9_layAt_101 : decode cX9_layAt 101 = .ok (.getfield 41, 3) := by decide +kernel
theorem dX9_layAt_104 : decode cX9_layAt 104 = .ok (.iconst 1, 1) := by decide +kernel
theorem dX9_layAt_105 : decode cX9_layAt 105 = .ok (.aload_n 0, 1) := by decide +kernel
theorem dX9_layAt_106 : decode cX9_layAt 106 = .ok (.getfield 94, 3) := by decide +kernel
theorem dX9_layAt_109 : decode cX9_layAt 109 = .ok (.iconst 5, 1) := by decide +kernel
theorem dX9_layAt_110 : decode cX9_layAt 110 = .ok (.iload_n 1, 1) := by decide +kernel
theorem dX9_layAt_111 : decode cX9_layAt 111 = .ok (.imul, 1) := by decide +kernel
theorem dX9_layAt_112 : decode cX9_layAt 112 = .ok (.iconst 3, 1) := by decide +kernel
theorem dX9_layAt_113 : decode cX9_layAt 113 = .ok (.iadd, 1) := by decide +kernel
theorem dX9_layAt_114 : decode cX9_layAt 114 = .ok (.iaload, 1) := by decide +kernel
theorem dX9_layAt_115 : decode cX9_layAt 115 = .ok (.iastore, 1) := by decide +kernel
theorem dX9_layAt_116 : decode cX9_layAt 116 = .ok (.aload_n 0, 1) := by decide +kernel
theorem dX9_layAt_117 : decode cX9_layAt 117 = .ok (.getfield 44, 3) := by decide +kernel
theorem dX9_layAt_120 : decode cX9_layAt 120 = .ok (.iconst 1, 1) := by decide +kernel
theorem dX9_layAt_121 : decode cX9_layAt 121 = .ok (.aload_n 0, 1) := by decide +kernel
theorem dX9_layAt_122 : decode cX9_layAt 122 = .ok (.getfield 94, 3) := by decide +kernel
theorem dX9_layAt_125 : decode cX9_layAt 125 = .ok (.iconst 5, 1) := by decide +kernel
theorem dX9_layAt_126 : decode cX9_layAt 126 = .ok (.iload_n 1, 1) := by decide +kernel
theorem dX9_layAt_127 : decode cX9_layAt 127 = .ok (.imul, 1) := by decide +kernel
theorem dX9_layAt_128 : decode cX9_layAt 128 = .ok (.iconst 4, 1) := by decide +kernel
theorem dX9_layAt_129 : decode cX9_layAt 129 = .ok (.iadd, 1) := by decide +kernel
theorem dX9_layAt_130 : decode cX9_layAt 130 = .ok (.iaload, 1) := by decide +kernel
theorem dX9_layAt_131 : decode cX9_layAt 131 = .ok (.iastore, 1) := by decide +kernel
theorem dX9_layAt_132 : decode cX9_layAt 132 = .ok (.return_, 1) := by decide +kernel
theorem dX9_endWorth_0 : decode cX9_endWorth 0 = .ok (.iconst 0, 1) := by decide +kernel
theorem dX9_endWorth_1 : decode cX9_endWorth 1 = .ok (.istore_n 3, 1) := by decide +kernel
theorem dX9_endWorth_2 : decode cX9_endWorth 2 = .ok (.iload_n 3, 1) := by decide +kernel
theorem dX9_endWorth_3 : decode cX9_endWorth 3 = .ok (.aload_n 0, 1) := by decide +kernel
theorem dX9_endWorth_4 : decode cX9_endWorth 4 = .ok (.getfield 155, 3) := by decide +kernel
theorem dX9_endWorth_7 : decode cX9_endWorth 7 = .ok (.if_icmp .ge 35, 3) := by decide +kernel
theorem dX9_endWorth_10 : decode cX9_endWorth 10 = .ok (.aload_n 0, 1) := by decide +kernel
theorem dX9_endWorth_11 : decode cX9_endWorth 11 = .ok (.getfield 97, 3) := by decide +kernel
theorem dX9_endWorth_14 : decode cX9_endWorth 14 = .ok (.iconst 3, 1) := by decide +kernel
theorem dX9_endWorth_15 : decode cX9_endWorth 15 = .ok (.iload_n 1, 1) := by decide +kernel
theorem dX9_endWorth_16 : decode cX9_endWorth 16 = .ok (.imul, 1) := by decide +kernel
theorem dX9_endWorth_17 : decode cX9_endWorth 17 = .ok (.iload_n 3, 1) := by decide +kernel
theorem dX9_endWorth_18 : decode cX9_endWorth 18 = .ok (.iadd, 1) := by decide +kernel
theorem dX9_endWorth_19 : decode cX9_endWorth 19 = .ok (.iaload, 1) := by decide +kernel
theorem dX9_endWorth_20 : decode cX9_endWorth 20 = .ok (.iload_n 2, 1) := by decide +kernel
theorem dX9_endWorth_21 : decode cX9_endWorth 21 = .ok (.if_icmp .ne 15, 3) := by decide +kernel
theorem dX9_endWorth_24 : decode cX9_endWorth 24 = .ok (.aload_n 0, 1) := by decide +kernel
theorem dX9_endWorth_25 : decode cX9_endWorth 25 = .ok (.getfield 7, 3) := by decide +kernel
theorem dX9_endWorth_28 : decode cX9_endWorth 28 = .ok (.bipush 7, 2) := by decide +kernel
theorem dX9_endWorth_30 : decode cX9_endWorth 30 = .ok (.iload_n 2, 1) := by decide +kernel
theorem dX9_endWorth_31 : decode cX9_endWorth 31 = .ok (.imul, 1) := by decide +kernel
theorem dX9_endWorth_32 : decode cX9_endWorth 32 = .ok (.iload_n 3, 1) := by decide +kernel
theorem dX9_endWorth_33 : decode cX9_endWorth 33 = .ok (.iadd, 1) := by decide +kernel
theorem dX9_endWorth_34 : decode cX9_endWorth 34 = .ok (.iaload, 1) := by decide +kernel
theorem dX9_endWorth_35 : decode cX9_endWorth 35 = .ok (.ireturn, 1) := by decide +kernel
theorem dX9_endWorth_36 : decode cX9_endWorth 36 = .ok (.iinc 3 1, 3) := by decide +kernel
theorem dX9_endWorth_39 : decode cX9_endWorth 39 = .ok (.goto (-37), 3) := by decide +kernel
theorem dX9_endWorth_42 : decode cX9_endWorth 42 = .ok (.iconst 0, 1) := by decide +kernel
theorem dX9_endWorth_43 : decode cX9_endWorth 43 = .ok (.ireturn, 1) := by decide +kernel
theorem dX9_takeEnd_0 : decode cX9_takeEnd 0 = .ok (.iconst 0, 1) := by decide +kernel
theorem dX9_takeEnd_1 : decode cX9_takeEnd 1 = .ok (.istore_n 2, 1) := by decide +kernel
theorem dX9_takeEnd_2 : decode cX9_takeEnd 2 = .ok (.iload_n 2, 1) := by decide +kernel
theorem dX9_takeEnd_3 : decode cX9_takeEnd 3 = .ok (.aload_n 0, 1) := by decide +kernel
theorem dX9_takeEnd_4 : decode cX9_takeEnd 4 = .ok (.getfield 155, 3) := by decide +kernel
theorem dX9_takeEnd_7 : decode cX9_takeEnd 7 = .ok (.if_icmp .ge 31, 3) := by decide +kernel
theorem dX9_takeEnd_10 : decode cX9_takeEnd 10 = .ok (.aload_n 0, 1) := by decide +kernel
theorem dX9_takeEnd_11 : decode cX9_takeEnd 11 = .ok (.getfield 97, 3) := by decide +kernel
theorem dX9_takeEnd_14 : decode cX9_takeEnd 14 = .ok (.iconst 3, 1) := by decide +kernel
theorem dX9_takeEnd_15 : decode cX9_takeEnd 15 = .ok (.iload_n 1, 1) := by decide +kernel
theorem dX9_takeEnd_16 : decode cX9_takeEnd 16 = .ok (.imul, 1) := by decide +kernel
theorem dX9_takeEnd_17 : decode cX9_takeEnd 17 = .ok (.iload_n 2, 1) := by decide +kernel
theorem dX9_takeEnd_18 : decode cX9_takeEnd 18 = .ok (.iadd, 1) := by decide +kernel
theorem dX9_takeEnd_19 : decode cX9_takeEnd 19 = .ok (.aload_n 0, 1) := by decide +kernel
theorem dX9_takeEnd_20 : decode cX9_takeEnd 20 = .ok (.getfield 97, 3) := by decide +kernel
theorem dX9_takeEnd_23 : decode cX9_takeEnd 23 = .ok (.iconst 3, 1) := by decide +kernel
theorem dX9_takeEnd_24 : decode cX9_takeEnd 24 = .ok (.iload_n 1, 1) := by decide +kernel
theorem dX9_takeEnd_25 : decode cX9_takeEnd 25 = .ok (.imul, 1) := by decide +kernel
theorem dX9_takeEnd_26 : decode cX9_takeEnd 26 = .ok (.iconst 3, 1) := by decide +kernel
theorem dX9_takeEnd_27 : decode cX9_takeEnd 27 = .ok (.iadd, 1) := by decide +kernel
theorem dX9_takeEnd_28 : decode cX9_takeEnd 28 = .ok (.iload_n 2, 1) := by decide +kernel
theorem dX9_takeEnd_29 : decode cX9_takeEnd 29 = .ok (.iadd, 1) := by decide +kernel
theorem dX9_takeEnd_30 : decode cX9_takeEnd 30 = .ok (.iaload, 1) := by decide +kernel
theorem dX9_takeEnd_31 : decode cX9_takeEnd 31 = .ok (.iastore, 1) := by decide +kernel
theorem dX9_takeEnd_32 : decode cX9_takeEnd 32 = .ok (.iinc 2 1, 3) := by decide +kernel
theorem dX9_takeEnd_35 : decode cX9_takeEnd 35 = .ok (.goto (-33), 3) := by decide +kernel
theorem dX9_takeEnd_38 : decode cX9_takeEnd 38 = .ok (.aload_n 0, 1) := by decide +kernel
theorem dX9_takeEnd_39 : decode cX9_takeEnd 39 = .ok (.getfield 100, 3) := by decide +kernel
theorem dX9_takeEnd_42 : decode cX9_takeEnd 42 = .ok (.iload_n 1, 1) := by decide +kernel
theorem dX9_takeEnd_43 : decode cX9_takeEnd 43 = .ok (.aload_n 0, 1) := by decide +kernel
theorem dX9_takeEnd_44 : decode cX9_takeEnd 44 = .ok (.getfield 100, 3) := by decide +kernel
theorem dX9_takeEnd_47 : decode cX9_takeEnd 47 = .ok (.iload_n 1, 1) := by decide +kernel
theorem dX9_takeEnd_48 : decode cX9_takeEnd 48 = .ok (.iconst 1, 1) := by decide +kernel
theorem dX9_takeEnd_49 : decode cX9_takeEnd 49 = .ok (.iadd, 1) := by decide +kernel
theorem dX9_takeEnd_50 : decode cX9_takeEnd 50 = .ok (.iaload, 1) := by decide +kernel
theorem dX9_takeEnd_51 : decode cX9_takeEnd 51 = .ok (.iastore, 1) := by decide +kernel
theorem dX9_takeEnd_52 : decode cX9_takeEnd 52 = .ok (.return_, 1) := by decide +kernel
theorem dX9_goExact_0 : decode cX9_goExact 0 = .ok (.aload_n 0, 1) := by decide +kernel
theorem dX9_goExact_1 : decode cX9_goExact 1 = .ok (.getfield 35, 3) := by decide +kernel
theorem dX9_goExact_4 : decode cX9_goExact 4 = .ok (.iconst 1, 1) := by decide +kernel
theorem dX9_goExact_5 : decode cX9_goExact 5 = .ok (.iaload, 1) := by decide +kernel
theorem dX9_goExact_6 : decode cX9_goExact 6 = .ok (.ifCond .ge 51, 3) := by decide +kernel
theorem dX9_goExact_9 : decode cX9_goExact 9 = .ok (.iconst 0, 1) := by decide +kernel
theorem dX9_goExact_10 : decode cX9_goExact 10 = .ok (.istore_n 2, 1) := by decide +kernel
theorem dX9_goExact_11 : decode cX9_goExact 11 = .ok (.iload_n 2, 1) := by decide +kernel
theorem dX9_goExact_12 : decode cX9_goExact 12 = .ok (.aload_n 0, 1) := by decide +kernel
theorem dX9_goExact_13 : decode cX9_goExact 13 = .ok (.getfield 155, 3) := by decide +kernel
theorem dX9_goExact_16 : decode cX9_goExact 16 = .ok (.if_icmp .ge 28, 3) := by decide +kernel
theorem dX9_goExact_19 : decode cX9_goExact 19 = .ok (.aload_n 0, 1) := by decide +kernel
theorem dX9_goExact_20 : decode cX9_goExact 20 = .ok (.getfield 97, 3) := by decide +kernel
theorem dX9_goExact_23 : decode cX9_goExact 23 = .ok (.iconst 3, 1) := by decide +kernel
theorem dX9_goExact_24 : decode cX9_goExact 24 = .ok (.iload_n 1, 1) := by decide +kernel
theorem dX9_goExact_25 : decode cX9_goExact 25 = .ok (.imul, 1) := by decide +kernel
theorem dX9_goExact_26 : decode cX9_goExact 26 = .ok (.iload_n 2, 1) := by decide +kernel
theorem dX9_goExact_27 : decode cX9_goExact 27 = .ok (.iadd, 1) := by decide +kernel
theorem dX9_goExact_28 : decode cX9_goExact 28 = .ok (.aload_n 0, 1) := by decide +kernel
theorem dX9_goExact_29 : decode cX9_goExact 29 = .ok (.getfield 26, 3) := by decide +kernel
theorem dX9_goExact_32 : decode cX9_goExact 32 = .ok (.bipush 7, 2) := by decide +kernel
theorem dX9_goExact_34 : decode cX9_goExact 34 = .ok (.iload_n 2, 1) := by decide +kernel
theorem dX9_goExact_35 : decode cX9_goExact 35 = .ok (.iadd, 1) := by decide +kernel
theorem dX9_goExact_36 : decode cX9_goExact 36 = .ok (.iaload, 1) := by decide +kernel
theorem dX9_goExact_37 : decode cX9_goExact 37 = .ok (.iastore, 1) := by decide +kernel
theorem dX9_goExact_38 : decode cX9_goExact 38 = .ok (.iinc 2 1, 3) := by decide +kernel
theorem dX9_goExact_41 : decode cX9_goExact 41 = .ok (.goto (-30), 3) := by decide +kernel
theorem dX9_goExact_44 : decode cX9_goExact 44 = .ok (.aload_n 0, 1) := by decide +kernel
theorem dX9_goExact_45 : decode cX9_goExact 45 = .ok (.getfield 100, 3) := by decide +kernel
theorem dX9_goExact_48 : decode cX9_goExact 48 = .ok (.iload_n 1, 1) := by decide +kernel
theorem dX9_goExact_49 : decode cX9_goExact 49 = .ok (.aload_n 0, 1) := by decide +kernel
theorem dX9_goExact_50 : decode cX9_goExact 50 = .ok (.getfield 44, 3) := by decide +kernel
theorem dX9_goExact_53 : decode cX9_goExact 53 = .ok (.iconst 1, 1) := by decide +kernel
theorem dX9_goExact_54 : decode cX9_goExact 54 = .ok (.iaload, 1) := by decide +kernel
theorem dX9_goExact_55 : decode cX9_goExact 55 = .ok (.iastore, 1) := by decide +kernel
theorem dX9_goExact_56 : decode cX9_goExact 56 = .ok (.return_, 1) := by decide +kernel
theorem dX9_goExact_57 : decode cX9_goExact 57 = .ok (.aload_n 0, 1) := by decide +kernel
theorem dX9_goExact_58 : decode cX9_goExact 58 = .ok (.getfield 35, 3) := by decide +kernel
theorem dX9_goExact_61 : decode cX9_goExact 61 = .ok (.iconst 1, 1) := by decide +kernel
theorem dX9_goExact_62 : decode cX9_goExact 62 = .ok (.iaload, 1) := by decide +kernel
theorem dX9_goExact_63 : decode cX9_goExact 63 = .ok (.istore_n 2, 1) := by decide +kernel
theorem dX9_goExact_64 : decode cX9_goExact 64 = .ok (.aload_n 0, 1) := by decide +kernel
theorem dX9_goExact_65 : decode cX9_goExact 65 = .ok (.iload_n 1, 1) := by decide +kernel
theorem dX9_goExact_66 : decode cX9_goExact 66 = .ok (.invokevirtual 337, 3) := by decide +kernel
theorem dX9_goExact_69 : decode cX9_goExact 69 = .ok (.aload_n 0, 1) := by decide +kernel
theorem dX9_goExact_70 : decode cX9_goExact 70 = .ok (.iconst 1, 1) := by decide +kernel
theorem dX9_goExact_71 : decode cX9_goExact 71 = .ok (.invokevirtual 308, 3) := by decide +kernel
theorem dX9_goExact_74 : decode cX9_goExact 74 = .ok (.pop, 1) := by decide +kernel
theorem dX9_goExact_75 : decode cX9_goExact 75 = .ok (.aload_n 0, 1) := by decide +kernel
theorem dX9_goExact_76 : decode cX9_goExact 76 = .ok (.iload_n 1, 1) := by decide +kernel
theorem dX9_goExact_77 : decode cX9_goExact 77 = .ok (.iconst 1, 1) := by decide +kernel
theorem dX9_goExact_78 : decode cX9_goExact 78 = .ok (.iadd, 1) := by decide +kernel
theorem dX9_goExact_79 : decode cX9_goExact 79 = .ok (.invokevirtual 340, 3) := by decide +kernel
theorem dX9_goExact_82 : decode cX9_goExact 82 = .ok (.aload_n 0, 1) := by decide +kernel
theorem dX9_goExact_83 : decode cX9_goExact 83 = .ok (.iload_n 1, 1) := by decide +kernel
theorem dX9_goExact_84 : decode cX9_goExact 84 = .ok (.invokevirtual 343, 3) := by decide +kernel
theorem dX9_goExact_87 : decode cX9_goExact 87 = .ok (.aload_n 0, 1) := by decide +kernel
theorem dX9_goExact_88 : decode cX9_goExact 88 = .ok (.iload_n 1, 1) := by decide +kernel
theorem dX9_goExact_89 : decode cX9_goExact 89 = .ok (.invokevirtual 346, 3) := by decide +kernel
theorem dX9_goExact_92 : decode cX9_goExact 92 = .ok (.iconst 0, 1) := by decide +kernel
theorem dX9_goExact_93 : decode cX9_goExact 93 = .ok (.istore_n 3, 1) := by decide +kernel
theorem dX9_goExact_94 : decode cX9_goExact 94 = .ok (.iload_n 3, 1) := by decide +kernel
theorem dX9_goExact_95 : decode cX9_goExact 95 = .ok (.aload_n 0, 1) := by decide +kernel
theorem dX9_goExact_96 : decode cX9_goExact 96 = .ok (.getfield 155, 3) := by decide +kernel
theorem dX9_goExact_99 : decode cX9_goExact 99 = .ok (.if_icmp .ge 62, 3) := by decide +kernel
theorem dX9_goExact_102 : decode cX9_goExact 102 = .ok (.aload_n 0, 1) := by decide +kernel
theorem dX9_goExact_103 : decode cX9_goExact 103 = .ok (.iconst 1, 1) := by decide +kernel
theorem dX9_goExact_104 : decode cX9_goExact 104 = .ok (.iload_n 3, 1) := by decide +kernel
theorem dX9_goExact_105 : decode cX9_goExact 105 = .ok (.invokevirtual 301, 3) := by decide +kernel
theorem dX9_goExact_108 : decode cX9_goExact 108 = .ok (.ifCond .ne 6, 3) := by decide +kernel
theorem dX9_goExact_111 : decode cX9_goExact 111 = .ok (.goto 44, 3) := by decide +kernel
theorem dX9_goExact_114 : decode cX9_goExact 114 = .ok (.aload_n 0, 1) := by decide +kernel
theorem dX9_goExact_115 : decode cX9_goExact 115 = .ok (.iconst 1, 1) := by decide +kernel
theorem dX9_goExact_116 : decode cX9_goExact 116 = .ok (.iload_n 3, 1) := by decide +kernel
theorem dX9_goExact_117 : decode cX9_goExact 117 = .ok (.invokevirtual 311, 3) := by decide +kernel
theorem dX9_goExact_120 : decode cX9_goExact 120 = .ok (.pop, 1) := by decide +kernel
theorem dX9_goExact_121 : decode cX9_goExact 121 = .ok (.aload_n 0, 1) := by decide +kernel
theorem dX9_goExact_122 : decode cX9_goExact 122 = .ok (.iload_n 1, 1) := by decide +kernel
theorem dX9_goExact_123 : decode cX9_goExact 123 = .ok (.iconst 1, 1) := by decide +kernel
theorem dX9_goExact_124 : decode cX9_goExact 124 = .ok (.iadd, 1) := by decide +kernel
theorem dX9_goExact_125 : decode cX9_goExact 125 = .ok (.invokevirtual 340, 3) := by decide +kernel
theorem dX9_goExact_128 : decode cX9_goExact 128 = .ok (.aload_n 0, 1) := by decide +kernel
theorem dX9_goExact_129 : decode cX9_goExact 129 = .ok (.iload_n 1, 1) := by decide +kernel
theorem dX9_goExact_130 : decode cX9_goExact 130 = .ok (.iconst 1, 1) := by decide +kernel
theorem dX9_goExact_131 : decode cX9_goExact 131 = .ok (.iadd, 1) := by decide +kernel
theorem dX9_goExact_132 : decode cX9_goExact 132 = .ok (.iload_n 2, 1) := by decide +kernel
theorem dX9_goExact_133 : decode cX9_goExact 133 = .ok (.invokevirtual 349, 3) := by decide +kernel
theorem dX9_goExact_136 : decode cX9_goExact 136 = .ok (.aload_n 0, 1) := by decide +kernel
theorem dX9_goExact_137 : decode cX9_goExact 137 = .ok (.iload_n 1, 1) := by decide +kernel
theorem dX9_goExact_138 : decode cX9_goExact 138 = .ok (.iload_n 2, 1) := by decide +kernel
theorem dX9_goExact_139 : decode cX9_goExact 139 = .ok (.invokevirtual 349, 3) := by decide +kernel
theorem dX9_goExact_142 : decode cX9_goExact 142 = .ok (.if_icmp .le 8, 3) := by decide +kernel
theorem dX9_goExact_145 : decode cX9_goExact 145 = .ok (.aload_n 0, 1) := by decide +kernel
theorem dX9_goExact_146 : decode cX9_goExact 146 = .ok (.iload_n 1, 1) := by decide +kernel
theorem dX9_goExact_147 : decode cX9_goExact 147 = .ok (.invokevirtual 343, 3) := by decide +kernel
theorem dX9_goExact_150 : decode cX9_goExact 150 = .ok (.aload_n 0, 1) := by decide +kernel
theorem dX9_goExact_151 : decode cX9_goExact 151 = .ok (.iload_n 1, 1) := by decide +kernel
theorem dX9_goExact_152 : decode cX9_goExact 152 = .ok (.invokevirtual 346, 3) := by decide +kernel
theorem dX9_goExact_155 : decode cX9_goExact 155 = .ok (.iinc 3 1, 3) := by decide +kernel
theorem dX9_goExact_158 : decode cX9_goExact 158 = .ok (.goto (-64), 3) := by decide +kernel
theorem dX9_goExact_161 : decode cX9_goExact 161 = .ok (.return_, 1) := by decide +kernel
theorem dX9_exact_0 : decode cX9_exact 0 = .ok (.iload_n 1, 1) := by decide +kernel
theorem dX9_exact_1 : decode cX9_exact 1 = .ok (.iconst (-1), 1) := by decide +kernel
theorem dX9_exact_2 : decode cX9_exact 2 = .ok (.aload_n 0, 1) := by decide +kernel
theorem dX9_exact_3 : decode cX9_exact 3 = .ok (.getfield 155, 3) := by decide +kernel
theorem dX9_exact_6 : decode cX9_exact 6 = .ok (.iconst 1, 1) := by decide +kernel
theorem dX9_exact_7 : decode cX9_exact 7 = .ok (.isub, 1) := by decide +kernel
theorem dX9_exact_8 : decode cX9_exact 8 = .ok (.invokestatic 158, 3) := by decide +kernel
theorem dX9_exact_11 : decode cX9_exact 11 = .ok (.ifCond .ne 5, 3) := by decide +kernel
theorem dX9_exact_14 : decode cX9_exact 14 = .ok (.iconst (-1), 1) := by decide +kernel
theorem dX9_exact_15 : decode cX9_exact 15 = .ok (.ireturn, 1) := by decide +kernel
theorem dX9_exact_16 : decode cX9_exact 16 = .ok (.aload_n 0, 1) := by decide +kernel
theorem dX9_exact_17 : decode cX9_exact 17 = .ok (.getfield 155, 3) := by decide +kernel
theorem dX9_exact_20 : decode cX9_exact 20 = .ok (.iconst 3, 1) := by decide +kernel
theorem dX9_exact_21 : decode cX9_exact 21 = .ok (.if_icmp .gt 11, 3) := by decide +kernel
theorem dX9_exact_24 : decode cX9_exact 24 = .ok (.aload_n 0, 1) := by decide +kernel
theorem dX9_exact_25 : decode cX9_exact 25 = .ok (.getfield 19, 3) := by decide +kernel
theorem dX9_exact_28 : decode cX9_exact 28 = .ok (.iconst 2, 1) := by decide +kernel
theorem dX9_exact_29 : decode cX9_exact 29 = .ok (.if_icmp .le 6, 3) := by decide +kernel
theorem dX9_exact_32 : decode cX9_exact 32 = .ok (.bipush (-5), 2) := by decide +kernel
theorem dX9_exact_34 : decode cX9_exact 34 = .ok (.ireturn, 1) := by decide +kernel
theorem dX9_exact_35 : decode cX9_exact 35 = .ok (.aload_n 0, 1) := by decide +kernel
theorem dX9_exact_36 : decode cX9_exact 36 = .ok (.iconst 1, 1) := by decide +kernel
theorem dX9_exact_37 : decode cX9_exact 37 = .ok (.invokevirtual 162, 3) := by decide +kernel
theorem dX9_exact_40 : decode cX9_exact 40 = .ok (.aload_n 0, 1) := by decide +kernel
theorem dX9_exact_41 : decode cX9_exact 41 = .ok (.iconst 0, 1) := by decide +kernel
theorem dX9_exact_42 : decode cX9_exact 42 = .ok (.invokevirtual 340, 3) := by decide +kernel
theorem dX9_exact_45 : decode cX9_exact 45 = .ok (.iload_n 1, 1) := by decide +kernel
theorem dX9_exact_46 : decode cX9_exact 46 = .ok (.ifCond .ge 10, 3) := by decide +kernel
theorem dX9_exact_49 : decode cX9_exact 49 = .ok (.aload_n 0, 1) := by decide +kernel
theorem dX9_exact_50 : decode cX9_exact 50 = .ok (.getfield 100, 3) := by decide +kernel
theorem dX9_exact_53 : decode cX9_exact 53 = .ok (.iconst 0, 1) := by decide +kernel
theorem dX9_exact_54 : decode cX9_exact 54 = .ok (.iaload, 1) := by decide +kernel
theorem dX9_exact_55 : decode cX9_exact 55 = .ok (.ireturn, 1) := by decide +kernel
theorem dX9_exact_56 : decode cX9_exact 56 = .ok (.iconst 0, 1) := by decide +kernel
theorem dX9_exact_57 : decode cX9_exact 57 = .ok (.istore_n 2, 1) := by decide +kernel
theorem dX9_exact_58 : decode cX9_exact 58 = .ok (.iload_n 2, 1) := by decide +kernel
theorem dX9_exact_59 : decode cX9_exact 59 = .ok (.aload_n 0, 1) := by decide +kernel
theorem dX9_exact_60 : decode cX9_exact 60 = .ok (.getfield 155, 3) := by decide +kernel
theorem dX9_exact_63 : decode cX9_exact 63 = .ok (.if_icmp .ge 21, 3) := by decide +kernel
theorem dX9_exact_66 : decode cX9_exact 66 = .ok (.aload_n 0, 1) := by decide +kernel
theorem dX9_exact_67 : decode cX9_exact 67 = .ok (.getfield 97, 3) := by decide +kernel
theorem dX9_exact_70 : decode cX9_exact 70 = .ok (.iload_n 2, 1) := by decide +kernel
theorem dX9_exact_71 : decode cX9_exact 71 = .ok (.iaload, 1) := by decide +kernel
theorem dX9_exact_72 : decode cX9_exact 72 = .ok (.iload_n 1, 1) := by decide +kernel
theorem dX9_exact_73 : decode cX9_exact 73 = .ok (.if_icmp .ne 5, 3) := by decide +kernel
theorem dX9_exact_76 : decode cX9_exact 76 = .ok (.iload_n 2, 1) := by decide +kernel
theorem dX9_exact_77 : decode cX9_exact 77 = .ok (.ireturn, 1) := by decide +kernel
theorem dX9_exact_78 : decode cX9_exact 78 = .ok (.iinc 2 1, 3) := by decide +kernel
theorem dX9_exact_81 : decode cX9_exact 81 = .ok (.goto (-23), 3) := by decide +kernel
theorem dX9_exact_84 : decode cX9_exact 84 = .ok (.bipush (-2), 2) := by decide +kernel
theorem dX9_exact_86 : decode cX9_exact 86 = .ok (.ireturn, 1) := by decide +kernel
theorem dX9_goParts_0 : decode cX9_goParts 0 = .ok (.iload_n 1, 1) := by decide +kernel
theorem dX9_goParts_1 : decode cX9_goParts 1 = .ok (.aload_n 0, 1) := by decide +kernel
theorem dX9_goParts_2 : decode cX9_goParts 2 = .ok (.getfield 155, 3) := by decide +kernel
theorem dX9_goParts_5 : decode cX9_goParts 5 = .ok (.if_icmp .ne 50, 3) := by decide +kernel
theorem dX9_goParts_8 : decode cX9_goParts 8 = .ok (.iload_n 3, 1) := by decide +kernel
theorem dX9_goParts_9 : decode cX9_goParts 9 = .ok (.aload_n 0, 1) := by decide +kernel
theorem dX9_goParts_10 : decode cX9_goParts 10 = .ok (.getfield 352, 3) := by decide +kernel
theorem dX9_goParts_13 : decode cX9_goParts 13 = .ok (.if_icmp .gt 4, 3) := by decide +kernel
theorem dX9_goParts_16 : decode cX9_goParts 16 = .ok (.return_, 1) := by decide +kernel
theorem dX9_goParts_17 : decode cX9_goParts 17 = .ok (.aload_n 0, 1) := by decide +kernel
theorem dX9_goParts_18 : decode cX9_goParts 18 = .ok (.iload_n 3, 1) := by decide +kernel
theorem dX9_goParts_19 : decode cX9_goParts 19 = .ok (.putfield 352, 3) := by decide +kernel
theorem dX9_goParts_22 : decode cX9_goParts 22 = .ok (.iconst 0, 1) := by decide +kernel
theorem dX9_goParts_23 : decode cX9_goParts 23 = .ok (.istore 4, 2) := by decide +kernel
theorem dX9_goParts_25 : decode cX9_goParts 25 = .ok (.iload 4, 2) := by decide +kernel
theorem dX9_goParts_27 : decode cX9_goParts 27 = .ok (.aload_n 0, 1) := by decide +kernel
theorem dX9_goParts_28 : decode cX9_goParts 28 = .ok (.getfield 155, 3) := by decide +kernel
theorem dX9_goParts_31 : decode cX9_goParts 31 = .ok (.if_icmp .ge 23, 3) := by decide +kernel
theorem dX9_goParts_34 : decode cX9_goParts 34 = .ok (.aload_n 0, 1) := by decide +kernel
theorem dX9_goParts_35 : decode cX9_goParts 35 = .ok (.getfield 106, 3) := by decide +kernel
theorem dX9_goParts_38 : decode cX9_goParts 38 = .ok (.iload 4, 2) := by decide +kernel
theorem dX9_goParts_40 : decode cX9_goParts 40 = .ok (.aload_n 0, 1) := by decide +kernel
theorem dX9_goParts_41 : decode cX9_goParts 41 = .ok (.getfield 103, 3) := by decide +kernel
theorem dX9_goParts_44 : decode cX9_goParts 44 = .ok (.iload 4, 2) := by decide +kernel
theorem dX9_goParts_46 : decode cX9_goParts 46 = .ok (.iaload, 1) := by decide +kernel
theorem dX9_goParts_47 : decode cX9_goParts 47 = .ok (.iastore, 1) := by decide +kernel
theorem dX9_goParts_48 : decode cX9_goParts 48 = .ok (.iinc 4 1, 3) := by decide +kernel
theorem dX9_goParts_51 : decode cX9_goParts 51 = .ok (.goto (-26), 3) := by decide +kernel
theorem dX9_goParts_54 : decode cX9_goParts 54 = .ok (.return_, 1) := by decide +kernel
theorem dX9_goParts_55 : decode cX9_goParts 55 = .ok (.iconst 0, 1) := by decide +kernel
theorem dX9_goParts_56 : decode cX9_goParts 56 = .ok (.istore 4, 2) := by decide +kernel
theorem dX9_goParts_58 : decode cX9_goParts 58 = .ok (.iload 4, 2) := by decide +kernel
theorem dX9_goParts_60 : decode cX9_goParts 60 = .ok (.aload_n 0, 1) := by decide +kernel
theorem dX9_goParts_61 : decode cX9_goParts 61 = .ok (.getfield 155, 3) := by decide +kernel
theorem dX9_goParts_64 : decode cX9_goParts 64 = .ok (.if_icmp .ge 57, 3) := by decide +kernel
theorem dX9_goParts_67 : decode cX9_goParts 67 = .ok (.iload_n 2, 1) := by decide +kernel
theorem dX9_goParts_68 : decode cX9_goParts 68 = .ok (.iload 4, 2) := by decide +kernel
theorem dX9_goParts_70 : decode cX9_goParts 70 = .ok (.invokestatic 210, 3) := by decide +kernel
theorem dX9_goParts_73 : decode cX9_goParts 73 = .ok (.iconst 1, 1) := by decide +kernel
theorem dX9_goParts_74 : decode cX9_goParts 74 = .ok (.if_icmp .ne 6, 3) := by decide +kernel
theorem dX9_goParts_77 : decode cX9_goParts 77 = .ok (.goto 38, 3) := by decide +kernel
theorem dX9_goParts_80 : decode cX9_goParts 80 = .ok (.aload_n 0, 1) := by decide +kernel
theorem dX9_goParts_81 : decode cX9_goParts 81 = .ok (.getfield 103, 3) := by decide +kernel
theorem dX9_goParts_84 : decode cX9_goParts 84 = .ok (.iload_n 1, 1) := by decide +kernel
theorem dX9_goParts_85 : decode cX9_goParts 85 = .ok (.iload 4, 2) := by decide +kernel
theorem dX9_goParts_87 : decode cX9_goParts 87 = .ok (.iastore, 1) := by decide +kernel
theorem dX9_goParts_88 : decode cX9_goParts 88 = .ok (.aload_n 0, 1) := by decide +kernel
theorem dX9_goParts_89 : decode cX9_goParts 89 = .ok (.iload_n 1, 1) := by decide +kernel
theorem dX9_goParts_90 : decode cX9_goParts 90 = .ok (.iconst 1, 1) := by decide +kernel
theorem dX9_goParts_91 : decode cX9_goParts 91 = .ok (.iadd, 1) := by decide +kernel
theorem dX9_goParts_92 : decode cX9_goParts 92 = .ok (.iload_n 2, 1) := by decide +kernel
theorem dX9_goParts_93 : decode cX9_goParts 93 = .ok (.iconst 1, 1) := by decide +kernel
theorem dX9_goParts_94 : decode cX9_goParts 94 = .ok (.iload 4, 2) := by decide +kernel
theorem dX9_goParts_96 : decode cX9_goParts 96 = .ok (.ishl, 1) := by decide +kernel
theorem dX9_goParts_97 : decode cX9_goParts 97 = .ok (.ior, 1) := by decide +kernel
theorem dX9_goParts_98 : decode cX9_goParts 98 = .ok (.iload_n 3, 1) := by decide +kernel
theorem dX9_goParts_99 : decode cX9_goParts 99 = .ok (.aload_n 0, 1) := by decide +kernel
theorem dX9_goParts_100 : decode cX9_goParts 100 = .ok (.getfield 7, 3) := by decide +kernel
theorem dX9_goParts_103 : decode cX9_goParts 103 = .ok (.bipush 7, 2) := by decide +kernel
theorem dX9_goParts_105 : decode cX9_goParts 105 = .ok (.iload_n 1, 1) := by decide +kernel
theorem dX9_goParts_106 : decode cX9_goParts 106 = .ok (.imul, 1) := by decide +kernel
theorem dX9_goParts_107 : decode cX9_goParts 107 = .ok (.iload 4, 2) := by decide +kernel
theorem dX9_goParts_109 : decode cX9_goParts 109 = .ok (.iadd, 1) := by decide +kernel
theorem dX9_goParts_110 : decode cX9_goParts 110 = .ok (.iaload, 1) := by decide +kernel
theorem dX9_goParts_111 : decode cX9_goParts 111 = .ok (.iadd, 1) := by decide +kernel
theorem dX9_goParts_112 : decode cX9_goParts 112 = .ok (.invokevirtual 355, 3) := by decide +kernel
theorem dX9_goParts_115 : decode cX9_goParts 115 = .ok (.iinc 4 1, 3) := by decide +kernel
theorem dX9_goParts_118 : decode cX9_goParts 118 = .ok (.goto (-60), 3) := by decide +kernel
theorem dX9_goParts_121 : decode cX9_goParts 121 = .ok (.return_, 1) := by decide +kernel
theorem dX9_best_0 : decode cX9_best 0 = .ok (.iload_n 1, 1) := by decide +kernel
theorem dX9_best_1 : decode cX9_best 1 = .ok (.iconst (-1), 1) := by decide +kernel
theorem dX9_best_2 : decode cX9_best 2 = .ok (.aload_n 0, 1) := by decide +kernel
theorem dX9_best_3 : decode cX9_best 3 = .ok (.getfield 155, 3) := by decide +kernel
theorem dX9_best_6 : decode cX9_best 6 = .ok (.iconst 1, 1) := by decide +kernel
theorem dX9_best_7 : decode cX9_best 7 = .ok (.isub, 1) := by decide +kernel
theorem dX9_best_8 : decode cX9_best 8 = .ok (.invokestatic 158, 3) := by decide +kernel
theorem dX9_best_11 : decode cX9_best 11 = .ok (.ifCond .ne 5, 3) := by decide +kernel
theorem dX9_best_14 : decode cX9_best 14 = .ok (.iconst (-1), 1) := by decide +kernel
theorem dX9_best_15 : decode cX9_best 15 = .ok (.ireturn, 1) := by decide +kernel
theorem dX9_best_16 : decode cX9_best 16 = .ok (.aload_n 0, 1) := by decide +kernel
theorem dX9_best_17 : decode cX9_best 17 = .ok (.iconst (-1), 1) := by decide +kernel
theorem dX9_best_18 : decode cX9_best 18 = .ok (.putfield 352, 3) := by decide +kernel
theorem dX9_best_21 : decode cX9_best 21 = .ok (.aload_n 0, 1) := by decide +kernel
theorem dX9_best_22 : decode cX9_best 22 = .ok (.iconst 0, 1) := by decide +kernel
theorem dX9_best_23 : decode cX9_best 23 = .ok (.iconst 0, 1) := by decide +kernel
theorem dX9_best_24 : decode cX9_best 24 = .ok (.iconst 0, 1) := by decide +kernel
theorem dX9_best_25 : decode cX9_best 25 = .ok (.invokevirtual 355, 3) := by decide +kernel
theorem dX9_best_28 : decode cX9_best 28 = .ok (.iload_n 1, 1) := by decide +kernel
theorem dX9_best_29 : decode cX9_best 29 = .ok (.ifCond .ge 10, 3) := by decide +kernel
theorem dX9_best_32 : decode cX9_best 32 = .ok (.aload_n 0, 1) := by decide +kernel
theorem dX9_best_33 : decode cX9_best 33 = .ok (.getfield 352, 3) := by decide +kernel
theorem dX9_best_36 : decode cX9_best 36 = .ok (.goto 9, 3) := by decide +kernel
theorem dX9_best_39 : decode cX9_best 39 = .ok (.aload_n 0, 1) := by decide +kernel
theorem dX9_best_40 : decode cX9_best 40 = .ok (.getfield 106, 3) := by decide +kernel
theorem dX9_best_43 : decode cX9_best 43 = .ok (.iload_n 1, 1) := by decide +kernel
theorem dX9_best_44 : decode cX9_best 44 = .ok (.iaload, 1) := by decide +kernel
theorem dX9_best_45 : decode cX9_best 45 = .ok (.ireturn, 1) := by decide +kernel
theorem dX9_pairs_0 : decode cX9_pairs 0 = .ok (.aload_n 0, 1) := by decide +kernel
theorem dX9_pairs_1 : decode cX9_pairs 1 = .ok (.invokevirtual 334, 3) := by decide +kernel
theorem dX9_pairs_4 : decode cX9_pairs 4 = .ok (.iconst 0, 1) := by decide +kernel
theorem dX9_pairs_5 : decode cX9_pairs 5 = .ok (.istore_n 1, 1) := by decide +kernel
theorem dX9_pairs_6 : decode cX9_pairs 6 = .ok (.iconst 0, 1) := by decide +kernel
theorem dX9_pairs_7 : decode cX9_pairs 7 = .ok (.istore_n 2, 1) := by decide +kernel
theorem dX9_pairs_8 : decode cX9_pairs 8 = .ok (.iload_n 2, 1) := by decide +kernel
theorem dX9_pairs_9 : decode cX9_pairs 9 = .ok (.aload_n 0, 1) := by decide +kernel
theorem dX9_pairs_10 : decode cX9_pairs 10 = .ok (.getfield 155, 3) := by decide +kernel
theorem dX9_pairs_13 : decode cX9_pairs 13 = .ok (.if_icmp .ge 106, 3) := by decide +kernel
theorem dX9_pairs_16 : decode cX9_pairs 16 = .ok (.iload_n 2, 1) := by decide +kernel
theorem dX9_pairs_17 : decode cX9_pairs 17 = .ok (.iconst 1, 1) := by decide +kernel
theorem dX9_pairs_18 : decode cX9_pairs 18 = .ok (.iadd, 1) := by decide +kernel
theorem dX9_pairs_19 : decode cX9_pairs 19 = .ok (.istore_n 3, 1) := by decide +kernel
theorem dX9_pairs_20 : decode cX9_pairs 20 = .ok (.iload_n 3, 1) := by decide +kernel
theorem dX9_pairs_21 : decode cX9_pairs 21 = .ok (.aload_n 0, 1) := by decide +kernel
theorem dX9_pairs_22 : decode cX9_pairs 22 = .ok (.getfield 155, 3) := by decide +kernel
theorem dX9_pairs_25 : decode cX9_pairs 25 = .ok (.if_icmp .ge 88, 3) := by decide +kernel
theorem dX9_pairs_28 : decode cX9_pairs 28 = .ok (.aload_n 0, 1) := by decide +kernel
theorem dX9_pairs_29 : decode cX9_pairs 29 = .ok (.getfield 26, 3) := by decide +kernel
theorem dX9_pairs_32 : decode cX9_pairs 32 = .ok (.bipush 7, 2) := by decide +kernel
theorem dX9_pairs_34 : decode cX9_pairs 34 = .ok (.iload_n 2, 1) := by decide +kernel
theorem dX9_pairs_35 : decode cX9_pairs 35 = .ok (.iadd, 1) := by decide +kernel
theorem dX9_pairs_36 : decode cX9_pairs 36 = .ok (.iaload, 1) := by decide +kernel
theorem dX9_pairs_37 : decode cX9_pairs 37 = .ok (.istore 4, 2) := by decide +kernel
theorem dX9_pairs_39 : decode cX9_pairs 39 = .ok (.aload_n 0, 1) := by decide +kernel
theorem dX9_pairs_40 : decode cX9_pairs 40 = .ok (.getfield 26, 3) := by decide +kernel
theorem dX9_pairs_43 : decode cX9_pairs 43 = .ok (.bipush 7, 2) := by decide +kernel
theorem dX9_pairs_45 : decode cX9_pairs 45 = .ok (.iload_n 3, 1) := by decide +kernel
theorem dX9_pairs_46 : decode cX9_pairs 46 = .ok (.iadd, 1) := by decide +kernel
theorem dX9_pairs_47 : decode cX9_pairs 47 = .ok (.iaload, 1) := by decide +kernel
theorem dX9_pairs_48 : decode cX9_pairs 48 = .ok (.istore 5, 2) := by decide +kernel
theorem dX9_pairs_50 : decode cX9_pairs 50 = .ok (.aload_n 0, 1) := by decide +kernel
theorem dX9_pairs_51 : decode cX9_pairs 51 = .ok (.getfield 7, 3) := by decide +kernel
theorem dX9_pairs_54 : decode cX9_pairs 54 = .ok (.bipush 7, 2) := by decide +kernel
theorem dX9_pairs_56 : decode cX9_pairs 56 = .ok (.iload 4, 2) := by decide +kernel
theorem dX9_pairs_58 : decode cX9_pairs 58 = .ok (.imul, 1) := by decide +kernel
theorem dX9_pairs_59 : decode cX9_pairs 59 = .ok (.iload_n 3, 1) := by decide +kernel
theorem dX9_pairs_60 : decode cX9_pairs 60 = .ok (.iadd, 1) := by decide +kernel
theorem dX9_pairs_61 : decode cX9_pairs 61 = .ok (.iaload, 1) := by decide +kernel
theorem dX9_pairs_62 : decode cX9_pairs 62 = .ok (.aload_n 0, 1) := by decide +kernel
theorem dX9_pairs_63 : decode cX9_pairs 63 = .ok (.getfield 7, 3) := by decide +kernel
theorem dX9_pairs_66 : decode cX9_pairs 66 = .ok (.bipush 7, 2) := by decide +kernel
theorem dX9_pairs_68 : decode cX9_pairs 68 = .ok (.iload 4, 2) := by decide +kernel
theorem dX9_pairs_70 : decode cX9_pairs 70 = .ok (.imul, 1) := by decide +kernel
theorem dX9_pairs_71 : decode cX9_pairs 71 = .ok (.iload_n 2, 1) := by decide +kernel
theorem dX9_pairs_72 : decode cX9_pairs 72 = .ok (.iadd, 1) := by decide +kernel
theorem dX9_pairs_73 : decode cX9_pairs 73 = .ok (.iaload, 1) := by decide +kernel
theorem dX9_pairs_74 : decode cX9_pairs 74 = .ok (.if_icmp .le 33, 3) := by decide +kernel
theorem dX9_pairs_77 : decode cX9_pairs 77 = .ok (.aload_n 0, 1) := by decide +kernel
theorem dX9_pairs_78 : decode cX9_pairs 78 = .ok (.getfield 7, 3) := by decide +kernel
theorem dX9_pairs_81 : decode cX9_pairs 81 = .ok (.bipush 7, 2) := by decide +kernel
theorem dX9_pairs_83 : decode cX9_pairs 83 = .ok (.iload 5, 2) := by decide +kernel
theorem dX9_pairs_85 : decode cX9_pairs 85 = .ok (.imul, 1) := by decide +kernel
theorem dX9_pairs_86 : decode cX9_pairs 86 = .ok (.iload_n 2, 1) := by decide +kernel
theorem dX9_pairs_87 : decode cX9_pairs 87 = .ok (.iadd, 1) := by decide +kernel
theorem dX9_pairs_88 : decode cX9_pairs 88 = .ok (.iaload, 1) := by decide +kernel
theorem dX9_pairs_89 : decode cX9_pairs 89 = .ok (.aload_n 0, 1) := by decide +kernel
theorem dX9_pairs_90 : decode cX9_pairs 90 = .ok (.getfield 7, 3) := by decide +kernel
theorem dX9_pairs_93 : decode cX9_pairs 93 = .ok (.bipush 7, 2) := by decide +kernel
theorem dX9_pairs_95 : decode cX9_pairs 95 = .ok (.iload 5, 2) := by decide +kernel
theorem dX9_pairs_97 : decode cX9_pairs 97 = .ok (.imul, 1) := by decide +kernel
theorem dX9_pairs_98 : decode cX9_pairs 98 = .ok (.iload_n 3, 1) := by decide +kernel
theorem dX9_pairs_99 : decode cX9_pairs 99 = .ok (.iadd, 1) := by decide +kernel
theorem dX9_pairs_100 : decode cX9_pairs 100 = .ok (.iaload, 1) := by decide +kernel
theorem dX9_pairs_101 : decode cX9_pairs 101 = .ok (.if_icmp .le 6, 3) := by decide +kernel
theorem dX9_pairs_104 : decode cX9_pairs 104 = .ok (.iinc 1 1, 3) := by decide +kernel
theorem dX9_pairs_107 : decode cX9_pairs 107 = .ok (.iinc 3 1, 3) := by decide +kernel
theorem dX9_pairs_110 : decode cX9_pairs 110 = .ok (.goto (-90), 3) := by decide +kernel
theorem dX9_pairs_113 : decode cX9_pairs 113 = .ok (.iinc 2 1, 3) := by decide +kernel
theorem dX9_pairs_116 : decode cX9_pairs 116 = .ok (.goto (-108), 3) := by decide +kernel
theorem dX9_pairs_119 : decode cX9_pairs 119 = .ok (.iload_n 1, 1) := by decide +kernel
theorem dX9_pairs_120 : decode cX9_pairs 120 = .ok (.ireturn, 1) := by decide +kernel
theorem dX9_face_0 : decode cX9_face 0 = .ok (.aload_n 0, 1) := by decide +kernel
theorem dX9_face_1 : decode cX9_face 1 = .ok (.iload_n 1, 1) := by decide +kernel
theorem dX9_face_2 : decode cX9_face 2 = .ok (.invokevirtual 194, 3) := by decide +kernel
theorem dX9_face_5 : decode cX9_face 5 = .ok (.ifCond .ne 5, 3) := by decide +kernel
theorem dX9_face_8 : decode cX9_face 8 = .ok (.iconst (-1), 1) := by decide +kernel
theorem dX9_face_9 : decode cX9_face 9 = .ok (.ireturn, 1) := by decide +kernel
theorem dX9_face_10 : decode cX9_face 10 = .ok (.iconst 0, 1) := by decide +kernel
theorem dX9_face_11 : decode cX9_face 11 = .ok (.istore_n 2, 1) := by decide +kernel
theorem dX9_face_12 : decode cX9_face 12 = .ok (.iload_n 2, 1) := by decide +kernel
theorem dX9_face_13 : decode cX9_face 13 = .ok (.aload_n 0, 1) := by decide +kernel
theorem dX9_face_14 : decode cX9_face 14 = .ok (.getfield 155, 3) := by decide +kernel
theorem dX9_face_17 : decode cX9_face 17 = .ok (.if_icmp .ge 26, 3) := by decide +kernel
theorem dX9_face_20 : decode cX9_face 20 = .ok (.aload_n 0, 1) := by decide +kernel
theorem dX9_face_21 : decode cX9_face 21 = .ok (.getfield 109, 3) := by decide +kernel
theorem dX9_face_24 : decode cX9_face 24 = .ok (.iload_n 2, 1) := by decide +kernel
theorem dX9_face_25 : decode cX9_face 25 = .ok (.aload_n 0, 1) := by decide +kernel
theorem dX9_face_26 : decode cX9_face 26 = .ok (.getfield 7, 3) := by decide +kernel
theorem dX9_face_29 : decode cX9_face 29 = .ok (.bipush 7, 2) := by decide +kernel
theorem dX9_face_31 : decode cX9_face 31 = .ok (.iload_n 2, 1) := by decide +kernel
theorem dX9_face_32 : decode cX9_face 32 = .ok (.imul, 1) := by decide +kernel
theorem dX9_face_33 : decode cX9_face 33 = .ok (.iload_n 1, 1) := by decide +kernel
theorem dX9_face_34 : decode cX9_face 34 = .ok (.iadd, 1) := by decide +kernel
theorem dX9_face_35 : decode cX9_face 35 = .ok (.iaload, 1) := by decide +kernel
theorem dX9_face_36 : decode cX9_face 36 = .ok (.iastore, 1) := by decide +kernel
theorem dX9_face_37 : decode cX9_face 37 = .ok (.iinc 2 1, 3) := by decide +kernel
theorem dX9_face_40 : decode cX9_face 40 = .ok (.goto (-28), 3) := by decide +kernel
theorem dX9_face_43 : decode cX9_face 43 = .ok (.bipush (-2), 2) := by decide +kernel
theorem dX9_face_45 : decode cX9_face 45 = .ok (.istore_n 2, 1) := by decide +kernel
theorem dX9_face_46 : decode cX9_face 46 = .ok (.iconst 0, 1) := by decide +kernel
theorem dX9_face_47 : decode cX9_face 47 = .ok (.istore_n 3, 1) := by decide +kernel
theorem dX9_face_48 : decode cX9_face 48 = .ok (.iload_n 3, 1) := by decide +kernel
theorem dX9_face_49 : decode cX9_face 49 = .ok (.bipush 99, 2) := by decide +kernel
theorem dX9_face_51 : decode cX9_face 51 = .ok (.if_icmp .gt 85, 3) := by decide +kernel
theorem dX9_face_54 : decode cX9_face 54 = .ok (.iload_n 2, 1) := by decide +kernel
theorem dX9_face_55 : decode cX9_face 55 = .ok (.ifCond .ge 81, 3) := by decide +kernel
theorem dX9_face_58 : decode cX9_face 58 = .ok (.iconst 0, 1) := by decide +kernel
theorem dX9_face_59 : decode cX9_face 59 = .ok (.istore 4, 2) := by decide +kernel
theorem dX9_face_61 : decode cX9_face 61 = .ok (.iload 4, 2) := by decide +kernel
theorem dX9_face_63 : decode cX9_face 63 = .ok (.aload_n 0, 1) := by decide +kernel
theorem dX9_face_64 : decode cX9_face 64 = .ok (.getfield 155, 3) := by decide +kernel
theorem dX9_face_67 : decode cX9_face 67 = .ok (.if_icmp .ge 45, 3) := by decide +kernel
theorem dX9_face_70 : decode cX9_face 70 = .ok (.aload_n 0, 1) := by decide +kernel
theorem dX9_face_71 : decode cX9_face 71 = .ok (.getfield 7, 3) := by decide +kernel
theorem dX9_face_74 : decode cX9_face 74 = .ok (.bipush 7, 2) := by decide +kernel
theorem dX9_face_76 : decode cX9_face 76 = .ok (.iload 4, 2) := by decide +kernel
theorem dX9_face_78 : decode cX9_face 78 = .ok (.imul, 1) := by decide +kernel
theorem dX9_face_79 : decode cX9_face 79 = .ok (.iload_n 1, 1) := by decide +kernel
theorem dX9_face_80 : decode cX9_face 80 = .ok (.iadd, 1) := by decide +kernel
theorem dX9_face_81 : decode cX9_face 81 = .ok (.aload_n 0, 1) := by decide +kernel
theorem dX9_face_82 : decode cX9_face 82 = .ok (.getfield 109, 3) := by decide +kernel
theorem dX9_face_85 : decode cX9_face 85 = .ok (.iload 4, 2) := by decide +kernel
theorem dX9_face_87 : decode cX9_face 87 = .ok (.iaload, 1) := by decide +kernel
theorem dX9_face_88 : decode cX9_face 88 = .ok (.iload_n 3, 1) := by decide +kernel
theorem dX9_face_89 : decode cX9_face 89 = .ok (.if_icmp .le 15, 3) := by decide +kernel
theorem dX9_face_92 : decode cX9_face 92 = .ok (.aload_n 0, 1) := by decide +kernel
theorem dX9_face_93 : decode cX9_face 93 = .ok (.getfield 109, 3) := by decide +kernel
theorem dX9_face_96 : decode cX9_face 96 = .ok (.iload 4, 2) := by decide +kernel
theorem dX9_face_98 : decode cX9_face 98 = .ok (.iaload, 1) := by decide +kernel
theorem dX9_face_99 : decode cX9_face 99 = .ok (.iload_n 3, 1) := by decide +kernel
theorem dX9_face_100 : decode cX9_face 100 = .ok (.isub, 1) := by decide +kernel
theorem dX9_face_101 : decode cX9_face 101 = .ok (.goto 4, 3) := by decide +kernel
theorem dX9_face_104 : decode cX9_face 104 = .ok (.iconst 0, 1) := by decide +kernel
theorem dX9_face_105 : decode cX9_face 105 = .ok (.iastore, 1) := by decide +kernel
theorem dX9_face_106 : decode cX9_face 106 = .ok (.iinc 4 1, 3) := by decide +kernel
theorem dX9_face_109 : decode cX9_face 109 = .ok (.goto (-48), 3) := by decide +kernel
theorem dX9_face_112 : decode cX9_face 112 = .ok (.aload_n 0, 1) := by decide +kernel
theorem dX9_face_113 : decode cX9_face 113 = .ok (.invokevirtual 334, 3) := by decide +kernel
theorem dX9_face_116 : decode cX9_face 116 = .ok (.aload_n 0, 1) := by decide +kernel
theorem dX9_face_117 : decode cX9_face 117 = .ok (.getfield 29, 3) := by decide +kernel
theorem dX9_face_120 : decode cX9_face 120 = .ok (.bipush 7, 2) := by decide +kernel
theorem dX9_face_122 : decode cX9_face 122 = .ok (.iload_n 1, 1) := by decide +kernel
theorem dX9_face_123 : decode cX9_face 123 = .ok (.iadd, 1) := by decide +kernel
theorem dX9_face_124 : decode cX9_face 124 = .ok (.iaload, 1) := by decide +kernel
theorem dX9_face_125 : decode cX9_face 125 = .ok (.ifCond .ne 5, 3) := by decide +kernel
theorem dX9_face_128 : decode cX9_face 128 = .ok (.iload_n 3, 1) := by decide +kernel
theorem dX9_face_129 : decode cX9_face 129 = .ok (.istore_n 2, 1) := by decide +kernel
theorem dX9_face_130 : decode cX9_face 130 = .ok (.iinc 3 1, 3) := by decide +kernel
theorem dX9_face_133 : decode cX9_face 133 = .ok (.goto (-85), 3) := by decide +kernel
theorem dX9_face_136 : decode cX9_face 136 = .ok (.iconst 0, 1) := by decide +kernel
theorem dX9_face_137 : decode cX9_face 137 = .ok (.istore_n 3, 1) := by decide +kernel
theorem dX9_face_138 : decode cX9_face 138 = .ok (.iload_n 3, 1) := by decide +kernel
theorem dX9_face_139 : decode cX9_face 139 = .ok (.aload_n 0, 1) := by decide +kernel
theorem dX9_face_140 : decode cX9_face 140 = .ok (.getfield 155, 3) := by decide +kernel
theorem dX9_face_143 : decode cX9_face 143 = .ok (.if_icmp .ge 26, 3) := by decide +kernel
theorem dX9_face_146 : decode cX9_face 146 = .ok (.aload_n 0, 1) := by decide +kernel
theorem dX9_face_147 : decode cX9_face 147 = .ok (.getfield 7, 3) := by decide +kernel
theorem dX9_face_150 : decode cX9_face 150 = .ok (.bipush 7, 2) := by decide +kernel
theorem dX9_face_152 : decode cX9_face 152 = .ok (.iload_n 3, 1) := by decide +kernel
theorem dX9_face_153 : decode cX9_face 153 = .ok (.imul, 1) := by decide +kernel
theorem dX9_face_154 : decode cX9_face 154 = .ok (.iload_n 1, 1) := by decide +kernel
theorem dX9_face_155 : decode cX9_face 155 = .ok (.iadd, 1) := by decide +kernel
theorem dX9_face_156 : decode cX9_face 156 = .ok (.aload_n 0, 1) := by decide +kernel
theorem dX9_face_157 : decode cX9_face 157 = .ok (.getfield 109, 3) := by decide +kernel
theorem dX9_face_160 : decode cX9_face 160 = .ok (.iload_n 3, 1) := by decide +kernel
theorem dX9_face_161 : decode cX9_face 161 = .ok (.iaload, 1) := by decide +kernel
theorem dX9_face_162 : decode cX9_face 162 = .ok (.iastore, 1) := by decide +kernel
theorem dX9_face_163 : decode cX9_face 163 = .ok (.iinc 3 1, 3) := by decide +kernel
theorem dX9_face_166 : decode cX9_face 166 = .ok (.goto (-28), 3) := by decide +kernel
theorem dX9_face_169 : decode cX9_face 169 = .ok (.iload_n 2, 1) := by decide +kernel
theorem dX9_face_170 : decode cX9_face 170 = .ok (.ireturn, 1) := by decide +kernel
theorem dX9_keepLot_0 : decode cX9_keepLot 0 = .ok (.iconst 0, 1) := by decide +kernel
theorem dX9_keepLot_1 : decode cX9_keepLot 1 = .ok (.istore_n 1, 1) := by decide +kernel
theorem dX9_keepLot_2 : decode cX9_keepLot 2 = .ok (.iload_n 1, 1) := by decide +kernel
theorem dX9_keepLot_3 : decode cX9_keepLot 3 = .ok (.aload_n 0, 1) := by decide +kernel
theorem dX9_keepLot_4 : decode cX9_keepLot 4 = .ok (.getfield 155, 3) := by decide +kernel
theorem dX9_keepLot_7 : decode cX9_keepLot 7 = .ok (.if_icmp .ge 21, 3) := by decide +kernel
theorem dX9_keepLot_10 : decode cX9_keepLot 10 = .ok (.aload_n 0, 1) := by decide +kernel
theorem dX9_keepLot_11 : decode cX9_keepLot 11 = .ok (.getfield 112, 3) := by decide +kernel
theorem dX9_keepLot_14 : decode cX9_keepLot 14 = .ok (.iload_n 1, 1) := by decide +kernel
theorem dX9_keepLot_15 : decode cX9_keepLot 15 = .ok (.aload_n 0, 1) := by decide +kernel
theorem dX9_keepLot_16 : decode cX9_keepLot 16 = .ok (.getfield 23, 3) := by decide +kernel
theorem dX9_keepLot_19 : decode cX9_keepLot 19 = .ok (.iload_n 1, 1) := by decide +kernel
theorem dX9_keepLot_20 : decode cX9_keepLot 20 = .ok (.iaload, 1) := by decide +kernel
theorem dX9_keepLot_21 : decode cX9_keepLot 21 = .ok (.iastore, 1) := by decide +kernel
theorem dX9_keepLot_22 : decode cX9_keepLot 22 = .ok (.iinc 1 1, 3) := by decide +kernel
theorem dX9_keepLot_25 : decode cX9_keepLot 25 = .ok (.goto (-23), 3) := by decide +kernel
theorem dX9_keepLot_28 : decode cX9_keepLot 28 = .ok (.return_, 1) := by decide +kernel
theorem dX9_layLot_0 : decode cX9_layLot 0 = .ok (.iconst 0, 1) := by decide +kernel
theorem dX9_layLot_1 : decode cX9_layLot 1 = .ok (.istore_n 1, 1) := by decide +kernel
theorem dX9_layLot_2 : decode cX9_layLot 2 = .ok (.iload_n 1, 1) := by decide +kernel
theorem dX9_layLot_3 : decode cX9_layLot 3 = .ok (.aload_n 0, 1) := by decide +kernel
theorem dX9_layLot_4 : decode cX9_layLot 4 = .ok (.getfield 155, 3) := by decide +kernel
theorem dX9_layLot_7 : decode cX9_layLot 7 = .ok (.if_icmp .ge 21, 3) := by decide +kernel
theorem dX9_layLot_10 : decode cX9_layLot 10 = .ok (.aload_n 0, 1) := by decide +kernel
theorem dX9_layLot_11 : decode cX9_layLot 11 = .ok (.getfield 23, 3) := by decide +kernel
theorem dX9_layLot_14 : decode cX9_layLot 14 = .ok (.iload_n 1, 1) := by decide +kernel
theorem dX9_layLot_15 : decode cX9_layLot 15 = .ok (.aload_n 0, 1) := by decide +kernel
theorem dX9_layLot_16 : decode cX9_layLot 16 = .ok (.getfield 112, 3) := by decide +kernel
theorem dX9_layLot_19 : decode cX9_layLot 19 = .ok (.iload_n 1, 1) := by decide +kernel
theorem dX9_layLot_20 : decode cX9_layLot 20 = .ok (.iaload, 1) := by decide +kernel
theorem dX9_layLot_21 : decode cX9_layLot 21 = .ok (.iastore, 1) := by decide +kernel
theorem dX9_layLot_22 : decode cX9_layLot 22 = .ok (.iinc 1 1, 3) := by decide +kernel
theorem dX9_layLot_25 : decode cX9_layLot 25 = .ok (.goto (-23), 3) := by decide +kernel
theorem dX9_layLot_28 : decode cX9_layLot 28 = .ok (.return_, 1) := by decide +kernel
theorem dX9_numbers_0 : decode cX9_numbers 0 = .ok (.iload_n 2, 1) := by decide +kernel
theorem dX9_numbers_1 : decode cX9_numbers 1 = .ok (.iconst 1, 1) := by decide +kernel
theorem dX9_numbers_2 : decode cX9_numbers 2 = .ok (.bipush 30, 2) := by decide +kernel
theorem dX9_numbers_4 : decode cX9_numbers 4 = .ok (.invokestatic 158, 3) := by decide +kernel
theorem dX9_numbers_7 : decode cX9_numbers 7 = .ok (.ifCond .eq 17, 3) := by decide +kernel
theorem dX9_numbers_10 : decode cX9_numbers 10 = .ok (.iload_n 3, 1) := by decide +kernel
theorem dX9_numbers_11 : decode cX9_numbers 11 = .ok (.iconst (-1), 1) := by decide +kernel
theorem dX9_numbers_12 : decode cX9_numbers 12 = .ok (.aload_n 0, 1) := by decide +kernel
theorem dX9_numbers_13 : decode cX9_numbers 13 = .ok (.getfield 155, 3) := by decide +kernel
theorem dX9_numbers_16 : decode cX9_numbers 16 = .ok (.iconst 1, 1) := by decide +kernel
theorem dX9_numbers_17 : decode cX9_numbers 17 = .ok (.isub, 1) := by decide +kernel
theorem dX9_numbers_18 : decode cX9_numbers 18 = .ok (.invokestatic 158, 3) := by decide +kernel
theorem dX9_numbers_21 : decode cX9_numbers 21 = .ok (.ifCond .ne 5, 3) := by decide +kernel
theorem dX9_numbers_24 : decode cX9_numbers 24 = .ok (.iconst (-1), 1) := by decide +kernel
theorem dX9_numbers_25 : decode cX9_numbers 25 = .ok (.ireturn, 1) := by decide +kernel
theorem dX9_numbers_26 : decode cX9_numbers 26 = .ok (.iconst 0, 1) := by decide +kernel
theorem dX9_numbers_27 : decode cX9_numbers 27 = .ok (.istore 4, 2) := by decide +kernel
theorem dX9_numbers_29 : decode cX9_numbers 29 = .ok (.iload 4, 2) := by decide +kernel
theorem dX9_numbers_31 : decode cX9_numbers 31 = .ok (.aload_n 0, 1) := by decide +kernel
theorem dX9_numbers_32 : decode cX9_numbers 32 = .ok (.getfield 155, 3) := by decide +kernel
theorem dX9_numbers_35 : decode cX9_numbers 35 = .ok (.if_icmp .ge 17, 3) := by decide +kernel
theorem dX9_numbers_38 : decode cX9_numbers 38 = .ok (.aload_n 0, 1) := by decide +kernel
theorem dX9_numbers_39 : decode cX9_numbers 39 = .ok (.getfield 115, 3) := by decide +kernel
theorem dX9_numbers_42 : decode cX9_numbers 42 = .ok (.iload 4, 2) := by decide +kernel
theorem dX9_numbers_44 : decode cX9_numbers 44 = .ok (.iconst 0, 1) := by decide +kernel
theorem dX9_numbers_45 : decode cX9_numbers 45 = .ok (.iastore, 1) := by decide +kernel
theorem dX9_numbers_46 : decode cX9_numbers 46 = .ok (.iinc 4 1, 3) := by decide +kernel
theorem dX9_numbers_49 : decode cX9_numbers 49 = .ok (.goto (-20), 3) := by decide +kernel
theorem dX9_numbers_52 : decode cX9_numbers 52 = .ok (.aload_n 0, 1) := by decide +kernel
theorem dX9_numbers_53 : decode cX9_numbers 53 = .ok (.invokevirtual 358, 3) := by decide +kernel
theorem dX9_numbers_56 : decode cX9_numbers 56 = .ok (.iload_n 1, 1) := by decide +kernel
theorem dX9_numbers_57 : decode cX9_numbers 57 = .ok (.istore 4, 2) := by decide +kernel
theorem dX9_numbers_59 : decode cX9_numbers 59 = .ok (.iconst 0, 1) := by decide +kernel
theorem dX9_numbers_60 : decode cX9_numbers 60 = .ok (.istore 5, 2) := by decide +kernel
theorem dX9_numbers_62 : decode cX9_numbers 62 = .ok (.iload 5, 2) := by decide +kernel
theorem dX9_numbers_64 : decode cX9_numbers 64 = .ok (.iload_n 2, 1) := by decide +kernel
theorem dX9_numbers_65 : decode cX9_numbers 65 = .ok (.if_icmp .ge 121, 3) := by decide +kernel
theorem dX9_numbers_68 : decode cX9_numbers 68 = .ok (.aload_n 0, 1) := by decide +kernel
theorem dX9_numbers_69 : decode cX9_numbers 69 = .ok (.invokevirtual 361, 3) := by decide +kernel
theorem dX9_numbers_72 : decode cX9_numbers 72 = .ok (.aload_n 0, 1) := by decide +kernel
theorem dX9_numbers_73 : decode cX9_numbers 73 = .ok (.getfield 155, 3) := by decide +kernel
theorem dX9_numbers_76 : decode cX9_numbers 76 = .ok (.iconst 1, 1) := by decide +kernel
theorem dX9_numbers_77 : decode cX9_numbers 77 = .ok (.isub, 1) := by decide +kernel
theorem dX9_numbers_78 : decode cX9_numbers 78 = .ok (.istore 6, 2) := by decide +kernel
theorem dX9_numbers_80 : decode cX9_numbers 80 = .ok (.iload 6, 2) := by decide +kernel
theorem dX9_numbers_82 : decode cX9_numbers 82 = .ok (.iconst 1, 1) := by decide +kernel
theorem dX9_numbers_83 : decode cX9_numbers 83 = .ok (.if_icmp .lt 37, 3) := by decide +kernel
theorem dX9_numbers_86 : decode cX9_numbers 86 = .ok (.iload 4, 2) := by decide +kernel
theorem dX9_numbers_88 : decode cX9_numbers 88 = .ok (.ldc_w 364, 3) := by decide +kernel
theorem dX9_numbers_91 : decode cX9_numbers 91 = .ok (.imul, 1) := by decide +kernel
theorem dX9_numbers_92 : decode cX9_numbers 92 = .ok (.sipush 12345, 3) := by decide +kernel
theorem dX9_numbers_95 : decode cX9_numbers 95 = .ok (.iadd, 1) := by decide +kernel
theorem dX9_numbers_96 : decode cX9_numbers 96 = .ok (.istore 4, 2) := by decide +kernel
theorem dX9_numbers_98 : decode cX9_numbers 98 = .ok (.aload_n 0, 1) := by decide +kernel
theorem dX9_numbers_99 : decode cX9_numbers 99 = .ok (.iload 6, 2) := by decide +kernel
theorem dX9_numbers_101 : decode cX9_numbers 101 = .ok (.iload 4, 2) := by decide +kernel
theorem dX9_numbers_103 : decode cX9_numbers 103 = .ok (.bipush 8, 2) := by decide +kernel
theorem dX9_numbers_105 : decode cX9_numbers 105 = .ok (.iushr, 1) := by decide +kernel
theorem dX9_numbers_106 : decode cX9_numbers 106 = .ok (.iload 6, 2) := by decide +kernel
theorem dX9_numbers_108 : decode cX9_numbers 108 = .ok (.iconst 1, 1) := by decide +kernel
theorem dX9_numbers_109 : decode cX9_numbers 109 = .ok (.iadd, 1) := by decide +kernel
theorem dX9_numbers_110 : decode cX9_numbers 110 = .ok (.irem, 1) := by decide +kernel
theorem dX9_numbers_111 : decode cX9_numbers 111 = .ok (.invokevirtual 213, 3) := by decide +kernel
theorem dX9_numbers_114 : decode cX9_numbers 114 = .ok (.iinc 6 (-1), 3) := by decide +kernel
theorem dX9_numbers_117 : decode cX9_numbers 117 = .ok (.goto (-37), 3) := by decide +kernel
theorem dX9_numbers_120 : decode cX9_numbers 120 = .ok (.aload_n 0, 1) := by decide +kernel
theorem dX9_numbers_121 : decode cX9_numbers 121 = .ok (.invokevirtual 334, 3) := by decide +kernel
theorem dX9_numbers_124 : decode cX9_numbers 124 = .ok (.iconst 0, 1) := by decide +kernel
theorem dX9_numbers_125 : decode cX9_numbers 125 = .ok (.istore 6, 2) := by decide +kernel
theorem dX9_numbers_127 : decode cX9_numbers 127 = .ok (.iload 6, 2) := by decide +kernel
theorem dX9_numbers_129 : decode cX9_numbers 129 = .ok (.aload_n 0, 1) := by decide +kernel
theorem dX9_numbers_130 : decode cX9_numbers 130 = .ok (.getfield 155, 3) := by decide +kernel
theorem dX9_numbers_133 : decode cX9_numbers 133 = .ok (.if_icmp .ge 47, 3) := by decide +kernel
theorem dX9_numbers_136 : decode cX9_numbers 136 = .ok (.aload_n 0, 1) := by decide +kernel
theorem dX9_numbers_137 : decode cX9_numbers 137 = .ok (.getfield 115, 3) := by decide +kernel
theorem dX9_numbers_140 : decode cX9_numbers 140 = .ok (.iload 6, 2) := by decide +kernel
theorem dX9_numbers_142 : decode cX9_numbers 142 = .ok (.dup2, 1) := by decide +kernel
theorem dX9_numbers_143 : decode cX9_numbers 143 = .ok (.iaload, 1) := by decide +kernel
theorem dX9_numbers_144 : decode cX9_numbers 144 = .ok (.aload_n 0, 1) := by decide +kernel
theorem dX9_numbers_145 : decode cX9_numbers 145 = .ok (.getfield 7, 3) := by decide +kernel
theorem dX9_numbers_148 : decode cX9_numbers 148 = .ok (.bipush 7, 2) := by decide +kernel
theorem dX9_numbers_150 : decode cX9_numbers 150 = .ok (.aload_n 0, 1) := by decide +kernel
theorem dX9_numbers_151 : decode cX9_numbers 151 = .ok (.getfield 23, 3) := by decide +kernel
theorem dX9_numbers_154 : decode cX9_numbers 154 = .ok (.iload 6, 2) := by decide +kernel
theorem dX9_numbers_156 : decode cX9_numbers 156 = .ok (.iaload, 1) := by decide +kernel
theorem dX9_numbers_157 : decode cX9_numbers 157 = .ok (.imul, 1) := by decide +kernel
theorem dX9_numbers_158 : decode cX9_numbers 158 = .ok (.aload_n 0, 1) := by decide +kernel
theorem dX9_numbers_159 : decode cX9_numbers 159 = .ok (.iconst 1, 1) := by decide +kernel
theorem dX9_numbers_160 : decode cX9_numbers 160 = .ok (.aload_n 0, 1) := by decide +kernel
theorem dX9_numbers_161 : decode cX9_numbers 161 = .ok (.getfield 23, 3) := by decide +kernel
theorem dX9_numbers_164 : decode cX9_numbers 164 = .ok (.iload 6, 2) := by decide +kernel
theorem dX9_numbers_166 : decode cX9_numbers 166 = .ok (.iaload, 1) := by decide +kernel
theorem dX9_numbers_167 : decode cX9_numbers 167 = .ok (.invokevirtual 207, 3) := by decide +kernel
theorem dX9_numbers_170 : decode cX9_numbers 170 = .ok (.iadd, 1) := by decide +kernel
theorem dX9_numbers_171 : decode cX9_numbers 171 = .ok (.iaload, 1) := by decide +kernel
theorem dX9_numbers_172 : decode cX9_numbers 172 = .ok (.iadd, 1) := by decide +kernel
theorem dX9_numbers_173 : decode cX9_numbers 173 = .ok (.iastore, 1) := by decide +kernel
theorem dX9_numbers_174 : decode cX9_numbers 174 = .ok (.iinc 6 1, 3) := by decide +kernel
theorem dX9_numbers_177 : decode cX9_numbers 177 = .ok (.goto (-50), 3) := by decide +kernel
theorem dX9_numbers_180 : decode cX9_numbers 180 = .ok (.iinc 5 1, 3) := by decide +kernel
theorem dX9_numbers_183 : decode cX9_numbers 183 = .ok (.goto (-121), 3) := by decide +kernel
theorem dX9_numbers_186 : decode cX9_numbers 186 = .ok (.aload_n 0, 1) := by decide +kernel
theorem dX9_numbers_187 : decode cX9_numbers 187 = .ok (.invokevirtual 361, 3) := by decide +kernel
theorem dX9_numbers_190 : decode cX9_numbers 190 = .ok (.iload_n 3, 1) := by decide +kernel
theorem dX9_numbers_191 : decode cX9_numbers 191 = .ok (.ifCond .lt 10, 3) := by decide +kernel
theorem dX9_numbers_194 : decode cX9_numbers 194 = .ok (.aload_n 0, 1) := by decide +kernel
theorem dX9_numbers_195 : decode cX9_numbers 195 = .ok (.getfield 115, 3) := by decide +kernel
theorem dX9_numbers_198 : decode cX9_numbers 198 = .ok (.iload_n 3, 1) := by decide +kernel
theorem dX9_numbers_199 : decode cX9_numbers 199 = .ok (.iaload, 1) := by decide +kernel
theorem dX9_numbers_200 : decode cX9_numbers 200 = .ok (.ireturn, 1) := by decide +kernel
theorem dX9_numbers_201 : decode cX9_numbers 201 = .ok (.iconst 0, 1) := by decide +kernel
theorem dX9_numbers_202 : decode cX9_numbers 202 = .ok (.istore 5, 2) := by decide +kernel
theorem dX9_numbers_204 : decode cX9_numbers 204 = .ok (.iconst 0, 1) := by decide +kernel
theorem dX9_numbers_205 : decode cX9_numbers 205 = .ok (.istore 6, 2) := by decide +kernel
theorem dX9_numbers_207 : decode cX9_numbers 207 = .ok (.iconst 0, 1) := by decide +kernel
theorem dX9_numbers_208 : decode cX9_numbers 208 = .ok (.istore 7, 2) := by decide +kernel
theorem dX9_numbers_210 : decode cX9_numbers 210 = .ok (.iload 7, 2) := by decide +kernel
theorem dX9_numbers_212 : decode cX9_numbers 212 = .ok (.aload_n 0, 1) := by decide +kernel
theorem dX9_numbers_213 : decode cX9_numbers 213 = .ok (.getfield 155, 3) := by decide +kernel
theorem dX9_numbers_216 : decode cX9_numbers 216 = .ok (.if_icmp .ge 61, 3) := by decide +kernel
theorem dX9_numbers_219 : decode cX9_numbers 219 = .ok (.iload 7, 2) := by decide +kernel
theorem dX9_numbers_221 : decode cX9_numbers 221 = .ok (.ifCond .eq 15, 3) := by decide +kernel
theorem dX9_numbers_224 : decode cX9_numbers 224 = .ok (.aload_n 0, 1) := by decide +kernel
theorem dX9_numbers_225 : decode cX9_numbers 225 = .ok (.getfield 115, 3) := by decide +kernel
theorem dX9_numbers_228 : decode cX9_numbers 228 = .ok (.iload 7, 2) := by decide +kernel
theorem dX9_numbers_230 : decode cX9_numbers 230 = .ok (.iaload, 1) := by decide +kernel
theorem dX9_numbers_231 : decode cX9_numbers 231 = .ok (.iload 5, 2) := by decide +kernel
theorem dX9_numbers_233 : decode cX9_numbers 233 = .ok (.if_icmp .ge 12, 3) := by decide +kernel
theorem dX9_numbers_236 : decode cX9_numbers 236 = .ok (.aload_n 0, 1) := by decide +kernel
theorem dX9_numbers_237 : decode cX9_numbers 237 = .ok (.getfield 115, 3) := by decide +kernel
theorem dX9_numbers_240 : decode cX9_numbers 240 = .ok (.iload 7, 2) := by decide +kernel
theorem dX9_numbers_242 : decode cX9_numbers 242 = .ok (.iaload, 1) := by decide +kernel
theorem dX9_numbers_243 : decode cX9_numbers 243 = .ok (.istore 5, 2) := by decide +kernel
theorem dX9_numbers_245 : decode cX9_numbers 245 = .ok (.iload 7, 2) := by decide +kernel
theorem dX9_numbers_247 : decode cX9_numbers 247 = .ok (.ifCond .eq 15, 3) := by decide +kernel
theorem dX9_numbers_250 : decode cX9_numbers 250 = .ok (.aload_n 0, 1) := by decide +kernel
theorem dX9_numbers_251 : decode cX9_numbers 251 = .ok (.getfield 115, 3) := by decide +kernel
theorem dX9_numbers_254 : decode cX9_numbers 254 = .ok (.iload 7, 2) := by decide +kernel
theorem dX9_numbers_256 : decode cX9_numbers 256 = .ok (.iaload, 1) := by decide +kernel
theorem dX9_numbers_257 : decode cX9_numbers 257 = .ok (.iload 6, 2) := by decide +kernel
theorem dX9_numbers_259 : decode cX9_numbers 259 = .ok (.if_icmp .le 12, 3) := by decide +kernel
theorem dX9_numbers_262 : decode cX9_numbers 262 = .ok (.aload_n 0, 1) := by decide +kernel
theorem dX9_numbers_263 : decode cX9_numbers 263 = .ok (.getfield 115, 3) := by decide +kernel
theorem dX9_numbers_266 : decode cX9_numbers 266 = .ok (.iload 7, 2) := by decide +kernel
theorem dX9_numbers_268 : decode cX9_numbers 268 = .ok (.iaload, 1) := by decide +kernel
theorem dX9_numbers_269 : decode cX9_numbers 269 = .ok (.istore 6, 2) := by decide +kernel
theorem dX9_numbers_271 : decode cX9_numbers 271 = .ok (.iinc 7 1, 3) := by decide +kernel
theorem dX9_numbers_274 : decode cX9_numbers 274 = .ok (.goto (-64), 3) := by decide +kernel
theorem dX9_numbers_277 : decode cX9_numbers 277 = .ok (.iload 6, 2) := by decide +kernel
theorem dX9_numbers_279 : decode cX9_numbers 279 = .ok (.iload 5, 2) := by decide +kernel
theorem dX9_numbers_281 : decode cX9_numbers 281 = .ok (.isub, 1) := by decide +kernel
theorem dX9_numbers_282 : decode cX9_numbers 282 = .ok (.ireturn, 1) := by decide +kernel
theorem dX9_rowFault_0 : decode cX9_rowFault 0 = .ok (.aload_n 0, 1) := by decide +kernel
theorem dX9_rowFault_1 : decode cX9_rowFault 1 = .ok (.getfield 139, 3) := by decide +kernel
theorem dX9_rowFault_4 : decode cX9_rowFault 4 = .ok (.iload_n 1, 1) := by decide +kernel
theorem dX9_rowFault_5 : decode cX9_rowFault 5 = .ok (.iaload, 1) := by decide +kernel
theorem dX9_rowFault_6 : decode cX9_rowFault 6 = .ok (.iconst (-1), 1) := by decide +kernel
theorem dX9_rowFault_7 : decode cX9_rowFault 7 = .ok (.if_icmp .ne 8, 3) := by decide +kernel
theorem dX9_rowFault_10 : decode cX9_rowFault 10 = .ok (.bipush (-11), 2) := by decide +kernel
theorem dX9_rowFault_12 : decode cX9_rowFault 12 = .ok (.goto 20, 3) := by decide +kernel
theorem dX9_rowFault_15 : decode cX9_rowFault 15 = .ok (.aload_n 0, 1) := by decide +kernel
theorem dX9_rowFault_16 : decode cX9_rowFault 16 = .ok (.getfield 139, 3) := by decide +kernel
theorem dX9_rowFault_19 : decode cX9_rowFault 19 = .ok (.iload_n 1, 1) := by decide +kernel
theorem dX9_rowFault_20 : decode cX9_rowFault 20 = .ok (.iaload, 1) := by decide +kernel
theorem dX9_rowFault_21 : decode cX9_rowFault 21 = .ok (.bipush (-2), 2) := by decide +kernel
theorem dX9_rowFault_23 : decode cX9_rowFault 23 = .ok (.if_icmp .ne 7, 3) := by decide +kernel
theorem dX9_rowFault_26 : decode cX9_rowFault 26 = .ok (.iconst 0, 1) := by decide +kernel
theorem dX9_rowFault_27 : decode cX9_rowFault 27 = .ok (.goto 5, 3) := by decide +kernel
theorem dX9_rowFault_30 : decode cX9_rowFault 30 = .ok (.bipush (-12), 2) := by decide +kernel
theorem dX9_rowFault_32 : decode cX9_rowFault 32 = .ok (.ireturn, 1) := by decide +kernel
theorem dX9_wrongIn_0 : decode cX9_wrongIn 0 = .ok (.aload_n 0, 1) := by decide +kernel
theorem dX9_wrongIn_1 : decode cX9_wrongIn 1 = .ok (.invokevirtual 334, 3) := by decide +kernel
theorem dX9_wrongIn_4 : decode cX9_wrongIn 4 = .ok (.iconst 0, 1) := by decide +kernel
theorem dX9_wrongIn_5 : decode cX9_wrongIn 5 = .ok (.istore_n 2, 1) := by decide +kernel
theorem dX9_wrongIn_6 : decode cX9_wrongIn 6 = .ok (.iload_n 2, 1) := by decide +kernel
theorem dX9_wrongIn_7 : decode cX9_wrongIn 7 = .ok (.aload_n 0, 1) := by decide +kernel
theorem dX9_wrongIn_8 : decode cX9_wrongIn 8 = .ok (.getfield 155, 3) := by decide +kernel
theorem dX9_wrongIn_11 : decode cX9_wrongIn 11 = .ok (.if_icmp .ge 43, 3) := by decide +kernel
theorem dX9_wrongIn_14 : decode cX9_wrongIn 14 = .ok (.iload_n 2, 1) := by decide +kernel
theorem dX9_wrongIn_15 : decode cX9_wrongIn 15 = .ok (.aload_n 0, 1) := by decide +kernel
theorem dX9_wrongIn_16 : decode cX9_wrongIn 16 = .ok (.getfield 142, 3) := by decide +kernel
theorem dX9_wrongIn_19 : decode cX9_wrongIn 19 = .ok (.iload_n 1, 1) := by decide +kernel
theorem dX9_wrongIn_20 : decode cX9_wrongIn 20 = .ok (.iaload, 1) := by decide +kernel
theorem dX9_wrongIn_21 : decode cX9_wrongIn 21 = .ok (.if_icmp .ge 33, 3) := by decide +kernel
theorem dX9_wrongIn_24 : decode cX9_wrongIn 24 = .ok (.aload_n 0, 1) := by decide +kernel
theorem dX9_wrongIn_25 : decode cX9_wrongIn 25 = .ok (.getfield 145, 3) := by decide +kernel
theorem dX9_wrongIn_28 : decode cX9_wrongIn 28 = .ok (.bipush 60, 2) := by decide +kernel
theorem dX9_wrongIn_30 : decode cX9_wrongIn 30 = .ok (.iload_n 1, 1) := by decide +kernel
theorem dX9_wrongIn_31 : decode cX9_wrongIn 31 = .ok (.imul, 1) := by decide +kernel
theorem dX9_wrongIn_32 : decode cX9_wrongIn 32 = .ok (.iload_n 2, 1) := by decide +kernel
theorem dX9_wrongIn_33 : decode cX9_wrongIn 33 = .ok (.iadd, 1) := by decide +kernel
theorem dX9_wrongIn_34 : decode cX9_wrongIn 34 = .ok (.laload, 1) := by decide +kernel
theorem dX9_wrongIn_35 : decode cX9_wrongIn 35 = .ok (.aload_n 0, 1) := by decide +kernel
theorem dX9_wrongIn_36 : decode cX9_wrongIn 36 = .ok (.iconst 1, 1) := by decide +kernel
theorem dX9_wrongIn_37 : decode cX9_wrongIn 37 = .ok (.iload_n 2, 1) := by decide +kernel
theorem dX9_wrongIn_38 : decode cX9_wrongIn 38 = .ok (.invokevirtual 207, 3) := by decide +kernel
theorem dX9_wrongIn_41 : decode cX9_wrongIn 41 = .ok (.i2l, 1) := by decide +kernel
theorem dX9_wrongIn_42 : decode cX9_wrongIn 42 = .ok (.lcmp, 1) := by decide +kernel
theorem dX9_wrongIn_43 : decode cX9_wrongIn 43 = .ok (.ifCond .eq 5, 3) := by decide +kernel
theorem dX9_wrongIn_46 : decode cX9_wrongIn 46 = .ok (.iload_n 2, 1) := by decide +kernel
theorem dX9_wrongIn_47 : decode cX9_wrongIn 47 = .ok (.ireturn, 1) := by decide +kernel
theorem dX9_wrongIn_48 : decode cX9_wrongIn 48 = .ok (.iinc 2 1, 3) := by decide +kernel
theorem dX9_wrongIn_51 : decode cX9_wrongIn 51 = .ok (.goto (-45), 3) := by decide +kernel
theorem dX9_wrongIn_54 : decode cX9_wrongIn 54 = .ok (.bipush (-2), 2) := by decide +kernel
theorem dX9_wrongIn_56 : decode cX9_wrongIn 56 = .ok (.ireturn, 1) := by decide +kernel
theorem dX9_judge_0 : decode cX9_judge 0 = .ok (.iload_n 1, 1) := by decide +kernel
theorem dX9_judge_1 : decode cX9_judge 1 = .ok (.invokestatic 173, 3) := by decide +kernel
theorem dX9_judge_4 : decode cX9_judge 4 = .ok (.ifCond .ne 5, 3) := by decide +kernel
theorem dX9_judge_7 : decode cX9_judge 7 = .ok (.iconst (-1), 1) := by decide +kernel
theorem dX9_judge_8 : decode cX9_judge 8 = .ok (.ireturn, 1) := by decide +kernel
theorem dX9_judge_9 : decode cX9_judge 9 = .ok (.aload_n 0, 1) := by decide +kernel
theorem dX9_judge_10 : decode cX9_judge 10 = .ok (.iload_n 1, 1) := by decide +kernel
theorem dX9_judge_11 : decode cX9_judge 11 = .ok (.invokevirtual 365, 3) := by decide +kernel
theorem dX9_judge_14 : decode cX9_judge 14 = .ok (.ifCond .ge 11, 3) := by decide +kernel
theorem dX9_judge_17 : decode cX9_judge 17 = .ok (.aload_n 0, 1) := by decide +kernel
theorem dX9_judge_18 : decode cX9_judge 18 = .ok (.iload_n 1, 1) := by decide +kernel
theorem dX9_judge_19 : decode cX9_judge 19 = .ok (.invokevirtual 365, 3) := by decide +kernel
theorem dX9_judge_22 : decode cX9_judge 22 = .ok (.goto 8, 3) := by decide +kernel
theorem dX9_judge_25 : decode cX9_judge 25 = .ok (.aload_n 0, 1) := by decide +kernel
theorem dX9_judge_26 : decode cX9_judge 26 = .ok (.iload_n 1, 1) := by decide +kernel
theorem dX9_judge_27 : decode cX9_judge 27 = .ok (.invokevirtual 368, 3) := by decide +kernel
theorem dX9_judge_30 : decode cX9_judge 30 = .ok (.ireturn, 1) := by decide +kernel
theorem dX9_goLots_0 : decode cX9_goLots 0 = .ok (.iload_n 2, 1) := by decide +kernel
theorem dX9_goLots_1 : decode cX9_goLots 1 = .ok (.aload_n 0, 1) := by decide +kernel
theorem dX9_goLots_2 : decode cX9_goLots 2 = .ok (.getfield 155, 3) := by decide +kernel
theorem dX9_goLots_5 : decode cX9_goLots 5 = .ok (.if_icmp .ne 19, 3) := by decide +kernel
theorem dX9_goLots_8 : decode cX9_goLots 8 = .ok (.aload_n 0, 1) := by decide +kernel
theorem dX9_goLots_9 : decode cX9_goLots 9 = .ok (.iload_n 1, 1) := by decide +kernel
theorem dX9_goLots_10 : decode cX9_goLots 10 = .ok (.invokevirtual 368, 3) := by decide +kernel
theorem dX9_goLots_13 : decode cX9_goLots 13 = .ok (.bipush (-2), 2) := by decide +kernel
theorem dX9_goLots_15 : decode cX9_goLots 15 = .ok (.if_icmp .ne 7, 3) := by decide +kernel
theorem dX9_goLots_18 : decode cX9_goLots 18 = .ok (.iconst 1, 1) := by decide +kernel
theorem dX9_goLots_19 : decode cX9_goLots 19 = .ok (.goto 4, 3) := by decide +kernel
theorem dX9_goLots_22 : decode cX9_goLots 22 = .ok (.iconst 0, 1) := by decide +kernel
theorem dX9_goLots_23 : decode cX9_goLots 23 = .ok (.ireturn, 1) := by decide +kernel
theorem dX9_goLots_24 : decode cX9_goLots 24 = .ok (.iconst 0, 1) := by decide +kernel
theorem dX9_goLots_25 : decode cX9_goLots 25 = .ok (.istore 4, 2) := by decide +kernel
theorem dX9_goLots_27 : decode cX9_goLots 27 = .ok (.iconst 0, 1) := by decide +kernel
theorem dX9_goLots_28 : decode cX9_goLots 28 = .ok (.istore 5, 2) := by decide +kernel
theorem dX9_goLots_30 : decode cX9_goLots 30 = .ok (.iload 5, 2) := by decide +kernel
theorem dX9_goLots_32 : decode cX9_goLots 32 = .ok (.aload_n 0, 1) := by decide +kernel
theorem dX9_goLots_33 : decode cX9_goLots 33 = .ok (.getfield 155, 3) := by decide +kernel
theorem dX9_goLots_36 : decode cX9_goLots 36 = .ok (.if_icmp .ge 49, 3) := by decide +kernel
theorem dX9_goLots_39 : decode cX9_goLots 39 = .ok (.iload_n 3, 1) := by decide +kernel
theorem dX9_goLots_40 : decode cX9_goLots 40 = .ok (.iload 5, 2) := by decide +kernel
theorem dX9_goLots_42 : decode cX9_goLots 42 = .ok (.invokestatic 210, 3) := by decide +kernel
theorem dX9_goLots_45 : decode cX9_goLots 45 = .ok (.iconst 1, 1) := by decide +kernel
theorem dX9_goLots_46 : decode cX9_goLots 46 = .ok (.if_icmp .ne 6, 3) := by decide +kernel
theorem dX9_goLots_49 : decode cX9_goLots 49 = .ok (.goto 30, 3) := by decide +kernel
theorem dX9_goLots_52 : decode cX9_goLots 52 = .ok (.aload_n 0, 1) := by decide +kernel
theorem dX9_goLots_53 : decode cX9_goLots 53 = .ok (.getfield 23, 3) := by decide +kernel
theorem dX9_goLots_56 : decode cX9_goLots 56 = .ok (.iload_n 2, 1) := by decide +kernel
theorem dX9_goLots_57 : decode cX9_goLots 57 = .ok (.iload 5, 2) := by decide +kernel
theorem dX9_goLots_59 : decode cX9_goLots 59 = .ok (.iastore, 1) := by decide +kernel
theorem dX9_goLots_60 : decode cX9_goLots 60 = .ok (.iload 4, 2) := by decide +kernel
theorem dX9_goLots_62 : decode cX9_goLots 62 = .ok (.aload_n 0, 1) := by decide +kernel
theorem dX9_goLots_63 : decode cX9_goLots 63 = .ok (.iload_n 1, 1) := by decide +kernel
theorem dX9_goLots_64 : decode cX9_goLots 64 = .ok (.iload_n 2, 1) := by decide +kernel
theorem dX9_goLots_65 : decode cX9_goLots 65 = .ok (.iconst 1, 1) := by decide +kernel
theorem dX9_goLots_66 : decode cX9_goLots 66 = .ok (.iadd, 1) := by decide +kernel
theorem dX9_goLots_67 : decode cX9_goLots 67 = .ok (.iload_n 3, 1) := by decide +kernel
theorem dX9_goLots_68 : decode cX9_goLots 68 = .ok (.iconst 1, 1) := by decide +kernel
theorem dX9_goLots_69 : decode cX9_goLots 69 = .ok (.iload 5, 2) := by decide +kernel
theorem dX9_goLots_71 : decode cX9_goLots 71 = .ok (.ishl, 1) := by decide +kernel
theorem dX9_goLots_72 : decode cX9_goLots 72 = .ok (.ior, 1) := by decide +kernel
theorem dX9_goLots_73 : decode cX9_goLots 73 = .ok (.invokevirtual 371, 3) := by decide +kernel
theorem dX9_goLots_76 : decode cX9_goLots 76 = .ok (.iadd, 1) := by decide +kernel
theorem dX9_goLots_77 : decode cX9_goLots 77 = .ok (.istore 4, 2) := by decide +kernel
theorem dX9_goLots_79 : decode cX9_goLots 79 = .ok (.iinc 5 1, 3) := by decide +kernel
theorem dX9_goLots_82 : decode cX9_goLots 82 = .ok (.goto (-52), 3) := by decide +kernel
theorem dX9_goLots_85 : decode cX9_goLots 85 = .ok (.iload 4, 2) := by decide +kernel
theorem dX9_goLots_87 : decode cX9_goLots 87 = .ok (.ireturn, 1) := by decide +kernel
theorem dX9_lots_0 : decode cX9_lots 0 = .ok (.iload_n 1, 1) := by decide +kernel
theorem dX9_lots_1 : decode cX9_lots 1 = .ok (.invokestatic 173, 3) := by decide +kernel
theorem dX9_lots_4 : decode cX9_lots 4 = .ok (.ifCond .ne 5, 3) := by decide +kernel
theorem dX9_lots_7 : decode cX9_lots 7 = .ok (.iconst (-1), 1) := by decide +kernel
theorem dX9_lots_8 : decode cX9_lots 8 = .ok (.ireturn, 1) := by decide +kernel
theorem dX9_lots_9 : decode cX9_lots 9 = .ok (.aload_n 0, 1) := by decide +kernel
theorem dX9_lots_10 : decode cX9_lots 10 = .ok (.iload_n 1, 1) := by decide +kernel
theorem dX9_lots_11 : decode cX9_lots 11 = .ok (.invokevirtual 365, 3) := by decide +kernel
theorem dX9_lots_14 : decode cX9_lots 14 = .ok (.ifCond .ge 9, 3) := by decide +kernel
theorem dX9_lots_17 : decode cX9_lots 17 = .ok (.aload_n 0, 1) := by decide +kernel
theorem dX9_lots_18 : decode cX9_lots 18 = .ok (.iload_n 1, 1) := by decide +kernel
theorem dX9_lots_19 : decode cX9_lots 19 = .ok (.invokevirtual 365, 3) := by decide +kernel
theorem dX9_lots_22 : decode cX9_lots 22 = .ok (.ireturn, 1) := by decide +kernel
theorem dX9_lots_23 : decode cX9_lots 23 = .ok (.aload_n 0, 1) := by decide +kernel
theorem dX9_lots_24 : decode cX9_lots 24 = .ok (.invokevirtual 358, 3) := by decide +kernel
theorem dX9_lots_27 : decode cX9_lots 27 = .ok (.aload_n 0, 1) := by decide +kernel
theorem dX9_lots_28 : decode cX9_lots 28 = .ok (.iload_n 1, 1) := by decide +kernel
theorem dX9_lots_29 : decode cX9_lots 29 = .ok (.iconst 0, 1) := by decide +kernel
theorem dX9_lots_30 : decode cX9_lots 30 = .ok (.iconst 0, 1) := by decide +kernel
theorem dX9_lots_31 : decode cX9_lots 31 = .ok (.invokevirtual 371, 3) := by decide +kernel
theorem dX9_lots_34 : decode cX9_lots 34 = .ok (.istore_n 2, 1) := by decide +kernel
theorem dX9_lots_35 : decode cX9_lots 35 = .ok (.aload_n 0, 1) := by decide +kernel
theorem dX9_lots_36 : decode cX9_lots 36 = .ok (.invokevirtual 361, 3) := by decide +kernel
theorem dX9_lots_39 : decode cX9_lots 39 = .ok (.iload_n 2, 1) := by decide +kernel
theorem dX9_lots_40 : decode cX9_lots 40 = .ok (.ireturn, 1) := by decide +kernel
theorem dX9_image_0 : decode cX9_image 0 = .ok (.aload_n 0, 1) := by decide +kernel
theorem dX9_image_1 : decode cX9_image 1 = .ok (.aload_n 0, 1) := by decide +kernel
theorem dX9_image_2 : decode cX9_image 2 = .ok (.getfield 155, 3) := by decide +kernel
theorem dX9_image_5 : decode cX9_image 5 = .ok (.putfield 118, 3) := by decide +kernel
theorem dX9_image_8 : decode cX9_image 8 = .ok (.iconst 0, 1) := by decide +kernel
theorem dX9_image_9 : decode cX9_image 9 = .ok (.istore_n 1, 1) := by decide +kernel
theorem dX9_image_10 : decode cX9_image 10 = .ok (.iload_n 1, 1) := by decide +kernel
theorem dX9_image_11 : decode cX9_image 11 = .ok (.aload_n 0, 1) := by decide +kernel
theorem dX9_image_12 : decode cX9_image 12 = .ok (.getfield 155, 3) := by decide +kernel
theorem dX9_image_15 : decode cX9_image 15 = .ok (.if_icmp .ge 45, 3) := by decide +kernel
theorem dX9_image_18 : decode cX9_image 18 = .ok (.aload_n 0, 1) := by decide +kernel
theorem dX9_image_19 : decode cX9_image 19 = .ok (.getfield 121, 3) := by decide +kernel
theorem dX9_image_22 : decode cX9_image 22 = .ok (.iload_n 1, 1) := by decide +kernel
theorem dX9_image_23 : decode cX9_image 23 = .ok (.aload_n 0, 1) := by decide +kernel
theorem dX9_image_24 : decode cX9_image 24 = .ok (.getfield 23, 3) := by decide +kernel
theorem dX9_image_27 : decode cX9_image 27 = .ok (.iload_n 1, 1) := by decide +kernel
theorem dX9_image_28 : decode cX9_image 28 = .ok (.iaload, 1) := by decide +kernel
theorem dX9_image_29 : decode cX9_image 29 = .ok (.iastore, 1) := by decide +kernel
theorem dX9_image_30 : decode cX9_image 30 = .ok (.aload_n 0, 1) := by decide +kernel
theorem dX9_image_31 : decode cX9_image 31 = .ok (.getfield 124, 3) := by decide +kernel
theorem dX9_image_34 : decode cX9_image 34 = .ok (.iload_n 1, 1) := by decide +kernel
theorem dX9_image_35 : decode cX9_image 35 = .ok (.aload_n 0, 1) := by decide +kernel
theorem dX9_image_36 : decode cX9_image 36 = .ok (.getfield 26, 3) := by decide +kernel
theorem dX9_image_39 : decode cX9_image 39 = .ok (.iload_n 1, 1) := by decide +kernel
theorem dX9_image_40 : decode cX9_image 40 = .ok (.iaload, 1) := by decide +kernel
theorem dX9_image_41 : decode cX9_image 41 = .ok (.iastore, 1) := by decide +kernel
theorem dX9_image_42 : decode cX9_image 42 = .ok (.aload_n 0, 1) := by decide +kernel
theorem dX9_image_43 : decode cX9_image 43 = .ok (.getfield 127, 3) := by decide +kernel
theorem dX9_image_46 : decode cX9_image 46 = .ok (.iload_n 1, 1) := by decide +kernel
theorem dX9_image_47 : decode cX9_image 47 = .ok (.aload_n 0, 1) := by decide +kernel
theorem dX9_image_48 : decode cX9_image 48 = .ok (.getfield 29, 3) := by decide +kernel
theorem dX9_image_51 : decode cX9_image 51 = .ok (.iload_n 1, 1) := by decide +kernel
theorem dX9_image_52 : decode cX9_image 52 = .ok (.iaload, 1) := by decide +kernel
theorem dX9_image_53 : decode cX9_image 53 = .ok (.iastore, 1) := by decide +kernel
theorem dX9_image_54 : decode cX9_image 54 = .ok (.iinc 1 1, 3) := by decide +kernel
theorem dX9_image_57 : decode cX9_image 57 = .ok (.goto (-47), 3) := by decide +kernel
theorem dX9_image_60 : decode cX9_image 60 = .ok (.aload_n 0, 1) := by decide +kernel
theorem dX9_image_61 : decode cX9_image 61 = .ok (.getfield 130, 3) := by decide +kernel
theorem dX9_image_64 : decode cX9_image 64 = .ok (.iconst 0, 1) := by decide +kernel
theorem dX9_image_65 : decode cX9_image 65 = .ok (.aload_n 0, 1) := by decide +kernel
theorem dX9_image_66 : decode cX9_image 66 = .ok (.getfield 32, 3) := by decide +kernel
theorem dX9_image_69 : decode cX9_image 69 = .ok (.iconst 0, 1) := by decide +kernel
theorem dX9_image_70 : decode cX9_image 70 = .ok (.iaload, 1) := by decide +kernel
theorem dX9_image_71 : decode cX9_image 71 = .ok (.iastore, 1) := by decide +kernel
theorem dX9_image_72 : decode cX9_image 72 = .ok (.aload_n 0, 1) := by decide +kernel
theorem dX9_image_73 : decode cX9_image 73 = .ok (.getfield 130, 3) := by decide +kernel
theorem dX9_image_76 : decode cX9_image 76 = .ok (.iconst 1, 1) := by decide +kernel
theorem dX9_image_77 : decode cX9_image 77 = .ok (.aload_n 0, 1) := by decide +kernel
theorem dX9_image_78 : decode cX9_image 78 = .ok (.getfield 35, 3) := by decide +kernel
theorem dX9_image_81 : decode cX9_image 81 = .ok (.iconst 0, 1) := by decide +kernel
theorem dX9_image_82 : decode cX9_image 82 = .ok (.iaload, 1) := by decide +kernel
theorem dX9_image_83 : decode cX9_image 83 = .ok (.iastore, 1) := by decide +kernel
theorem dX9_image_84 : decode cX9_image 84 = .ok (.aload_n 0, 1) := by decide +kernel
theorem dX9_image_85 : decode cX9_image 85 = .ok (.getfield 130, 3) := by decide +kernel
theorem dX9_image_88 : decode cX9_image 88 = .ok (.iconst 2, 1) := by decide +kernel
theorem dX9_image_89 : decode cX9_image 89 = .ok (.aload_n 0, 1) := by decide +kernel
theorem dX9_image_90 : decode cX9_image 90 = .ok (.getfield 38, 3) := by decide +kernel
theorem dX9_image_93 : decode cX9_image 93 = .ok (.iconst 0, 1) := by decide +kernel
theorem dX9_image_94 : decode cX9_image 94 = .ok (.iaload, 1) := by decide +kernel
theorem dX9_image_95 : decode cX9_image 95 = .ok (.iastore, 1) := by decide +kernel
theorem dX9_image_96 : decode cX9_image 96 = .ok (.aload_n 0, 1) := by decide +kernel
theorem dX9_image_97 : decode cX9_image 97 = .ok (.getfield 130, 3) := by decide +kernel
theorem dX9_image_100 : decode cX9_image 100 = .ok (.iconst 3, 1) := by decide +kernel
theorem dX9_image_101 : decode cX9_image 101 = .ok (.aload_n 0, 1) := by decide +kernel
theorem dX9_image_102 : decode cX9_image 102 = .ok (.getfield 41, 3) := by decide +kernel
theorem dX9_image_105 : decode cX9_image 105 = .ok (.iconst 0, 1) := by decide +kernel
theorem dX9_image_106 : decode cX9_image 106 = .ok (.iaload, 1) := by decide +kernel
theorem dX9_image_107 : decode cX9_image 107 = .ok (.iastore, 1) := by decide +kernel
theorem dX9_image_108 : decode cX9_image 108 = .ok (.aload_n 0, 1) := by decide +kernel
theorem dX9_image_109 : decode cX9_image 109 = .ok (.getfield 130, 3) := by decide +kernel
theorem dX9_image_112 : decode cX9_image 112 = .ok (.iconst 4, 1) := by decide +kernel
theorem dX9_image_113 : decode cX9_image 113 = .ok (.aload_n 0, 1) := by decide +kernel
theorem dX9_image_114 : decode cX9_image 114 = .ok (.getfield 44, 3) := by decide +kernel
theorem dX9_image_117 : decode cX9_image 117 = .ok (.iconst 0, 1) := by decide +kernel
theorem dX9_image_118 : decode cX9_image 118 = .ok (.iaload, 1) := by decide +kernel
theorem dX9_image_119 : decode cX9_image 119 = .ok (.iastore, 1) := by decide +kernel
theorem dX9_image_120 : decode cX9_image 120 = .ok (.aload_n 0, 1) := by decide +kernel
theorem dX9_image_121 : decode cX9_image 121 = .ok (.getfield 130, 3) := by decide +kernel
theorem dX9_image_124 : decode cX9_image 124 = .ok (.iconst 5, 1) := by decide +kernel
theorem dX9_image_125 : decode cX9_image 125 = .ok (.aload_n 0, 1) := by decide +kernel
theorem dX9_image_126 : decode cX9_image 126 = .ok (.getfield 166, 3) := by decide +kernel
theorem dX9_image_129 : decode cX9_image 129 = .ok (.iastore, 1) := by decide +kernel
theorem dX9_image_130 : decode cX9_image 130 = .ok (.aload_n 0, 1) := by decide +kernel
theorem dX9_image_131 : decode cX9_image 131 = .ok (.getfield 130, 3) := by decide +kernel
theorem dX9_image_134 : decode cX9_image 134 = .ok (.bipush 6, 2) := by decide +kernel
theorem dX9_image_136 : decode cX9_image 136 = .ok (.aload_n 0, 1) := by decide +kernel
theorem dX9_image_137 : decode cX9_image 137 = .ok (.getfield 326, 3) := by decide +kernel
theorem dX9_image_140 : decode cX9_image 140 = .ok (.iastore, 1) := by decide +kernel
theorem dX9_image_141 : decode cX9_image 141 = .ok (.aload_n 0, 1) := by decide +kernel
theorem dX9_image_142 : decode cX9_image 142 = .ok (.getfield 130, 3) := by decide +kernel
theorem dX9_image_145 : decode cX9_image 145 = .ok (.bipush 7, 2) := by decide +kernel
theorem dX9_image_147 : decode cX9_image 147 = .ok (.aload_n 0, 1) := by decide +kernel
theorem dX9_image_148 : decode cX9_image 148 = .ok (.getfield 47, 3) := by decide +kernel
theorem dX9_image_151 : decode cX9_image 151 = .ok (.iastore, 1) := by decide +kernel
theorem dX9_image_152 : decode cX9_image 152 = .ok (.aload_n 0, 1) := by decide +kernel
theorem dX9_image_153 : decode cX9_image 153 = .ok (.getfield 130, 3) := by decide +kernel
theorem dX9_image_156 : decode cX9_image 156 = .ok (.bipush 8, 2) := by decide +kernel
theorem dX9_image_158 : decode cX9_image 158 = .ok (.aload_n 0, 1) := by decide +kernel
theorem dX9_image_159 : decode cX9_image 159 = .ok (.getfield 314, 3) := by decide +kernel
theorem dX9_image_162 : decode cX9_image 162 = .ok (.iastore, 1) := by decide +kernel
theorem dX9_image_163 : decode cX9_image 163 = .ok (.aload_n 0, 1) := by decide +kernel
theorem dX9_image_164 : decode cX9_image 164 = .ok (.getfield 130, 3) := by decide +kernel
theorem dX9_image_167 : decode cX9_image 167 = .ok (.bipush 9, 2) := by decide +kernel
theorem dX9_image_169 : decode cX9_image 169 = .ok (.aload_n 0, 1) := by decide +kernel
theorem dX9_image_170 : decode cX9_image 170 = .ok (.getfield 317, 3) := by decide +kernel
theorem dX9_image_173 : decode cX9_image 173 = .ok (.iastore, 1) := by decide +kernel
theorem dX9_image_174 : decode cX9_image 174 = .ok (.aload_n 0, 1) := by decide +kernel
theorem dX9_image_175 : decode cX9_image 175 = .ok (.getfield 155, 3) := by decide +kernel
theorem dX9_image_178 : decode cX9_image 178 = .ok (.ireturn, 1) := by decide +kernel
theorem dX9_back_0 : decode cX9_back 0 = .ok (.aload_n 0, 1) := by decide +kernel
theorem dX9_back_1 : decode cX9_back 1 = .ok (.getfield 118, 3) := by decide +kernel
theorem dX9_back_4 : decode cX9_back 4 = .ok (.aload_n 0, 1) := by decide +kernel
theorem dX9_back_5 : decode cX9_back 5 = .ok (.getfield 155, 3) := by decide +kernel
theorem dX9_back_8 : decode cX9_back 8 = .ok (.if_icmp .eq 6, 3) := by decide +kernel
theorem dX9_back_11 : decode cX9_back 11 = .ok (.bipush (-5), 2) := by decide +kernel
theorem dX9_back_13 : decode cX9_back 13 = .ok (.ireturn, 1) := by decide +kernel
theorem dX9_back_14 : decode cX9_back 14 = .ok (.iconst 0, 1) := by decide +kernel
theorem dX9_back_15 : decode cX9_back 15 = .ok (.istore_n 1, 1) := by decide +kernel
theorem dX9_back_16 : decode cX9_back 16 = .ok (.iload_n 1, 1) := by decide +kernel
theorem dX9_back_17 : decode cX9_back 17 = .ok (.aload_n 0, 1) := by decide +kernel
theorem dX9_back_18 : decode cX9_back 18 = .ok (.getfield 155, 3) := by decide +kernel
theorem dX9_back_21 : decode cX9_back 21 = .ok (.if_icmp .ge 45, 3) := by decide +kernel
theorem dX9_back_24 : decode cX9_back 24 = .ok (.aload_n 0, 1) := by decide +kernel
theorem dX9_back_25 : decode cX9_back 25 = .ok (.getfield 23, 3) := by decide +kernel
theorem dX9_back_28 : decode cX9_back 28 = .ok (.iload_n 1, 1) := by decide +kernel
theorem dX9_back_29 : decode cX9_back 29 = .ok (.aload_n 0, 1) := by decide +kernel
theorem dX9_back_30 : decode cX9_back 30 = .ok (.getfield 121, 3) := by decide +kernel
theorem dX9_back_33 : decode cX9_back 33 = .ok (.iload_n 1, 1) := by decide +kernel
theorem dX9_back_34 : decode cX9_back 34 = .ok (.iaload, 1) := by decide +kernel
theorem dX9_back_35 : decode cX9_back 35 = .ok (.iastore, 1) := by decide +kernel
theorem dX9_back_36 : decode cX9_back 36 = .ok (.aload_n 0, 1) := by decide +kernel
theorem dX9_back_37 : decode cX9_back 37 = .ok (.getfield 26, 3) := by decide +kernel
theorem dX9_back_40 : decode cX9_back 40 = .ok (.iload_n 1, 1) := by decide +kernel
theorem dX9_back_41 : decode cX9_back 41 = .ok (.aload_n 0, 1) := by decide +kernel
theorem dX9_back_42 : decode cX9_back 42 = .ok (.getfield 124, 3) := by decide +kernel
theorem dX9_back_45 : decode cX9_back 45 = .ok (.iload_n 1, 1) := by decide +kernel
theorem dX9_back_46 : decode cX9_back 46 = .ok (.iaload, 1) := by decide +kernel
theorem dX9_back_47 : decode cX9_back 47 = .ok (.iastore, 1) := by decide +kernel
theorem dX9_back_48 : decode cX9_back 48 = .ok (.aload_n 0, 1) := by decide +kernel
theorem dX9_back_49 : decode cX9_back 49 = .ok (.getfield 29, 3) := by decide +kernel
theorem dX9_back_52 : decode cX9_back 52 = .ok (.iload_n 1, 1) := by decide +kernel
theorem dX9_back_53 : decode cX9_back 53 = .ok (.aload_n 0, 1) := by decide +kernel
theorem dX9_back_54 : decode cX9_back 54 = .ok (.getfield 127, 3) := by decide +kernel
theorem dX9_back_57 : decode cX9_back 57 = .ok (.iload_n 1, 1) := by decide +kernel
theorem dX9_back_58 : decode cX9_back 58 = .ok (.iaload, 1) := by decide +kernel
theorem dX9_back_59 : decode cX9_back 59 = .ok (.iastore, 1) := by decide +kernel
theorem dX9_back_60 : decode cX9_back 60 = .ok (.iinc 1 1, 3) := by decide +kernel
theorem dX9_back_63 : decode cX9_back 63 = .ok (.goto (-47), 3) := by decide +kernel
theorem dX9_back_66 : decode cX9_back 66 = .ok (.aload_n 0, 1) := by decide +kernel
theorem dX9_back_67 : decode cX9_back 67 = .ok (.getfield 32, 3) := by decide +kernel
theorem dX9_back_70 : decode cX9_back 70 = .ok (.iconst 0, 1) := by decide +kernel
theorem dX9_back_71 : decode cX9_back 71 = .ok (.aload_n 0, 1) := by decide +kernel
theorem dX9_back_72 : decode cX9_back 72 = .ok (.getfield 130, 3) := by decide +kernel
theorem dX9_back_75 : decode cX9_back 75 = .ok (.iconst 0, 1) := by decide +kernel
theorem dX9_back_76 : decode cX9_back 76 = .ok (.iaload, 1) := by decide +kernel
theorem dX9_back_77 : decode cX9_back 77 = .ok (.iastore, 1) := by decide +kernel
theorem dX9_back_78 : decode cX9_back 78 = .ok (.aload_n 0, 1) := by decide +kernel
theorem dX9_back_79 : decode cX9_back 79 = .ok (.getfield 35, 3) := by decide +kernel
theorem dX9_back_82 : decode cX9_back 82 = .ok (.iconst 0, 1) := by decide +kernel
theorem dX9_back_83 : decode cX9_back 83 = .ok (.aload_n 0, 1) := by decide +kernel
theorem dX9_back_84 : decode cX9_back 84 = .ok (.getfield 130, 3) := by decide +kernel
theorem dX9_back_87 : decode cX9_back 87 = .ok (.iconst 1, 1) := by decide +kernel
theorem dX9_back_88 : decode cX9_back 88 = .ok (.iaload, 1) := by decide +kernel
theorem dX9_back_89 : decode cX9_back 89 = .ok (.iastore, 1) := by decide +kernel
theorem dX9_back_90 : decode cX9_back 90 = .ok (.aload_n 0, 1) := by decide +kernel
theorem dX9_back_91 : decode cX9_back 91 = .ok (.getfield 38, 3) := by decide +kernel
theorem dX9_back_94 : decode cX9_back 94 = .ok (.iconst 0, 1) := by decide +kernel
theorem dX9_back_95 : decode cX9_back 95 = .ok (.aload_n 0, 1) := by decide +kernel
theorem dX9_back_96 : decode cX9_back 96 = .ok (.getfield 130, 3) := by decide +kernel
