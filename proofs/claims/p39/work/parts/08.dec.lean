theorem dL_like_1 : decode cL_like 1 = .ok (.bipush 7, 2) := by decide +kernel
theorem dL_like_3 : decode cL_like 3 = .ok (.iload_n 1, 1) := by decide +kernel
theorem dL_like_4 : decode cL_like 4 = .ok (.iadd, 1) := by decide +kernel
theorem dL_like_5 : decode cL_like 5 = .ok (.invokestatic 17, 3) := by decide +kernel
theorem dL_like_8 : decode cL_like 8 = .ok (.iconst 3, 1) := by decide +kernel
theorem dL_like_9 : decode cL_like 9 = .ok (.iload_n 2, 1) := by decide +kernel
theorem dL_like_10 : decode cL_like 10 = .ok (.imul, 1) := by decide +kernel
theorem dL_like_11 : decode cL_like 11 = .ok (.ishr, 1) := by decide +kernel
theorem dL_like_12 : decode cL_like 12 = .ok (.bipush 10, 2) := by decide +kernel
theorem dL_like_14 : decode cL_like 14 = .ok (.irem, 1) := by decide +kernel
theorem dL_like_15 : decode cL_like 15 = .ok (.ireturn, 1) := by decide +kernel
theorem dL_hasLaw_0 : decode cL_hasLaw 0 = .ok (.aload_n 0, 1) := by decide +kernel
theorem dL_hasLaw_1 : decode cL_hasLaw 1 = .ok (.iconst 0, 1) := by decide +kernel
theorem dL_hasLaw_2 : decode cL_hasLaw 2 = .ok (.invokestatic 17, 3) := by decide +kernel
theorem dL_hasLaw_5 : decode cL_hasLaw 5 = .ok (.bipush 19, 2) := by decide +kernel
theorem dL_hasLaw_7 : decode cL_hasLaw 7 = .ok (.ishr, 1) := by decide +kernel
theorem dL_hasLaw_8 : decode cL_hasLaw 8 = .ok (.iconst 1, 1) := by decide +kernel
theorem dL_hasLaw_9 : decode cL_hasLaw 9 = .ok (.iand, 1) := by decide +kernel
theorem dL_hasLaw_10 : decode cL_hasLaw 10 = .ok (.iconst 1, 1) := by decide +kernel
theorem dL_hasLaw_11 : decode cL_hasLaw 11 = .ok (.if_icmp .ne 7, 3) := by decide +kernel
theorem dL_hasLaw_14 : decode cL_hasLaw 14 = .ok (.iconst 1, 1) := by decide +kernel
theorem dL_hasLaw_15 : decode cL_hasLaw 15 = .ok (.goto 4, 3) := by decide +kernel
theorem dL_hasLaw_18 : decode cL_hasLaw 18 = .ok (.iconst 0, 1) := by decide +kernel
theorem dL_hasLaw_19 : decode cL_hasLaw 19 = .ok (.ireturn, 1) := by decide +kernel
theorem dL_lot_0 : decode cL_lot 0 = .ok (.aload_n 0, 1) := by decide +kernel
theorem dL_lot_1 : decode cL_lot 1 = .ok (.invokestatic 23, 3) := by decide +kernel
theorem dL_lot_4 : decode cL_lot 4 = .ok (.istore_n 1, 1) := by decide +kernel
theorem dL_lot_5 : decode cL_lot 5 = .ok (.iload_n 1, 1) := by decide +kernel
theorem dL_lot_6 : decode cL_lot 6 = .ok (.newarray .int, 2) := by decide +kernel
theorem dL_lot_8 : decode cL_lot 8 = .ok (.astore_n 2, 1) := by decide +kernel
theorem dL_lot_9 : decode cL_lot 9 = .ok (.iconst 0, 1) := by decide +kernel
theorem dL_lot_10 : decode cL_lot 10 = .ok (.istore_n 3, 1) := by decide +kernel
theorem dL_lot_11 : decode cL_lot 11 = .ok (.iload_n 3, 1) := by decide +kernel
theorem dL_lot_12 : decode cL_lot 12 = .ok (.iload_n 1, 1) := by decide +kernel
theorem dL_lot_13 : decode cL_lot 13 = .ok (.if_icmp .ge 13, 3) := by decide +kernel
theorem dL_lot_16 : decode cL_lot 16 = .ok (.aload_n 2, 1) := by decide +kernel
theorem dL_lot_17 : decode cL_lot 17 = .ok (.iload_n 3, 1) := by decide +kernel
theorem dL_lot_18 : decode cL_lot 18 = .ok (.iload_n 3, 1) := by decide +kernel
theorem dL_lot_19 : decode cL_lot 19 = .ok (.iastore, 1) := by decide +kernel
theorem dL_lot_20 : decode cL_lot 20 = .ok (.iinc 3 1, 3) := by decide +kernel
theorem dL_lot_23 : decode cL_lot 23 = .ok (.goto (-12), 3) := by decide +kernel
theorem dL_lot_26 : decode cL_lot 26 = .ok (.iload_n 1, 1) := by decide +kernel
theorem dL_lot_27 : decode cL_lot 27 = .ok (.iconst 1, 1) := by decide +kernel
theorem dL_lot_28 : decode cL_lot 28 = .ok (.isub, 1) := by decide +kernel
theorem dL_lot_29 : decode cL_lot 29 = .ok (.istore_n 3, 1) := by decide +kernel
theorem dL_lot_30 : decode cL_lot 30 = .ok (.iload_n 3, 1) := by decide +kernel
theorem dL_lot_31 : decode cL_lot 31 = .ok (.ifCond .le 43, 3) := by decide +kernel
theorem dL_lot_34 : decode cL_lot 34 = .ok (.aload_n 0, 1) := by decide +kernel
theorem dL_lot_35 : decode cL_lot 35 = .ok (.bipush 13, 2) := by decide +kernel
theorem dL_lot_37 : decode cL_lot 37 = .ok (.invokestatic 17, 3) := by decide +kernel
theorem dL_lot_40 : decode cL_lot 40 = .ok (.iconst 3, 1) := by decide +kernel
theorem dL_lot_41 : decode cL_lot 41 = .ok (.iload_n 3, 1) := by decide +kernel
theorem dL_lot_42 : decode cL_lot 42 = .ok (.imul, 1) := by decide +kernel
theorem dL_lot_43 : decode cL_lot 43 = .ok (.ishr, 1) := by decide +kernel
theorem dL_lot_44 : decode cL_lot 44 = .ok (.iload_n 3, 1) := by decide +kernel
theorem dL_lot_45 : decode cL_lot 45 = .ok (.iconst 1, 1) := by decide +kernel
theorem dL_lot_46 : decode cL_lot 46 = .ok (.iadd, 1) := by decide +kernel
theorem dL_lot_47 : decode cL_lot 47 = .ok (.irem, 1) := by decide +kernel
theorem dL_lot_48 : decode cL_lot 48 = .ok (.istore 4, 2) := by decide +kernel
theorem dL_lot_50 : decode cL_lot 50 = .ok (.aload_n 2, 1) := by decide +kernel
theorem dL_lot_51 : decode cL_lot 51 = .ok (.iload_n 3, 1) := by decide +kernel
theorem dL_lot_52 : decode cL_lot 52 = .ok (.iaload, 1) := by decide +kernel
theorem dL_lot_53 : decode cL_lot 53 = .ok (.istore 5, 2) := by decide +kernel
theorem dL_lot_55 : decode cL_lot 55 = .ok (.aload_n 2, 1) := by decide +kernel
theorem dL_lot_56 : decode cL_lot 56 = .ok (.iload_n 3, 1) := by decide +kernel
theorem dL_lot_57 : decode cL_lot 57 = .ok (.aload_n 2, 1) := by decide +kernel
theorem dL_lot_58 : decode cL_lot 58 = .ok (.iload 4, 2) := by decide +kernel
theorem dL_lot_60 : decode cL_lot 60 = .ok (.iaload, 1) := by decide +kernel
theorem dL_lot_61 : decode cL_lot 61 = .ok (.iastore, 1) := by decide +kernel
theorem dL_lot_62 : decode cL_lot 62 = .ok (.aload_n 2, 1) := by decide +kernel
theorem dL_lot_63 : decode cL_lot 63 = .ok (.iload 4, 2) := by decide +kernel
theorem dL_lot_65 : decode cL_lot 65 = .ok (.iload 5, 2) := by decide +kernel
theorem dL_lot_67 : decode cL_lot 67 = .ok (.iastore, 1) := by decide +kernel
theorem dL_lot_68 : decode cL_lot 68 = .ok (.iinc 3 (-1), 3) := by decide +kernel
theorem dL_lot_71 : decode cL_lot 71 = .ok (.goto (-41), 3) := by decide +kernel
theorem dL_lot_74 : decode cL_lot 74 = .ok (.aload_n 2, 1) := by decide +kernel
theorem dL_lot_75 : decode cL_lot 75 = .ok (.areturn, 1) := by decide +kernel
theorem dL_built_0 : decode cL_built 0 = .ok (.aload_n 1, 1) := by decide +kernel
theorem dL_built_1 : decode cL_built 1 = .ok (.invokestatic 23, 3) := by decide +kernel
theorem dL_built_4 : decode cL_built 4 = .ok (.istore_n 2, 1) := by decide +kernel
theorem dL_built_5 : decode cL_built 5 = .ok (.iconst 0, 1) := by decide +kernel
theorem dL_built_6 : decode cL_built 6 = .ok (.istore_n 3, 1) := by decide +kernel
theorem dL_built_7 : decode cL_built 7 = .ok (.iload_n 3, 1) := by decide +kernel
theorem dL_built_8 : decode cL_built 8 = .ok (.iload_n 2, 1) := by decide +kernel
theorem dL_built_9 : decode cL_built 9 = .ok (.if_icmp .ge 24, 3) := by decide +kernel
theorem dL_built_12 : decode cL_built 12 = .ok (.aload_n 0, 1) := by decide +kernel
theorem dL_built_13 : decode cL_built 13 = .ok (.aload_n 1, 1) := by decide +kernel
theorem dL_built_14 : decode cL_built 14 = .ok (.iload_n 3, 1) := by decide +kernel
theorem dL_built_15 : decode cL_built 15 = .ok (.invokestatic 27, 3) := by decide +kernel
theorem dL_built_18 : decode cL_built 18 = .ok (.invokevirtual 30, 3) := by decide +kernel
theorem dL_built_21 : decode cL_built 21 = .ok (.iload_n 3, 1) := by decide +kernel
theorem dL_built_22 : decode cL_built 22 = .ok (.if_icmp .eq 5, 3) := by decide +kernel
theorem dL_built_25 : decode cL_built 25 = .ok (.iconst 0, 1) := by decide +kernel
theorem dL_built_26 : decode cL_built 26 = .ok (.ireturn, 1) := by decide +kernel
theorem dL_built_27 : decode cL_built 27 = .ok (.iinc 3 1, 3) := by decide +kernel
theorem dL_built_30 : decode cL_built 30 = .ok (.goto (-23), 3) := by decide +kernel
theorem dL_built_33 : decode cL_built 33 = .ok (.iconst 0, 1) := by decide +kernel
theorem dL_built_34 : decode cL_built 34 = .ok (.istore_n 3, 1) := by decide +kernel
theorem dL_built_35 : decode cL_built 35 = .ok (.iload_n 3, 1) := by decide +kernel
theorem dL_built_36 : decode cL_built 36 = .ok (.iload_n 2, 1) := by decide +kernel
theorem dL_built_37 : decode cL_built 37 = .ok (.if_icmp .ge 77, 3) := by decide +kernel
theorem dL_built_40 : decode cL_built 40 = .ok (.iconst 0, 1) := by decide +kernel
theorem dL_built_41 : decode cL_built 41 = .ok (.istore 4, 2) := by decide +kernel
theorem dL_built_43 : decode cL_built 43 = .ok (.iload 4, 2) := by decide +kernel
theorem dL_built_45 : decode cL_built 45 = .ok (.iload_n 2, 1) := by decide +kernel
theorem dL_built_46 : decode cL_built 46 = .ok (.if_icmp .ge 62, 3) := by decide +kernel
theorem dL_built_49 : decode cL_built 49 = .ok (.aload_n 0, 1) := by decide +kernel
theorem dL_built_50 : decode cL_built 50 = .ok (.bipush 10, 2) := by decide +kernel
theorem dL_built_52 : decode cL_built 52 = .ok (.iload_n 3, 1) := by decide +kernel
theorem dL_built_53 : decode cL_built 53 = .ok (.imul, 1) := by decide +kernel
theorem dL_built_54 : decode cL_built 54 = .ok (.iload 4, 2) := by decide +kernel
theorem dL_built_56 : decode cL_built 56 = .ok (.iadd, 1) := by decide +kernel
theorem dL_built_57 : decode cL_built 57 = .ok (.iconst 0, 1) := by decide +kernel
theorem dL_built_58 : decode cL_built 58 = .ok (.aload_n 1, 1) := by decide +kernel
theorem dL_built_59 : decode cL_built 59 = .ok (.iload_n 3, 1) := by decide +kernel
theorem dL_built_60 : decode cL_built 60 = .ok (.iload 4, 2) := by decide +kernel
theorem dL_built_62 : decode cL_built 62 = .ok (.invokestatic 33, 3) := by decide +kernel
theorem dL_built_65 : decode cL_built 65 = .ok (.invokevirtual 37, 3) := by decide +kernel
theorem dL_built_68 : decode cL_built 68 = .ok (.ifCond .ne 32, 3) := by decide +kernel
theorem dL_built_71 : decode cL_built 71 = .ok (.iload_n 3, 1) := by decide +kernel
theorem dL_built_72 : decode cL_built 72 = .ok (.iload 4, 2) := by decide +kernel
theorem dL_built_74 : decode cL_built 74 = .ok (.if_icmp .eq 28, 3) := by decide +kernel
theorem dL_built_77 : decode cL_built 77 = .ok (.aload_n 0, 1) := by decide +kernel
theorem dL_built_78 : decode cL_built 78 = .ok (.bipush 10, 2) := by decide +kernel
theorem dL_built_80 : decode cL_built 80 = .ok (.iload_n 3, 1) := by decide +kernel
theorem dL_built_81 : decode cL_built 81 = .ok (.imul, 1) := by decide +kernel
theorem dL_built_82 : decode cL_built 82 = .ok (.iload 4, 2) := by decide +kernel
theorem dL_built_84 : decode cL_built 84 = .ok (.iadd, 1) := by decide +kernel
theorem dL_built_85 : decode cL_built 85 = .ok (.iconst 1, 1) := by decide +kernel
theorem dL_built_86 : decode cL_built 86 = .ok (.aload_n 1, 1) := by decide +kernel
theorem dL_built_87 : decode cL_built 87 = .ok (.iload_n 3, 1) := by decide +kernel
theorem dL_built_88 : decode cL_built 88 = .ok (.iload 4, 2) := by decide +kernel
theorem dL_built_90 : decode cL_built 90 = .ok (.invokestatic 41, 3) := by decide +kernel
theorem dL_built_93 : decode cL_built 93 = .ok (.invokevirtual 37, 3) := by decide +kernel
theorem dL_built_96 : decode cL_built 96 = .ok (.iconst 5, 1) := by decide +kernel
theorem dL_built_97 : decode cL_built 97 = .ok (.if_icmp .eq 5, 3) := by decide +kernel
theorem dL_built_100 : decode cL_built 100 = .ok (.iconst 0, 1) := by decide +kernel
theorem dL_built_101 : decode cL_built 101 = .ok (.ireturn, 1) := by decide +kernel
theorem dL_built_102 : decode cL_built 102 = .ok (.iinc 4 1, 3) := by decide +kernel
theorem dL_built_105 : decode cL_built 105 = .ok (.goto (-62), 3) := by decide +kernel
theorem dL_built_108 : decode cL_built 108 = .ok (.iinc 3 1, 3) := by decide +kernel
theorem dL_built_111 : decode cL_built 111 = .ok (.goto (-76), 3) := by decide +kernel
theorem dL_built_114 : decode cL_built 114 = .ok (.aload_n 0, 1) := by decide +kernel
theorem dL_built_115 : decode cL_built 115 = .ok (.iconst 0, 1) := by decide +kernel
theorem dL_built_116 : decode cL_built 116 = .ok (.iconst 3, 1) := by decide +kernel
theorem dL_built_117 : decode cL_built 117 = .ok (.aload_n 1, 1) := by decide +kernel
theorem dL_built_118 : decode cL_built 118 = .ok (.invokestatic 44, 3) := by decide +kernel
theorem dL_built_121 : decode cL_built 121 = .ok (.invokevirtual 37, 3) := by decide +kernel
theorem dL_built_124 : decode cL_built 124 = .ok (.iconst 3, 1) := by decide +kernel
theorem dL_built_125 : decode cL_built 125 = .ok (.if_icmp .ne 16, 3) := by decide +kernel
theorem dL_built_128 : decode cL_built 128 = .ok (.aload_n 0, 1) := by decide +kernel
theorem dL_built_129 : decode cL_built 129 = .ok (.iconst 0, 1) := by decide +kernel
theorem dL_built_130 : decode cL_built 130 = .ok (.iconst 4, 1) := by decide +kernel
theorem dL_built_131 : decode cL_built 131 = .ok (.aload_n 1, 1) := by decide +kernel
theorem dL_built_132 : decode cL_built 132 = .ok (.invokestatic 47, 3) := by decide +kernel
theorem dL_built_135 : decode cL_built 135 = .ok (.invokevirtual 37, 3) := by decide +kernel
theorem dL_built_138 : decode cL_built 138 = .ok (.ifCond .eq 5, 3) := by decide +kernel
theorem dL_built_141 : decode cL_built 141 = .ok (.iconst 0, 1) := by decide +kernel
theorem dL_built_142 : decode cL_built 142 = .ok (.ireturn, 1) := by decide +kernel
theorem dL_built_143 : decode cL_built 143 = .ok (.aload_n 1, 1) := by decide +kernel
theorem dL_built_144 : decode cL_built 144 = .ok (.invokestatic 50, 3) := by decide +kernel
theorem dL_built_147 : decode cL_built 147 = .ok (.astore_n 3, 1) := by decide +kernel
theorem dL_built_148 : decode cL_built 148 = .ok (.iconst 0, 1) := by decide +kernel
theorem dL_built_149 : decode cL_built 149 = .ok (.istore 4, 2) := by decide +kernel
theorem dL_built_151 : decode cL_built 151 = .ok (.iload 4, 2) := by decide +kernel
theorem dL_built_153 : decode cL_built 153 = .ok (.iload_n 2, 1) := by decide +kernel
theorem dL_built_154 : decode cL_built 154 = .ok (.if_icmp .ge 62, 3) := by decide +kernel
theorem dL_built_157 : decode cL_built 157 = .ok (.iload 4, 2) := by decide +kernel
theorem dL_built_159 : decode cL_built 159 = .ok (.istore 5, 2) := by decide +kernel
theorem dL_built_161 : decode cL_built 161 = .ok (.aload_n 0, 1) := by decide +kernel
theorem dL_built_162 : decode cL_built 162 = .ok (.iload 5, 2) := by decide +kernel
theorem dL_built_164 : decode cL_built 164 = .ok (.bipush 10, 2) := by decide +kernel
theorem dL_built_166 : decode cL_built 166 = .ok (.invokevirtual 54, 3) := by decide +kernel
theorem dL_built_169 : decode cL_built 169 = .ok (.aload_n 3, 1) := by decide +kernel
theorem dL_built_170 : decode cL_built 170 = .ok (.iload 4, 2) := by decide +kernel
theorem dL_built_172 : decode cL_built 172 = .ok (.iaload, 1) := by decide +kernel
theorem dL_built_173 : decode cL_built 173 = .ok (.if_icmp .eq 9, 3) := by decide +kernel
theorem dL_built_176 : decode cL_built 176 = .ok (.iinc 5 1, 3) := by decide +kernel
theorem dL_built_179 : decode cL_built 179 = .ok (.goto (-18), 3) := by decide +kernel
theorem dL_built_182 : decode cL_built 182 = .ok (.iload 5, 2) := by decide +kernel
theorem dL_built_184 : decode cL_built 184 = .ok (.iload 4, 2) := by decide +kernel
theorem dL_built_186 : decode cL_built 186 = .ok (.if_icmp .eq 24, 3) := by decide +kernel
theorem dL_built_189 : decode cL_built 189 = .ok (.aload_n 0, 1) := by decide +kernel
theorem dL_built_190 : decode cL_built 190 = .ok (.bipush 10, 2) := by decide +kernel
theorem dL_built_192 : decode cL_built 192 = .ok (.iload 4, 2) := by decide +kernel
theorem dL_built_194 : decode cL_built 194 = .ok (.imul, 1) := by decide +kernel
theorem dL_built_195 : decode cL_built 195 = .ok (.iload 5, 2) := by decide +kernel
theorem dL_built_197 : decode cL_built 197 = .ok (.iadd, 1) := by decide +kernel
theorem dL_built_198 : decode cL_built 198 = .ok (.invokevirtual 58, 3) := by decide +kernel
theorem dL_built_201 : decode cL_built 201 = .ok (.aload_n 3, 1) := by decide +kernel
theorem dL_built_202 : decode cL_built 202 = .ok (.iload 4, 2) := by decide +kernel
theorem dL_built_204 : decode cL_built 204 = .ok (.iaload, 1) := by decide +kernel
theorem dL_built_205 : decode cL_built 205 = .ok (.if_icmp .eq 5, 3) := by decide +kernel
theorem dL_built_208 : decode cL_built 208 = .ok (.iconst 0, 1) := by decide +kernel
theorem dL_built_209 : decode cL_built 209 = .ok (.ireturn, 1) := by decide +kernel
theorem dL_built_210 : decode cL_built 210 = .ok (.iinc 4 1, 3) := by decide +kernel
theorem dL_built_213 : decode cL_built 213 = .ok (.goto (-62), 3) := by decide +kernel
theorem dL_built_216 : decode cL_built 216 = .ok (.aload_n 1, 1) := by decide +kernel
theorem dL_built_217 : decode cL_built 217 = .ok (.invokestatic 61, 3) := by decide +kernel
theorem dL_built_220 : decode cL_built 220 = .ok (.ifCond .ne 5, 3) := by decide +kernel
theorem dL_built_223 : decode cL_built 223 = .ok (.iconst 1, 1) := by decide +kernel
theorem dL_built_224 : decode cL_built 224 = .ok (.ireturn, 1) := by decide +kernel
theorem dL_built_225 : decode cL_built 225 = .ok (.bipush 15, 2) := by decide +kernel
theorem dL_built_227 : decode cL_built 227 = .ok (.newarray .int, 2) := by decide +kernel
theorem dL_built_229 : decode cL_built 229 = .ok (.dup, 1) := by decide +kernel
theorem dL_built_230 : decode cL_built 230 = .ok (.iconst 0, 1) := by decide +kernel
theorem dL_built_231 : decode cL_built 231 = .ok (.bipush 119, 2) := by decide +kernel
theorem dL_built_233 : decode cL_built 233 = .ok (.iastore, 1) := by decide +kernel
theorem dL_built_234 : decode cL_built 234 = .ok (.dup, 1) := by decide +kernel
theorem dL_built_235 : decode cL_built 235 = .ok (.iconst 1, 1) := by decide +kernel
theorem dL_built_236 : decode cL_built 236 = .ok (.bipush 42, 2) := by decide +kernel
theorem dL_built_238 : decode cL_built 238 = .ok (.iastore, 1) := by decide +kernel
theorem dL_built_239 : decode cL_built 239 = .ok (.dup, 1) := by decide +kernel
theorem dL_built_240 : decode cL_built 240 = .ok (.iconst 2, 1) := by decide +kernel
theorem dL_built_241 : decode cL_built 241 = .ok (.bipush 50, 2) := by decide +kernel
theorem dL_built_243 : decode cL_built 243 = .ok (.iastore, 1) := by decide +kernel
theorem dL_built_244 : decode cL_built 244 = .ok (.dup, 1) := by decide +kernel
theorem dL_built_245 : decode cL_built 245 = .ok (.iconst 3, 1) := by decide +kernel
theorem dL_built_246 : decode cL_built 246 = .ok (.bipush 45, 2) := by decide +kernel
theorem dL_built_248 : decode cL_built 248 = .ok (.iastore, 1) := by decide +kernel
theorem dL_built_249 : decode cL_built 249 = .ok (.dup, 1) := by decide +kernel
theorem dL_built_250 : decode cL_built 250 = .ok (.iconst 4, 1) := by decide +kernel
theorem dL_built_251 : decode cL_built 251 = .ok (.bipush 120, 2) := by decide +kernel
theorem dL_built_253 : decode cL_built 253 = .ok (.iastore, 1) := by decide +kernel
theorem dL_built_254 : decode cL_built 254 = .ok (.dup, 1) := by decide +kernel
theorem dL_built_255 : decode cL_built 255 = .ok (.iconst 5, 1) := by decide +kernel
theorem dL_built_256 : decode cL_built 256 = .ok (.bipush 45, 2) := by decide +kernel
theorem dL_built_258 : decode cL_built 258 = .ok (.iastore, 1) := by decide +kernel
theorem dL_built_259 : decode cL_built 259 = .ok (.dup, 1) := by decide +kernel
theorem dL_built_260 : decode cL_built 260 = .ok (.bipush 6, 2) := by decide +kernel
theorem dL_built_262 : decode cL_built 262 = .ok (.bipush 116, 2) := by decide +kernel
theorem dL_built_264 : decode cL_built 264 = .ok (.iastore, 1) := by decide +kernel
theorem dL_built_265 : decode cL_built 265 = .ok (.dup, 1) := by decide +kernel
theorem dL_built_266 : decode cL_built 266 = .ok (.bipush 7, 2) := by decide +kernel
theorem dL_built_268 : decode cL_built 268 = .ok (.bipush 42, 2) := by decide +kernel
theorem dL_built_270 : decode cL_built 270 = .ok (.iastore, 1) := by decide +kernel
theorem dL_built_271 : decode cL_built 271 = .ok (.dup, 1) := by decide +kernel
theorem dL_built_272 : decode cL_built 272 = .ok (.bipush 8, 2) := by decide +kernel
theorem dL_built_274 : decode cL_built 274 = .ok (.bipush 51, 2) := by decide +kernel
theorem dL_built_276 : decode cL_built 276 = .ok (.iastore, 1) := by decide +kernel
theorem dL_built_277 : decode cL_built 277 = .ok (.dup, 1) := by decide +kernel
theorem dL_built_278 : decode cL_built 278 = .ok (.bipush 9, 2) := by decide +kernel
theorem dL_built_280 : decode cL_built 280 = .ok (.bipush 45, 2) := by decide +kernel
theorem dL_built_282 : decode cL_built 282 = .ok (.iastore, 1) := by decide +kernel
theorem dL_built_283 : decode cL_built 283 = .ok (.dup, 1) := by decide +kernel
theorem dL_built_284 : decode cL_built 284 = .ok (.bipush 10, 2) := by decide +kernel
theorem dL_built_286 : decode cL_built 286 = .ok (.bipush 108, 2) := by decide +kernel
theorem dL_built_288 : decode cL_built 288 = .ok (.iastore, 1) := by decide +kernel
theorem dL_built_289 : decode cL_built 289 = .ok (.dup, 1) := by decide +kernel
theorem dL_built_290 : decode cL_built 290 = .ok (.bipush 11, 2) := by decide +kernel
theorem dL_built_292 : decode cL_built 292 = .ok (.bipush 43, 2) := by decide +kernel
theorem dL_built_294 : decode cL_built 294 = .ok (.iastore, 1) := by decide +kernel
theorem dL_built_295 : decode cL_built 295 = .ok (.dup, 1) := by decide +kernel
theorem dL_built_296 : decode cL_built 296 = .ok (.bipush 12, 2) := by decide +kernel
theorem dL_built_298 : decode cL_built 298 = .ok (.bipush 111, 2) := by decide +kernel
theorem dL_built_300 : decode cL_built 300 = .ok (.iastore, 1) := by decide +kernel
theorem dL_built_301 : decode cL_built 301 = .ok (.dup, 1) := by decide +kernel
theorem dL_built_302 : decode cL_built 302 = .ok (.bipush 13, 2) := by decide +kernel
theorem dL_built_304 : decode cL_built 304 = .ok (.bipush 42, 2) := by decide +kernel
theorem dL_built_306 : decode cL_built 306 = .ok (.iastore, 1) := by decide +kernel
theorem dL_built_307 : decode cL_built 307 = .ok (.dup, 1) := by decide +kernel
theorem dL_built_308 : decode cL_built 308 = .ok (.bipush 14, 2) := by decide +kernel
theorem dL_built_310 : decode cL_built 310 = .ok (.bipush 114, 2) := by decide +kernel
theorem dL_built_312 : decode cL_built 312 = .ok (.iastore, 1) := by decide +kernel
theorem dL_built_313 : decode cL_built 313 = .ok (.astore 4, 2) := by decide +kernel
theorem dL_built_315 : decode cL_built 315 = .ok (.aload_n 0, 1) := by decide +kernel
theorem dL_built_316 : decode cL_built 316 = .ok (.aload 4, 2) := by decide +kernel
theorem dL_built_318 : decode cL_built 318 = .ok (.aload 4, 2) := by decide +kernel
theorem dL_built_320 : decode cL_built 320 = .ok (.arraylength, 1) := by decide +kernel
theorem dL_built_321 : decode cL_built 321 = .ok (.invokestatic 65, 3) := by decide +kernel
theorem dL_built_324 : decode cL_built 324 = .ok (.ifCond .eq 15, 3) := by decide +kernel
theorem dL_built_327 : decode cL_built 327 = .ok (.aload_n 0, 1) := by decide +kernel
theorem dL_built_328 : decode cL_built 328 = .ok (.invokevirtual 69, 3) := by decide +kernel
theorem dL_built_331 : decode cL_built 331 = .ok (.iconst 1, 1) := by decide +kernel
theorem dL_built_332 : decode cL_built 332 = .ok (.if_icmp .ne 7, 3) := by decide +kernel
theorem dL_built_335 : decode cL_built 335 = .ok (.iconst 1, 1) := by decide +kernel
theorem dL_built_336 : decode cL_built 336 = .ok (.goto 4, 3) := by decide +kernel
theorem dL_built_339 : decode cL_built 339 = .ok (.iconst 0, 1) := by decide +kernel
theorem dL_built_340 : decode cL_built 340 = .ok (.ireturn, 1) := by decide +kernel
theorem dL_law_0 : decode cL_law 0 = .ok (.new 8, 3) := by decide +kernel
theorem dL_law_3 : decode cL_law 3 = .ok (.dup, 1) := by decide +kernel
theorem dL_law_4 : decode cL_law 4 = .ok (.invokespecial 133, 3) := by decide +kernel
theorem dL_law_7 : decode cL_law 7 = .ok (.astore_n 1, 1) := by decide +kernel
theorem dL_law_8 : decode cL_law 8 = .ok (.aload_n 1, 1) := by decide +kernel
theorem dL_law_9 : decode cL_law 9 = .ok (.aload_n 0, 1) := by decide +kernel
theorem dL_law_10 : decode cL_law 10 = .ok (.invokestatic 134, 3) := by decide +kernel
theorem dL_law_13 : decode cL_law 13 = .ok (.ifCond .ne 5, 3) := by decide +kernel
theorem dL_law_16 : decode cL_law 16 = .ok (.iconst 0, 1) := by decide +kernel
theorem dL_law_17 : decode cL_law 17 = .ok (.ireturn, 1) := by decide +kernel
theorem dL_law_18 : decode cL_law 18 = .ok (.aload_n 0, 1) := by decide +kernel
theorem dL_law_19 : decode cL_law 19 = .ok (.invokestatic 23, 3) := by decide +kernel
theorem dL_law_22 : decode cL_law 22 = .ok (.istore_n 2, 1) := by decide +kernel
theorem dL_law_23 : decode cL_law 23 = .ok (.iconst 0, 1) := by decide +kernel
theorem dL_law_24 : decode cL_law 24 = .ok (.istore_n 3, 1) := by decide +kernel
theorem dL_law_25 : decode cL_law 25 = .ok (.iconst 0, 1) := by decide +kernel
theorem dL_law_26 : decode cL_law 26 = .ok (.istore 4, 2) := by decide +kernel
theorem dL_law_28 : decode cL_law 28 = .ok (.iconst 0, 1) := by decide +kernel
theorem dL_law_29 : decode cL_law 29 = .ok (.istore 5, 2) := by decide +kernel
theorem dL_law_31 : decode cL_law 31 = .ok (.aload_n 1, 1) := by decide +kernel
theorem dL_law_32 : decode cL_law 32 = .ok (.iconst 0, 1) := by decide +kernel
theorem dL_law_33 : decode cL_law 33 = .ok (.iconst 0, 1) := by decide +kernel
theorem dL_law_34 : decode cL_law 34 = .ok (.iload_n 2, 1) := by decide +kernel
theorem dL_law_35 : decode cL_law 35 = .ok (.invokevirtual 138, 3) := by decide +kernel
theorem dL_law_38 : decode cL_law 38 = .ok (.iconst 1, 1) := by decide +kernel
theorem dL_law_39 : decode cL_law 39 = .ok (.if_icmp .eq 5, 3) := by decide +kernel
theorem dL_law_42 : decode cL_law 42 = .ok (.iconst 0, 1) := by decide +kernel
theorem dL_law_43 : decode cL_law 43 = .ok (.ireturn, 1) := by decide +kernel
theorem dL_law_44 : decode cL_law 44 = .ok (.iconst 0, 1) := by decide +kernel
theorem dL_law_45 : decode cL_law 45 = .ok (.istore 6, 2) := by decide +kernel
theorem dL_law_47 : decode cL_law 47 = .ok (.iload 6, 2) := by decide +kernel
theorem dL_law_49 : decode cL_law 49 = .ok (.iload_n 2, 1) := by decide +kernel
theorem dL_law_50 : decode cL_law 50 = .ok (.if_icmp .ge 106, 3) := by decide +kernel
theorem dL_law_53 : decode cL_law 53 = .ok (.aload_n 1, 1) := by decide +kernel
theorem dL_law_54 : decode cL_law 54 = .ok (.iload 6, 2) := by decide +kernel
theorem dL_law_56 : decode cL_law 56 = .ok (.iconst 0, 1) := by decide +kernel
theorem dL_law_57 : decode cL_law 57 = .ok (.invokevirtual 141, 3) := by decide +kernel
theorem dL_law_60 : decode cL_law 60 = .ok (.istore 7, 2) := by decide +kernel
theorem dL_law_62 : decode cL_law 62 = .ok (.iload 7, 2) := by decide +kernel
theorem dL_law_64 : decode cL_law 64 = .ok (.ifCond .lt 47, 3) := by decide +kernel
theorem dL_law_67 : decode cL_law 67 = .ok (.iload 7, 2) := by decide +kernel
theorem dL_law_69 : decode cL_law 69 = .ok (.iload_n 2, 1) := by decide +kernel
theorem dL_law_70 : decode cL_law 70 = .ok (.if_icmp .ge 41, 3) := by decide +kernel
theorem dL_law_73 : decode cL_law 73 = .ok (.iload_n 3, 1) := by decide +kernel
theorem dL_law_74 : decode cL_law 74 = .ok (.iload 7, 2) := by decide +kernel
theorem dL_law_76 : decode cL_law 76 = .ok (.ishr, 1) := by decide +kernel
theorem dL_law_77 : decode cL_law 77 = .ok (.iconst 1, 1) := by decide +kernel
theorem dL_law_78 : decode cL_law 78 = .ok (.iand, 1) := by decide +kernel
theorem dL_law_79 : decode cL_law 79 = .ok (.iconst 1, 1) := by decide +kernel
theorem dL_law_80 : decode cL_law 80 = .ok (.if_icmp .eq 31, 3) := by decide +kernel
theorem dL_law_83 : decode cL_law 83 = .ok (.aload_n 1, 1) := by decide +kernel
theorem dL_law_84 : decode cL_law 84 = .ok (.iload 6, 2) := by decide +kernel
theorem dL_law_86 : decode cL_law 86 = .ok (.iconst 3, 1) := by decide +kernel
theorem dL_law_87 : decode cL_law 87 = .ok (.invokevirtual 141, 3) := by decide +kernel
theorem dL_law_90 : decode cL_law 90 = .ok (.aload_n 0, 1) := by decide +kernel
theorem dL_law_91 : decode cL_law 91 = .ok (.invokestatic 44, 3) := by decide +kernel
theorem dL_law_94 : decode cL_law 94 = .ok (.if_icmp .gt 17, 3) := by decide +kernel
theorem dL_law_97 : decode cL_law 97 = .ok (.aload_n 1, 1) := by decide +kernel
theorem dL_law_98 : decode cL_law 98 = .ok (.iconst 0, 1) := by decide +kernel
theorem dL_law_99 : decode cL_law 99 = .ok (.iload 6, 2) := by decide +kernel
theorem dL_law_101 : decode cL_law 101 = .ok (.iload 7, 2) := by decide +kernel
theorem dL_law_103 : decode cL_law 103 = .ok (.i2l, 1) := by decide +kernel
theorem dL_law_104 : decode cL_law 104 = .ok (.invokevirtual 144, 3) := by decide +kernel
theorem dL_law_107 : decode cL_law 107 = .ok (.iconst 1, 1) := by decide +kernel
theorem dL_law_108 : decode cL_law 108 = .ok (.if_icmp .eq 5, 3) := by decide +kernel
theorem dL_law_111 : decode cL_law 111 = .ok (.iconst 0, 1) := by decide +kernel
theorem dL_law_112 : decode cL_law 112 = .ok (.ireturn, 1) := by decide +kernel
theorem dL_law_113 : decode cL_law 113 = .ok (.iload_n 3, 1) := by decide +kernel
theorem dL_law_114 : decode cL_law 114 = .ok (.iconst 1, 1) := by decide +kernel
theorem dL_law_115 : decode cL_law 115 = .ok (.iload 7, 2) := by decide +kernel
theorem dL_law_117 : decode cL_law 117 = .ok (.ishl, 1) := by decide +kernel
theorem dL_law_118 : decode cL_law 118 = .ok (.ior, 1) := by decide +kernel
theorem dL_law_119 : decode cL_law 119 = .ok (.istore_n 3, 1) := by decide +kernel
theorem dL_law_120 : decode cL_law 120 = .ok (.iload 4, 2) := by decide +kernel
theorem dL_law_122 : decode cL_law 122 = .ok (.aload_n 1, 1) := by decide +kernel
theorem dL_law_123 : decode cL_law 123 = .ok (.iload 6, 2) := by decide +kernel
theorem dL_law_125 : decode cL_law 125 = .ok (.iconst 3, 1) := by decide +kernel
theorem dL_law_126 : decode cL_law 126 = .ok (.invokevirtual 141, 3) := by decide +kernel
theorem dL_law_129 : decode cL_law 129 = .ok (.iadd, 1) := by decide +kernel
theorem dL_law_130 : decode cL_law 130 = .ok (.istore 4, 2) := by decide +kernel
theorem dL_law_132 : decode cL_law 132 = .ok (.iload 5, 2) := by decide +kernel
theorem dL_law_134 : decode cL_law 134 = .ok (.aload_n 1, 1) := by decide +kernel
theorem dL_law_135 : decode cL_law 135 = .ok (.bipush 10, 2) := by decide +kernel
theorem dL_law_137 : decode cL_law 137 = .ok (.iload 6, 2) := by decide +kernel
theorem dL_law_139 : decode cL_law 139 = .ok (.imul, 1) := by decide +kernel
theorem dL_law_140 : decode cL_law 140 = .ok (.iload 7, 2) := by decide +kernel
theorem dL_law_142 : decode cL_law 142 = .ok (.iadd, 1) := by decide +kernel
theorem dL_law_143 : decode cL_law 143 = .ok (.iconst 0, 1) := by decide +kernel
theorem dL_law_144 : decode cL_law 144 = .ok (.invokevirtual 54, 3) := by decide +kernel
theorem dL_law_147 : decode cL_law 147 = .ok (.iadd, 1) := by decide +kernel
theorem dL_law_148 : decode cL_law 148 = .ok (.istore 5, 2) := by decide +kernel
theorem dL_law_150 : decode cL_law 150 = .ok (.iinc 6 1, 3) := by decide +kernel
theorem dL_law_153 : decode cL_law 153 = .ok (.goto (-106), 3) := by decide +kernel
theorem dL_law_156 : decode cL_law 156 = .ok (.aload_n 1, 1) := by decide +kernel
theorem dL_law_157 : decode cL_law 157 = .ok (.iconst 0, 1) := by decide +kernel
theorem dL_law_158 : decode cL_law 158 = .ok (.iconst 1, 1) := by decide +kernel
theorem dL_law_159 : decode cL_law 159 = .ok (.invokevirtual 141, 3) := by decide +kernel
theorem dL_law_162 : decode cL_law 162 = .ok (.iload_n 2, 1) := by decide +kernel
theorem dL_law_163 : decode cL_law 163 = .ok (.iload 4, 2) := by decide +kernel
theorem dL_law_165 : decode cL_law 165 = .ok (.iadd, 1) := by decide +kernel
theorem dL_law_166 : decode cL_law 166 = .ok (.if_icmp .ne 34, 3) := by decide +kernel
theorem dL_law_169 : decode cL_law 169 = .ok (.aload_n 1, 1) := by decide +kernel
theorem dL_law_170 : decode cL_law 170 = .ok (.iconst 0, 1) := by decide +kernel
theorem dL_law_171 : decode cL_law 171 = .ok (.iconst 2, 1) := by decide +kernel
theorem dL_law_172 : decode cL_law 172 = .ok (.invokevirtual 141, 3) := by decide +kernel
theorem dL_law_175 : decode cL_law 175 = .ok (.iload 5, 2) := by decide +kernel
theorem dL_law_177 : decode cL_law 177 = .ok (.if_icmp .ne 23, 3) := by decide +kernel
theorem dL_law_180 : decode cL_law 180 = .ok (.aload_n 1, 1) := by decide +kernel
theorem dL_law_181 : decode cL_law 181 = .ok (.iconst (-1), 1) := by decide +kernel
theorem dL_law_182 : decode cL_law 182 = .ok (.invokevirtual 148, 3) := by decide +kernel
theorem dL_law_185 : decode cL_law 185 = .ok (.iload 5, 2) := by decide +kernel
theorem dL_law_187 : decode cL_law 187 = .ok (.if_icmp .lt 13, 3) := by decide +kernel
theorem dL_law_190 : decode cL_law 190 = .ok (.aload_n 1, 1) := by decide +kernel
theorem dL_law_191 : decode cL_law 191 = .ok (.iconst 0, 1) := by decide +kernel
theorem dL_law_192 : decode cL_law 192 = .ok (.invokevirtual 151, 3) := by decide +kernel
theorem dL_law_195 : decode cL_law 195 = .ok (.bipush (-2), 2) := by decide +kernel
theorem dL_law_197 : decode cL_law 197 = .ok (.if_icmp .eq 5, 3) := by decide +kernel
theorem dL_law_200 : decode cL_law 200 = .ok (.iconst 0, 1) := by decide +kernel
theorem dL_law_201 : decode cL_law 201 = .ok (.ireturn, 1) := by decide +kernel
theorem dL_law_202 : decode cL_law 202 = .ok (.aload_n 1, 1) := by decide +kernel
theorem dL_law_203 : decode cL_law 203 = .ok (.iconst 0, 1) := by decide +kernel
theorem dL_law_204 : decode cL_law 204 = .ok (.invokevirtual 154, 3) := by decide +kernel
theorem dL_law_207 : decode cL_law 207 = .ok (.istore 6, 2) := by decide +kernel
theorem dL_law_209 : decode cL_law 209 = .ok (.iconst 1, 1) := by decide +kernel
theorem dL_law_210 : decode cL_law 210 = .ok (.istore 7, 2) := by decide +kernel
theorem dL_law_212 : decode cL_law 212 = .ok (.iconst 2, 1) := by decide +kernel
theorem dL_law_213 : decode cL_law 213 = .ok (.istore 8, 2) := by decide +kernel
theorem dL_law_215 : decode cL_law 215 = .ok (.iload 8, 2) := by decide +kernel
theorem dL_law_217 : decode cL_law 217 = .ok (.iload_n 2, 1) := by decide +kernel
theorem dL_law_218 : decode cL_law 218 = .ok (.if_icmp .gt 16, 3) := by decide +kernel
theorem dL_law_221 : decode cL_law 221 = .ok (.iload 7, 2) := by decide +kernel
theorem dL_law_223 : decode cL_law 223 = .ok (.iload 8, 2) := by decide +kernel
theorem dL_law_225 : decode cL_law 225 = .ok (.imul, 1) := by decide +kernel
theorem dL_law_226 : decode cL_law 226 = .ok (.istore 7, 2) := by decide +kernel
theorem dL_law_228 : decode cL_law 228 = .ok (.iinc 8 1, 3) := by decide +kernel
theorem dL_law_231 : decode cL_law 231 = .ok (.goto (-16), 3) := by decide +kernel
theorem dL_law_234 : decode cL_law 234 = .ok (.iload 6, 2) := by decide +kernel
theorem dL_law_236 : decode cL_law 236 = .ok (.iconst 1, 1) := by decide +kernel
theorem dL_law_237 : decode cL_law 237 = .ok (.if_icmp .lt 41, 3) := by decide +kernel
theorem dL_law_240 : decode cL_law 240 = .ok (.iload 6, 2) := by decide +kernel
theorem dL_law_242 : decode cL_law 242 = .ok (.iload 7, 2) := by decide +kernel
theorem dL_law_244 : decode cL_law 244 = .ok (.if_icmp .gt 34, 3) := by decide +kernel
theorem dL_law_247 : decode cL_law 247 = .ok (.aload_n 1, 1) := by decide +kernel
theorem dL_law_248 : decode cL_law 248 = .ok (.invokevirtual 157, 3) := by decide +kernel
theorem dL_law_251 : decode cL_law 251 = .ok (.iload_n 2, 1) := by decide +kernel
theorem dL_law_252 : decode cL_law 252 = .ok (.iload_n 2, 1) := by decide +kernel
theorem dL_law_253 : decode cL_law 253 = .ok (.iconst 1, 1) := by decide +kernel
theorem dL_law_254 : decode cL_law 254 = .ok (.isub, 1) := by decide +kernel
theorem dL_law_255 : decode cL_law 255 = .ok (.imul, 1) := by decide +kernel
theorem dL_law_256 : decode cL_law 256 = .ok (.iconst 2, 1) := by decide +kernel
theorem dL_law_257 : decode cL_law 257 = .ok (.idiv, 1) := by decide +kernel
theorem dL_law_258 : decode cL_law 258 = .ok (.if_icmp .gt 20, 3) := by decide +kernel
theorem dL_law_261 : decode cL_law 261 = .ok (.aload_n 1, 1) := by decide +kernel
theorem dL_law_262 : decode cL_law 262 = .ok (.iconst (-1), 1) := by decide +kernel
theorem dL_law_263 : decode cL_law 263 = .ok (.invokevirtual 148, 3) := by decide +kernel
theorem dL_law_266 : decode cL_law 266 = .ok (.iload 5, 2) := by decide +kernel
theorem dL_law_268 : decode cL_law 268 = .ok (.if_icmp .ne 12, 3) := by decide +kernel
theorem dL_law_271 : decode cL_law 271 = .ok (.aload_n 1, 1) := by decide +kernel
theorem dL_law_272 : decode cL_law 272 = .ok (.invokevirtual 157, 3) := by decide +kernel
theorem dL_law_275 : decode cL_law 275 = .ok (.ifCond .eq 5, 3) := by decide +kernel
theorem dL_law_278 : decode cL_law 278 = .ok (.iconst 0, 1) := by decide +kernel
theorem dL_law_279 : decode cL_law 279 = .ok (.ireturn, 1) := by decide +kernel
theorem dL_law_280 : decode cL_law 280 = .ok (.iconst 0, 1) := by decide +kernel
theorem dL_law_281 : decode cL_law 281 = .ok (.istore 8, 2) := by decide +kernel
theorem dL_law_283 : decode cL_law 283 = .ok (.iconst 0, 1) := by decide +kernel
theorem dL_law_284 : decode cL_law 284 = .ok (.istore_n 3, 1) := by decide +kernel
theorem dL_law_285 : decode cL_law 285 = .ok (.iconst 0, 1) := by decide +kernel
theorem dL_law_286 : decode cL_law 286 = .ok (.istore 9, 2) := by decide +kernel
theorem dL_law_288 : decode cL_law 288 = .ok (.iload 9, 2) := by decide +kernel
theorem dL_law_290 : decode cL_law 290 = .ok (.iload_n 2, 1) := by decide +kernel
theorem dL_law_291 : decode cL_law 291 = .ok (.if_icmp .ge 65, 3) := by decide +kernel
theorem dL_law_294 : decode cL_law 294 = .ok (.aload_n 1, 1) := by decide +kernel
theorem dL_law_295 : decode cL_law 295 = .ok (.iload 9, 2) := by decide +kernel
theorem dL_law_297 : decode cL_law 297 = .ok (.invokevirtual 148, 3) := by decide +kernel
theorem dL_law_300 : decode cL_law 300 = .ok (.istore 10, 2) := by decide +kernel
theorem dL_law_302 : decode cL_law 302 = .ok (.iload 10, 2) := by decide +kernel
theorem dL_law_304 : decode cL_law 304 = .ok (.ifCond .lt 19, 3) := by decide +kernel
theorem dL_law_307 : decode cL_law 307 = .ok (.iload 10, 2) := by decide +kernel
theorem dL_law_309 : decode cL_law 309 = .ok (.iload_n 2, 1) := by decide +kernel
theorem dL_law_310 : decode cL_law 310 = .ok (.if_icmp .ge 13, 3) := by decide +kernel
theorem dL_law_313 : decode cL_law 313 = .ok (.iload_n 3, 1) := by decide +kernel
theorem dL_law_314 : decode cL_law 314 = .ok (.iload 10, 2) := by decide +kernel
theorem dL_law_316 : decode cL_law 316 = .ok (.ishr, 1) := by decide +kernel
theorem dL_law_317 : decode cL_law 317 = .ok (.iconst 1, 1) := by decide +kernel
theorem dL_law_318 : decode cL_law 318 = .ok (.iand, 1) := by decide +kernel
theorem dL_law_319 : decode cL_law 319 = .ok (.iconst 1, 1) := by decide +kernel
theorem dL_law_320 : decode cL_law 320 = .ok (.if_icmp .ne 5, 3) := by decide +kernel
theorem dL_law_323 : decode cL_law 323 = .ok (.iconst 0, 1) := by decide +kernel
theorem dL_law_324 : decode cL_law 324 = .ok (.ireturn, 1) := by decide +kernel
theorem dL_law_325 : decode cL_law 325 = .ok (.iload_n 3, 1) := by decide +kernel
theorem dL_law_326 : decode cL_law 326 = .ok (.iconst 1, 1) := by decide +kernel
theorem dL_law_327 : decode cL_law 327 = .ok (.iload 10, 2) := by decide +kernel
theorem dL_law_329 : decode cL_law 329 = .ok (.ishl, 1) := by decide +kernel
theorem dL_law_330 : decode cL_law 330 = .ok (.ior, 1) := by decide +kernel
theorem dL_law_331 : decode cL_law 331 = .ok (.istore_n 3, 1) := by decide +kernel
theorem dL_law_332 : decode cL_law 332 = .ok (.iload 8, 2) := by decide +kernel
theorem dL_law_334 : decode cL_law 334 = .ok (.aload_n 1, 1) := by decide +kernel
theorem dL_law_335 : decode cL_law 335 = .ok (.bipush 10, 2) := by decide +kernel
theorem dL_law_337 : decode cL_law 337 = .ok (.iload 9, 2) := by decide +kernel
theorem dL_law_339 : decode cL_law 339 = .ok (.imul, 1) := by decide +kernel
theorem dL_law_340 : decode cL_law 340 = .ok (.iload 10, 2) := by decide +kernel
theorem dL_law_342 : decode cL_law 342 = .ok (.iadd, 1) := by decide +kernel
theorem dL_law_343 : decode cL_law 343 = .ok (.iconst 0, 1) := by decide +kernel
theorem dL_law_344 : decode cL_law 344 = .ok (.invokevirtual 54, 3) := by decide +kernel
theorem dL_law_347 : decode cL_law 347 = .ok (.iadd, 1) := by decide +kernel
theorem dL_law_348 : decode cL_law 348 = .ok (.istore 8, 2) := by decide +kernel
theorem dL_law_350 : decode cL_law 350 = .ok (.iinc 9 1, 3) := by decide +kernel
theorem dL_law_353 : decode cL_law 353 = .ok (.goto (-65), 3) := by decide +kernel
theorem dL_law_356 : decode cL_law 356 = .ok (.iload 8, 2) := by decide +kernel
theorem dL_law_358 : decode cL_law 358 = .ok (.aload_n 1, 1) := by decide +kernel
theorem dL_law_359 : decode cL_law 359 = .ok (.iconst (-1), 1) := by decide +kernel
theorem dL_law_360 : decode cL_law 360 = .ok (.invokevirtual 148, 3) := by decide +kernel
theorem dL_law_363 : decode cL_law 363 = .ok (.if_icmp .eq 5, 3) := by decide +kernel
theorem dL_law_366 : decode cL_law 366 = .ok (.iconst 0, 1) := by decide +kernel
theorem dL_law_367 : decode cL_law 367 = .ok (.ireturn, 1) := by decide +kernel
theorem dL_law_368 : decode cL_law 368 = .ok (.iconst 0, 1) := by decide +kernel
theorem dL_law_369 : decode cL_law 369 = .ok (.istore 9, 2) := by decide +kernel
theorem dL_law_371 : decode cL_law 371 = .ok (.iload 9, 2) := by decide +kernel
theorem dL_law_373 : decode cL_law 373 = .ok (.iload_n 2, 1) := by decide +kernel
theorem dL_law_374 : decode cL_law 374 = .ok (.if_icmp .ge 67, 3) := by decide +kernel
theorem dL_law_377 : decode cL_law 377 = .ok (.aload_n 1, 1) := by decide +kernel
theorem dL_law_378 : decode cL_law 378 = .ok (.iload 9, 2) := by decide +kernel
theorem dL_law_380 : decode cL_law 380 = .ok (.invokevirtual 160, 3) := by decide +kernel
theorem dL_law_383 : decode cL_law 383 = .ok (.istore 10, 2) := by decide +kernel
theorem dL_law_385 : decode cL_law 385 = .ok (.iload 10, 2) := by decide +kernel
theorem dL_law_387 : decode cL_law 387 = .ok (.bipush (-2), 2) := by decide +kernel
theorem dL_law_389 : decode cL_law 389 = .ok (.if_icmp .lt 44, 3) := by decide +kernel
theorem dL_law_392 : decode cL_law 392 = .ok (.iload 10, 2) := by decide +kernel
theorem dL_law_394 : decode cL_law 394 = .ok (.iconst (-1), 1) := by decide +kernel
theorem dL_law_395 : decode cL_law 395 = .ok (.if_icmp .eq 38, 3) := by decide +kernel
theorem dL_law_398 : decode cL_law 398 = .ok (.iload 10, 2) := by decide +kernel
theorem dL_law_400 : decode cL_law 400 = .ok (.bipush 99, 2) := by decide +kernel
theorem dL_law_402 : decode cL_law 402 = .ok (.if_icmp .gt 31, 3) := by decide +kernel
theorem dL_law_405 : decode cL_law 405 = .ok (.iload 10, 2) := by decide +kernel
theorem dL_law_407 : decode cL_law 407 = .ok (.ifCond .ne 7, 3) := by decide +kernel
theorem dL_law_410 : decode cL_law 410 = .ok (.iconst 1, 1) := by decide +kernel
theorem dL_law_411 : decode cL_law 411 = .ok (.goto 4, 3) := by decide +kernel
theorem dL_law_414 : decode cL_law 414 = .ok (.iconst 0, 1) := by decide +kernel
theorem dL_law_415 : decode cL_law 415 = .ok (.aload_n 1, 1) := by decide +kernel
theorem dL_law_416 : decode cL_law 416 = .ok (.iload 9, 2) := by decide +kernel
theorem dL_law_418 : decode cL_law 418 = .ok (.iconst 3, 1) := by decide +kernel
theorem dL_law_419 : decode cL_law 419 = .ok (.invokevirtual 141, 3) := by decide +kernel
theorem dL_law_422 : decode cL_law 422 = .ok (.ifCond .ne 7, 3) := by decide +kernel
theorem dL_law_425 : decode cL_law 425 = .ok (.iconst 1, 1) := by decide +kernel
theorem dL_law_426 : decode cL_law 426 = .ok (.goto 4, 3) := by decide +kernel
theorem dL_law_429 : decode cL_law 429 = .ok (.iconst 0, 1) := by decide +kernel
theorem dL_law_430 : decode cL_law 430 = .ok (.if_icmp .eq 5, 3) := by decide +kernel
theorem dL_law_433 : decode cL_law 433 = .ok (.iconst 0, 1) := by decide +kernel
theorem dL_law_434 : decode cL_law 434 = .ok (.ireturn, 1) := by decide +kernel
theorem dL_law_435 : decode cL_law 435 = .ok (.iinc 9 1, 3) := by decide +kernel
theorem dL_law_438 : decode cL_law 438 = .ok (.goto (-67), 3) := by decide +kernel
theorem dL_law_441 : decode cL_law 441 = .ok (.aload_n 1, 1) := by decide +kernel
theorem dL_law_442 : decode cL_law 442 = .ok (.iconst (-1), 1) := by decide +kernel
theorem dL_law_443 : decode cL_law 443 = .ok (.invokevirtual 163, 3) := by decide +kernel
theorem dL_law_446 : decode cL_law 446 = .ok (.istore 9, 2) := by decide +kernel
theorem dL_law_448 : decode cL_law 448 = .ok (.iload 9, 2) := by decide +kernel
theorem dL_law_450 : decode cL_law 450 = .ok (.bipush (-5), 2) := by decide +kernel
theorem dL_law_452 : decode cL_law 452 = .ok (.if_icmp .ne 7, 3) := by decide +kernel
theorem dL_law_455 : decode cL_law 455 = .ok (.iconst 1, 1) := by decide +kernel
theorem dL_law_456 : decode cL_law 456 = .ok (.goto 4, 3) := by decide +kernel
theorem dL_law_459 : decode cL_law 459 = .ok (.iconst 0, 1) := by decide +kernel
theorem dL_law_460 : decode cL_law 460 = .ok (.iload_n 2, 1) := by decide +kernel
theorem dL_law_461 : decode cL_law 461 = .ok (.iconst 3, 1) := by decide +kernel
theorem dL_law_462 : decode cL_law 462 = .ok (.if_icmp .gt 11, 3) := by decide +kernel
theorem dL_law_465 : decode cL_law 465 = .ok (.aload_n 0, 1) := by decide +kernel
theorem dL_law_466 : decode cL_law 466 = .ok (.invokestatic 44, 3) := by decide +kernel
theorem dL_law_469 : decode cL_law 469 = .ok (.iconst 2, 1) := by decide +kernel
theorem dL_law_470 : decode cL_law 470 = .ok (.if_icmp .le 7, 3) := by decide +kernel
theorem dL_law_473 : decode cL_law 473 = .ok (.iconst 1, 1) := by decide +kernel
theorem dL_law_474 : decode cL_law 474 = .ok (.goto 4, 3) := by decide +kernel
theorem dL_law_477 : decode cL_law 477 = .ok (.iconst 0, 1) := by decide +kernel
theorem dL_law_478 : decode cL_law 478 = .ok (.if_icmp .ne 29, 3) := by decide +kernel
theorem dL_law_481 : decode cL_law 481 = .ok (.iload 9, 2) := by decide +kernel
theorem dL_law_483 : decode cL_law 483 = .ok (.bipush (-5), 2) := by decide +kernel
theorem dL_law_485 : decode cL_law 485 = .ok (.if_icmp .eq 24, 3) := by decide +kernel
theorem dL_law_488 : decode cL_law 488 = .ok (.iload 9, 2) := by decide +kernel
theorem dL_law_490 : decode cL_law 490 = .ok (.iload_n 2, 1) := by decide +kernel
theorem dL_law_491 : decode cL_law 491 = .ok (.if_icmp .lt 16, 3) := by decide +kernel
theorem dL_law_494 : decode cL_law 494 = .ok (.iload 9, 2) := by decide +kernel
theorem dL_law_496 : decode cL_law 496 = .ok (.iload_n 2, 1) := by decide +kernel
theorem dL_law_497 : decode cL_law 497 = .ok (.iload_n 2, 1) := by decide +kernel
theorem dL_law_498 : decode cL_law 498 = .ok (.aload_n 0, 1) := by decide +kernel
theorem dL_law_499 : decode cL_law 499 = .ok (.invokestatic 44, 3) := by decide +kernel
theorem dL_law_502 : decode cL_law 502 = .ok (.imul, 1) := by decide +kernel
theorem dL_law_503 : decode cL_law 503 = .ok (.iadd, 1) := by decide +kernel
theorem dL_law_504 : decode cL_law 504 = .ok (.if_icmp .le 5, 3) := by decide +kernel
theorem dL_law_507 : decode cL_law 507 = .ok (.iconst 0, 1) := by decide +kernel
theorem dL_law_508 : decode cL_law 508 = .ok (.ireturn, 1) := by decide +kernel
theorem dL_law_509 : decode cL_law 509 = .ok (.aload_n 1, 1) := by decide +kernel
theorem dL_law_510 : decode cL_law 510 = .ok (.iconst 3, 1) := by decide +kernel
theorem dL_law_511 : decode cL_law 511 = .ok (.bipush 7, 2) := by decide +kernel
theorem dL_law_513 : decode cL_law 513 = .ok (.iconst (-1), 1) := by decide +kernel
theorem dL_law_514 : decode cL_law 514 = .ok (.invokevirtual 166, 3) := by decide +kernel
theorem dL_law_517 : decode cL_law 517 = .ok (.istore 10, 2) := by decide +kernel
theorem dL_law_519 : decode cL_law 519 = .ok (.sipush 693, 3) := by decide +kernel
theorem dL_law_522 : decode cL_law 522 = .ok (.istore 11, 2) := by decide +kernel
theorem dL_law_524 : decode cL_law 524 = .ok (.iconst 0, 1) := by decide +kernel
theorem dL_law_525 : decode cL_law 525 = .ok (.istore 12, 2) := by decide +kernel
theorem dL_law_527 : decode cL_law 527 = .ok (.iconst 0, 1) := by decide +kernel
theorem dL_law_528 : decode cL_law 528 = .ok (.istore 13, 2) := by decide +kernel
theorem dL_law_530 : decode cL_law 530 = .ok (.iload 13, 2) := by decide +kernel
theorem dL_law_532 : decode cL_law 532 = .ok (.iload_n 2, 1) := by decide +kernel
theorem dL_law_533 : decode cL_law 533 = .ok (.if_icmp .ge 58, 3) := by decide +kernel
theorem dL_law_536 : decode cL_law 536 = .ok (.aload_n 1, 1) := by decide +kernel
theorem dL_law_537 : decode cL_law 537 = .ok (.iconst 3, 1) := by decide +kernel
theorem dL_law_538 : decode cL_law 538 = .ok (.bipush 7, 2) := by decide +kernel
theorem dL_law_540 : decode cL_law 540 = .ok (.iload 13, 2) := by decide +kernel
theorem dL_law_542 : decode cL_law 542 = .ok (.invokevirtual 166, 3) := by decide +kernel
theorem dL_law_545 : decode cL_law 545 = .ok (.istore 14, 2) := by decide +kernel
theorem dL_law_547 : decode cL_law 547 = .ok (.iload 14, 2) := by decide +kernel
theorem dL_law_549 : decode cL_law 549 = .ok (.ifCond .lt 16, 3) := by decide +kernel
theorem dL_law_552 : decode cL_law 552 = .ok (.iload 14, 2) := by decide +kernel
theorem dL_law_554 : decode cL_law 554 = .ok (.bipush 7, 2) := by decide +kernel
theorem dL_law_556 : decode cL_law 556 = .ok (.aload_n 1, 1) := by decide +kernel
theorem dL_law_557 : decode cL_law 557 = .ok (.iconst (-1), 1) := by decide +kernel
theorem dL_law_558 : decode cL_law 558 = .ok (.invokevirtual 148, 3) := by decide +kernel
theorem dL_law_561 : decode cL_law 561 = .ok (.imul, 1) := by decide +kernel
theorem dL_law_562 : decode cL_law 562 = .ok (.if_icmp .le 5, 3) := by decide +kernel
theorem dL_law_565 : decode cL_law 565 = .ok (.iconst 0, 1) := by decide +kernel
theorem dL_law_566 : decode cL_law 566 = .ok (.ireturn, 1) := by decide +kernel
theorem dL_law_567 : decode cL_law 567 = .ok (.iload 11, 2) := by decide +kernel
theorem dL_law_569 : decode cL_law 569 = .ok (.iload 14, 2) := by decide +kernel
theorem dL_law_571 : decode cL_law 571 = .ok (.invokestatic 169, 3) := by decide +kernel
theorem dL_law_574 : decode cL_law 574 = .ok (.istore 11, 2) := by decide +kernel
theorem dL_law_576 : decode cL_law 576 = .ok (.iload 12, 2) := by decide +kernel
theorem dL_law_578 : decode cL_law 578 = .ok (.iload 14, 2) := by decide +kernel
theorem dL_law_580 : decode cL_law 580 = .ok (.invokestatic 174, 3) := by decide +kernel
theorem dL_law_583 : decode cL_law 583 = .ok (.istore 12, 2) := by decide +kernel
theorem dL_law_585 : decode cL_law 585 = .ok (.iinc 13 1, 3) := by decide +kernel
theorem dL_law_588 : decode cL_law 588 = .ok (.goto (-58), 3) := by decide +kernel
theorem dL_law_591 : decode cL_law 591 = .ok (.iload 10, 2) := by decide +kernel
theorem dL_law_593 : decode cL_law 593 = .ok (.iload 12, 2) := by decide +kernel
theorem dL_law_595 : decode cL_law 595 = .ok (.iload 11, 2) := by decide +kernel
theorem dL_law_597 : decode cL_law 597 = .ok (.isub, 1) := by decide +kernel
theorem dL_law_598 : decode cL_law 598 = .ok (.if_icmp .eq 5, 3) := by decide +kernel
theorem dL_law_601 : decode cL_law 601 = .ok (.iconst 0, 1) := by decide +kernel
theorem dL_law_602 : decode cL_law 602 = .ok (.ireturn, 1) := by decide +kernel
theorem dL_law_603 : decode cL_law 603 = .ok (.aload_n 1, 1) := by decide +kernel
theorem dL_law_604 : decode cL_law 604 = .ok (.invokevirtual 177, 3) := by decide +kernel
theorem dL_law_607 : decode cL_law 607 = .ok (.aload_n 0, 1) := by decide +kernel
theorem dL_law_608 : decode cL_law 608 = .ok (.invokestatic 47, 3) := by decide +kernel
theorem dL_law_611 : decode cL_law 611 = .ok (.iconst 1, 1) := by decide +kernel
theorem dL_law_612 : decode cL_law 612 = .ok (.if_icmp .ne 14, 3) := by decide +kernel
theorem dL_law_615 : decode cL_law 615 = .ok (.aload_n 1, 1) := by decide +kernel
theorem dL_law_616 : decode cL_law 616 = .ok (.invokevirtual 180, 3) := by decide +kernel
theorem dL_law_619 : decode cL_law 619 = .ok (.ifCond .lt 7, 3) := by decide +kernel
theorem dL_law_622 : decode cL_law 622 = .ok (.iconst 0, 1) := by decide +kernel
theorem dL_law_623 : decode cL_law 623 = .ok (.goto 4, 3) := by decide +kernel
theorem dL_law_626 : decode cL_law 626 = .ok (.iconst 0, 1) := by decide +kernel
theorem dL_law_627 : decode cL_law 627 = .ok (.iadd, 1) := by decide +kernel
theorem dL_law_628 : decode cL_law 628 = .ok (.iload_n 2, 1) := by decide +kernel
theorem dL_law_629 : decode cL_law 629 = .ok (.if_icmp .lt 15, 3) := by decide +kernel
theorem dL_law_632 : decode cL_law 632 = .ok (.aload_n 1, 1) := by decide +kernel
theorem dL_law_633 : decode cL_law 633 = .ok (.iconst 2, 1) := by decide +kernel
theorem dL_law_634 : decode cL_law 634 = .ok (.invokevirtual 182, 3) := by decide +kernel
theorem dL_law_637 : decode cL_law 637 = .ok (.iload_n 2, 1) := by decide +kernel
theorem dL_law_638 : decode cL_law 638 = .ok (.iload 4, 2) := by decide +kernel
theorem dL_law_640 : decode cL_law 640 = .ok (.iadd, 1) := by decide +kernel
theorem dL_law_641 : decode cL_law 641 = .ok (.if_icmp .eq 5, 3) := by decide +kernel
theorem dL_law_644 : decode cL_law 644 = .ok (.iconst 0, 1) := by decide +kernel
theorem dL_law_645 : decode cL_law 645 = .ok (.ireturn, 1) := by decide +kernel
theorem dL_law_646 : decode cL_law 646 = .ok (.iconst 0, 1) := by decide +kernel
theorem dL_law_647 : decode cL_law 647 = .ok (.istore 13, 2) := by decide +kernel
theorem dL_law_649 : decode cL_law 649 = .ok (.iload 13, 2) := by decide +kernel
theorem dL_law_651 : decode cL_law 651 = .ok (.iload_n 2, 1) := by decide +kernel
theorem dL_law_652 : decode cL_law 652 = .ok (.if_icmp .ge 47, 3) := by decide +kernel
theorem dL_law_655 : decode cL_law 655 = .ok (.aload_n 1, 1) := by decide +kernel
theorem dL_law_656 : decode cL_law 656 = .ok (.iload 13, 2) := by decide +kernel
theorem dL_law_658 : decode cL_law 658 = .ok (.bipush 11, 2) := by decide +kernel
theorem dL_law_660 : decode cL_law 660 = .ok (.invokevirtual 54, 3) := by decide +kernel
theorem dL_law_663 : decode cL_law 663 = .ok (.aload_n 1, 1) := by decide +kernel
theorem dL_law_664 : decode cL_law 664 = .ok (.iload 13, 2) := by decide +kernel
theorem dL_law_666 : decode cL_law 666 = .ok (.iconst 0, 1) := by decide +kernel
theorem dL_law_667 : decode cL_law 667 = .ok (.invokevirtual 141, 3) := by decide +kernel
theorem dL_law_670 : decode cL_law 670 = .ok (.if_icmp .ne 21, 3) := by decide +kernel
theorem dL_law_673 : decode cL_law 673 = .ok (.aload_n 1, 1) := by decide +kernel
theorem dL_law_674 : decode cL_law 674 = .ok (.iload 13, 2) := by decide +kernel
theorem dL_law_676 : decode cL_law 676 = .ok (.bipush 12, 2) := by decide +kernel
theorem dL_law_678 : decode cL_law 678 = .ok (.invokevirtual 54, 3) := by decide +kernel
theorem dL_law_681 : decode cL_law 681 = .ok (.aload_n 1, 1) := by decide +kernel
theorem dL_law_682 : decode cL_law 682 = .ok (.iload 13, 2) := by decide +kernel
theorem dL_law_684 : decode cL_law 684 = .ok (.iconst 3, 1) := by decide +kernel
theorem dL_law_685 : decode cL_law 685 = .ok (.invokevirtual 141, 3) := by decide +kernel
theorem dL_law_688 : decode cL_law 688 = .ok (.if_icmp .eq 5, 3) := by decide +kernel
theorem dL_law_691 : decode cL_law 691 = .ok (.iconst 0, 1) := by decide +kernel
theorem dL_law_692 : decode cL_law 692 = .ok (.ireturn, 1) := by decide +kernel
theorem dL_law_693 : decode cL_law 693 = .ok (.iinc 13 1, 3) := by decide +kernel
theorem dL_law_696 : decode cL_law 696 = .ok (.goto (-47), 3) := by decide +kernel
theorem dL_law_699 : decode cL_law 699 = .ok (.iconst 0, 1) := by decide +kernel
theorem dL_law_700 : decode cL_law 700 = .ok (.istore 13, 2) := by decide +kernel
theorem dL_law_702 : decode cL_law 702 = .ok (.aload_n 1, 1) := by decide +kernel
theorem dL_law_703 : decode cL_law 703 = .ok (.invokevirtual 185, 3) := by decide +kernel
theorem dL_law_706 : decode cL_law 706 = .ok (.iload_n 2, 1) := by decide +kernel
theorem dL_law_707 : decode cL_law 707 = .ok (.if_icmp .ne 20, 3) := by decide +kernel
theorem dL_law_710 : decode cL_law 710 = .ok (.aload_n 1, 1) := by decide +kernel
theorem dL_law_711 : decode cL_law 711 = .ok (.iconst 1, 1) := by decide +kernel
theorem dL_law_712 : decode cL_law 712 = .ok (.invokevirtual 13, 3) := by decide +kernel
theorem dL_law_715 : decode cL_law 715 = .ok (.iload_n 2, 1) := by decide +kernel
theorem dL_law_716 : decode cL_law 716 = .ok (.if_icmp .ne 11, 3) := by decide +kernel
theorem dL_law_719 : decode cL_law 719 = .ok (.aload_n 1, 1) := by decide +kernel
theorem dL_law_720 : decode cL_law 720 = .ok (.iconst 2, 1) := by decide +kernel
theorem dL_law_721 : decode cL_law 721 = .ok (.invokevirtual 13, 3) := by decide +kernel
theorem dL_law_724 : decode cL_law 724 = .ok (.ifCond .eq 5, 3) := by decide +kernel
theorem dL_law_727 : decode cL_law 727 = .ok (.iconst 0, 1) := by decide +kernel
theorem dL_law_728 : decode cL_law 728 = .ok (.ireturn, 1) := by decide +kernel
theorem dL_law_729 : decode cL_law 729 = .ok (.aload_n 1, 1) := by decide +kernel
theorem dL_law_730 : decode cL_law 730 = .ok (.invokevirtual 188, 3) := by decide +kernel
theorem dL_law_733 : decode cL_law 733 = .ok (.ifCond .lt 54, 3) := by decide +kernel
theorem dL_law_736 : decode cL_law 736 = .ok (.aload_n 1, 1) := by decide +kernel
theorem dL_law_737 : decode cL_law 737 = .ok (.invokevirtual 188, 3) := by decide +kernel
theorem dL_law_740 : decode cL_law 740 = .ok (.istore 14, 2) := by decide +kernel
theorem dL_law_742 : decode cL_law 742 = .ok (.aload_n 1, 1) := by decide +kernel
theorem dL_law_743 : decode cL_law 743 = .ok (.invokevirtual 190, 3) := by decide +kernel
theorem dL_law_746 : decode cL_law 746 = .ok (.istore 15, 2) := by decide +kernel
theorem dL_law_748 : decode cL_law 748 = .ok (.iload 15, 2) := by decide +kernel
theorem dL_law_750 : decode cL_law 750 = .ok (.iload 13, 2) := by decide +kernel
theorem dL_law_752 : decode cL_law 752 = .ok (.if_icmp .ne 27, 3) := by decide +kernel
theorem dL_law_755 : decode cL_law 755 = .ok (.aload_n 1, 1) := by decide +kernel
theorem dL_law_756 : decode cL_law 756 = .ok (.iload 14, 2) := by decide +kernel
theorem dL_law_758 : decode cL_law 758 = .ok (.bipush 11, 2) := by decide +kernel
theorem dL_law_760 : decode cL_law 760 = .ok (.invokevirtual 54, 3) := by decide +kernel
theorem dL_law_763 : decode cL_law 763 = .ok (.iload 15, 2) := by decide +kernel
theorem dL_law_765 : decode cL_law 765 = .ok (.if_icmp .ne 14, 3) := by decide +kernel
theorem dL_law_768 : decode cL_law 768 = .ok (.aload_n 1, 1) := by decide +kernel
theorem dL_law_769 : decode cL_law 769 = .ok (.iload 15, 2) := by decide +kernel
theorem dL_law_771 : decode cL_law 771 = .ok (.bipush 13, 2) := by decide +kernel
theorem dL_law_773 : decode cL_law 773 = .ok (.invokevirtual 54, 3) := by decide +kernel
theorem dL_law_776 : decode cL_law 776 = .ok (.ifCond .eq 5, 3) := by decide +kernel
theorem dL_law_779 : decode cL_law 779 = .ok (.iconst 0, 1) := by decide +kernel
theorem dL_law_780 : decode cL_law 780 = .ok (.ireturn, 1) := by decide +kernel
theorem dL_law_781 : decode cL_law 781 = .ok (.iinc 13 1, 3) := by decide +kernel
theorem dL_law_784 : decode cL_law 784 = .ok (.goto (-55), 3) := by decide +kernel
theorem dL_law_787 : decode cL_law 787 = .ok (.iload 13, 2) := by decide +kernel
theorem dL_law_789 : decode cL_law 789 = .ok (.iload_n 2, 1) := by decide +kernel
theorem dL_law_790 : decode cL_law 790 = .ok (.if_icmp .ne 29, 3) := by decide +kernel
theorem dL_law_793 : decode cL_law 793 = .ok (.aload_n 1, 1) := by decide +kernel
theorem dL_law_794 : decode cL_law 794 = .ok (.iconst 1, 1) := by decide +kernel
theorem dL_law_795 : decode cL_law 795 = .ok (.invokevirtual 13, 3) := by decide +kernel
theorem dL_law_798 : decode cL_law 798 = .ok (.ifCond .ne 21, 3) := by decide +kernel
theorem dL_law_801 : decode cL_law 801 = .ok (.aload_n 1, 1) := by decide +kernel
theorem dL_law_802 : decode cL_law 802 = .ok (.iconst 2, 1) := by decide +kernel
theorem dL_law_803 : decode cL_law 803 = .ok (.invokevirtual 182, 3) := by decide +kernel
theorem dL_law_806 : decode cL_law 806 = .ok (.iconst 2, 1) := by decide +kernel
theorem dL_law_807 : decode cL_law 807 = .ok (.iload_n 2, 1) := by decide +kernel
theorem dL_law_808 : decode cL_law 808 = .ok (.imul, 1) := by decide +kernel
theorem dL_law_809 : decode cL_law 809 = .ok (.iload 4, 2) := by decide +kernel
theorem dL_law_811 : decode cL_law 811 = .ok (.iadd, 1) := by decide +kernel
theorem dL_law_812 : decode cL_law 812 = .ok (.if_icmp .ne 7, 3) := by decide +kernel
theorem dL_law_815 : decode cL_law 815 = .ok (.iconst 1, 1) := by decide +kernel
theorem dL_law_816 : decode cL_law 816 = .ok (.goto 4, 3) := by decide +kernel
theorem dL_law_819 : decode cL_law 819 = .ok (.iconst 0, 1) := by decide +kernel
theorem dL_law_820 : decode cL_law 820 = .ok (.ireturn, 1) := by decide +kernel
