theorem dX9_changes_56 : decode cX9_changes 56 = .ok (.iastore, 1) := by decide +kernel
theorem dX9_changes_57 : decode cX9_changes 57 = .ok (.aload_n 0, 1) := by decide +kernel
theorem dX9_changes_58 : decode cX9_changes 58 = .ok (.getfield 53, 3) := by decide +kernel
theorem dX9_changes_61 : decode cX9_changes 61 = .ok (.iload 5, 2) := by decide +kernel
theorem dX9_changes_63 : decode cX9_changes 63 = .ok (.iconst 1, 1) := by decide +kernel
theorem dX9_changes_64 : decode cX9_changes 64 = .ok (.isub, 1) := by decide +kernel
theorem dX9_changes_65 : decode cX9_changes 65 = .ok (.aload_n 0, 1) := by decide +kernel
theorem dX9_changes_66 : decode cX9_changes 66 = .ok (.getfield 53, 3) := by decide +kernel
theorem dX9_changes_69 : decode cX9_changes 69 = .ok (.iload 5, 2) := by decide +kernel
theorem dX9_changes_71 : decode cX9_changes 71 = .ok (.iaload, 1) := by decide +kernel
theorem dX9_changes_72 : decode cX9_changes 72 = .ok (.iastore, 1) := by decide +kernel
theorem dX9_changes_73 : decode cX9_changes 73 = .ok (.aload_n 0, 1) := by decide +kernel
theorem dX9_changes_74 : decode cX9_changes 74 = .ok (.getfield 56, 3) := by decide +kernel
theorem dX9_changes_77 : decode cX9_changes 77 = .ok (.iload 5, 2) := by decide +kernel
theorem dX9_changes_79 : decode cX9_changes 79 = .ok (.iconst 1, 1) := by decide +kernel
theorem dX9_changes_80 : decode cX9_changes 80 = .ok (.isub, 1) := by decide +kernel
theorem dX9_changes_81 : decode cX9_changes 81 = .ok (.aload_n 0, 1) := by decide +kernel
theorem dX9_changes_82 : decode cX9_changes 82 = .ok (.getfield 56, 3) := by decide +kernel
theorem dX9_changes_85 : decode cX9_changes 85 = .ok (.iload 5, 2) := by decide +kernel
theorem dX9_changes_87 : decode cX9_changes 87 = .ok (.iaload, 1) := by decide +kernel
theorem dX9_changes_88 : decode cX9_changes 88 = .ok (.iastore, 1) := by decide +kernel
theorem dX9_changes_89 : decode cX9_changes 89 = .ok (.aload_n 0, 1) := by decide +kernel
theorem dX9_changes_90 : decode cX9_changes 90 = .ok (.getfield 59, 3) := by decide +kernel
theorem dX9_changes_93 : decode cX9_changes 93 = .ok (.iload 5, 2) := by decide +kernel
theorem dX9_changes_95 : decode cX9_changes 95 = .ok (.iconst 1, 1) := by decide +kernel
theorem dX9_changes_96 : decode cX9_changes 96 = .ok (.isub, 1) := by decide +kernel
theorem dX9_changes_97 : decode cX9_changes 97 = .ok (.aload_n 0, 1) := by decide +kernel
theorem dX9_changes_98 : decode cX9_changes 98 = .ok (.getfield 59, 3) := by decide +kernel
theorem dX9_changes_101 : decode cX9_changes 101 = .ok (.iload 5, 2) := by decide +kernel
theorem dX9_changes_103 : decode cX9_changes 103 = .ok (.iaload, 1) := by decide +kernel
theorem dX9_changes_104 : decode cX9_changes 104 = .ok (.iastore, 1) := by decide +kernel
theorem dX9_changes_105 : decode cX9_changes 105 = .ok (.iinc 5 1, 3) := by decide +kernel
theorem dX9_changes_108 : decode cX9_changes 108 = .ok (.goto (-74), 3) := by decide +kernel
theorem dX9_changes_111 : decode cX9_changes 111 = .ok (.aload_n 0, 1) := by decide +kernel
theorem dX9_changes_112 : decode cX9_changes 112 = .ok (.dup, 1) := by decide +kernel
theorem dX9_changes_113 : decode cX9_changes 113 = .ok (.getfield 187, 3) := by decide +kernel
theorem dX9_changes_116 : decode cX9_changes 116 = .ok (.iconst 1, 1) := by decide +kernel
theorem dX9_changes_117 : decode cX9_changes 117 = .ok (.isub, 1) := by decide +kernel
theorem dX9_changes_118 : decode cX9_changes 118 = .ok (.putfield 187, 3) := by decide +kernel
theorem dX9_changes_121 : decode cX9_changes 121 = .ok (.aload_n 0, 1) := by decide +kernel
theorem dX9_changes_122 : decode cX9_changes 122 = .ok (.getfield 50, 3) := by decide +kernel
theorem dX9_changes_125 : decode cX9_changes 125 = .ok (.aload_n 0, 1) := by decide +kernel
theorem dX9_changes_126 : decode cX9_changes 126 = .ok (.getfield 187, 3) := by decide +kernel
theorem dX9_changes_129 : decode cX9_changes 129 = .ok (.iload_n 1, 1) := by decide +kernel
theorem dX9_changes_130 : decode cX9_changes 130 = .ok (.iastore, 1) := by decide +kernel
theorem dX9_changes_131 : decode cX9_changes 131 = .ok (.aload_n 0, 1) := by decide +kernel
theorem dX9_changes_132 : decode cX9_changes 132 = .ok (.getfield 53, 3) := by decide +kernel
theorem dX9_changes_135 : decode cX9_changes 135 = .ok (.aload_n 0, 1) := by decide +kernel
theorem dX9_changes_136 : decode cX9_changes 136 = .ok (.getfield 187, 3) := by decide +kernel
theorem dX9_changes_139 : decode cX9_changes 139 = .ok (.iload_n 2, 1) := by decide +kernel
theorem dX9_changes_140 : decode cX9_changes 140 = .ok (.iastore, 1) := by decide +kernel
theorem dX9_changes_141 : decode cX9_changes 141 = .ok (.aload_n 0, 1) := by decide +kernel
theorem dX9_changes_142 : decode cX9_changes 142 = .ok (.getfield 56, 3) := by decide +kernel
theorem dX9_changes_145 : decode cX9_changes 145 = .ok (.aload_n 0, 1) := by decide +kernel
theorem dX9_changes_146 : decode cX9_changes 146 = .ok (.getfield 187, 3) := by decide +kernel
theorem dX9_changes_149 : decode cX9_changes 149 = .ok (.iload 4, 2) := by decide +kernel
theorem dX9_changes_151 : decode cX9_changes 151 = .ok (.iastore, 1) := by decide +kernel
theorem dX9_changes_152 : decode cX9_changes 152 = .ok (.aload_n 0, 1) := by decide +kernel
theorem dX9_changes_153 : decode cX9_changes 153 = .ok (.getfield 59, 3) := by decide +kernel
theorem dX9_changes_156 : decode cX9_changes 156 = .ok (.aload_n 0, 1) := by decide +kernel
theorem dX9_changes_157 : decode cX9_changes 157 = .ok (.getfield 187, 3) := by decide +kernel
theorem dX9_changes_160 : decode cX9_changes 160 = .ok (.iload_n 3, 1) := by decide +kernel
theorem dX9_changes_161 : decode cX9_changes 161 = .ok (.iastore, 1) := by decide +kernel
theorem dX9_changes_162 : decode cX9_changes 162 = .ok (.aload_n 0, 1) := by decide +kernel
theorem dX9_changes_163 : decode cX9_changes 163 = .ok (.dup, 1) := by decide +kernel
theorem dX9_changes_164 : decode cX9_changes 164 = .ok (.getfield 187, 3) := by decide +kernel
theorem dX9_changes_167 : decode cX9_changes 167 = .ok (.iconst 1, 1) := by decide +kernel
theorem dX9_changes_168 : decode cX9_changes 168 = .ok (.iadd, 1) := by decide +kernel
theorem dX9_changes_169 : decode cX9_changes 169 = .ok (.putfield 187, 3) := by decide +kernel
theorem dX9_changes_172 : decode cX9_changes 172 = .ok (.aload_n 0, 1) := by decide +kernel
theorem dX9_changes_173 : decode cX9_changes 173 = .ok (.iload_n 1, 1) := by decide +kernel
theorem dX9_changes_174 : decode cX9_changes 174 = .ok (.iload_n 2, 1) := by decide +kernel
theorem dX9_changes_175 : decode cX9_changes 175 = .ok (.iload_n 3, 1) := by decide +kernel
theorem dX9_changes_176 : decode cX9_changes 176 = .ok (.invokevirtual 190, 3) := by decide +kernel
theorem dX9_changes_179 : decode cX9_changes 179 = .ok (.iload 4, 2) := by decide +kernel
theorem dX9_changes_181 : decode cX9_changes 181 = .ok (.ireturn, 1) := by decide +kernel
theorem dX9_undo_0 : decode cX9_undo 0 = .ok (.aload_n 0, 1) := by decide +kernel
theorem dX9_undo_1 : decode cX9_undo 1 = .ok (.getfield 187, 3) := by decide +kernel
theorem dX9_undo_4 : decode cX9_undo 4 = .ok (.ifCond .ne 6, 3) := by decide +kernel
theorem dX9_undo_7 : decode cX9_undo 7 = .ok (.bipush (-5), 2) := by decide +kernel
theorem dX9_undo_9 : decode cX9_undo 9 = .ok (.ireturn, 1) := by decide +kernel
theorem dX9_undo_10 : decode cX9_undo 10 = .ok (.aload_n 0, 1) := by decide +kernel
theorem dX9_undo_11 : decode cX9_undo 11 = .ok (.dup, 1) := by decide +kernel
theorem dX9_undo_12 : decode cX9_undo 12 = .ok (.getfield 187, 3) := by decide +kernel
theorem dX9_undo_15 : decode cX9_undo 15 = .ok (.iconst 1, 1) := by decide +kernel
theorem dX9_undo_16 : decode cX9_undo 16 = .ok (.isub, 1) := by decide +kernel
theorem dX9_undo_17 : decode cX9_undo 17 = .ok (.putfield 187, 3) := by decide +kernel
theorem dX9_undo_20 : decode cX9_undo 20 = .ok (.aload_n 0, 1) := by decide +kernel
theorem dX9_undo_21 : decode cX9_undo 21 = .ok (.dup, 1) := by decide +kernel
theorem dX9_undo_22 : decode cX9_undo 22 = .ok (.getfield 184, 3) := by decide +kernel
theorem dX9_undo_25 : decode cX9_undo 25 = .ok (.iconst 1, 1) := by decide +kernel
theorem dX9_undo_26 : decode cX9_undo 26 = .ok (.iadd, 1) := by decide +kernel
theorem dX9_undo_27 : decode cX9_undo 27 = .ok (.putfield 184, 3) := by decide +kernel
theorem dX9_undo_30 : decode cX9_undo 30 = .ok (.aload_n 0, 1) := by decide +kernel
theorem dX9_undo_31 : decode cX9_undo 31 = .ok (.aload_n 0, 1) := by decide +kernel
theorem dX9_undo_32 : decode cX9_undo 32 = .ok (.getfield 50, 3) := by decide +kernel
theorem dX9_undo_35 : decode cX9_undo 35 = .ok (.aload_n 0, 1) := by decide +kernel
theorem dX9_undo_36 : decode cX9_undo 36 = .ok (.getfield 187, 3) := by decide +kernel
theorem dX9_undo_39 : decode cX9_undo 39 = .ok (.iaload, 1) := by decide +kernel
theorem dX9_undo_40 : decode cX9_undo 40 = .ok (.aload_n 0, 1) := by decide +kernel
theorem dX9_undo_41 : decode cX9_undo 41 = .ok (.getfield 53, 3) := by decide +kernel
theorem dX9_undo_44 : decode cX9_undo 44 = .ok (.aload_n 0, 1) := by decide +kernel
theorem dX9_undo_45 : decode cX9_undo 45 = .ok (.getfield 187, 3) := by decide +kernel
theorem dX9_undo_48 : decode cX9_undo 48 = .ok (.iaload, 1) := by decide +kernel
theorem dX9_undo_49 : decode cX9_undo 49 = .ok (.aload_n 0, 1) := by decide +kernel
theorem dX9_undo_50 : decode cX9_undo 50 = .ok (.getfield 56, 3) := by decide +kernel
theorem dX9_undo_53 : decode cX9_undo 53 = .ok (.aload_n 0, 1) := by decide +kernel
theorem dX9_undo_54 : decode cX9_undo 54 = .ok (.getfield 187, 3) := by decide +kernel
theorem dX9_undo_57 : decode cX9_undo 57 = .ok (.iaload, 1) := by decide +kernel
theorem dX9_undo_58 : decode cX9_undo 58 = .ok (.invokevirtual 190, 3) := by decide +kernel
theorem dX9_undo_61 : decode cX9_undo 61 = .ok (.aload_n 0, 1) := by decide +kernel
theorem dX9_undo_62 : decode cX9_undo 62 = .ok (.getfield 187, 3) := by decide +kernel
theorem dX9_undo_65 : decode cX9_undo 65 = .ok (.ireturn, 1) := by decide +kernel
theorem dX9_redo_0 : decode cX9_redo 0 = .ok (.aload_n 0, 1) := by decide +kernel
theorem dX9_redo_1 : decode cX9_redo 1 = .ok (.getfield 184, 3) := by decide +kernel
theorem dX9_redo_4 : decode cX9_redo 4 = .ok (.ifCond .ne 6, 3) := by decide +kernel
theorem dX9_redo_7 : decode cX9_redo 7 = .ok (.bipush (-5), 2) := by decide +kernel
theorem dX9_redo_9 : decode cX9_redo 9 = .ok (.ireturn, 1) := by decide +kernel
theorem dX9_redo_10 : decode cX9_redo 10 = .ok (.aload_n 0, 1) := by decide +kernel
theorem dX9_redo_11 : decode cX9_redo 11 = .ok (.aload_n 0, 1) := by decide +kernel
theorem dX9_redo_12 : decode cX9_redo 12 = .ok (.getfield 50, 3) := by decide +kernel
theorem dX9_redo_15 : decode cX9_redo 15 = .ok (.aload_n 0, 1) := by decide +kernel
theorem dX9_redo_16 : decode cX9_redo 16 = .ok (.getfield 187, 3) := by decide +kernel
theorem dX9_redo_19 : decode cX9_redo 19 = .ok (.iaload, 1) := by decide +kernel
theorem dX9_redo_20 : decode cX9_redo 20 = .ok (.aload_n 0, 1) := by decide +kernel
theorem dX9_redo_21 : decode cX9_redo 21 = .ok (.getfield 53, 3) := by decide +kernel
theorem dX9_redo_24 : decode cX9_redo 24 = .ok (.aload_n 0, 1) := by decide +kernel
theorem dX9_redo_25 : decode cX9_redo 25 = .ok (.getfield 187, 3) := by decide +kernel
theorem dX9_redo_28 : decode cX9_redo 28 = .ok (.iaload, 1) := by decide +kernel
theorem dX9_redo_29 : decode cX9_redo 29 = .ok (.aload_n 0, 1) := by decide +kernel
theorem dX9_redo_30 : decode cX9_redo 30 = .ok (.getfield 59, 3) := by decide +kernel
theorem dX9_redo_33 : decode cX9_redo 33 = .ok (.aload_n 0, 1) := by decide +kernel
theorem dX9_redo_34 : decode cX9_redo 34 = .ok (.getfield 187, 3) := by decide +kernel
theorem dX9_redo_37 : decode cX9_redo 37 = .ok (.iaload, 1) := by decide +kernel
theorem dX9_redo_38 : decode cX9_redo 38 = .ok (.invokevirtual 190, 3) := by decide +kernel
theorem dX9_redo_41 : decode cX9_redo 41 = .ok (.aload_n 0, 1) := by decide +kernel
theorem dX9_redo_42 : decode cX9_redo 42 = .ok (.dup, 1) := by decide +kernel
theorem dX9_redo_43 : decode cX9_redo 43 = .ok (.getfield 187, 3) := by decide +kernel
theorem dX9_redo_46 : decode cX9_redo 46 = .ok (.iconst 1, 1) := by decide +kernel
theorem dX9_redo_47 : decode cX9_redo 47 = .ok (.iadd, 1) := by decide +kernel
theorem dX9_redo_48 : decode cX9_redo 48 = .ok (.putfield 187, 3) := by decide +kernel
theorem dX9_redo_51 : decode cX9_redo 51 = .ok (.aload_n 0, 1) := by decide +kernel
theorem dX9_redo_52 : decode cX9_redo 52 = .ok (.dup, 1) := by decide +kernel
theorem dX9_redo_53 : decode cX9_redo 53 = .ok (.getfield 184, 3) := by decide +kernel
theorem dX9_redo_56 : decode cX9_redo 56 = .ok (.iconst 1, 1) := by decide +kernel
theorem dX9_redo_57 : decode cX9_redo 57 = .ok (.isub, 1) := by decide +kernel
theorem dX9_redo_58 : decode cX9_redo 58 = .ok (.putfield 184, 3) := by decide +kernel
theorem dX9_redo_61 : decode cX9_redo 61 = .ok (.aload_n 0, 1) := by decide +kernel
theorem dX9_redo_62 : decode cX9_redo 62 = .ok (.getfield 184, 3) := by decide +kernel
theorem dX9_redo_65 : decode cX9_redo 65 = .ok (.ireturn, 1) := by decide +kernel
theorem dX9_areBoth_0 : decode cX9_areBoth 0 = .ok (.iload_n 1, 1) := by decide +kernel
theorem dX9_areBoth_1 : decode cX9_areBoth 1 = .ok (.ifCond .lt 29, 3) := by decide +kernel
theorem dX9_areBoth_4 : decode cX9_areBoth 4 = .ok (.aload_n 0, 1) := by decide +kernel
theorem dX9_areBoth_5 : decode cX9_areBoth 5 = .ok (.iload_n 1, 1) := by decide +kernel
theorem dX9_areBoth_6 : decode cX9_areBoth 6 = .ok (.bipush 10, 2) := by decide +kernel
theorem dX9_areBoth_8 : decode cX9_areBoth 8 = .ok (.idiv, 1) := by decide +kernel
theorem dX9_areBoth_9 : decode cX9_areBoth 9 = .ok (.invokevirtual 194, 3) := by decide +kernel
theorem dX9_areBoth_12 : decode cX9_areBoth 12 = .ok (.ifCond .eq 18, 3) := by decide +kernel
theorem dX9_areBoth_15 : decode cX9_areBoth 15 = .ok (.aload_n 0, 1) := by decide +kernel
theorem dX9_areBoth_16 : decode cX9_areBoth 16 = .ok (.iload_n 1, 1) := by decide +kernel
theorem dX9_areBoth_17 : decode cX9_areBoth 17 = .ok (.bipush 10, 2) := by decide +kernel
theorem dX9_areBoth_19 : decode cX9_areBoth 19 = .ok (.irem, 1) := by decide +kernel
theorem dX9_areBoth_20 : decode cX9_areBoth 20 = .ok (.invokevirtual 194, 3) := by decide +kernel
theorem dX9_areBoth_23 : decode cX9_areBoth 23 = .ok (.ifCond .eq 7, 3) := by decide +kernel
theorem dX9_areBoth_26 : decode cX9_areBoth 26 = .ok (.iconst 1, 1) := by decide +kernel
theorem dX9_areBoth_27 : decode cX9_areBoth 27 = .ok (.goto 4, 3) := by decide +kernel
theorem dX9_areBoth_30 : decode cX9_areBoth 30 = .ok (.iconst 0, 1) := by decide +kernel
theorem dX9_areBoth_31 : decode cX9_areBoth 31 = .ok (.ireturn, 1) := by decide +kernel
theorem dX9_place_0 : decode cX9_place 0 = .ok (.bipush 7, 2) := by decide +kernel
theorem dX9_place_2 : decode cX9_place 2 = .ok (.iload_n 0, 1) := by decide +kernel
theorem dX9_place_3 : decode cX9_place 3 = .ok (.bipush 10, 2) := by decide +kernel
theorem dX9_place_5 : decode cX9_place 5 = .ok (.idiv, 1) := by decide +kernel
theorem dX9_place_6 : decode cX9_place 6 = .ok (.imul, 1) := by decide +kernel
theorem dX9_place_7 : decode cX9_place 7 = .ok (.iload_n 0, 1) := by decide +kernel
theorem dX9_place_8 : decode cX9_place 8 = .ok (.bipush 10, 2) := by decide +kernel
theorem dX9_place_10 : decode cX9_place 10 = .ok (.irem, 1) := by decide +kernel
theorem dX9_place_11 : decode cX9_place 11 = .ok (.iadd, 1) := by decide +kernel
theorem dX9_place_12 : decode cX9_place 12 = .ok (.ireturn, 1) := by decide +kernel
theorem dX9_mend_0 : decode cX9_mend 0 = .ok (.iload_n 2, 1) := by decide +kernel
theorem dX9_mend_1 : decode cX9_mend 1 = .ok (.tableswitch 191 0 4 #[35, 68, 112, 141, 166], 35) := by decide +kernel
theorem dX9_mend_36 : decode cX9_mend 36 = .ok (.aload_n 0, 1) := by decide +kernel
theorem dX9_mend_37 : decode cX9_mend 37 = .ok (.iload_n 1, 1) := by decide +kernel
theorem dX9_mend_38 : decode cX9_mend 38 = .ok (.invokevirtual 197, 3) := by decide +kernel
theorem dX9_mend_41 : decode cX9_mend 41 = .ok (.ifCond .eq 26, 3) := by decide +kernel
theorem dX9_mend_44 : decode cX9_mend 44 = .ok (.iload_n 3, 1) := by decide +kernel
theorem dX9_mend_45 : decode cX9_mend 45 = .ok (.iconst 0, 1) := by decide +kernel
theorem dX9_mend_46 : decode cX9_mend 46 = .ok (.bipush 99, 2) := by decide +kernel
theorem dX9_mend_48 : decode cX9_mend 48 = .ok (.invokestatic 158, 3) := by decide +kernel
theorem dX9_mend_51 : decode cX9_mend 51 = .ok (.ifCond .eq 16, 3) := by decide +kernel
theorem dX9_mend_54 : decode cX9_mend 54 = .ok (.aload_n 0, 1) := by decide +kernel
theorem dX9_mend_55 : decode cX9_mend 55 = .ok (.iconst 0, 1) := by decide +kernel
theorem dX9_mend_56 : decode cX9_mend 56 = .ok (.iload_n 1, 1) := by decide +kernel
theorem dX9_mend_57 : decode cX9_mend 57 = .ok (.invokestatic 200, 3) := by decide +kernel
theorem dX9_mend_60 : decode cX9_mend 60 = .ok (.iload_n 3, 1) := by decide +kernel
theorem dX9_mend_61 : decode cX9_mend 61 = .ok (.invokevirtual 203, 3) := by decide +kernel
theorem dX9_mend_64 : decode cX9_mend 64 = .ok (.goto 4, 3) := by decide +kernel
theorem dX9_mend_67 : decode cX9_mend 67 = .ok (.iconst (-1), 1) := by decide +kernel
theorem dX9_mend_68 : decode cX9_mend 68 = .ok (.ireturn, 1) := by decide +kernel
theorem dX9_mend_69 : decode cX9_mend 69 = .ok (.aload_n 0, 1) := by decide +kernel
theorem dX9_mend_70 : decode cX9_mend 70 = .ok (.iload_n 1, 1) := by decide +kernel
theorem dX9_mend_71 : decode cX9_mend 71 = .ok (.invokevirtual 197, 3) := by decide +kernel
theorem dX9_mend_74 : decode cX9_mend 74 = .ok (.ifCond .eq 37, 3) := by decide +kernel
theorem dX9_mend_77 : decode cX9_mend 77 = .ok (.iload_n 1, 1) := by decide +kernel
theorem dX9_mend_78 : decode cX9_mend 78 = .ok (.bipush 10, 2) := by decide +kernel
theorem dX9_mend_80 : decode cX9_mend 80 = .ok (.idiv, 1) := by decide +kernel
theorem dX9_mend_81 : decode cX9_mend 81 = .ok (.iload_n 1, 1) := by decide +kernel
theorem dX9_mend_82 : decode cX9_mend 82 = .ok (.bipush 10, 2) := by decide +kernel
theorem dX9_mend_84 : decode cX9_mend 84 = .ok (.irem, 1) := by decide +kernel
theorem dX9_mend_85 : decode cX9_mend 85 = .ok (.if_icmp .eq 26, 3) := by decide +kernel
theorem dX9_mend_88 : decode cX9_mend 88 = .ok (.iload_n 3, 1) := by decide +kernel
theorem dX9_mend_89 : decode cX9_mend 89 = .ok (.iconst 0, 1) := by decide +kernel
theorem dX9_mend_90 : decode cX9_mend 90 = .ok (.bipush 9, 2) := by decide +kernel
theorem dX9_mend_92 : decode cX9_mend 92 = .ok (.invokestatic 158, 3) := by decide +kernel
theorem dX9_mend_95 : decode cX9_mend 95 = .ok (.ifCond .eq 16, 3) := by decide +kernel
theorem dX9_mend_98 : decode cX9_mend 98 = .ok (.aload_n 0, 1) := by decide +kernel
theorem dX9_mend_99 : decode cX9_mend 99 = .ok (.iconst 1, 1) := by decide +kernel
theorem dX9_mend_100 : decode cX9_mend 100 = .ok (.iload_n 1, 1) := by decide +kernel
theorem dX9_mend_101 : decode cX9_mend 101 = .ok (.invokestatic 200, 3) := by decide +kernel
theorem dX9_mend_104 : decode cX9_mend 104 = .ok (.iload_n 3, 1) := by decide +kernel
theorem dX9_mend_105 : decode cX9_mend 105 = .ok (.invokevirtual 203, 3) := by decide +kernel
theorem dX9_mend_108 : decode cX9_mend 108 = .ok (.goto 4, 3) := by decide +kernel
theorem dX9_mend_111 : decode cX9_mend 111 = .ok (.iconst (-1), 1) := by decide +kernel
theorem dX9_mend_112 : decode cX9_mend 112 = .ok (.ireturn, 1) := by decide +kernel
theorem dX9_mend_113 : decode cX9_mend 113 = .ok (.aload_n 0, 1) := by decide +kernel
theorem dX9_mend_114 : decode cX9_mend 114 = .ok (.iload_n 1, 1) := by decide +kernel
theorem dX9_mend_115 : decode cX9_mend 115 = .ok (.invokevirtual 194, 3) := by decide +kernel
theorem dX9_mend_118 : decode cX9_mend 118 = .ok (.ifCond .eq 22, 3) := by decide +kernel
theorem dX9_mend_121 : decode cX9_mend 121 = .ok (.iload_n 3, 1) := by decide +kernel
theorem dX9_mend_122 : decode cX9_mend 122 = .ok (.iconst 0, 1) := by decide +kernel
theorem dX9_mend_123 : decode cX9_mend 123 = .ok (.iconst 2, 1) := by decide +kernel
theorem dX9_mend_124 : decode cX9_mend 124 = .ok (.invokestatic 158, 3) := by decide +kernel
theorem dX9_mend_127 : decode cX9_mend 127 = .ok (.ifCond .eq 13, 3) := by decide +kernel
theorem dX9_mend_130 : decode cX9_mend 130 = .ok (.aload_n 0, 1) := by decide +kernel
theorem dX9_mend_131 : decode cX9_mend 131 = .ok (.iconst 2, 1) := by decide +kernel
theorem dX9_mend_132 : decode cX9_mend 132 = .ok (.iload_n 1, 1) := by decide +kernel
theorem dX9_mend_133 : decode cX9_mend 133 = .ok (.iload_n 3, 1) := by decide +kernel
theorem dX9_mend_134 : decode cX9_mend 134 = .ok (.invokevirtual 203, 3) := by decide +kernel
theorem dX9_mend_137 : decode cX9_mend 137 = .ok (.goto 4, 3) := by decide +kernel
theorem dX9_mend_140 : decode cX9_mend 140 = .ok (.iconst (-1), 1) := by decide +kernel
theorem dX9_mend_141 : decode cX9_mend 141 = .ok (.ireturn, 1) := by decide +kernel
theorem dX9_mend_142 : decode cX9_mend 142 = .ok (.iload_n 1, 1) := by decide +kernel
theorem dX9_mend_143 : decode cX9_mend 143 = .ok (.ifCond .ne 22, 3) := by decide +kernel
theorem dX9_mend_146 : decode cX9_mend 146 = .ok (.iload_n 3, 1) := by decide +kernel
theorem dX9_mend_147 : decode cX9_mend 147 = .ok (.iconst 1, 1) := by decide +kernel
theorem dX9_mend_148 : decode cX9_mend 148 = .ok (.iconst 3, 1) := by decide +kernel
theorem dX9_mend_149 : decode cX9_mend 149 = .ok (.invokestatic 158, 3) := by decide +kernel
theorem dX9_mend_152 : decode cX9_mend 152 = .ok (.ifCond .eq 13, 3) := by decide +kernel
theorem dX9_mend_155 : decode cX9_mend 155 = .ok (.aload_n 0, 1) := by decide +kernel
theorem dX9_mend_156 : decode cX9_mend 156 = .ok (.iconst 3, 1) := by decide +kernel
theorem dX9_mend_157 : decode cX9_mend 157 = .ok (.iconst 0, 1) := by decide +kernel
theorem dX9_mend_158 : decode cX9_mend 158 = .ok (.iload_n 3, 1) := by decide +kernel
theorem dX9_mend_159 : decode cX9_mend 159 = .ok (.invokevirtual 203, 3) := by decide +kernel
theorem dX9_mend_162 : decode cX9_mend 162 = .ok (.goto 4, 3) := by decide +kernel
theorem dX9_mend_165 : decode cX9_mend 165 = .ok (.iconst (-1), 1) := by decide +kernel
theorem dX9_mend_166 : decode cX9_mend 166 = .ok (.ireturn, 1) := by decide +kernel
theorem dX9_mend_167 : decode cX9_mend 167 = .ok (.iload_n 1, 1) := by decide +kernel
theorem dX9_mend_168 : decode cX9_mend 168 = .ok (.ifCond .ne 22, 3) := by decide +kernel
theorem dX9_mend_171 : decode cX9_mend 171 = .ok (.iload_n 3, 1) := by decide +kernel
theorem dX9_mend_172 : decode cX9_mend 172 = .ok (.iconst 0, 1) := by decide +kernel
theorem dX9_mend_173 : decode cX9_mend 173 = .ok (.iconst 1, 1) := by decide +kernel
theorem dX9_mend_174 : decode cX9_mend 174 = .ok (.invokestatic 158, 3) := by decide +kernel
theorem dX9_mend_177 : decode cX9_mend 177 = .ok (.ifCond .eq 13, 3) := by decide +kernel
theorem dX9_mend_180 : decode cX9_mend 180 = .ok (.aload_n 0, 1) := by decide +kernel
theorem dX9_mend_181 : decode cX9_mend 181 = .ok (.iconst 4, 1) := by decide +kernel
theorem dX9_mend_182 : decode cX9_mend 182 = .ok (.iconst 0, 1) := by decide +kernel
theorem dX9_mend_183 : decode cX9_mend 183 = .ok (.iload_n 3, 1) := by decide +kernel
theorem dX9_mend_184 : decode cX9_mend 184 = .ok (.invokevirtual 203, 3) := by decide +kernel
theorem dX9_mend_187 : decode cX9_mend 187 = .ok (.goto 4, 3) := by decide +kernel
theorem dX9_mend_190 : decode cX9_mend 190 = .ok (.iconst (-1), 1) := by decide +kernel
theorem dX9_mend_191 : decode cX9_mend 191 = .ok (.ireturn, 1) := by decide +kernel
theorem dX9_mend_192 : decode cX9_mend 192 = .ok (.iconst (-1), 1) := by decide +kernel
theorem dX9_mend_193 : decode cX9_mend 193 = .ok (.ireturn, 1) := by decide +kernel
theorem dX9_hasIn_0 : decode cX9_hasIn 0 = .ok (.iconst 0, 1) := by decide +kernel
theorem dX9_hasIn_1 : decode cX9_hasIn 1 = .ok (.istore_n 3, 1) := by decide +kernel
theorem dX9_hasIn_2 : decode cX9_hasIn 2 = .ok (.iload_n 3, 1) := by decide +kernel
theorem dX9_hasIn_3 : decode cX9_hasIn 3 = .ok (.aload_n 0, 1) := by decide +kernel
theorem dX9_hasIn_4 : decode cX9_hasIn 4 = .ok (.getfield 155, 3) := by decide +kernel
theorem dX9_hasIn_7 : decode cX9_hasIn 7 = .ok (.if_icmp .ge 26, 3) := by decide +kernel
theorem dX9_hasIn_10 : decode cX9_hasIn 10 = .ok (.aload_n 0, 1) := by decide +kernel
theorem dX9_hasIn_11 : decode cX9_hasIn 11 = .ok (.getfield 26, 3) := by decide +kernel
theorem dX9_hasIn_14 : decode cX9_hasIn 14 = .ok (.bipush 7, 2) := by decide +kernel
theorem dX9_hasIn_16 : decode cX9_hasIn 16 = .ok (.iload_n 1, 1) := by decide +kernel
theorem dX9_hasIn_17 : decode cX9_hasIn 17 = .ok (.imul, 1) := by decide +kernel
theorem dX9_hasIn_18 : decode cX9_hasIn 18 = .ok (.iload_n 3, 1) := by decide +kernel
theorem dX9_hasIn_19 : decode cX9_hasIn 19 = .ok (.iadd, 1) := by decide +kernel
theorem dX9_hasIn_20 : decode cX9_hasIn 20 = .ok (.iaload, 1) := by decide +kernel
theorem dX9_hasIn_21 : decode cX9_hasIn 21 = .ok (.iload_n 2, 1) := by decide +kernel
theorem dX9_hasIn_22 : decode cX9_hasIn 22 = .ok (.if_icmp .ne 5, 3) := by decide +kernel
theorem dX9_hasIn_25 : decode cX9_hasIn 25 = .ok (.iload_n 3, 1) := by decide +kernel
theorem dX9_hasIn_26 : decode cX9_hasIn 26 = .ok (.ireturn, 1) := by decide +kernel
theorem dX9_hasIn_27 : decode cX9_hasIn 27 = .ok (.iinc 3 1, 3) := by decide +kernel
theorem dX9_hasIn_30 : decode cX9_hasIn 30 = .ok (.goto (-28), 3) := by decide +kernel
theorem dX9_hasIn_33 : decode cX9_hasIn 33 = .ok (.bipush (-2), 2) := by decide +kernel
theorem dX9_hasIn_35 : decode cX9_hasIn 35 = .ok (.ireturn, 1) := by decide +kernel
theorem dX9_bit_0 : decode cX9_bit 0 = .ok (.iload_n 0, 1) := by decide +kernel
theorem dX9_bit_1 : decode cX9_bit 1 = .ok (.iload_n 1, 1) := by decide +kernel
theorem dX9_bit_2 : decode cX9_bit 2 = .ok (.ishr, 1) := by decide +kernel
theorem dX9_bit_3 : decode cX9_bit 3 = .ok (.iconst 1, 1) := by decide +kernel
theorem dX9_bit_4 : decode cX9_bit 4 = .ok (.iand, 1) := by decide +kernel
theorem dX9_bit_5 : decode cX9_bit 5 = .ok (.ireturn, 1) := by decide +kernel
theorem dX9_of_0 : decode cX9_of 0 = .ok (.iload_n 2, 1) := by decide +kernel
theorem dX9_of_1 : decode cX9_of 1 = .ok (.tableswitch 251 0 13 #[71, 93, 126, 145, 158, 251, 251, 251, 251, 251, 171, 190, 209, 228], 71) := by decide +kernel
theorem dX9_of_72 : decode cX9_of 72 = .ok (.aload_n 0, 1) := by decide +kernel
theorem dX9_of_73 : decode cX9_of 73 = .ok (.iload_n 1, 1) := by decide +kernel
theorem dX9_of_74 : decode cX9_of 74 = .ok (.invokevirtual 197, 3) := by decide +kernel
theorem dX9_of_77 : decode cX9_of 77 = .ok (.ifCond .eq 15, 3) := by decide +kernel
theorem dX9_of_80 : decode cX9_of 80 = .ok (.aload_n 0, 1) := by decide +kernel
theorem dX9_of_81 : decode cX9_of 81 = .ok (.getfield 7, 3) := by decide +kernel
theorem dX9_of_84 : decode cX9_of 84 = .ok (.iload_n 1, 1) := by decide +kernel
theorem dX9_of_85 : decode cX9_of 85 = .ok (.invokestatic 200, 3) := by decide +kernel
theorem dX9_of_88 : decode cX9_of 88 = .ok (.iaload, 1) := by decide +kernel
theorem dX9_of_89 : decode cX9_of 89 = .ok (.goto 4, 3) := by decide +kernel
theorem dX9_of_92 : decode cX9_of 92 = .ok (.iconst (-1), 1) := by decide +kernel
theorem dX9_of_93 : decode cX9_of 93 = .ok (.ireturn, 1) := by decide +kernel
theorem dX9_of_94 : decode cX9_of 94 = .ok (.aload_n 0, 1) := by decide +kernel
theorem dX9_of_95 : decode cX9_of 95 = .ok (.iload_n 1, 1) := by decide +kernel
theorem dX9_of_96 : decode cX9_of 96 = .ok (.invokevirtual 197, 3) := by decide +kernel
theorem dX9_of_99 : decode cX9_of 99 = .ok (.ifCond .eq 26, 3) := by decide +kernel
theorem dX9_of_102 : decode cX9_of 102 = .ok (.iload_n 1, 1) := by decide +kernel
theorem dX9_of_103 : decode cX9_of 103 = .ok (.bipush 10, 2) := by decide +kernel
theorem dX9_of_105 : decode cX9_of 105 = .ok (.idiv, 1) := by decide +kernel
theorem dX9_of_106 : decode cX9_of 106 = .ok (.iload_n 1, 1) := by decide +kernel
theorem dX9_of_107 : decode cX9_of 107 = .ok (.bipush 10, 2) := by decide +kernel
theorem dX9_of_109 : decode cX9_of 109 = .ok (.irem, 1) := by decide +kernel
theorem dX9_of_110 : decode cX9_of 110 = .ok (.if_icmp .eq 15, 3) := by decide +kernel
theorem dX9_of_113 : decode cX9_of 113 = .ok (.aload_n 0, 1) := by decide +kernel
theorem dX9_of_114 : decode cX9_of 114 = .ok (.getfield 13, 3) := by decide +kernel
theorem dX9_of_117 : decode cX9_of 117 = .ok (.iload_n 1, 1) := by decide +kernel
theorem dX9_of_118 : decode cX9_of 118 = .ok (.invokestatic 200, 3) := by decide +kernel
theorem dX9_of_121 : decode cX9_of 121 = .ok (.iaload, 1) := by decide +kernel
theorem dX9_of_122 : decode cX9_of 122 = .ok (.goto 4, 3) := by decide +kernel
theorem dX9_of_125 : decode cX9_of 125 = .ok (.iconst (-1), 1) := by decide +kernel
theorem dX9_of_126 : decode cX9_of 126 = .ok (.ireturn, 1) := by decide +kernel
theorem dX9_of_127 : decode cX9_of 127 = .ok (.aload_n 0, 1) := by decide +kernel
theorem dX9_of_128 : decode cX9_of 128 = .ok (.iload_n 1, 1) := by decide +kernel
theorem dX9_of_129 : decode cX9_of 129 = .ok (.invokevirtual 194, 3) := by decide +kernel
theorem dX9_of_132 : decode cX9_of 132 = .ok (.ifCond .eq 12, 3) := by decide +kernel
theorem dX9_of_135 : decode cX9_of 135 = .ok (.aload_n 0, 1) := by decide +kernel
theorem dX9_of_136 : decode cX9_of 136 = .ok (.getfield 16, 3) := by decide +kernel
theorem dX9_of_139 : decode cX9_of 139 = .ok (.iload_n 1, 1) := by decide +kernel
theorem dX9_of_140 : decode cX9_of 140 = .ok (.iaload, 1) := by decide +kernel
theorem dX9_of_141 : decode cX9_of 141 = .ok (.goto 4, 3) := by decide +kernel
theorem dX9_of_144 : decode cX9_of 144 = .ok (.iconst (-1), 1) := by decide +kernel
theorem dX9_of_145 : decode cX9_of 145 = .ok (.ireturn, 1) := by decide +kernel
theorem dX9_of_146 : decode cX9_of 146 = .ok (.iload_n 1, 1) := by decide +kernel
theorem dX9_of_147 : decode cX9_of 147 = .ok (.ifCond .ne 10, 3) := by decide +kernel
theorem dX9_of_150 : decode cX9_of 150 = .ok (.aload_n 0, 1) := by decide +kernel
theorem dX9_of_151 : decode cX9_of 151 = .ok (.getfield 19, 3) := by decide +kernel
theorem dX9_of_154 : decode cX9_of 154 = .ok (.goto 4, 3) := by decide +kernel
theorem dX9_of_157 : decode cX9_of 157 = .ok (.iconst (-1), 1) := by decide +kernel
theorem dX9_of_158 : decode cX9_of 158 = .ok (.ireturn, 1) := by decide +kernel
theorem dX9_of_159 : decode cX9_of 159 = .ok (.iload_n 1, 1) := by decide +kernel
theorem dX9_of_160 : decode cX9_of 160 = .ok (.ifCond .ne 10, 3) := by decide +kernel
theorem dX9_of_163 : decode cX9_of 163 = .ok (.aload_n 0, 1) := by decide +kernel
theorem dX9_of_164 : decode cX9_of 164 = .ok (.getfield 177, 3) := by decide +kernel
theorem dX9_of_167 : decode cX9_of 167 = .ok (.goto 4, 3) := by decide +kernel
theorem dX9_of_170 : decode cX9_of 170 = .ok (.iconst (-1), 1) := by decide +kernel
theorem dX9_of_171 : decode cX9_of 171 = .ok (.ireturn, 1) := by decide +kernel
theorem dX9_of_172 : decode cX9_of 172 = .ok (.aload_n 0, 1) := by decide +kernel
theorem dX9_of_173 : decode cX9_of 173 = .ok (.iload_n 1, 1) := by decide +kernel
theorem dX9_of_174 : decode cX9_of 174 = .ok (.invokevirtual 194, 3) := by decide +kernel
theorem dX9_of_177 : decode cX9_of 177 = .ok (.ifCond .eq 12, 3) := by decide +kernel
theorem dX9_of_180 : decode cX9_of 180 = .ok (.aload_n 0, 1) := by decide +kernel
theorem dX9_of_181 : decode cX9_of 181 = .ok (.getfield 23, 3) := by decide +kernel
theorem dX9_of_184 : decode cX9_of 184 = .ok (.iload_n 1, 1) := by decide +kernel
theorem dX9_of_185 : decode cX9_of 185 = .ok (.iaload, 1) := by decide +kernel
theorem dX9_of_186 : decode cX9_of 186 = .ok (.goto 4, 3) := by decide +kernel
theorem dX9_of_189 : decode cX9_of 189 = .ok (.iconst (-1), 1) := by decide +kernel
theorem dX9_of_190 : decode cX9_of 190 = .ok (.ireturn, 1) := by decide +kernel
theorem dX9_of_191 : decode cX9_of 191 = .ok (.aload_n 0, 1) := by decide +kernel
theorem dX9_of_192 : decode cX9_of 192 = .ok (.iload_n 1, 1) := by decide +kernel
theorem dX9_of_193 : decode cX9_of 193 = .ok (.invokevirtual 194, 3) := by decide +kernel
theorem dX9_of_196 : decode cX9_of 196 = .ok (.ifCond .eq 12, 3) := by decide +kernel
theorem dX9_of_199 : decode cX9_of 199 = .ok (.aload_n 0, 1) := by decide +kernel
theorem dX9_of_200 : decode cX9_of 200 = .ok (.iconst 0, 1) := by decide +kernel
theorem dX9_of_201 : decode cX9_of 201 = .ok (.iload_n 1, 1) := by decide +kernel
theorem dX9_of_202 : decode cX9_of 202 = .ok (.invokevirtual 207, 3) := by decide +kernel
theorem dX9_of_205 : decode cX9_of 205 = .ok (.goto 4, 3) := by decide +kernel
theorem dX9_of_208 : decode cX9_of 208 = .ok (.iconst (-1), 1) := by decide +kernel
theorem dX9_of_209 : decode cX9_of 209 = .ok (.ireturn, 1) := by decide +kernel
theorem dX9_of_210 : decode cX9_of 210 = .ok (.aload_n 0, 1) := by decide +kernel
theorem dX9_of_211 : decode cX9_of 211 = .ok (.iload_n 1, 1) := by decide +kernel
theorem dX9_of_212 : decode cX9_of 212 = .ok (.invokevirtual 194, 3) := by decide +kernel
theorem dX9_of_215 : decode cX9_of 215 = .ok (.ifCond .eq 12, 3) := by decide +kernel
theorem dX9_of_218 : decode cX9_of 218 = .ok (.aload_n 0, 1) := by decide +kernel
theorem dX9_of_219 : decode cX9_of 219 = .ok (.getfield 29, 3) := by decide +kernel
theorem dX9_of_222 : decode cX9_of 222 = .ok (.iload_n 1, 1) := by decide +kernel
theorem dX9_of_223 : decode cX9_of 223 = .ok (.iaload, 1) := by decide +kernel
theorem dX9_of_224 : decode cX9_of 224 = .ok (.goto 4, 3) := by decide +kernel
theorem dX9_of_227 : decode cX9_of 227 = .ok (.iconst (-1), 1) := by decide +kernel
theorem dX9_of_228 : decode cX9_of 228 = .ok (.ireturn, 1) := by decide +kernel
theorem dX9_of_229 : decode cX9_of 229 = .ok (.aload_n 0, 1) := by decide +kernel
theorem dX9_of_230 : decode cX9_of 230 = .ok (.iload_n 1, 1) := by decide +kernel
theorem dX9_of_231 : decode cX9_of 231 = .ok (.invokevirtual 194, 3) := by decide +kernel
theorem dX9_of_234 : decode cX9_of 234 = .ok (.ifCond .eq 16, 3) := by decide +kernel
theorem dX9_of_237 : decode cX9_of 237 = .ok (.aload_n 0, 1) := by decide +kernel
theorem dX9_of_238 : decode cX9_of 238 = .ok (.getfield 32, 3) := by decide +kernel
theorem dX9_of_241 : decode cX9_of 241 = .ok (.iconst 0, 1) := by decide +kernel
theorem dX9_of_242 : decode cX9_of 242 = .ok (.iaload, 1) := by decide +kernel
theorem dX9_of_243 : decode cX9_of 243 = .ok (.iload_n 1, 1) := by decide +kernel
theorem dX9_of_244 : decode cX9_of 244 = .ok (.invokestatic 210, 3) := by decide +kernel
theorem dX9_of_247 : decode cX9_of 247 = .ok (.goto 4, 3) := by decide +kernel
theorem dX9_of_250 : decode cX9_of 250 = .ok (.iconst (-1), 1) := by decide +kernel
theorem dX9_of_251 : decode cX9_of 251 = .ok (.ireturn, 1) := by decide +kernel
theorem dX9_of_252 : decode cX9_of 252 = .ok (.iconst (-1), 1) := by decide +kernel
theorem dX9_of_253 : decode cX9_of 253 = .ok (.ireturn, 1) := by decide +kernel
theorem dX9_swapLot_0 : decode cX9_swapLot 0 = .ok (.aload_n 0, 1) := by decide +kernel
theorem dX9_swapLot_1 : decode cX9_swapLot 1 = .ok (.getfield 23, 3) := by decide +kernel
theorem dX9_swapLot_4 : decode cX9_swapLot 4 = .ok (.iload_n 1, 1) := by decide +kernel
theorem dX9_swapLot_5 : decode cX9_swapLot 5 = .ok (.iaload, 1) := by decide +kernel
theorem dX9_swapLot_6 : decode cX9_swapLot 6 = .ok (.istore_n 3, 1) := by decide +kernel
theorem dX9_swapLot_7 : decode cX9_swapLot 7 = .ok (.aload_n 0, 1) := by decide +kernel
theorem dX9_swapLot_8 : decode cX9_swapLot 8 = .ok (.getfield 23, 3) := by decide +kernel
theorem dX9_swapLot_11 : decode cX9_swapLot 11 = .ok (.iload_n 1, 1) := by decide +kernel
theorem dX9_swapLot_12 : decode cX9_swapLot 12 = .ok (.aload_n 0, 1) := by decide +kernel
theorem dX9_swapLot_13 : decode cX9_swapLot 13 = .ok (.getfield 23, 3) := by decide +kernel
theorem dX9_swapLot_16 : decode cX9_swapLot 16 = .ok (.iload_n 2, 1) := by decide +kernel
theorem dX9_swapLot_17 : decode cX9_swapLot 17 = .ok (.iaload, 1) := by decide +kernel
theorem dX9_swapLot_18 : decode cX9_swapLot 18 = .ok (.iastore, 1) := by decide +kernel
theorem dX9_swapLot_19 : decode cX9_swapLot 19 = .ok (.aload_n 0, 1) := by decide +kernel
theorem dX9_swapLot_20 : decode cX9_swapLot 20 = .ok (.getfield 23, 3) := by decide +kernel
theorem dX9_swapLot_23 : decode cX9_swapLot 23 = .ok (.iload_n 2, 1) := by decide +kernel
theorem dX9_swapLot_24 : decode cX9_swapLot 24 = .ok (.iload_n 3, 1) := by decide +kernel
theorem dX9_swapLot_25 : decode cX9_swapLot 25 = .ok (.iastore, 1) := by decide +kernel
theorem dX9_swapLot_26 : decode cX9_swapLot 26 = .ok (.return_, 1) := by decide +kernel
theorem dX9_swap_0 : decode cX9_swap 0 = .ok (.aload_n 0, 1) := by decide +kernel
theorem dX9_swap_1 : decode cX9_swap 1 = .ok (.iload_n 1, 1) := by decide +kernel
theorem dX9_swap_2 : decode cX9_swap 2 = .ok (.invokevirtual 197, 3) := by decide +kernel
theorem dX9_swap_5 : decode cX9_swap 5 = .ok (.ifCond .eq 14, 3) := by decide +kernel
theorem dX9_swap_8 : decode cX9_swap 8 = .ok (.iload_n 1, 1) := by decide +kernel
theorem dX9_swap_9 : decode cX9_swap 9 = .ok (.bipush 10, 2) := by decide +kernel
theorem dX9_swap_11 : decode cX9_swap 11 = .ok (.idiv, 1) := by decide +kernel
theorem dX9_swap_12 : decode cX9_swap 12 = .ok (.iload_n 1, 1) := by decide +kernel
theorem dX9_swap_13 : decode cX9_swap 13 = .ok (.bipush 10, 2) := by decide +kernel
theorem dX9_swap_15 : decode cX9_swap 15 = .ok (.irem, 1) := by decide +kernel
theorem dX9_swap_16 : decode cX9_swap 16 = .ok (.if_icmp .ne 5, 3) := by decide +kernel
theorem dX9_swap_19 : decode cX9_swap 19 = .ok (.iconst (-1), 1) := by decide +kernel
theorem dX9_swap_20 : decode cX9_swap 20 = .ok (.ireturn, 1) := by decide +kernel
theorem dX9_swap_21 : decode cX9_swap 21 = .ok (.aload_n 0, 1) := by decide +kernel
theorem dX9_swap_22 : decode cX9_swap 22 = .ok (.getfield 166, 3) := by decide +kernel
theorem dX9_swap_25 : decode cX9_swap 25 = .ok (.ifCond .le 6, 3) := by decide +kernel
theorem dX9_swap_28 : decode cX9_swap 28 = .ok (.bipush (-5), 2) := by decide +kernel
theorem dX9_swap_30 : decode cX9_swap 30 = .ok (.ireturn, 1) := by decide +kernel
theorem dX9_swap_31 : decode cX9_swap 31 = .ok (.aload_n 0, 1) := by decide +kernel
theorem dX9_swap_32 : decode cX9_swap 32 = .ok (.iload_n 1, 1) := by decide +kernel
theorem dX9_swap_33 : decode cX9_swap 33 = .ok (.bipush 10, 2) := by decide +kernel
theorem dX9_swap_35 : decode cX9_swap 35 = .ok (.idiv, 1) := by decide +kernel
theorem dX9_swap_36 : decode cX9_swap 36 = .ok (.iload_n 1, 1) := by decide +kernel
theorem dX9_swap_37 : decode cX9_swap 37 = .ok (.bipush 10, 2) := by decide +kernel
theorem dX9_swap_39 : decode cX9_swap 39 = .ok (.irem, 1) := by decide +kernel
theorem dX9_swap_40 : decode cX9_swap 40 = .ok (.invokevirtual 213, 3) := by decide +kernel
theorem dX9_swap_43 : decode cX9_swap 43 = .ok (.aload_n 0, 1) := by decide +kernel
theorem dX9_swap_44 : decode cX9_swap 44 = .ok (.getfield 35, 3) := by decide +kernel
theorem dX9_swap_47 : decode cX9_swap 47 = .ok (.iconst 0, 1) := by decide +kernel
theorem dX9_swap_48 : decode cX9_swap 48 = .ok (.aload_n 0, 1) := by decide +kernel
theorem dX9_swap_49 : decode cX9_swap 49 = .ok (.getfield 23, 3) := by decide +kernel
theorem dX9_swap_52 : decode cX9_swap 52 = .ok (.iconst 0, 1) := by decide +kernel
theorem dX9_swap_53 : decode cX9_swap 53 = .ok (.iaload, 1) := by decide +kernel
theorem dX9_swap_54 : decode cX9_swap 54 = .ok (.iastore, 1) := by decide +kernel
theorem dX9_swap_55 : decode cX9_swap 55 = .ok (.aload_n 0, 1) := by decide +kernel
theorem dX9_swap_56 : decode cX9_swap 56 = .ok (.getfield 23, 3) := by decide +kernel
theorem dX9_swap_59 : decode cX9_swap 59 = .ok (.iload_n 1, 1) := by decide +kernel
theorem dX9_swap_60 : decode cX9_swap 60 = .ok (.bipush 10, 2) := by decide +kernel
theorem dX9_swap_62 : decode cX9_swap 62 = .ok (.idiv, 1) := by decide +kernel
theorem dX9_swap_63 : decode cX9_swap 63 = .ok (.iaload, 1) := by decide +kernel
theorem dX9_swap_64 : decode cX9_swap 64 = .ok (.ireturn, 1) := by decide +kernel
theorem dX9_feed_0 : decode cX9_feed 0 = .ok (.iload_n 1, 1) := by decide +kernel
theorem dX9_feed_1 : decode cX9_feed 1 = .ok (.iconst 0, 1) := by decide +kernel
theorem dX9_feed_2 : decode cX9_feed 2 = .ok (.sipush 255, 3) := by decide +kernel
theorem dX9_feed_5 : decode cX9_feed 5 = .ok (.invokestatic 158, 3) := by decide +kernel
theorem dX9_feed_8 : decode cX9_feed 8 = .ok (.ifCond .ne 5, 3) := by decide +kernel
theorem dX9_feed_11 : decode cX9_feed 11 = .ok (.iconst (-1), 1) := by decide +kernel
theorem dX9_feed_12 : decode cX9_feed 12 = .ok (.ireturn, 1) := by decide +kernel
theorem dX9_feed_13 : decode cX9_feed 13 = .ok (.aload_n 0, 1) := by decide +kernel
theorem dX9_feed_14 : decode cX9_feed 14 = .ok (.getfield 217, 3) := by decide +kernel
theorem dX9_feed_17 : decode cX9_feed 17 = .ok (.bipush 120, 2) := by decide +kernel
theorem dX9_feed_19 : decode cX9_feed 19 = .ok (.if_icmp .ne 6, 3) := by decide +kernel
theorem dX9_feed_22 : decode cX9_feed 22 = .ok (.bipush (-3), 2) := by decide +kernel
theorem dX9_feed_24 : decode cX9_feed 24 = .ok (.ireturn, 1) := by decide +kernel
theorem dX9_feed_25 : decode cX9_feed 25 = .ok (.aload_n 0, 1) := by decide +kernel
theorem dX9_feed_26 : decode cX9_feed 26 = .ok (.getfield 62, 3) := by decide +kernel
theorem dX9_feed_29 : decode cX9_feed 29 = .ok (.aload_n 0, 1) := by decide +kernel
theorem dX9_feed_30 : decode cX9_feed 30 = .ok (.getfield 217, 3) := by decide +kernel
theorem dX9_feed_33 : decode cX9_feed 33 = .ok (.iload_n 1, 1) := by decide +kernel
theorem dX9_feed_34 : decode cX9_feed 34 = .ok (.i2b, 1) := by decide +kernel
theorem dX9_feed_35 : decode cX9_feed 35 = .ok (.bastore, 1) := by decide +kernel
theorem dX9_feed_36 : decode cX9_feed 36 = .ok (.aload_n 0, 1) := by decide +kernel
theorem dX9_feed_37 : decode cX9_feed 37 = .ok (.dup, 1) := by decide +kernel
theorem dX9_feed_38 : decode cX9_feed 38 = .ok (.getfield 217, 3) := by decide +kernel
theorem dX9_feed_41 : decode cX9_feed 41 = .ok (.iconst 1, 1) := by decide +kernel
theorem dX9_feed_42 : decode cX9_feed 42 = .ok (.iadd, 1) := by decide +kernel
theorem dX9_feed_43 : decode cX9_feed 43 = .ok (.putfield 217, 3) := by decide +kernel
theorem dX9_feed_46 : decode cX9_feed 46 = .ok (.aload_n 0, 1) := by decide +kernel
theorem dX9_feed_47 : decode cX9_feed 47 = .ok (.getfield 217, 3) := by decide +kernel
theorem dX9_feed_50 : decode cX9_feed 50 = .ok (.ireturn, 1) := by decide +kernel
theorem dX9_look_0 : decode cX9_look 0 = .ok (.aload_n 0, 1) := by decide +kernel
theorem dX9_look_1 : decode cX9_look 1 = .ok (.getfield 220, 3) := by decide +kernel
theorem dX9_look_4 : decode cX9_look 4 = .ok (.aload_n 0, 1) := by decide +kernel
theorem dX9_look_5 : decode cX9_look 5 = .ok (.getfield 217, 3) := by decide +kernel
theorem dX9_look_8 : decode cX9_look 8 = .ok (.if_icmp .ge 15, 3) := by decide +kernel
theorem dX9_look_11 : decode cX9_look 11 = .ok (.aload_n 0, 1) := by decide +kernel
theorem dX9_look_12 : decode cX9_look 12 = .ok (.getfield 62, 3) := by decide +kernel
theorem dX9_look_15 : decode cX9_look 15 = .ok (.aload_n 0, 1) := by decide +kernel
theorem dX9_look_16 : decode cX9_look 16 = .ok (.getfield 220, 3) := by decide +kernel
theorem dX9_look_19 : decode cX9_look 19 = .ok (.baload, 1) := by decide +kernel
theorem dX9_look_20 : decode cX9_look 20 = .ok (.goto 4, 3) := by decide +kernel
theorem dX9_look_23 : decode cX9_look 23 = .ok (.iconst (-1), 1) := by decide +kernel
theorem dX9_look_24 : decode cX9_look 24 = .ok (.ireturn, 1) := by decide +kernel
theorem dX9_faulty_0 : decode cX9_faulty 0 = .ok (.aload_n 0, 1) := by decide +kernel
theorem dX9_faulty_1 : decode cX9_faulty 1 = .ok (.getfield 223, 3) := by decide +kernel
theorem dX9_faulty_4 : decode cX9_faulty 4 = .ok (.ifCond .ge 11, 3) := by decide +kernel
theorem dX9_faulty_7 : decode cX9_faulty 7 = .ok (.aload_n 0, 1) := by decide +kernel
theorem dX9_faulty_8 : decode cX9_faulty 8 = .ok (.aload_n 0, 1) := by decide +kernel
theorem dX9_faulty_9 : decode cX9_faulty 9 = .ok (.getfield 220, 3) := by decide +kernel
theorem dX9_faulty_12 : decode cX9_faulty 12 = .ok (.putfield 223, 3) := by decide +kernel
theorem dX9_faulty_15 : decode cX9_faulty 15 = .ok (.return_, 1) := by decide +kernel
theorem dX9_addStep_0 : decode cX9_addStep 0 = .ok (.aload_n 0, 1) := by decide +kernel
theorem dX9_addStep_1 : decode cX9_addStep 1 = .ok (.getfield 66, 3) := by decide +kernel
theorem dX9_addStep_4 : decode cX9_addStep 4 = .ok (.sipush 130, 3) := by decide +kernel
theorem dX9_addStep_7 : decode cX9_addStep 7 = .ok (.aload_n 0, 1) := by decide +kernel
theorem dX9_addStep_8 : decode cX9_addStep 8 = .ok (.getfield 226, 3) := by decide +kernel
theorem dX9_addStep_11 : decode cX9_addStep 11 = .ok (.iadd, 1) := by decide +kernel
theorem dX9_addStep_12 : decode cX9_addStep 12 = .ok (.iload_n 1, 1) := by decide +kernel
theorem dX9_addStep_13 : decode cX9_addStep 13 = .ok (.i2b, 1) := by decide +kernel
theorem dX9_addStep_14 : decode cX9_addStep 14 = .ok (.bastore, 1) := by decide +kernel
theorem dX9_addStep_15 : decode cX9_addStep 15 = .ok (.aload_n 0, 1) := by decide +kernel
theorem dX9_addStep_16 : decode cX9_addStep 16 = .ok (.getfield 69, 3) := by decide +kernel
theorem dX9_addStep_19 : decode cX9_addStep 19 = .ok (.sipush 130, 3) := by decide +kernel
theorem dX9_addStep_22 : decode cX9_addStep 22 = .ok (.aload_n 0, 1) := by decide +kernel
theorem dX9_addStep_23 : decode cX9_addStep 23 = .ok (.getfield 226, 3) := by decide +kernel
theorem dX9_addStep_26 : decode cX9_addStep 26 = .ok (.iadd, 1) := by decide +kernel
theorem dX9_addStep_27 : decode cX9_addStep 27 = .ok (.iload_n 2, 1) := by decide +kernel
theorem dX9_addStep_28 : decode cX9_addStep 28 = .ok (.iastore, 1) := by decide +kernel
theorem dX9_addStep_29 : decode cX9_addStep 29 = .ok (.aload_n 0, 1) := by decide +kernel
theorem dX9_addStep_30 : decode cX9_addStep 30 = .ok (.dup, 1) := by decide +kernel
theorem dX9_addStep_31 : decode cX9_addStep 31 = .ok (.getfield 226, 3) := by decide +kernel
theorem dX9_addStep_34 : decode cX9_addStep 34 = .ok (.iconst 1, 1) := by decide +kernel
theorem dX9_addStep_35 : decode cX9_addStep 35 = .ok (.iadd, 1) := by decide +kernel
theorem dX9_addStep_36 : decode cX9_addStep 36 = .ok (.putfield 226, 3) := by decide +kernel
theorem dX9_addStep_39 : decode cX9_addStep 39 = .ok (.return_, 1) := by decide +kernel
theorem dX9_nameOf_0 : decode cX9_nameOf 0 = .ok (.iload_n 0, 1) := by decide +kernel
theorem dX9_nameOf_1 : decode cX9_nameOf 1 = .ok (.tableswitch 79 108 120 #[73, 79, 79, 75, 79, 79, 77, 79, 71, 79, 79, 67, 69], 67) := by decide +kernel
theorem dX9_nameOf_68 : decode cX9_nameOf 68 = .ok (.iconst 0, 1) := by decide +kernel
theorem dX9_nameOf_69 : decode cX9_nameOf 69 = .ok (.ireturn, 1) := by decide +kernel
theorem dX9_nameOf_70 : decode cX9_nameOf 70 = .ok (.iconst 1, 1) := by decide +kernel
theorem dX9_nameOf_71 : decode cX9_nameOf 71 = .ok (.ireturn, 1) := by decide +kernel
theorem dX9_nameOf_72 : decode cX9_nameOf 72 = .ok (.iconst 2, 1) := by decide +kernel
theorem dX9_nameOf_73 : decode cX9_nameOf 73 = .ok (.ireturn, 1) := by decide +kernel
theorem dX9_nameOf_74 : decode cX9_nameOf 74 = .ok (.iconst 3, 1) := by decide +kernel
theorem dX9_nameOf_75 : decode cX9_nameOf 75 = .ok (.ireturn, 1) := by decide +kernel
theorem dX9_nameOf_76 : decode cX9_nameOf 76 = .ok (.iconst 4, 1) := by decide +kernel
theorem dX9_nameOf_77 : decode cX9_nameOf 77 = .ok (.ireturn, 1) := by decide +kernel
theorem dX9_nameOf_78 : decode cX9_nameOf 78 = .ok (.iconst 5, 1) := by decide +kernel
theorem dX9_nameOf_79 : decode cX9_nameOf 79 = .ok (.ireturn, 1) := by decide +kernel
theorem dX9_nameOf_80 : decode cX9_nameOf 80 = .ok (.iconst (-1), 1) := by decide +kernel
theorem dX9_nameOf_81 : decode cX9_nameOf 81 = .ok (.ireturn, 1) := by decide +kernel
theorem dX9_opens_0 : decode cX9_opens 0 = .ok (.aload_n 0, 1) := by decide +kernel
theorem dX9_opens_1 : decode cX9_opens 1 = .ok (.getfield 229, 3) := by decide +kernel
theorem dX9_opens_4 : decode cX9_opens 4 = .ok (.bipush 6, 2) := by decide +kernel
theorem dX9_opens_6 : decode cX9_opens 6 = .ok (.if_icmp .ne 9, 3) := by decide +kernel
theorem dX9_opens_9 : decode cX9_opens 9 = .ok (.aload_n 0, 1) := by decide +kernel
theorem dX9_opens_10 : decode cX9_opens 10 = .ok (.invokevirtual 232, 3) := by decide +kernel
theorem dX9_opens_13 : decode cX9_opens 13 = .ok (.iconst 0, 1) := by decide +kernel
theorem dX9_opens_14 : decode cX9_opens 14 = .ok (.ireturn, 1) := by decide +kernel
theorem dX9_opens_15 : decode cX9_opens 15 = .ok (.aload_n 0, 1) := by decide +kernel
theorem dX9_opens_16 : decode cX9_opens 16 = .ok (.dup, 1) := by decide +kernel
theorem dX9_opens_17 : decode cX9_opens 17 = .ok (.getfield 229, 3) := by decide +kernel
theorem dX9_opens_20 : decode cX9_opens 20 = .ok (.iconst 1, 1) := by decide +kernel
theorem dX9_opens_21 : decode cX9_opens 21 = .ok (.iadd, 1) := by decide +kernel
theorem dX9_opens_22 : decode cX9_opens 22 = .ok (.putfield 229, 3) := by decide +kernel
theorem dX9_opens_25 : decode cX9_opens 25 = .ok (.aload_n 0, 1) := by decide +kernel
theorem dX9_opens_26 : decode cX9_opens 26 = .ok (.dup, 1) := by decide +kernel
theorem dX9_opens_27 : decode cX9_opens 27 = .ok (.getfield 220, 3) := by decide +kernel
theorem dX9_opens_30 : decode cX9_opens 30 = .ok (.iconst 1, 1) := by decide +kernel
theorem dX9_opens_31 : decode cX9_opens 31 = .ok (.iadd, 1) := by decide +kernel
theorem dX9_opens_32 : decode cX9_opens 32 = .ok (.putfield 220, 3) := by decide +kernel
theorem dX9_opens_35 : decode cX9_opens 35 = .ok (.iconst 1, 1) := by decide +kernel
theorem dX9_opens_36 : decode cX9_opens 36 = .ok (.ireturn, 1) := by decide +kernel
theorem dX9_figure_0 : decode cX9_figure 0 = .ok (.iconst 0, 1) := by decide +kernel
theorem dX9_figure_1 : decode cX9_figure 1 = .ok (.istore_n 1, 1) := by decide +kernel
theorem dX9_figure_2 : decode cX9_figure 2 = .ok (.iconst 0, 1) := by decide +kernel
theorem dX9_figure_3 : decode cX9_figure 3 = .ok (.istore_n 2, 1) := by decide +kernel
theorem dX9_figure_4 : decode cX9_figure 4 = .ok (.iload_n 2, 1) := by decide +kernel
theorem dX9_figure_5 : decode cX9_figure 5 = .ok (.iconst 4, 1) := by decide +kernel
theorem dX9_figure_6 : decode cX9_figure 6 = .ok (.if_icmp .ge 46, 3) := by decide +kernel
theorem dX9_figure_9 : decode cX9_figure 9 = .ok (.aload_n 0, 1) := by decide +kernel
theorem dX9_figure_10 : decode cX9_figure 10 = .ok (.invokevirtual 235, 3) := by decide +kernel
theorem dX9_figure_13 : decode cX9_figure 13 = .ok (.bipush 48, 2) := by decide +kernel
theorem dX9_figure_15 : decode cX9_figure 15 = .ok (.bipush 57, 2) := by decide +kernel
theorem dX9_figure_17 : decode cX9_figure 17 = .ok (.invokestatic 158, 3) := by decide +kernel
theorem dX9_figure_20 : decode cX9_figure 20 = .ok (.ifCond .eq 32, 3) := by decide +kernel
theorem dX9_figure_23 : decode cX9_figure 23 = .ok (.bipush 10, 2) := by decide +kernel
theorem dX9_figure_25 : decode cX9_figure 25 = .ok (.iload_n 1, 1) := by decide +kernel
theorem dX9_figure_26 : decode cX9_figure 26 = .ok (.imul, 1) := by decide +kernel
theorem dX9_figure_27 : decode cX9_figure 27 = .ok (.aload_n 0, 1) := by decide +kernel
theorem dX9_figure_28 : decode cX9_figure 28 = .ok (.invokevirtual 235, 3) := by decide +kernel
theorem dX9_figure_31 : decode cX9_figure 31 = .ok (.iadd, 1) := by decide +kernel
theorem dX9_figure_32 : decode cX9_figure 32 = .ok (.bipush 48, 2) := by decide +kernel
theorem dX9_figure_34 : decode cX9_figure 34 = .ok (.isub, 1) := by decide +kernel
theorem dX9_figure_35 : decode cX9_figure 35 = .ok (.istore_n 1, 1) := by decide +kernel
theorem dX9_figure_36 : decode cX9_figure 36 = .ok (.iinc 2 1, 3) := by decide +kernel
theorem dX9_figure_39 : decode cX9_figure 39 = .ok (.aload_n 0, 1) := by decide +kernel
theorem dX9_figure_40 : decode cX9_figure 40 = .ok (.dup, 1) := by decide +kernel
theorem dX9_figure_41 : decode cX9_figure 41 = .ok (.getfield 220, 3) := by decide +kernel
theorem dX9_figure_44 : decode cX9_figure 44 = .ok (.iconst 1, 1) := by decide +kernel
theorem dX9_figure_45 : decode cX9_figure 45 = .ok (.iadd, 1) := by decide +kernel
theorem dX9_figure_46 : decode cX9_figure 46 = .ok (.putfield 220, 3) := by decide +kernel
theorem dX9_figure_49 : decode cX9_figure 49 = .ok (.goto (-45), 3) := by decide +kernel
theorem dX9_figure_52 : decode cX9_figure 52 = .ok (.iload_n 2, 1) := by decide +kernel
theorem dX9_figure_53 : decode cX9_figure 53 = .ok (.ifCond .eq 17, 3) := by decide +kernel
theorem dX9_figure_56 : decode cX9_figure 56 = .ok (.aload_n 0, 1) := by decide +kernel
theorem dX9_figure_57 : decode cX9_figure 57 = .ok (.invokevirtual 235, 3) := by decide +kernel
theorem dX9_figure_60 : decode cX9_figure 60 = .ok (.bipush 48, 2) := by decide +kernel
theorem dX9_figure_62 : decode cX9_figure 62 = .ok (.bipush 57, 2) := by decide +kernel
theorem dX9_figure_64 : decode cX9_figure 64 = .ok (.invokestatic 158, 3) := by decide +kernel
theorem dX9_figure_67 : decode cX9_figure 67 = .ok (.ifCond .eq 7, 3) := by decide +kernel
theorem dX9_figure_70 : decode cX9_figure 70 = .ok (.aload_n 0, 1) := by decide +kernel
theorem dX9_figure_71 : decode cX9_figure 71 = .ok (.invokevirtual 232, 3) := by decide +kernel
theorem dX9_figure_74 : decode cX9_figure 74 = .ok (.aload_n 0, 1) := by decide +kernel
theorem dX9_figure_75 : decode cX9_figure 75 = .ok (.iconst 1, 1) := by decide +kernel
theorem dX9_figure_76 : decode cX9_figure 76 = .ok (.iload_n 1, 1) := by decide +kernel
theorem dX9_figure_77 : decode cX9_figure 77 = .ok (.invokevirtual 239, 3) := by decide +kernel
theorem dX9_figure_80 : decode cX9_figure 80 = .ok (.return_, 1) := by decide +kernel
theorem dX9_operand_0 : decode cX9_operand 0 = .ok (.aload_n 0, 1) := by decide +kernel
theorem dX9_operand_1 : decode cX9_operand 1 = .ok (.invokevirtual 235, 3) := by decide +kernel
theorem dX9_operand_4 : decode cX9_operand 4 = .ok (.istore_n 1, 1) := by decide +kernel
theorem dX9_operand_5 : decode cX9_operand 5 = .ok (.iload_n 1, 1) := by decide +kernel
theorem dX9_operand_6 : decode cX9_operand 6 = .ok (.invokestatic 242, 3) := by decide +kernel
theorem dX9_operand_9 : decode cX9_operand 9 = .ok (.ifCond .lt 25, 3) := by decide +kernel
theorem dX9_operand_12 : decode cX9_operand 12 = .ok (.aload_n 0, 1) := by decide +kernel
theorem dX9_operand_13 : decode cX9_operand 13 = .ok (.iconst 2, 1) := by decide +kernel
theorem dX9_operand_14 : decode cX9_operand 14 = .ok (.iload_n 1, 1) := by decide +kernel
theorem dX9_operand_15 : decode cX9_operand 15 = .ok (.invokestatic 242, 3) := by decide +kernel
theorem dX9_operand_18 : decode cX9_operand 18 = .ok (.invokevirtual 239, 3) := by decide +kernel
theorem dX9_operand_21 : decode cX9_operand 21 = .ok (.aload_n 0, 1) := by decide +kernel
theorem dX9_operand_22 : decode cX9_operand 22 = .ok (.dup, 1) := by decide +kernel
theorem dX9_operand_23 : decode cX9_operand 23 = .ok (.getfield 220, 3) := by decide +kernel
theorem dX9_operand_26 : decode cX9_operand 26 = .ok (.iconst 1, 1) := by decide +kernel
theorem dX9_operand_27 : decode cX9_operand 27 = .ok (.iadd, 1) := by decide +kernel
theorem dX9_operand_28 : decode cX9_operand 28 = .ok (.putfield 220, 3) := by decide +kernel
theorem dX9_operand_31 : decode cX9_operand 31 = .ok (.goto 123, 3) := by decide +kernel
theorem dX9_operand_34 : decode cX9_operand 34 = .ok (.iload_n 1, 1) := by decide +kernel
theorem dX9_operand_35 : decode cX9_operand 35 = .ok (.bipush 33, 2) := by decide +kernel
theorem dX9_operand_37 : decode cX9_operand 37 = .ok (.if_icmp .eq 9, 3) := by decide +kernel
theorem dX9_operand_40 : decode cX9_operand 40 = .ok (.iload_n 1, 1) := by decide +kernel
theorem dX9_operand_41 : decode cX9_operand 41 = .ok (.bipush 45, 2) := by decide +kernel
theorem dX9_operand_43 : decode cX9_operand 43 = .ok (.if_icmp .ne 44, 3) := by decide +kernel
theorem dX9_operand_46 : decode cX9_operand 46 = .ok (.aload_n 0, 1) := by decide +kernel
theorem dX9_operand_47 : decode cX9_operand 47 = .ok (.invokevirtual 245, 3) := by decide +kernel
theorem dX9_operand_50 : decode cX9_operand 50 = .ok (.ifCond .ne 4, 3) := by decide +kernel
theorem dX9_operand_53 : decode cX9_operand 53 = .ok (.return_, 1) := by decide +kernel
theorem dX9_operand_54 : decode cX9_operand 54 = .ok (.aload_n 0, 1) := by decide +kernel
theorem dX9_operand_55 : decode cX9_operand 55 = .ok (.invokevirtual 249, 3) := by decide +kernel
theorem dX9_operand_58 : decode cX9_operand 58 = .ok (.aload_n 0, 1) := by decide +kernel
theorem dX9_operand_59 : decode cX9_operand 59 = .ok (.dup, 1) := by decide +kernel
theorem dX9_operand_60 : decode cX9_operand 60 = .ok (.getfield 229, 3) := by decide +kernel
theorem dX9_operand_63 : decode cX9_operand 63 = .ok (.iconst 1, 1) := by decide +kernel
theorem dX9_operand_64 : decode cX9_operand 64 = .ok (.isub, 1) := by decide +kernel
theorem dX9_operand_65 : decode cX9_operand 65 = .ok (.putfield 229, 3) := by decide +kernel
theorem dX9_operand_68 : decode cX9_operand 68 = .ok (.aload_n 0, 1) := by decide +kernel
theorem dX9_operand_69 : decode cX9_operand 69 = .ok (.iload_n 1, 1) := by decide +kernel
theorem dX9_operand_70 : decode cX9_operand 70 = .ok (.bipush 33, 2) := by decide +kernel
theorem dX9_operand_72 : decode cX9_operand 72 = .ok (.if_icmp .ne 7, 3) := by decide +kernel
theorem dX9_operand_75 : decode cX9_operand 75 = .ok (.iconst 3, 1) := by decide +kernel
theorem dX9_operand_76 : decode cX9_operand 76 = .ok (.goto 4, 3) := by decide +kernel
theorem dX9_operand_79 : decode cX9_operand 79 = .ok (.iconst 4, 1) := by decide +kernel
theorem dX9_operand_80 : decode cX9_operand 80 = .ok (.iconst 0, 1) := by decide +kernel
theorem dX9_operand_81 : decode cX9_operand 81 = .ok (.invokevirtual 239, 3) := by decide +kernel
theorem dX9_operand_84 : decode cX9_operand 84 = .ok (.goto 70, 3) := by decide +kernel
theorem dX9_operand_87 : decode cX9_operand 87 = .ok (.iload_n 1, 1) := by decide +kernel
theorem dX9_operand_88 : decode cX9_operand 88 = .ok (.bipush 40, 2) := by decide +kernel
theorem dX9_operand_90 : decode cX9_operand 90 = .ok (.if_icmp .ne 60, 3) := by decide +kernel
theorem dX9_operand_93 : decode cX9_operand 93 = .ok (.aload_n 0, 1) := by decide +kernel
theorem dX9_operand_94 : decode cX9_operand 94 = .ok (.invokevirtual 245, 3) := by decide +kernel
theorem dX9_operand_97 : decode cX9_operand 97 = .ok (.ifCond .ne 4, 3) := by decide +kernel
theorem dX9_operand_100 : decode cX9_operand 100 = .ok (.return_, 1) := by decide +kernel
theorem dX9_operand_101 : decode cX9_operand 101 = .ok (.aload_n 0, 1) := by decide +kernel
theorem dX9_operand_102 : decode cX9_operand 102 = .ok (.invokevirtual 252, 3) := by decide +kernel
theorem dX9_operand_105 : decode cX9_operand 105 = .ok (.aload_n 0, 1) := by decide +kernel
theorem dX9_operand_106 : decode cX9_operand 106 = .ok (.getfield 223, 3) := by decide +kernel
theorem dX9_operand_109 : decode cX9_operand 109 = .ok (.ifCond .lt 4, 3) := by decide +kernel
theorem dX9_operand_112 : decode cX9_operand 112 = .ok (.return_, 1) := by decide +kernel
theorem dX9_operand_113 : decode cX9_operand 113 = .ok (.aload_n 0, 1) := by decide +kernel
theorem dX9_operand_114 : decode cX9_operand 114 = .ok (.invokevirtual 235, 3) := by decide +kernel
theorem dX9_operand_117 : decode cX9_operand 117 = .ok (.bipush 41, 2) := by decide +kernel
theorem dX9_operand_119 : decode cX9_operand 119 = .ok (.if_icmp .eq 8, 3) := by decide +kernel
theorem dX9_operand_122 : decode cX9_operand 122 = .ok (.aload_n 0, 1) := by decide +kernel
theorem dX9_operand_123 : decode cX9_operand 123 = .ok (.invokevirtual 232, 3) := by decide +kernel
theorem dX9_operand_126 : decode cX9_operand 126 = .ok (.return_, 1) := by decide +kernel
theorem dX9_operand_127 : decode cX9_operand 127 = .ok (.aload_n 0, 1) := by decide +kernel
theorem dX9_operand_128 : decode cX9_operand 128 = .ok (.dup, 1) := by decide +kernel
theorem dX9_operand_129 : decode cX9_operand 129 = .ok (.getfield 220, 3) := by decide +kernel
theorem dX9_operand_132 : decode cX9_operand 132 = .ok (.iconst 1, 1) := by decide +kernel
theorem dX9_operand_133 : decode cX9_operand 133 = .ok (.iadd, 1) := by decide +kernel
theorem dX9_operand_134 : decode cX9_operand 134 = .ok (.putfield 220, 3) := by decide +kernel
theorem dX9_operand_137 : decode cX9_operand 137 = .ok (.aload_n 0, 1) := by decide +kernel
theorem dX9_operand_138 : decode cX9_operand 138 = .ok (.dup, 1) := by decide +kernel
theorem dX9_operand_139 : decode cX9_operand 139 = .ok (.getfield 229, 3) := by decide +kernel
theorem dX9_operand_142 : decode cX9_operand 142 = .ok (.iconst 1, 1) := by decide +kernel
theorem dX9_operand_143 : decode cX9_operand 143 = .ok (.isub, 1) := by decide +kernel
theorem dX9_operand_144 : decode cX9_operand 144 = .ok (.putfield 229, 3) := by decide +kernel
theorem dX9_operand_147 : decode cX9_operand 147 = .ok (.goto 7, 3) := by decide +kernel
theorem dX9_operand_150 : decode cX9_operand 150 = .ok (.aload_n 0, 1) := by decide +kernel
theorem dX9_operand_151 : decode cX9_operand 151 = .ok (.invokevirtual 255, 3) := by decide +kernel
theorem dX9_operand_154 : decode cX9_operand 154 = .ok (.return_, 1) := by decide +kernel
theorem dX9_product_0 : decode cX9_product 0 = .ok (.aload_n 0, 1) := by decide +kernel
theorem dX9_product_1 : decode cX9_product 1 = .ok (.invokevirtual 249, 3) := by decide +kernel
theorem dX9_product_4 : decode cX9_product 4 = .ok (.aload_n 0, 1) := by decide +kernel
theorem dX9_product_5 : decode cX9_product 5 = .ok (.getfield 223, 3) := by decide +kernel
theorem dX9_product_8 : decode cX9_product 8 = .ok (.ifCond .ge 58, 3) := by decide +kernel
theorem dX9_product_11 : decode cX9_product 11 = .ok (.aload_n 0, 1) := by decide +kernel
theorem dX9_product_12 : decode cX9_product 12 = .ok (.invokevirtual 235, 3) := by decide +kernel
theorem dX9_product_15 : decode cX9_product 15 = .ok (.bipush 42, 2) := by decide +kernel
theorem dX9_product_17 : decode cX9_product 17 = .ok (.if_icmp .eq 21, 3) := by decide +kernel
theorem dX9_product_20 : decode cX9_product 20 = .ok (.aload_n 0, 1) := by decide +kernel
theorem dX9_product_21 : decode cX9_product 21 = .ok (.invokevirtual 235, 3) := by decide +kernel
theorem dX9_product_24 : decode cX9_product 24 = .ok (.bipush 47, 2) := by decide +kernel
theorem dX9_product_26 : decode cX9_product 26 = .ok (.if_icmp .eq 12, 3) := by decide +kernel
theorem dX9_product_29 : decode cX9_product 29 = .ok (.aload_n 0, 1) := by decide +kernel
theorem dX9_product_30 : decode cX9_product 30 = .ok (.invokevirtual 235, 3) := by decide +kernel
theorem dX9_product_33 : decode cX9_product 33 = .ok (.bipush 37, 2) := by decide +kernel
theorem dX9_product_35 : decode cX9_product 35 = .ok (.if_icmp .ne 31, 3) := by decide +kernel
theorem dX9_product_38 : decode cX9_product 38 = .ok (.aload_n 0, 1) := by decide +kernel
theorem dX9_product_39 : decode cX9_product 39 = .ok (.invokevirtual 235, 3) := by decide +kernel
theorem dX9_product_42 : decode cX9_product 42 = .ok (.istore_n 1, 1) := by decide +kernel
theorem dX9_product_43 : decode cX9_product 43 = .ok (.aload_n 0, 1) := by decide +kernel
theorem dX9_product_44 : decode cX9_product 44 = .ok (.dup, 1) := by decide +kernel
theorem dX9_product_45 : decode cX9_product 45 = .ok (.getfield 220, 3) := by decide +kernel
theorem dX9_product_48 : decode cX9_product 48 = .ok (.iconst 1, 1) := by decide +kernel
theorem dX9_product_49 : decode cX9_product 49 = .ok (.iadd, 1) := by decide +kernel
theorem dX9_product_50 : decode cX9_product 50 = .ok (.putfield 220, 3) := by decide +kernel
theorem dX9_product_53 : decode cX9_product 53 = .ok (.aload_n 0, 1) := by decide +kernel
theorem dX9_product_54 : decode cX9_product 54 = .ok (.invokevirtual 249, 3) := by decide +kernel
theorem dX9_product_57 : decode cX9_product 57 = .ok (.aload_n 0, 1) := by decide +kernel
theorem dX9_product_58 : decode cX9_product 58 = .ok (.iload_n 1, 1) := by decide +kernel
theorem dX9_product_59 : decode cX9_product 59 = .ok (.iconst 0, 1) := by decide +kernel
theorem dX9_product_60 : decode cX9_product 60 = .ok (.invokevirtual 239, 3) := by decide +kernel
theorem dX9_product_63 : decode cX9_product 63 = .ok (.goto (-59), 3) := by decide +kernel
theorem dX9_product_66 : decode cX9_product 66 = .ok (.return_, 1) := by decide +kernel
theorem dX9_sum_0 : decode cX9_sum 0 = .ok (.aload_n 0, 1) := by decide +kernel
theorem dX9_sum_1 : decode cX9_sum 1 = .ok (.invokevirtual 258, 3) := by decide +kernel
theorem dX9_sum_4 : decode cX9_sum 4 = .ok (.aload_n 0, 1) := by decide +kernel
theorem dX9_sum_5 : decode cX9_sum 5 = .ok (.getfield 223, 3) := by decide +kernel
theorem dX9_sum_8 : decode cX9_sum 8 = .ok (.ifCond .ge 49, 3) := by decide +kernel
theorem dX9_sum_11 : decode cX9_sum 11 = .ok (.aload_n 0, 1) := by decide +kernel
theorem dX9_sum_12 : decode cX9_sum 12 = .ok (.invokevirtual 235, 3) := by decide +kernel
theorem dX9_sum_15 : decode cX9_sum 15 = .ok (.bipush 43, 2) := by decide +kernel
theorem dX9_sum_17 : decode cX9_sum 17 = .ok (.if_icmp .eq 12, 3) := by decide +kernel
theorem dX9_sum_20 : decode cX9_sum 20 = .ok (.aload_n 0, 1) := by decide +kernel
theorem dX9_sum_21 : decode cX9_sum 21 = .ok (.invokevirtual 235, 3) := by decide +kernel
theorem dX9_sum_24 : decode cX9_sum 24 = .ok (.bipush 45, 2) := by decide +kernel
theorem dX9_sum_26 : decode cX9_sum 26 = .ok (.if_icmp .ne 31, 3) := by decide +kernel
theorem dX9_sum_29 : decode cX9_sum 29 = .ok (.aload_n 0, 1) := by decide +kernel
theorem dX9_sum_30 : decode cX9_sum 30 = .ok (.invokevirtual 235, 3) := by decide +kernel
theorem dX9_sum_33 : decode cX9_sum 33 = .ok (.istore_n 1, 1) := by decide +kernel
theorem dX9_sum_34 : decode cX9_sum 34 = .ok (.aload_n 0, 1) := by decide +kernel
theorem dX9_sum_35 : decode cX9_sum 35 = .ok (.dup, 1) := by decide +kernel
theorem dX9_sum_36 : decode cX9_sum 36 = .ok (.getfield 220, 3) := by decide +kernel
theorem dX9_sum_39 : decode cX9_sum 39 = .ok (.iconst 1, 1) := by decide +kernel
theorem dX9_sum_40 : decode cX9_sum 40 = .ok (.iadd, 1) := by decide +kernel
theorem dX9_sum_41 : decode cX9_sum 41 = .ok (.putfield 220, 3) := by decide +kernel
theorem dX9_sum_44 : decode cX9_sum 44 = .ok (.aload_n 0, 1) := by decide +kernel
theorem dX9_sum_45 : decode cX9_sum 45 = .ok (.invokevirtual 258, 3) := by decide +kernel
theorem dX9_sum_48 : decode cX9_sum 48 = .ok (.aload_n 0, 1) := by decide +kernel
theorem dX9_sum_49 : decode cX9_sum 49 = .ok (.iload_n 1, 1) := by decide +kernel
theorem dX9_sum_50 : decode cX9_sum 50 = .ok (.iconst 0, 1) := by decide +kernel
theorem dX9_sum_51 : decode cX9_sum 51 = .ok (.invokevirtual 239, 3) := by decide +kernel
theorem dX9_sum_54 : decode cX9_sum 54 = .ok (.goto (-50), 3) := by decide +kernel
theorem dX9_sum_57 : decode cX9_sum 57 = .ok (.return_, 1) := by decide +kernel
theorem dX9_compared_0 : decode cX9_compared 0 = .ok (.aload_n 0, 1) := by decide +kernel
theorem dX9_compared_1 : decode cX9_compared 1 = .ok (.invokevirtual 261, 3) := by decide +kernel
theorem dX9_compared_4 : decode cX9_compared 4 = .ok (.aload_n 0, 1) := by decide +kernel
theorem dX9_compared_5 : decode cX9_compared 5 = .ok (.invokevirtual 235, 3) := by decide +kernel
theorem dX9_compared_8 : decode cX9_compared 8 = .ok (.istore_n 1, 1) := by decide +kernel
theorem dX9_compared_9 : decode cX9_compared 9 = .ok (.aload_n 0, 1) := by decide +kernel
theorem dX9_compared_10 : decode cX9_compared 10 = .ok (.getfield 223, 3) := by decide +kernel
theorem dX9_compared_13 : decode cX9_compared 13 = .ok (.ifCond .ge 21, 3) := by decide +kernel
theorem dX9_compared_16 : decode cX9_compared 16 = .ok (.iload_n 1, 1) := by decide +kernel
theorem dX9_compared_17 : decode cX9_compared 17 = .ok (.bipush 60, 2) := by decide +kernel
theorem dX9_compared_19 : decode cX9_compared 19 = .ok (.if_icmp .eq 16, 3) := by decide +kernel
theorem dX9_compared_22 : decode cX9_compared 22 = .ok (.iload_n 1, 1) := by decide +kernel
theorem dX9_compared_23 : decode cX9_compared 23 = .ok (.bipush 61, 2) := by decide +kernel
theorem dX9_compared_25 : decode cX9_compared 25 = .ok (.if_icmp .eq 10, 3) := by decide +kernel
theorem dX9_compared_28 : decode cX9_compared 28 = .ok (.iload_n 1, 1) := by decide +kernel
theorem dX9_compared_29 : decode cX9_compared 29 = .ok (.bipush 62, 2) := by decide +kernel
theorem dX9_compared_31 : decode cX9_compared 31 = .ok (.if_icmp .eq 4, 3) := by decide +kernel
theorem dX9_compared_34 : decode cX9_compared 34 = .ok (.return_, 1) := by decide +kernel
theorem dX9_compared_35 : decode cX9_compared 35 = .ok (.aload_n 0, 1) := by decide +kernel
theorem dX9_compared_36 : decode cX9_compared 36 = .ok (.dup, 1) := by decide +kernel
theorem dX9_compared_37 : decode cX9_compared 37 = .ok (.getfield 220, 3) := by decide +kernel
theorem dX9_compared_40 : decode cX9_compared 40 = .ok (.iconst 1, 1) := by decide +kernel
theorem dX9_compared_41 : decode cX9_compared 41 = .ok (.iadd, 1) := by decide +kernel
theorem dX9_compared_42 : decode cX9_compared 42 = .ok (.putfield 220, 3) := by decide +kernel
theorem dX9_compared_45 : decode cX9_compared 45 = .ok (.aload_n 0, 1) := by decide +kernel
theorem dX9_compared_46 : decode cX9_compared 46 = .ok (.invokevirtual 261, 3) := by decide +kernel
theorem dX9_compared_49 : decode cX9_compared 49 = .ok (.aload_n 0, 1) := by decide +kernel
theorem dX9_compared_50 : decode cX9_compared 50 = .ok (.iload_n 1, 1) := by decide +kernel
theorem dX9_compared_51 : decode cX9_compared 51 = .ok (.iconst 0, 1) := by decide +kernel
theorem dX9_compared_52 : decode cX9_compared 52 = .ok (.invokevirtual 239, 3) := by decide +kernel
theorem dX9_compared_55 : decode cX9_compared 55 = .ok (.return_, 1) := by decide +kernel
theorem dX9_both_0 : decode cX9_both 0 = .ok (.aload_n 0, 1) := by decide +kernel
theorem dX9_both_1 : decode cX9_both 1 = .ok (.invokevirtual 264, 3) := by decide +kernel
theorem dX9_both_4 : decode cX9_both 4 = .ok (.aload_n 0, 1) := by decide +kernel
theorem dX9_both_5 : decode cX9_both 5 = .ok (.getfield 223, 3) := by decide +kernel
theorem dX9_both_8 : decode cX9_both 8 = .ok (.ifCond .ge 36, 3) := by decide +kernel
theorem dX9_both_11 : decode cX9_both 11 = .ok (.aload_n 0, 1) := by decide +kernel
theorem dX9_both_12 : decode cX9_both 12 = .ok (.invokevirtual 235, 3) := by decide +kernel
theorem dX9_both_15 : decode cX9_both 15 = .ok (.bipush 38, 2) := by decide +kernel
theorem dX9_both_17 : decode cX9_both 17 = .ok (.if_icmp .ne 27, 3) := by decide +kernel
theorem dX9_both_20 : decode cX9_both 20 = .ok (.aload_n 0, 1) := by decide +kernel
theorem dX9_both_21 : decode cX9_both 21 = .ok (.dup, 1) := by decide +kernel
theorem dX9_both_22 : decode cX9_both 22 = .ok (.getfield 220, 3) := by decide +kernel
theorem dX9_both_25 : decode cX9_both 25 = .ok (.iconst 1, 1) := by decide +kernel
theorem dX9_both_26 : decode cX9_both 26 = .ok (.iadd, 1) := by decide +kernel
theorem dX9_both_27 : decode cX9_both 27 = .ok (.putfield 220, 3) := by decide +kernel
theorem dX9_both_30 : decode cX9_both 30 = .ok (.aload_n 0, 1) := by decide +kernel
theorem dX9_both_31 : decode cX9_both 31 = .ok (.invokevirtual 264, 3) := by decide +kernel
theorem dX9_both_34 : decode cX9_both 34 = .ok (.aload_n 0, 1) := by decide +kernel
theorem dX9_both_35 : decode cX9_both 35 = .ok (.bipush 38, 2) := by decide +kernel
theorem dX9_both_37 : decode cX9_both 37 = .ok (.iconst 0, 1) := by decide +kernel
theorem dX9_both_38 : decode cX9_both 38 = .ok (.invokevirtual 239, 3) := by decide +kernel
theorem dX9_both_41 : decode cX9_both 41 = .ok (.goto (-37), 3) := by decide +kernel
theorem dX9_both_44 : decode cX9_both 44 = .ok (.return_, 1) := by decide +kernel
theorem dX9_either_0 : decode cX9_either 0 = .ok (.aload_n 0, 1) := by decide +kernel
theorem dX9_either_1 : decode cX9_either 1 = .ok (.invokevirtual 267, 3) := by decide +kernel
theorem dX9_either_4 : decode cX9_either 4 = .ok (.aload_n 0, 1) := by decide +kernel
theorem dX9_either_5 : decode cX9_either 5 = .ok (.getfield 223, 3) := by decide +kernel
theorem dX9_either_8 : decode cX9_either 8 = .ok (.ifCond .ge 36, 3) := by decide +kernel
theorem dX9_either_11 : decode cX9_either 11 = .ok (.aload_n 0, 1) := by decide +kernel
theorem dX9_either_12 : decode cX9_either 12 = .ok (.invokevirtual 235, 3) := by decide +kernel
theorem dX9_either_15 : decode cX9_either 15 = .ok (.bipush 124, 2) := by decide +kernel
theorem dX9_either_17 : decode cX9_either 17 = .ok (.if_icmp .ne 27, 3) := by decide +kernel
theorem dX9_either_20 : decode cX9_either 20 = .ok (.aload_n 0, 1) := by decide +kernel
theorem dX9_either_21 : decode cX9_either 21 = .ok (.dup, 1) := by decide +kernel
theorem dX9_either_22 : decode cX9_either 22 = .ok (.getfield 220, 3) := by decide +kernel
theorem dX9_either_25 : decode cX9_either 25 = .ok (.iconst 1, 1) := by decide +kernel
theorem dX9_either_26 : decode cX9_either 26 = .ok (.iadd, 1) := by decide +kernel
theorem dX9_either_27 : decode cX9_either 27 = .ok (.putfield 220, 3) := by decide +kernel
theorem dX9_either_30 : decode cX9_either 30 = .ok (.aload_n 0, 1) := by decide +kernel
theorem dX9_either_31 : decode cX9_either 31 = .ok (.invokevirtual 267, 3) := by decide +kernel
theorem dX9_either_34 : decode cX9_either 34 = .ok (.aload_n 0, 1) := by decide +kernel
theorem dX9_either_35 : decode cX9_either 35 = .ok (.bipush 124, 2) := by decide +kernel
theorem dX9_either_37 : decode cX9_either 37 = .ok (.iconst 0, 1) := by decide +kernel
theorem dX9_either_38 : decode cX9_either 38 = .ok (.invokevirtual 239, 3) := by decide +kernel
theorem dX9_either_41 : decode cX9_either 41 = .ok (.goto (-37), 3) := by decide +kernel
theorem dX9_either_44 : decode cX9_either 44 = .ok (.return_, 1) := by decide +kernel
theorem dX9_line_0 : decode cX9_line 0 = .ok (.bipush 61, 2) := by decide +kernel
theorem dX9_line_2 : decode cX9_line 2 = .ok (.aload_n 0, 1) := by decide +kernel
theorem dX9_line_3 : decode cX9_line 3 = .ok (.getfield 72, 3) := by decide +kernel
theorem dX9_line_6 : decode cX9_line 6 = .ok (.iconst 1, 1) := by decide +kernel
theorem dX9_line_7 : decode cX9_line 7 = .ok (.iaload, 1) := by decide +kernel
theorem dX9_line_8 : decode cX9_line 8 = .ok (.iadd, 1) := by decide +kernel
theorem dX9_line_9 : decode cX9_line 9 = .ok (.istore_n 1, 1) := by decide +kernel
theorem dX9_line_10 : decode cX9_line 10 = .ok (.aload_n 0, 1) := by decide +kernel
theorem dX9_line_11 : decode cX9_line 11 = .ok (.getfield 75, 3) := by decide +kernel
theorem dX9_line_14 : decode cX9_line 14 = .ok (.iload_n 1, 1) := by decide +kernel
theorem dX9_line_15 : decode cX9_line 15 = .ok (.aload_n 0, 1) := by decide +kernel
theorem dX9_line_16 : decode cX9_line 16 = .ok (.getfield 226, 3) := by decide +kernel
theorem dX9_line_19 : decode cX9_line 19 = .ok (.i2s, 1) := by decide +kernel
theorem dX9_line_20 : decode cX9_line 20 = .ok (.sastore, 1) := by decide +kernel
theorem dX9_line_21 : decode cX9_line 21 = .ok (.aload_n 0, 1) := by decide +kernel
theorem dX9_line_22 : decode cX9_line 22 = .ok (.invokevirtual 252, 3) := by decide +kernel
theorem dX9_line_25 : decode cX9_line 25 = .ok (.aload_n 0, 1) := by decide +kernel
theorem dX9_line_26 : decode cX9_line 26 = .ok (.getfield 223, 3) := by decide +kernel
theorem dX9_line_29 : decode cX9_line 29 = .ok (.ifCond .ge 37, 3) := by decide +kernel
theorem dX9_line_32 : decode cX9_line 32 = .ok (.aload_n 0, 1) := by decide +kernel
theorem dX9_line_33 : decode cX9_line 33 = .ok (.invokevirtual 235, 3) := by decide +kernel
theorem dX9_line_36 : decode cX9_line 36 = .ok (.bipush 63, 2) := by decide +kernel
theorem dX9_line_38 : decode cX9_line 38 = .ok (.if_icmp .ne 28, 3) := by decide +kernel
theorem dX9_line_41 : decode cX9_line 41 = .ok (.aload_n 0, 1) := by decide +kernel
theorem dX9_line_42 : decode cX9_line 42 = .ok (.dup, 1) := by decide +kernel
theorem dX9_line_43 : decode cX9_line 43 = .ok (.getfield 220, 3) := by decide +kernel
theorem dX9_line_46 : decode cX9_line 46 = .ok (.iconst 1, 1) := by decide +kernel
theorem dX9_line_47 : decode cX9_line 47 = .ok (.iadd, 1) := by decide +kernel
theorem dX9_line_48 : decode cX9_line 48 = .ok (.putfield 220, 3) := by decide +kernel
theorem dX9_line_51 : decode cX9_line 51 = .ok (.aload_n 0, 1) := by decide +kernel
theorem dX9_line_52 : decode cX9_line 52 = .ok (.getfield 75, 3) := by decide +kernel
theorem dX9_line_55 : decode cX9_line 55 = .ok (.iload_n 1, 1) := by decide +kernel
theorem dX9_line_56 : decode cX9_line 56 = .ok (.aload_n 0, 1) := by decide +kernel
theorem dX9_line_57 : decode cX9_line 57 = .ok (.getfield 226, 3) := by decide +kernel
theorem dX9_line_60 : decode cX9_line 60 = .ok (.i2s, 1) := by decide +kernel
theorem dX9_line_61 : decode cX9_line 61 = .ok (.sastore, 1) := by decide +kernel
theorem dX9_line_62 : decode cX9_line 62 = .ok (.aload_n 0, 1) := by decide +kernel
theorem dX9_line_63 : decode cX9_line 63 = .ok (.invokevirtual 252, 3) := by decide +kernel
theorem dX9_line_66 : decode cX9_line 66 = .ok (.aload_n 0, 1) := by decide +kernel
theorem dX9_line_67 : decode cX9_line 67 = .ok (.getfield 79, 3) := by decide +kernel
theorem dX9_line_70 : decode cX9_line 70 = .ok (.iload_n 1, 1) := by decide +kernel
theorem dX9_line_71 : decode cX9_line 71 = .ok (.aload_n 0, 1) := by decide +kernel
theorem dX9_line_72 : decode cX9_line 72 = .ok (.getfield 226, 3) := by decide +kernel
theorem dX9_line_75 : decode cX9_line 75 = .ok (.i2s, 1) := by decide +kernel
theorem dX9_line_76 : decode cX9_line 76 = .ok (.sastore, 1) := by decide +kernel
theorem dX9_line_77 : decode cX9_line 77 = .ok (.aload_n 0, 1) := by decide +kernel
theorem dX9_line_78 : decode cX9_line 78 = .ok (.getfield 72, 3) := by decide +kernel
theorem dX9_line_81 : decode cX9_line 81 = .ok (.iconst 1, 1) := by decide +kernel
theorem dX9_line_82 : decode cX9_line 82 = .ok (.dup2, 1) := by decide +kernel
theorem dX9_line_83 : decode cX9_line 83 = .ok (.iaload, 1) := by decide +kernel
theorem dX9_line_84 : decode cX9_line 84 = .ok (.iconst 1, 1) := by decide +kernel
theorem dX9_line_85 : decode cX9_line 85 = .ok (.iadd, 1) := by decide +kernel
theorem dX9_line_86 : decode cX9_line 86 = .ok (.iastore, 1) := by decide +kernel
theorem dX9_line_87 : decode cX9_line 87 = .ok (.return_, 1) := by decide +kernel
theorem dX9_readText_0 : decode cX9_readText 0 = .ok (.aload_n 0, 1) := by decide +kernel
theorem dX9_readText_1 : decode cX9_readText 1 = .ok (.iconst 0, 1) := by decide +kernel
theorem dX9_readText_2 : decode cX9_readText 2 = .ok (.putfield 220, 3) := by decide +kernel
theorem dX9_readText_5 : decode cX9_readText 5 = .ok (.aload_n 0, 1) := by decide +kernel
theorem dX9_readText_6 : decode cX9_readText 6 = .ok (.iconst (-1), 1) := by decide +kernel
theorem dX9_readText_7 : decode cX9_readText 7 = .ok (.putfield 223, 3) := by decide +kernel
theorem dX9_readText_10 : decode cX9_readText 10 = .ok (.aload_n 0, 1) := by decide +kernel
theorem dX9_readText_11 : decode cX9_readText 11 = .ok (.iconst 0, 1) := by decide +kernel
theorem dX9_readText_12 : decode cX9_readText 12 = .ok (.putfield 229, 3) := by decide +kernel
theorem dX9_readText_15 : decode cX9_readText 15 = .ok (.aload_n 0, 1) := by decide +kernel
theorem dX9_readText_16 : decode cX9_readText 16 = .ok (.iconst 0, 1) := by decide +kernel
theorem dX9_readText_17 : decode cX9_readText 17 = .ok (.putfield 226, 3) := by decide +kernel
theorem dX9_readText_20 : decode cX9_readText 20 = .ok (.aload_n 0, 1) := by decide +kernel
theorem dX9_readText_21 : decode cX9_readText 21 = .ok (.getfield 72, 3) := by decide +kernel
theorem dX9_readText_24 : decode cX9_readText 24 = .ok (.iconst 1, 1) := by decide +kernel
theorem dX9_readText_25 : decode cX9_readText 25 = .ok (.iconst 0, 1) := by decide +kernel
theorem dX9_readText_26 : decode cX9_readText 26 = .ok (.iastore, 1) := by decide +kernel
theorem dX9_readText_27 : decode cX9_readText 27 = .ok (.aload_n 0, 1) := by decide +kernel
theorem dX9_readText_28 : decode cX9_readText 28 = .ok (.invokevirtual 270, 3) := by decide +kernel
theorem dX9_readText_31 : decode cX9_readText 31 = .ok (.aload_n 0, 1) := by decide +kernel
theorem dX9_readText_32 : decode cX9_readText 32 = .ok (.getfield 223, 3) := by decide +kernel
theorem dX9_readText_35 : decode cX9_readText 35 = .ok (.ifCond .ge 29, 3) := by decide +kernel
theorem dX9_readText_38 : decode cX9_readText 38 = .ok (.aload_n 0, 1) := by decide +kernel
theorem dX9_readText_39 : decode cX9_readText 39 = .ok (.invokevirtual 235, 3) := by decide +kernel
theorem dX9_readText_42 : decode cX9_readText 42 = .ok (.bipush 59, 2) := by decide +kernel
theorem dX9_readText_44 : decode cX9_readText 44 = .ok (.if_icmp .ne 20, 3) := by decide +kernel
theorem dX9_readText_47 : decode cX9_readText 47 = .ok (.aload_n 0, 1) := by decide +kernel
theorem dX9_readText_48 : decode cX9_readText 48 = .ok (.dup, 1) := by decide +kernel
theorem dX9_readText_49 : decode cX9_readText 49 = .ok (.getfield 220, 3) := by decide +kernel
theorem dX9_readText_52 : decode cX9_readText 52 = .ok (.iconst 1, 1) := by decide +kernel
theorem dX9_readText_53 : decode cX9_readText 53 = .ok (.iadd, 1) := by decide +kernel
theorem dX9_readText_54 : decode cX9_readText 54 = .ok (.putfield 220, 3) := by decide +kernel
theorem dX9_readText_57 : decode cX9_readText 57 = .ok (.aload_n 0, 1) := by decide +kernel
theorem dX9_readText_58 : decode cX9_readText 58 = .ok (.invokevirtual 270, 3) := by decide +kernel
theorem dX9_readText_61 : decode cX9_readText 61 = .ok (.goto (-30), 3) := by decide +kernel
theorem dX9_readText_64 : decode cX9_readText 64 = .ok (.aload_n 0, 1) := by decide +kernel
theorem dX9_readText_65 : decode cX9_readText 65 = .ok (.getfield 223, 3) := by decide +kernel
theorem dX9_readText_68 : decode cX9_readText 68 = .ok (.ifCond .ge 18, 3) := by decide +kernel
theorem dX9_readText_71 : decode cX9_readText 71 = .ok (.aload_n 0, 1) := by decide +kernel
theorem dX9_readText_72 : decode cX9_readText 72 = .ok (.getfield 220, 3) := by decide +kernel
theorem dX9_readText_75 : decode cX9_readText 75 = .ok (.aload_n 0, 1) := by decide +kernel
theorem dX9_readText_76 : decode cX9_readText 76 = .ok (.getfield 217, 3) := by decide +kernel
theorem dX9_readText_79 : decode cX9_readText 79 = .ok (.if_icmp .ge 7, 3) := by decide +kernel
theorem dX9_readText_82 : decode cX9_readText 82 = .ok (.aload_n 0, 1) := by decide +kernel
theorem dX9_readText_83 : decode cX9_readText 83 = .ok (.invokevirtual 232, 3) := by decide +kernel
theorem dX9_readText_86 : decode cX9_readText 86 = .ok (.aload_n 0, 1) := by decide +kernel
theorem dX9_readText_87 : decode cX9_readText 87 = .ok (.iconst 0, 1) := by decide +kernel
theorem dX9_readText_88 : decode cX9_readText 88 = .ok (.putfield 217, 3) := by decide +kernel
theorem dX9_readText_91 : decode cX9_readText 91 = .ok (.aload_n 0, 1) := by decide +kernel
theorem dX9_readText_92 : decode cX9_readText 92 = .ok (.getfield 223, 3) := by decide +kernel
theorem dX9_readText_95 : decode cX9_readText 95 = .ok (.ifCond .lt 8, 3) := by decide +kernel
theorem dX9_readText_98 : decode cX9_readText 98 = .ok (.aload_n 0, 1) := by decide +kernel
theorem dX9_readText_99 : decode cX9_readText 99 = .ok (.getfield 223, 3) := by decide +kernel
theorem dX9_readText_102 : decode cX9_readText 102 = .ok (.ireturn, 1) := by decide +kernel
theorem dX9_readText_103 : decode cX9_readText 103 = .ok (.iconst 0, 1) := by decide +kernel
theorem dX9_readText_104 : decode cX9_readText 104 = .ok (.istore_n 2, 1) := by decide +kernel
theorem dX9_readText_105 : decode cX9_readText 105 = .ok (.iload_n 2, 1) := by decide +kernel
theorem dX9_readText_106 : decode cX9_readText 106 = .ok (.aload_n 0, 1) := by decide +kernel
theorem dX9_readText_107 : decode cX9_readText 107 = .ok (.getfield 226, 3) := by decide +kernel
theorem dX9_readText_110 : decode cX9_readText 110 = .ok (.if_icmp .ge 53, 3) := by decide +kernel
theorem dX9_readText_113 : decode cX9_readText 113 = .ok (.aload_n 0, 1) := by decide +kernel
theorem dX9_readText_114 : decode cX9_readText 114 = .ok (.getfield 66, 3) := by decide +kernel
theorem dX9_readText_117 : decode cX9_readText 117 = .ok (.sipush 130, 3) := by decide +kernel
theorem dX9_readText_120 : decode cX9_readText 120 = .ok (.iload_n 1, 1) := by decide +kernel
theorem dX9_readText_121 : decode cX9_readText 121 = .ok (.imul, 1) := by decide +kernel
theorem dX9_readText_122 : decode cX9_readText 122 = .ok (.iload_n 2, 1) := by decide +kernel
theorem dX9_readText_123 : decode cX9_readText 123 = .ok (.iadd, 1) := by decide +kernel
theorem dX9_readText_124 : decode cX9_readText 124 = .ok (.aload_n 0, 1) := by decide +kernel
theorem dX9_readText_125 : decode cX9_readText 125 = .ok (.getfield 66, 3) := by decide +kernel
theorem dX9_readText_128 : decode cX9_readText 128 = .ok (.sipush 130, 3) := by decide +kernel
theorem dX9_readText_131 : decode cX9_readText 131 = .ok (.iload_n 2, 1) := by decide +kernel
theorem dX9_readText_132 : decode cX9_readText 132 = .ok (.iadd, 1) := by decide +kernel
theorem dX9_readText_133 : decode cX9_readText 133 = .ok (.baload, 1) := by decide +kernel
theorem dX9_readText_134 : decode cX9_readText 134 = .ok (.bastore, 1) := by decide +kernel
theorem dX9_readText_135 : decode cX9_readText 135 = .ok (.aload_n 0, 1) := by decide +kernel
theorem dX9_readText_136 : decode cX9_readText 136 = .ok (.getfield 69, 3) := by decide +kernel
theorem dX9_readText_139 : decode cX9_readText 139 = .ok (.sipush 130, 3) := by decide +kernel
theorem dX9_readText_142 : decode cX9_readText 142 = .ok (.iload_n 1, 1) := by decide +kernel
theorem dX9_readText_143 : decode cX9_readText 143 = .ok (.imul, 1) := by decide +kernel
theorem dX9_readText_144 : decode cX9_readText 144 = .ok (.iload_n 2, 1) := by decide +kernel
theorem dX9_readText_145 : decode cX9_readText 145 = .ok (.iadd, 1) := by decide +kernel
theorem dX9_readText_146 : decode cX9_readText 146 = .ok (.aload_n 0, 1) := by decide +kernel
theorem dX9_readText_147 : decode cX9_readText 147 = .ok (.getfield 69, 3) := by decide +kernel
theorem dX9_readText_150 : decode cX9_readText 150 = .ok (.sipush 130, 3) := by decide +kernel
theorem dX9_readText_153 : decode cX9_readText 153 = .ok (.iload_n 2, 1) := by decide +kernel
theorem dX9_readText_154 : decode cX9_readText 154 = .ok (.iadd, 1) := by decide +kernel
theorem dX9_readText_155 : decode cX9_readText 155 = .ok (.iaload, 1) := by decide +kernel
theorem dX9_readText_156 : decode cX9_readText 156 = .ok (.iastore, 1) := by decide +kernel
theorem dX9_readText_157 : decode cX9_readText 157 = .ok (.iinc 2 1, 3) := by decide +kernel
theorem dX9_readText_160 : decode cX9_readText 160 = .ok (.goto (-55), 3) := by decide +kernel
theorem dX9_readText_163 : decode cX9_readText 163 = .ok (.aload_n 0, 1) := by decide +kernel
theorem dX9_readText_164 : decode cX9_readText 164 = .ok (.getfield 72, 3) := by decide +kernel
theorem dX9_readText_167 : decode cX9_readText 167 = .ok (.iload_n 1, 1) := by decide +kernel
theorem dX9_readText_168 : decode cX9_readText 168 = .ok (.aload_n 0, 1) := by decide +kernel
theorem dX9_readText_169 : decode cX9_readText 169 = .ok (.getfield 72, 3) := by decide +kernel
theorem dX9_readText_172 : decode cX9_readText 172 = .ok (.iconst 1, 1) := by decide +kernel
theorem dX9_readText_173 : decode cX9_readText 173 = .ok (.iaload, 1) := by decide +kernel
theorem dX9_readText_174 : decode cX9_readText 174 = .ok (.iastore, 1) := by decide +kernel
theorem dX9_readText_175 : decode cX9_readText 175 = .ok (.iconst 0, 1) := by decide +kernel
theorem dX9_readText_176 : decode cX9_readText 176 = .ok (.istore_n 2, 1) := by decide +kernel
theorem dX9_readText_177 : decode cX9_readText 177 = .ok (.iload_n 2, 1) := by decide +kernel
theorem dX9_readText_178 : decode cX9_readText 178 = .ok (.aload_n 0, 1) := by decide +kernel
theorem dX9_readText_179 : decode cX9_readText 179 = .ok (.getfield 72, 3) := by decide +kernel
theorem dX9_readText_182 : decode cX9_readText 182 = .ok (.iload_n 1, 1) := by decide +kernel
theorem dX9_readText_183 : decode cX9_readText 183 = .ok (.iaload, 1) := by decide +kernel
theorem dX9_readText_184 : decode cX9_readText 184 = .ok (.if_icmp .ge 49, 3) := by decide +kernel
theorem dX9_readText_187 : decode cX9_readText 187 = .ok (.aload_n 0, 1) := by decide +kernel
theorem dX9_readText_188 : decode cX9_readText 188 = .ok (.getfield 75, 3) := by decide +kernel
theorem dX9_readText_191 : decode cX9_readText 191 = .ok (.bipush 61, 2) := by decide +kernel
theorem dX9_readText_193 : decode cX9_readText 193 = .ok (.iload_n 1, 1) := by decide +kernel
theorem dX9_readText_194 : decode cX9_readText 194 = .ok (.imul, 1) := by decide +kernel
theorem dX9_readText_195 : decode cX9_readText 195 = .ok (.iload_n 2, 1) := by decide +kernel
theorem dX9_readText_196 : decode cX9_readText 196 = .ok (.iadd, 1) := by decide +kernel
theorem dX9_readText_197 : decode cX9_readText 197 = .ok (.aload_n 0, 1) := by decide +kernel
theorem dX9_readText_198 : decode cX9_readText 198 = .ok (.getfield 75, 3) := by decide +kernel
theorem dX9_readText_201 : decode cX9_readText 201 = .ok (.bipush 61, 2) := by decide +kernel
theorem dX9_readText_203 : decode cX9_readText 203 = .ok (.iload_n 2, 1) := by decide +kernel
theorem dX9_readText_204 : decode cX9_readText 204 = .ok (.iadd, 1) := by decide +kernel
theorem dX9_readText_205 : decode cX9_readText 205 = .ok (.saload, 1) := by decide +kernel
theorem dX9_readText_206 : decode cX9_readText 206 = .ok (.sastore, 1) := by decide +kernel
theorem dX9_readText_207 : decode cX9_readText 207 = .ok (.aload_n 0, 1) := by decide +kernel
theorem dX9_readText_208 : decode cX9_readText 208 = .ok (.getfield 79, 3) := by decide +kernel
theorem dX9_readText_211 : decode cX9_readText 211 = .ok (.bipush 61, 2) := by decide +kernel
theorem dX9_readText_213 : decode cX9_readText 213 = .ok (.iload_n 1, 1) := by decide +kernel
theorem dX9_readText_214 : decode cX9_readText 214 = .ok (.imul, 1) := by decide +kernel
theorem dX9_readText_215 : decode cX9_readText 215 = .ok (.iload_n 2, 1) := by decide +kernel
theorem dX9_readText_216 : decode cX9_readText 216 = .ok (.iadd, 1) := by decide +kernel
theorem dX9_readText_217 : decode cX9_readText 217 = .ok (.aload_n 0, 1) := by decide +kernel
theorem dX9_readText_218 : decode cX9_readText 218 = .ok (.getfield 79, 3) := by decide +kernel
theorem dX9_readText_221 : decode cX9_readText 221 = .ok (.bipush 61, 2) := by decide +kernel
theorem dX9_readText_223 : decode cX9_readText 223 = .ok (.iload_n 2, 1) := by decide +kernel
theorem dX9_readText_224 : decode cX9_readText 224 = .ok (.iadd, 1) := by decide +kernel
theorem dX9_readText_225 : decode cX9_readText 225 = .ok (.saload, 1) := by decide +kernel
theorem dX9_readText_226 : decode cX9_readText 226 = .ok (.sastore, 1) := by decide +kernel
theorem dX9_readText_227 : decode cX9_readText 227 = .ok (.iinc 2 1, 3) := by decide +kernel
theorem dX9_readText_230 : decode cX9_readText 230 = .ok (.goto (-53), 3) := by decide +kernel
theorem dX9_readText_233 : decode cX9_readText 233 = .ok (.iconst (-1), 1) := by decide +kernel
theorem dX9_readText_234 : decode cX9_readText 234 = .ok (.ireturn, 1) := by decide +kernel
theorem dX9_twoOf_0 : decode cX9_twoOf 0 = .ok (.iload_n 0, 1) := by decide +kernel
theorem dX9_twoOf_1 : decode cX9_twoOf 1 = .ok (.tableswitch 217 37 62 #[153, 203, 217, 217, 217, 127, 119, 217, 123, 217, 131, 217, 217, 217, 217, 217, 217, 217, 217, 217, 217, 217, 217, 170, 181, 192], 119) := by decide +kernel
theorem dX9_twoOf_120 : decode cX9_twoOf 120 = .ok (.iload_n 1, 1) := by decide +kernel
theorem dX9_twoOf_121 : decode cX9_twoOf 121 = .ok (.iload_n 2, 1) := by decide +kernel
theorem dX9_twoOf_122 : decode cX9_twoOf 122 = .ok (.iadd, 1) := by decide +kernel
theorem dX9_twoOf_123 : decode cX9_twoOf 123 = .ok (.ireturn, 1) := by decide +kernel
theorem dX9_twoOf_124 : decode cX9_twoOf 124 = .ok (.iload_n 1, 1) := by decide +kernel
theorem dX9_twoOf_125 : decode cX9_twoOf 125 = .ok (.iload_n 2, 1) := by decide +kernel
theorem dX9_twoOf_126 : decode cX9_twoOf 126 = .ok (.isub, 1) := by decide +kernel
theorem dX9_twoOf_127 : decode cX9_twoOf 127 = .ok (.ireturn, 1) := by decide +kernel
theorem dX9_twoOf_128 : decode cX9_twoOf 128 = .ok (.iload_n 1, 1) := by decide +kernel
theorem dX9_twoOf_129 : decode cX9_twoOf 129 = .ok (.iload_n 2, 1) := by decide +kernel
theorem dX9_twoOf_130 : decode cX9_twoOf 130 = .ok (.imul, 1) := by decide +kernel
theorem dX9_twoOf_131 : decode cX9_twoOf 131 = .ok (.ireturn, 1) := by decide +kernel
theorem dX9_twoOf_132 : decode cX9_twoOf 132 = .ok (.iload_n 2, 1) := by decide +kernel
theorem dX9_twoOf_133 : decode cX9_twoOf 133 = .ok (.ifCond .ne 7, 3) := by decide +kernel
theorem dX9_twoOf_136 : decode cX9_twoOf 136 = .ok (.iconst 0, 1) := by decide +kernel
theorem dX9_twoOf_137 : decode cX9_twoOf 137 = .ok (.goto 16, 3) := by decide +kernel
theorem dX9_twoOf_140 : decode cX9_twoOf 140 = .ok (.iload_n 2, 1) := by decide +kernel
theorem dX9_twoOf_141 : decode cX9_twoOf 141 = .ok (.iconst (-1), 1) := by decide +kernel
theorem dX9_twoOf_142 : decode cX9_twoOf 142 = .ok (.if_icmp .ne 8, 3) := by decide +kernel
theorem dX9_twoOf_145 : decode cX9_twoOf 145 = .ok (.iload_n 1, 1) := by decide +kernel
theorem dX9_twoOf_146 : decode cX9_twoOf 146 = .ok (.ineg, 1) := by decide +kernel
theorem dX9_twoOf_147 : decode cX9_twoOf 147 = .ok (.goto 6, 3) := by decide +kernel
theorem dX9_twoOf_150 : decode cX9_twoOf 150 = .ok (.iload_n 1, 1) := by decide +kernel
theorem dX9_twoOf_151 : decode cX9_twoOf 151 = .ok (.iload_n 2, 1) := by decide +kernel
theorem dX9_twoOf_152 : decode cX9_twoOf 152 = .ok (.idiv, 1) := by decide +kernel
theorem dX9_twoOf_153 : decode cX9_twoOf 153 = .ok (.ireturn, 1) := by decide +kernel
theorem dX9_twoOf_154 : decode cX9_twoOf 154 = .ok (.iload_n 2, 1) := by decide +kernel
theorem dX9_twoOf_155 : decode cX9_twoOf 155 = .ok (.ifCond .eq 8, 3) := by decide +kernel
theorem dX9_twoOf_158 : decode cX9_twoOf 158 = .ok (.iload_n 2, 1) := by decide +kernel
theorem dX9_twoOf_159 : decode cX9_twoOf 159 = .ok (.iconst (-1), 1) := by decide +kernel
theorem dX9_twoOf_160 : decode cX9_twoOf 160 = .ok (.if_icmp .ne 7, 3) := by decide +kernel
theorem dX9_twoOf_163 : decode cX9_twoOf 163 = .ok (.iconst 0, 1) := by decide +kernel
theorem dX9_twoOf_164 : decode cX9_twoOf 164 = .ok (.goto 6, 3) := by decide +kernel
theorem dX9_twoOf_167 : decode cX9_twoOf 167 = .ok (.iload_n 1, 1) := by decide +kernel
theorem dX9_twoOf_168 : decode cX9_twoOf 168 = .ok (.iload_n 2, 1) := by decide +kernel
theorem dX9_twoOf_169 : decode cX9_twoOf 169 = .ok (.irem, 1) := by decide +kernel
theorem dX9_twoOf_170 : decode cX9_twoOf 170 = .ok (.ireturn, 1) := by decide +kernel
theorem dX9_twoOf_171 : decode cX9_twoOf 171 = .ok (.iload_n 1, 1) := by decide +kernel
theorem dX9_twoOf_172 : decode cX9_twoOf 172 = .ok (.iload_n 2, 1) := by decide +kernel
theorem dX9_twoOf_173 : decode cX9_twoOf 173 = .ok (.if_icmp .ge 7, 3) := by decide +kernel
theorem dX9_twoOf_176 : decode cX9_twoOf 176 = .ok (.iconst 1, 1) := by decide +kernel
theorem dX9_twoOf_177 : decode cX9_twoOf 177 = .ok (.goto 4, 3) := by decide +kernel
theorem dX9_twoOf_180 : decode cX9_twoOf 180 = .ok (.iconst 0, 1) := by decide +kernel
theorem dX9_twoOf_181 : decode cX9_twoOf 181 = .ok (.ireturn, 1) := by decide +kernel
theorem dX9_twoOf_182 : decode cX9_twoOf 182 = .ok (.iload_n 1, 1) := by decide +kernel
theorem dX9_twoOf_183 : decode cX9_twoOf 183 = .ok (.iload_n 2, 1) := by decide +kernel
theorem dX9_twoOf_184 : decode cX9_twoOf 184 = .ok (.if_icmp .ne 7, 3) := by decide +kernel
theorem dX9_twoOf_187 : decode cX9_twoOf 187 = .ok (.iconst 1, 1) := by decide +kernel
theorem dX9_twoOf_188 : decode cX9_twoOf 188 = .ok (.goto 4, 3) := by decide +kernel
theorem dX9_twoOf_191 : decode cX9_twoOf 191 = .ok (.iconst 0, 1) := by decide +kernel
theorem dX9_twoOf_192 : decode cX9_twoOf 192 = .ok (.ireturn, 1) := by decide +kernel
theorem dX9_twoOf_193 : decode cX9_twoOf 193 = .ok (.iload_n 1, 1) := by decide +kernel
theorem dX9_twoOf_194 : decode cX9_twoOf 194 = .ok (.iload_n 2, 1) := by decide +kernel
theorem dX9_twoOf_195 : decode cX9_twoOf 195 = .ok (.if_icmp .le 7, 3) := by decide +kernel
theorem dX9_twoOf_198 : decode cX9_twoOf 198 = .ok (.iconst 1, 1) := by decide +kernel
theorem dX9_twoOf_199 : decode cX9_twoOf 199 = .ok (.goto 4, 3) := by decide +kernel
theorem dX9_twoOf_202 : decode cX9_twoOf 202 = .ok (.iconst 0, 1) := by decide +kernel
theorem dX9_twoOf_203 : decode cX9_twoOf 203 = .ok (.ireturn, 1) := by decide +kernel
theorem dX9_twoOf_204 : decode cX9_twoOf 204 = .ok (.iload_n 1, 1) := by decide +kernel
theorem dX9_twoOf_205 : decode cX9_twoOf 205 = .ok (.ifCond .eq 11, 3) := by decide +kernel
theorem dX9_twoOf_208 : decode cX9_twoOf 208 = .ok (.iload_n 2, 1) := by decide +kernel
theorem dX9_twoOf_209 : decode cX9_twoOf 209 = .ok (.ifCond .eq 7, 3) := by decide +kernel
theorem dX9_twoOf_212 : decode cX9_twoOf 212 = .ok (.iconst 1, 1) := by decide +kernel
theorem dX9_twoOf_213 : decode cX9_twoOf 213 = .ok (.goto 4, 3) := by decide +kernel
theorem dX9_twoOf_216 : decode cX9_twoOf 216 = .ok (.iconst 0, 1) := by decide +kernel
theorem dX9_twoOf_217 : decode cX9_twoOf 217 = .ok (.ireturn, 1) := by decide +kernel
theorem dX9_twoOf_218 : decode cX9_twoOf 218 = .ok (.iload_n 1, 1) := by decide +kernel
theorem dX9_twoOf_219 : decode cX9_twoOf 219 = .ok (.ifCond .ne 7, 3) := by decide +kernel
theorem dX9_twoOf_222 : decode cX9_twoOf 222 = .ok (.iload_n 2, 1) := by decide +kernel
theorem dX9_twoOf_223 : decode cX9_twoOf 223 = .ok (.ifCond .eq 7, 3) := by decide +kernel
theorem dX9_twoOf_226 : decode cX9_twoOf 226 = .ok (.iconst 1, 1) := by decide +kernel
theorem dX9_twoOf_227 : decode cX9_twoOf 227 = .ok (.goto 4, 3) := by decide +kernel
theorem dX9_twoOf_230 : decode cX9_twoOf 230 = .ok (.iconst 0, 1) := by decide +kernel
theorem dX9_twoOf_231 : decode cX9_twoOf 231 = .ok (.ireturn, 1) := by decide +kernel
theorem dX9_worked_0 : decode cX9_worked 0 = .ok (.iconst 0, 1) := by decide +kernel
theorem dX9_worked_1 : decode cX9_worked 1 = .ok (.istore 4, 2) := by decide +kernel
theorem dX9_worked_3 : decode cX9_worked 3 = .ok (.sipush 130, 3) := by decide +kernel
theorem dX9_worked_6 : decode cX9_worked 6 = .ok (.iload_n 1, 1) := by decide +kernel
theorem dX9_worked_7 : decode cX9_worked 7 = .ok (.imul, 1) := by decide +kernel
theorem dX9_worked_8 : decode cX9_worked 8 = .ok (.iload_n 2, 1) := by decide +kernel
theorem dX9_worked_9 : decode cX9_worked 9 = .ok (.iadd, 1) := by decide +kernel
theorem dX9_worked_10 : decode cX9_worked 10 = .ok (.istore 5, 2) := by decide +kernel
theorem dX9_worked_12 : decode cX9_worked 12 = .ok (.iload 5, 2) := by decide +kernel
theorem dX9_worked_14 : decode cX9_worked 14 = .ok (.sipush 130, 3) := by decide +kernel
theorem dX9_worked_17 : decode cX9_worked 17 = .ok (.iload_n 1, 1) := by decide +kernel
theorem dX9_worked_18 : decode cX9_worked 18 = .ok (.imul, 1) := by decide +kernel
theorem dX9_worked_19 : decode cX9_worked 19 = .ok (.iload_n 3, 1) := by decide +kernel
theorem dX9_worked_20 : decode cX9_worked 20 = .ok (.iadd, 1) := by decide +kernel
theorem dX9_worked_21 : decode cX9_worked 21 = .ok (.if_icmp .ge 167, 3) := by decide +kernel
theorem dX9_worked_24 : decode cX9_worked 24 = .ok (.aload_n 0, 1) := by decide +kernel
theorem dX9_worked_25 : decode cX9_worked 25 = .ok (.getfield 66, 3) := by decide +kernel
theorem dX9_worked_28 : decode cX9_worked 28 = .ok (.iload 5, 2) := by decide +kernel
theorem dX9_worked_30 : decode cX9_worked 30 = .ok (.baload, 1) := by decide +kernel
theorem dX9_worked_31 : decode cX9_worked 31 = .ok (.istore 6, 2) := by decide +kernel
theorem dX9_worked_33 : decode cX9_worked 33 = .ok (.iload 6, 2) := by decide +kernel
theorem dX9_worked_35 : decode cX9_worked 35 = .ok (.iconst 1, 1) := by decide +kernel
theorem dX9_worked_36 : decode cX9_worked 36 = .ok (.if_icmp .eq 9, 3) := by decide +kernel
theorem dX9_worked_39 : decode cX9_worked 39 = .ok (.iload 6, 2) := by decide +kernel
theorem dX9_worked_41 : decode cX9_worked 41 = .ok (.iconst 2, 1) := by decide +kernel
theorem dX9_worked_42 : decode cX9_worked 42 = .ok (.if_icmp .ne 44, 3) := by decide +kernel
theorem dX9_worked_45 : decode cX9_worked 45 = .ok (.aload_n 0, 1) := by decide +kernel
theorem dX9_worked_46 : decode cX9_worked 46 = .ok (.getfield 85, 3) := by decide +kernel
theorem dX9_worked_49 : decode cX9_worked 49 = .ok (.iload 4, 2) := by decide +kernel
theorem dX9_worked_51 : decode cX9_worked 51 = .ok (.iload 6, 2) := by decide +kernel
theorem dX9_worked_53 : decode cX9_worked 53 = .ok (.iconst 1, 1) := by decide +kernel
theorem dX9_worked_54 : decode cX9_worked 54 = .ok (.if_icmp .ne 13, 3) := by decide +kernel
theorem dX9_worked_57 : decode cX9_worked 57 = .ok (.aload_n 0, 1) := by decide +kernel
theorem dX9_worked_58 : decode cX9_worked 58 = .ok (.getfield 69, 3) := by decide +kernel
theorem dX9_worked_61 : decode cX9_worked 61 = .ok (.iload 5, 2) := by decide +kernel
theorem dX9_worked_63 : decode cX9_worked 63 = .ok (.iaload, 1) := by decide +kernel
theorem dX9_worked_64 : decode cX9_worked 64 = .ok (.goto 15, 3) := by decide +kernel
theorem dX9_worked_67 : decode cX9_worked 67 = .ok (.aload_n 0, 1) := by decide +kernel
theorem dX9_worked_68 : decode cX9_worked 68 = .ok (.getfield 82, 3) := by decide +kernel
theorem dX9_worked_71 : decode cX9_worked 71 = .ok (.aload_n 0, 1) := by decide +kernel
theorem dX9_worked_72 : decode cX9_worked 72 = .ok (.getfield 69, 3) := by decide +kernel
theorem dX9_worked_75 : decode cX9_worked 75 = .ok (.iload 5, 2) := by decide +kernel
theorem dX9_worked_77 : decode cX9_worked 77 = .ok (.iaload, 1) := by decide +kernel
theorem dX9_worked_78 : decode cX9_worked 78 = .ok (.iaload, 1) := by decide +kernel
theorem dX9_worked_79 : decode cX9_worked 79 = .ok (.iastore, 1) := by decide +kernel
theorem dX9_worked_80 : decode cX9_worked 80 = .ok (.iinc 4 1, 3) := by decide +kernel
theorem dX9_worked_83 : decode cX9_worked 83 = .ok (.goto 99, 3) := by decide +kernel
theorem dX9_worked_86 : decode cX9_worked 86 = .ok (.iload 6, 2) := by decide +kernel
theorem dX9_worked_88 : decode cX9_worked 88 = .ok (.iconst 3, 1) := by decide +kernel
theorem dX9_worked_89 : decode cX9_worked 89 = .ok (.if_icmp .ne 32, 3) := by decide +kernel
theorem dX9_worked_92 : decode cX9_worked 92 = .ok (.aload_n 0, 1) := by decide +kernel
theorem dX9_worked_93 : decode cX9_worked 93 = .ok (.getfield 85, 3) := by decide +kernel
theorem dX9_worked_96 : decode cX9_worked 96 = .ok (.iload 4, 2) := by decide +kernel
theorem dX9_worked_98 : decode cX9_worked 98 = .ok (.iconst 1, 1) := by decide +kernel
theorem dX9_worked_99 : decode cX9_worked 99 = .ok (.isub, 1) := by decide +kernel
theorem dX9_worked_100 : decode cX9_worked 100 = .ok (.aload_n 0, 1) := by decide +kernel
theorem dX9_worked_101 : decode cX9_worked 101 = .ok (.getfield 85, 3) := by decide +kernel
theorem dX9_worked_104 : decode cX9_worked 104 = .ok (.iload 4, 2) := by decide +kernel
theorem dX9_worked_106 : decode cX9_worked 106 = .ok (.iconst 1, 1) := by decide +kernel
theorem dX9_worked_107 : decode cX9_worked 107 = .ok (.isub, 1) := by decide +kernel
theorem dX9_worked_108 : decode cX9_worked 108 = .ok (.iaload, 1) := by decide +kernel
theorem dX9_worked_109 : decode cX9_worked 109 = .ok (.ifCond .ne 7, 3) := by decide +kernel
theorem dX9_worked_112 : decode cX9_worked 112 = .ok (.iconst 1, 1) := by decide +kernel
theorem dX9_worked_113 : decode cX9_worked 113 = .ok (.goto 4, 3) := by decide +kernel
theorem dX9_worked_116 : decode cX9_worked 116 = .ok (.iconst 0, 1) := by decide +kernel
theorem dX9_worked_117 : decode cX9_worked 117 = .ok (.iastore, 1) := by decide +kernel
theorem dX9_worked_118 : decode cX9_worked 118 = .ok (.goto 64, 3) := by decide +kernel
theorem dX9_worked_121 : decode cX9_worked 121 = .ok (.iload 6, 2) := by decide +kernel
theorem dX9_worked_123 : decode cX9_worked 123 = .ok (.iconst 4, 1) := by decide +kernel
theorem dX9_worked_124 : decode cX9_worked 124 = .ok (.if_icmp .ne 25, 3) := by decide +kernel
theorem dX9_worked_127 : decode cX9_worked 127 = .ok (.aload_n 0, 1) := by decide +kernel
theorem dX9_worked_128 : decode cX9_worked 128 = .ok (.getfield 85, 3) := by decide +kernel
theorem dX9_worked_131 : decode cX9_worked 131 = .ok (.iload 4, 2) := by decide +kernel
theorem dX9_worked_133 : decode cX9_worked 133 = .ok (.iconst 1, 1) := by decide +kernel
theorem dX9_worked_134 : decode cX9_worked 134 = .ok (.isub, 1) := by decide +kernel
theorem dX9_worked_135 : decode cX9_worked 135 = .ok (.aload_n 0, 1) := by decide +kernel
theorem dX9_worked_136 : decode cX9_worked 136 = .ok (.getfield 85, 3) := by decide +kernel
theorem dX9_worked_139 : decode cX9_worked 139 = .ok (.iload 4, 2) := by decide +kernel
theorem dX9_worked_141 : decode cX9_worked 141 = .ok (.iconst 1, 1) := by decide +kernel
theorem dX9_worked_142 : decode cX9_worked 142 = .ok (.isub, 1) := by decide +kernel
theorem dX9_worked_143 : decode cX9_worked 143 = .ok (.iaload, 1) := by decide +kernel
theorem dX9_worked_144 : decode cX9_worked 144 = .ok (.ineg, 1) := by decide +kernel
theorem dX9_worked_145 : decode cX9_worked 145 = .ok (.iastore, 1) := by decide +kernel
theorem dX9_worked_146 : decode cX9_worked 146 = .ok (.goto 36, 3) := by decide +kernel
theorem dX9_worked_149 : decode cX9_worked 149 = .ok (.iinc 4 (-1), 3) := by decide +kernel
theorem dX9_worked_152 : decode cX9_worked 152 = .ok (.aload_n 0, 1) := by decide +kernel
theorem dX9_worked_153 : decode cX9_worked 153 = .ok (.getfield 85, 3) := by decide +kernel
theorem dX9_worked_156 : decode cX9_worked 156 = .ok (.iload 4, 2) := by decide +kernel
theorem dX9_worked_158 : decode cX9_worked 158 = .ok (.iconst 1, 1) := by decide +kernel
theorem dX9_worked_159 : decode cX9_worked 159 = .ok (.isub, 1) := by decide +kernel
theorem dX9_worked_160 : decode cX9_worked 160 = .ok (.iload 6, 2) := by decide +kernel
theorem dX9_worked_162 : decode cX9_worked 162 = .ok (.aload_n 0, 1) := by decide +kernel
theorem dX9_worked_163 : decode cX9_worked 163 = .ok (.getfield 85, 3) := by decide +kernel
theorem dX9_worked_166 : decode cX9_worked 166 = .ok (.iload 4, 2) := by decide +kernel
theorem dX9_worked_168 : decode cX9_worked 168 = .ok (.iconst 1, 1) := by decide +kernel
theorem dX9_worked_169 : decode cX9_worked 169 = .ok (.isub, 1) := by decide +kernel
theorem dX9_worked_170 : decode cX9_worked 170 = .ok (.iaload, 1) := by decide +kernel
theorem dX9_worked_171 : decode cX9_worked 171 = .ok (.aload_n 0, 1) := by decide +kernel
theorem dX9_worked_172 : decode cX9_worked 172 = .ok (.getfield 85, 3) := by decide +kernel
theorem dX9_worked_175 : decode cX9_worked 175 = .ok (.iload 4, 2) := by decide +kernel
theorem dX9_worked_177 : decode cX9_worked 177 = .ok (.iaload, 1) := by decide +kernel
theorem dX9_worked_178 : decode cX9_worked 178 = .ok (.invokestatic 273, 3) := by decide +kernel
theorem dX9_worked_181 : decode cX9_worked 181 = .ok (.iastore, 1) := by decide +kernel
theorem dX9_worked_182 : decode cX9_worked 182 = .ok (.iinc 5 1, 3) := by decide +kernel
theorem dX9_worked_185 : decode cX9_worked 185 = .ok (.goto (-173), 3) := by decide +kernel
theorem dX9_worked_188 : decode cX9_worked 188 = .ok (.aload_n 0, 1) := by decide +kernel
theorem dX9_worked_189 : decode cX9_worked 189 = .ok (.getfield 85, 3) := by decide +kernel
theorem dX9_worked_192 : decode cX9_worked 192 = .ok (.iconst 0, 1) := by decide +kernel
theorem dX9_worked_193 : decode cX9_worked 193 = .ok (.iaload, 1) := by decide +kernel
theorem dX9_worked_194 : decode cX9_worked 194 = .ok (.ireturn, 1) := by decide +kernel
theorem dX9_gives_0 : decode cX9_gives 0 = .ok (.iconst 0, 1) := by decide +kernel
theorem dX9_gives_1 : decode cX9_gives 1 = .ok (.istore_n 2, 1) := by decide +kernel
theorem dX9_gives_2 : decode cX9_gives 2 = .ok (.bipush 61, 2) := by decide +kernel
theorem dX9_gives_4 : decode cX9_gives 4 = .ok (.iload_n 1, 1) := by decide +kernel
theorem dX9_gives_5 : decode cX9_gives 5 = .ok (.imul, 1) := by decide +kernel
theorem dX9_gives_6 : decode cX9_gives 6 = .ok (.istore_n 3, 1) := by decide +kernel
theorem dX9_gives_7 : decode cX9_gives 7 = .ok (.iload_n 3, 1) := by decide +kernel
theorem dX9_gives_8 : decode cX9_gives 8 = .ok (.bipush 61, 2) := by decide +kernel
theorem dX9_gives_10 : decode cX9_gives 10 = .ok (.iload_n 1, 1) := by decide +kernel
theorem dX9_gives_11 : decode cX9_gives 11 = .ok (.imul, 1) := by decide +kernel
theorem dX9_gives_12 : decode cX9_gives 12 = .ok (.aload_n 0, 1) := by decide +kernel
theorem dX9_gives_13 : decode cX9_gives 13 = .ok (.getfield 72, 3) := by decide +kernel
theorem dX9_gives_16 : decode cX9_gives 16 = .ok (.iload_n 1, 1) := by decide +kernel
theorem dX9_gives_17 : decode cX9_gives 17 = .ok (.iaload, 1) := by decide +kernel
theorem dX9_gives_18 : decode cX9_gives 18 = .ok (.iadd, 1) := by decide +kernel
theorem dX9_gives_19 : decode cX9_gives 19 = .ok (.if_icmp .ge 59, 3) := by decide +kernel
theorem dX9_gives_22 : decode cX9_gives 22 = .ok (.aload_n 0, 1) := by decide +kernel
theorem dX9_gives_23 : decode cX9_gives 23 = .ok (.getfield 75, 3) := by decide +kernel
theorem dX9_gives_26 : decode cX9_gives 26 = .ok (.iload_n 3, 1) := by decide +kernel
theorem dX9_gives_27 : decode cX9_gives 27 = .ok (.saload, 1) := by decide +kernel
theorem dX9_gives_28 : decode cX9_gives 28 = .ok (.iload_n 2, 1) := by decide +kernel
theorem dX9_gives_29 : decode cX9_gives 29 = .ok (.if_icmp .eq 18, 3) := by decide +kernel
theorem dX9_gives_32 : decode cX9_gives 32 = .ok (.aload_n 0, 1) := by decide +kernel
theorem dX9_gives_33 : decode cX9_gives 33 = .ok (.iload_n 1, 1) := by decide +kernel
theorem dX9_gives_34 : decode cX9_gives 34 = .ok (.iload_n 2, 1) := by decide +kernel
theorem dX9_gives_35 : decode cX9_gives 35 = .ok (.aload_n 0, 1) := by decide +kernel
theorem dX9_gives_36 : decode cX9_gives 36 = .ok (.getfield 75, 3) := by decide +kernel
theorem dX9_gives_39 : decode cX9_gives 39 = .ok (.iload_n 3, 1) := by decide +kernel
theorem dX9_gives_40 : decode cX9_gives 40 = .ok (.saload, 1) := by decide +kernel
theorem dX9_gives_41 : decode cX9_gives 41 = .ok (.invokevirtual 276, 3) := by decide +kernel
theorem dX9_gives_44 : decode cX9_gives 44 = .ok (.ifCond .eq 21, 3) := by decide +kernel
theorem dX9_gives_47 : decode cX9_gives 47 = .ok (.aload_n 0, 1) := by decide +kernel
theorem dX9_gives_48 : decode cX9_gives 48 = .ok (.iload_n 1, 1) := by decide +kernel
theorem dX9_gives_49 : decode cX9_gives 49 = .ok (.aload_n 0, 1) := by decide +kernel
theorem dX9_gives_50 : decode cX9_gives 50 = .ok (.getfield 75, 3) := by decide +kernel
theorem dX9_gives_53 : decode cX9_gives 53 = .ok (.iload_n 3, 1) := by decide +kernel
theorem dX9_gives_54 : decode cX9_gives 54 = .ok (.saload, 1) := by decide +kernel
theorem dX9_gives_55 : decode cX9_gives 55 = .ok (.aload_n 0, 1) := by decide +kernel
theorem dX9_gives_56 : decode cX9_gives 56 = .ok (.getfield 79, 3) := by decide +kernel
theorem dX9_gives_59 : decode cX9_gives 59 = .ok (.iload_n 3, 1) := by decide +kernel
theorem dX9_gives_60 : decode cX9_gives 60 = .ok (.saload, 1) := by decide +kernel
theorem dX9_gives_61 : decode cX9_gives 61 = .ok (.invokevirtual 276, 3) := by decide +kernel
theorem dX9_gives_64 : decode cX9_gives 64 = .ok (.ireturn, 1) := by decide +kernel
theorem dX9_gives_65 : decode cX9_gives 65 = .ok (.aload_n 0, 1) := by decide +kernel
theorem dX9_gives_66 : decode cX9_gives 66 = .ok (.getfield 79, 3) := by decide +kernel
theorem dX9_gives_69 : decode cX9_gives 69 = .ok (.iload_n 3, 1) := by decide +kernel
theorem dX9_gives_70 : decode cX9_gives 70 = .ok (.saload, 1) := by decide +kernel
theorem dX9_gives_71 : decode cX9_gives 71 = .ok (.istore_n 2, 1) := by decide +kernel
theorem dX9_gives_72 : decode cX9_gives 72 = .ok (.iinc 3 1, 3) := by decide +kernel
theorem dX9_gives_75 : decode cX9_gives 75 = .ok (.goto (-68), 3) := by decide +kernel
theorem dX9_gives_78 : decode cX9_gives 78 = .ok (.iconst 0, 1) := by decide +kernel
theorem dX9_gives_79 : decode cX9_gives 79 = .ok (.ireturn, 1) := by decide +kernel
theorem dX9_law_0 : decode cX9_law 0 = .ok (.aload_n 0, 1) := by decide +kernel
theorem dX9_law_1 : decode cX9_law 1 = .ok (.iconst 0, 1) := by decide +kernel
theorem dX9_law_2 : decode cX9_law 2 = .ok (.invokevirtual 279, 3) := by decide +kernel
theorem dX9_law_5 : decode cX9_law 5 = .ok (.istore_n 1, 1) := by decide +kernel
theorem dX9_law_6 : decode cX9_law 6 = .ok (.iload_n 1, 1) := by decide +kernel
theorem dX9_law_7 : decode cX9_law 7 = .ok (.ifCond .lt 8, 3) := by decide +kernel
theorem dX9_law_10 : decode cX9_law 10 = .ok (.bipush (-100), 2) := by decide +kernel
theorem dX9_law_12 : decode cX9_law 12 = .ok (.iload_n 1, 1) := by decide +kernel
theorem dX9_law_13 : decode cX9_law 13 = .ok (.isub, 1) := by decide +kernel
theorem dX9_law_14 : decode cX9_law 14 = .ok (.ireturn, 1) := by decide +kernel
theorem dX9_law_15 : decode cX9_law 15 = .ok (.aload_n 0, 1) := by decide +kernel
theorem dX9_law_16 : decode cX9_law 16 = .ok (.iconst 1, 1) := by decide +kernel
theorem dX9_law_17 : decode cX9_law 17 = .ok (.putfield 282, 3) := by decide +kernel
theorem dX9_law_20 : decode cX9_law 20 = .ok (.iconst 1, 1) := by decide +kernel
theorem dX9_law_21 : decode cX9_law 21 = .ok (.ireturn, 1) := by decide +kernel
theorem dX9_bitsOf_0 : decode cX9_bitsOf 0 = .ok (.iconst 0, 1) := by decide +kernel
theorem dX9_bitsOf_1 : decode cX9_bitsOf 1 = .ok (.istore_n 1, 1) := by decide +kernel
theorem dX9_bitsOf_2 : decode cX9_bitsOf 2 = .ok (.iload_n 0, 1) := by decide +kernel
theorem dX9_bitsOf_3 : decode cX9_bitsOf 3 = .ok (.istore_n 2, 1) := by decide +kernel
theorem dX9_bitsOf_4 : decode cX9_bitsOf 4 = .ok (.iload_n 2, 1) := by decide +kernel
theorem dX9_bitsOf_5 : decode cX9_bitsOf 5 = .ok (.ifCond .eq 15, 3) := by decide +kernel
theorem dX9_bitsOf_8 : decode cX9_bitsOf 8 = .ok (.iinc 1 1, 3) := by decide +kernel
theorem dX9_bitsOf_11 : decode cX9_bitsOf 11 = .ok (.iload_n 2, 1) := by decide +kernel
theorem dX9_bitsOf_12 : decode cX9_bitsOf 12 = .ok (.iload_n 2, 1) := by decide +kernel
theorem dX9_bitsOf_13 : decode cX9_bitsOf 13 = .ok (.iconst 1, 1) := by decide +kernel
theorem dX9_bitsOf_14 : decode cX9_bitsOf 14 = .ok (.isub, 1) := by decide +kernel
theorem dX9_bitsOf_15 : decode cX9_bitsOf 15 = .ok (.iand, 1) := by decide +kernel
theorem dX9_bitsOf_16 : decode cX9_bitsOf 16 = .ok (.istore_n 2, 1) := by decide +kernel
theorem dX9_bitsOf_17 : decode cX9_bitsOf 17 = .ok (.goto (-13), 3) := by decide +kernel
theorem dX9_bitsOf_20 : decode cX9_bitsOf 20 = .ok (.iload_n 1, 1) := by decide +kernel
theorem dX9_bitsOf_21 : decode cX9_bitsOf 21 = .ok (.ireturn, 1) := by decide +kernel
theorem dX9_guessOf_0 : decode cX9_guessOf 0 = .ok (.iconst 0, 1) := by decide +kernel
theorem dX9_guessOf_1 : decode cX9_guessOf 1 = .ok (.istore_n 3, 1) := by decide +kernel
theorem dX9_guessOf_2 : decode cX9_guessOf 2 = .ok (.iconst 0, 1) := by decide +kernel
theorem dX9_guessOf_3 : decode cX9_guessOf 3 = .ok (.istore 4, 2) := by decide +kernel
theorem dX9_guessOf_5 : decode cX9_guessOf 5 = .ok (.iload 4, 2) := by decide +kernel
theorem dX9_guessOf_7 : decode cX9_guessOf 7 = .ok (.aload_n 0, 1) := by decide +kernel
theorem dX9_guessOf_8 : decode cX9_guessOf 8 = .ok (.getfield 155, 3) := by decide +kernel
theorem dX9_guessOf_11 : decode cX9_guessOf 11 = .ok (.if_icmp .ge 36, 3) := by decide +kernel
theorem dX9_guessOf_14 : decode cX9_guessOf 14 = .ok (.iload_n 3, 1) := by decide +kernel
theorem dX9_guessOf_15 : decode cX9_guessOf 15 = .ok (.aload_n 0, 1) := by decide +kernel
theorem dX9_guessOf_16 : decode cX9_guessOf 16 = .ok (.getfield 32, 3) := by decide +kernel
theorem dX9_guessOf_19 : decode cX9_guessOf 19 = .ok (.iload_n 1, 1) := by decide +kernel
theorem dX9_guessOf_20 : decode cX9_guessOf 20 = .ok (.iaload, 1) := by decide +kernel
theorem dX9_guessOf_21 : decode cX9_guessOf 21 = .ok (.iload 4, 2) := by decide +kernel
theorem dX9_guessOf_23 : decode cX9_guessOf 23 = .ok (.invokestatic 210, 3) := by decide +kernel
theorem dX9_guessOf_26 : decode cX9_guessOf 26 = .ok (.aload_n 0, 1) := by decide +kernel
theorem dX9_guessOf_27 : decode cX9_guessOf 27 = .ok (.getfield 7, 3) := by decide +kernel
theorem dX9_guessOf_30 : decode cX9_guessOf 30 = .ok (.bipush 7, 2) := by decide +kernel
theorem dX9_guessOf_32 : decode cX9_guessOf 32 = .ok (.iload_n 2, 1) := by decide +kernel
theorem dX9_guessOf_33 : decode cX9_guessOf 33 = .ok (.imul, 1) := by decide +kernel
theorem dX9_guessOf_34 : decode cX9_guessOf 34 = .ok (.iload 4, 2) := by decide +kernel
theorem dX9_guessOf_36 : decode cX9_guessOf 36 = .ok (.iadd, 1) := by decide +kernel
theorem dX9_guessOf_37 : decode cX9_guessOf 37 = .ok (.iaload, 1) := by decide +kernel
theorem dX9_guessOf_38 : decode cX9_guessOf 38 = .ok (.imul, 1) := by decide +kernel
theorem dX9_guessOf_39 : decode cX9_guessOf 39 = .ok (.iadd, 1) := by decide +kernel
theorem dX9_guessOf_40 : decode cX9_guessOf 40 = .ok (.istore_n 3, 1) := by decide +kernel
theorem dX9_guessOf_41 : decode cX9_guessOf 41 = .ok (.iinc 4 1, 3) := by decide +kernel
theorem dX9_guessOf_44 : decode cX9_guessOf 44 = .ok (.goto (-39), 3) := by decide +kernel
theorem dX9_guessOf_47 : decode cX9_guessOf 47 = .ok (.iload_n 3, 1) := by decide +kernel
theorem dX9_guessOf_48 : decode cX9_guessOf 48 = .ok (.aload_n 0, 1) := by decide +kernel
theorem dX9_guessOf_49 : decode cX9_guessOf 49 = .ok (.getfield 32, 3) := by decide +kernel
theorem dX9_guessOf_52 : decode cX9_guessOf 52 = .ok (.iload_n 1, 1) := by decide +kernel
theorem dX9_guessOf_53 : decode cX9_guessOf 53 = .ok (.iaload, 1) := by decide +kernel
theorem dX9_guessOf_54 : decode cX9_guessOf 54 = .ok (.invokestatic 286, 3) := by decide +kernel
theorem dX9_guessOf_57 : decode cX9_guessOf 57 = .ok (.idiv, 1) := by decide +kernel
theorem dX9_guessOf_58 : decode cX9_guessOf 58 = .ok (.ireturn, 1) := by decide +kernel
theorem dX9_mayTake_0 : decode cX9_mayTake 0 = .ok (.aload_n 0, 1) := by decide +kernel
theorem dX9_mayTake_1 : decode cX9_mayTake 1 = .ok (.getfield 26, 3) := by decide +kernel
theorem dX9_mayTake_4 : decode cX9_mayTake 4 = .ok (.bipush 7, 2) := by decide +kernel
theorem dX9_mayTake_6 : decode cX9_mayTake 6 = .ok (.iload_n 1, 1) := by decide +kernel
theorem dX9_mayTake_7 : decode cX9_mayTake 7 = .ok (.imul, 1) := by decide +kernel
theorem dX9_mayTake_8 : decode cX9_mayTake 8 = .ok (.iload_n 2, 1) := by decide +kernel
theorem dX9_mayTake_9 : decode cX9_mayTake 9 = .ok (.iadd, 1) := by decide +kernel
theorem dX9_mayTake_10 : decode cX9_mayTake 10 = .ok (.iaload, 1) := by decide +kernel
theorem dX9_mayTake_11 : decode cX9_mayTake 11 = .ok (.ifCond .lt 55, 3) := by decide +kernel
theorem dX9_mayTake_14 : decode cX9_mayTake 14 = .ok (.aload_n 0, 1) := by decide +kernel
theorem dX9_mayTake_15 : decode cX9_mayTake 15 = .ok (.getfield 26, 3) := by decide +kernel
theorem dX9_mayTake_18 : decode cX9_mayTake 18 = .ok (.bipush 7, 2) := by decide +kernel
theorem dX9_mayTake_20 : decode cX9_mayTake 20 = .ok (.iload_n 1, 1) := by decide +kernel
theorem dX9_mayTake_21 : decode cX9_mayTake 21 = .ok (.imul, 1) := by decide +kernel
theorem dX9_mayTake_22 : decode cX9_mayTake 22 = .ok (.iload_n 2, 1) := by decide +kernel
theorem dX9_mayTake_23 : decode cX9_mayTake 23 = .ok (.iadd, 1) := by decide +kernel
theorem dX9_mayTake_24 : decode cX9_mayTake 24 = .ok (.iaload, 1) := by decide +kernel
theorem dX9_mayTake_25 : decode cX9_mayTake 25 = .ok (.aload_n 0, 1) := by decide +kernel
theorem dX9_mayTake_26 : decode cX9_mayTake 26 = .ok (.getfield 35, 3) := by decide +kernel
theorem dX9_mayTake_29 : decode cX9_mayTake 29 = .ok (.iload_n 1, 1) := by decide +kernel
theorem dX9_mayTake_30 : decode cX9_mayTake 30 = .ok (.iaload, 1) := by decide +kernel
theorem dX9_mayTake_31 : decode cX9_mayTake 31 = .ok (.if_icmp .eq 35, 3) := by decide +kernel
theorem dX9_mayTake_34 : decode cX9_mayTake 34 = .ok (.aload_n 0, 1) := by decide +kernel
theorem dX9_mayTake_35 : decode cX9_mayTake 35 = .ok (.getfield 29, 3) := by decide +kernel
theorem dX9_mayTake_38 : decode cX9_mayTake 38 = .ok (.bipush 7, 2) := by decide +kernel
theorem dX9_mayTake_40 : decode cX9_mayTake 40 = .ok (.iload_n 1, 1) := by decide +kernel
theorem dX9_mayTake_41 : decode cX9_mayTake 41 = .ok (.imul, 1) := by decide +kernel
theorem dX9_mayTake_42 : decode cX9_mayTake 42 = .ok (.iload_n 2, 1) := by decide +kernel
theorem dX9_mayTake_43 : decode cX9_mayTake 43 = .ok (.iadd, 1) := by decide +kernel
theorem dX9_mayTake_44 : decode cX9_mayTake 44 = .ok (.iaload, 1) := by decide +kernel
theorem dX9_mayTake_45 : decode cX9_mayTake 45 = .ok (.aload_n 0, 1) := by decide +kernel
theorem dX9_mayTake_46 : decode cX9_mayTake 46 = .ok (.getfield 19, 3) := by decide +kernel
theorem dX9_mayTake_49 : decode cX9_mayTake 49 = .ok (.if_icmp .ge 17, 3) := by decide +kernel
theorem dX9_mayTake_52 : decode cX9_mayTake 52 = .ok (.aload_n 0, 1) := by decide +kernel
theorem dX9_mayTake_53 : decode cX9_mayTake 53 = .ok (.getfield 41, 3) := by decide +kernel
theorem dX9_mayTake_56 : decode cX9_mayTake 56 = .ok (.iload_n 1, 1) := by decide +kernel
theorem dX9_mayTake_57 : decode cX9_mayTake 57 = .ok (.iaload, 1) := by decide +kernel
theorem dX9_mayTake_58 : decode cX9_mayTake 58 = .ok (.iload_n 2, 1) := by decide +kernel
theorem dX9_mayTake_59 : decode cX9_mayTake 59 = .ok (.if_icmp .eq 7, 3) := by decide +kernel
theorem dX9_mayTake_62 : decode cX9_mayTake 62 = .ok (.iconst 1, 1) := by decide +kernel
theorem dX9_mayTake_63 : decode cX9_mayTake 63 = .ok (.goto 4, 3) := by decide +kernel
theorem dX9_mayTake_66 : decode cX9_mayTake 66 = .ok (.iconst 0, 1) := by decide +kernel
theorem dX9_mayTake_67 : decode cX9_mayTake 67 = .ok (.ireturn, 1) := by decide +kernel
theorem dX9_lowestWrapped_0 : decode cX9_lowestWrapped 0 = .ok (.iconst 0, 1) := by decide +kernel
theorem dX9_lowestWrapped_1 : decode cX9_lowestWrapped 1 = .ok (.istore_n 2, 1) := by decide +kernel
theorem dX9_lowestWrapped_2 : decode cX9_lowestWrapped 2 = .ok (.aload_n 0, 1) := by decide +kernel
theorem dX9_lowestWrapped_3 : decode cX9_lowestWrapped 3 = .ok (.getfield 32, 3) := by decide +kernel
theorem dX9_lowestWrapped_6 : decode cX9_lowestWrapped 6 = .ok (.iload_n 1, 1) := by decide +kernel
theorem dX9_lowestWrapped_7 : decode cX9_lowestWrapped 7 = .ok (.iaload, 1) := by decide +kernel
theorem dX9_lowestWrapped_8 : decode cX9_lowestWrapped 8 = .ok (.iload_n 2, 1) := by decide +kernel
theorem dX9_lowestWrapped_9 : decode cX9_lowestWrapped 9 = .ok (.invokestatic 210, 3) := by decide +kernel
theorem dX9_lowestWrapped_12 : decode cX9_lowestWrapped 12 = .ok (.ifCond .ne 9, 3) := by decide +kernel
theorem dX9_lowestWrapped_15 : decode cX9_lowestWrapped 15 = .ok (.iinc 2 1, 3) := by decide +kernel
theorem dX9_lowestWrapped_18 : decode cX9_lowestWrapped 18 = .ok (.goto (-16), 3) := by decide +kernel
theorem dX9_lowestWrapped_21 : decode cX9_lowestWrapped 21 = .ok (.iload_n 2, 1) := by decide +kernel
theorem dX9_lowestWrapped_22 : decode cX9_lowestWrapped 22 = .ok (.ireturn, 1) := by decide +kernel
theorem dX9_opensAt_0 : decode cX9_opensAt 0 = .ok (.aload_n 0, 1) := by decide +kernel
theorem dX9_opensAt_1 : decode cX9_opensAt 1 = .ok (.iload_n 1, 1) := by decide +kernel
theorem dX9_opensAt_2 : decode cX9_opensAt 2 = .ok (.invokevirtual 289, 3) := by decide +kernel
theorem dX9_opensAt_5 : decode cX9_opensAt 5 = .ok (.istore_n 2, 1) := by decide +kernel
theorem dX9_opensAt_6 : decode cX9_opensAt 6 = .ok (.aload_n 0, 1) := by decide +kernel
theorem dX9_opensAt_7 : decode cX9_opensAt 7 = .ok (.getfield 32, 3) := by decide +kernel
theorem dX9_opensAt_10 : decode cX9_opensAt 10 = .ok (.iload_n 1, 1) := by decide +kernel
theorem dX9_opensAt_11 : decode cX9_opensAt 11 = .ok (.dup2, 1) := by decide +kernel
theorem dX9_opensAt_12 : decode cX9_opensAt 12 = .ok (.iaload, 1) := by decide +kernel
theorem dX9_opensAt_13 : decode cX9_opensAt 13 = .ok (.iconst 1, 1) := by decide +kernel
theorem dX9_opensAt_14 : decode cX9_opensAt 14 = .ok (.iload_n 2, 1) := by decide +kernel
theorem dX9_opensAt_15 : decode cX9_opensAt 15 = .ok (.ishl, 1) := by decide +kernel
theorem dX9_opensAt_16 : decode cX9_opensAt 16 = .ok (.iconst (-1), 1) := by decide +kernel
theorem dX9_opensAt_17 : decode cX9_opensAt 17 = .ok (.ixor, 1) := by decide +kernel
theorem dX9_opensAt_18 : decode cX9_opensAt 18 = .ok (.iand, 1) := by decide +kernel
theorem dX9_opensAt_19 : decode cX9_opensAt 19 = .ok (.iastore, 1) := by decide +kernel
theorem dX9_opensAt_20 : decode cX9_opensAt 20 = .ok (.aload_n 0, 1) := by decide +kernel
theorem dX9_opensAt_21 : decode cX9_opensAt 21 = .ok (.getfield 26, 3) := by decide +kernel
theorem dX9_opensAt_24 : decode cX9_opensAt 24 = .ok (.bipush 7, 2) := by decide +kernel
theorem dX9_opensAt_26 : decode cX9_opensAt 26 = .ok (.iload_n 1, 1) := by decide +kernel
theorem dX9_opensAt_27 : decode cX9_opensAt 27 = .ok (.imul, 1) := by decide +kernel
theorem dX9_opensAt_28 : decode cX9_opensAt 28 = .ok (.iload_n 2, 1) := by decide +kernel
theorem dX9_opensAt_29 : decode cX9_opensAt 29 = .ok (.iadd, 1) := by decide +kernel
theorem dX9_opensAt_30 : decode cX9_opensAt 30 = .ok (.aload_n 0, 1) := by decide +kernel
theorem dX9_opensAt_31 : decode cX9_opensAt 31 = .ok (.getfield 35, 3) := by decide +kernel
theorem dX9_opensAt_34 : decode cX9_opensAt 34 = .ok (.iload_n 1, 1) := by decide +kernel
theorem dX9_opensAt_35 : decode cX9_opensAt 35 = .ok (.iaload, 1) := by decide +kernel
theorem dX9_opensAt_36 : decode cX9_opensAt 36 = .ok (.iastore, 1) := by decide +kernel
theorem dX9_opensAt_37 : decode cX9_opensAt 37 = .ok (.aload_n 0, 1) := by decide +kernel
theorem dX9_opensAt_38 : decode cX9_opensAt 38 = .ok (.getfield 44, 3) := by decide +kernel
theorem dX9_opensAt_41 : decode cX9_opensAt 41 = .ok (.iload_n 1, 1) := by decide +kernel
theorem dX9_opensAt_42 : decode cX9_opensAt 42 = .ok (.dup2, 1) := by decide +kernel
theorem dX9_opensAt_43 : decode cX9_opensAt 43 = .ok (.iaload, 1) := by decide +kernel
theorem dX9_opensAt_44 : decode cX9_opensAt 44 = .ok (.iconst 1, 1) := by decide +kernel
theorem dX9_opensAt_45 : decode cX9_opensAt 45 = .ok (.iadd, 1) := by decide +kernel
theorem dX9_opensAt_46 : decode cX9_opensAt 46 = .ok (.iastore, 1) := by decide +kernel
theorem dX9_opensAt_47 : decode cX9_opensAt 47 = .ok (.aload_n 0, 1) := by decide +kernel
theorem dX9_opensAt_48 : decode cX9_opensAt 48 = .ok (.getfield 41, 3) := by decide +kernel
theorem dX9_opensAt_51 : decode cX9_opensAt 51 = .ok (.iload_n 1, 1) := by decide +kernel
theorem dX9_opensAt_52 : decode cX9_opensAt 52 = .ok (.iconst (-1), 1) := by decide +kernel
theorem dX9_opensAt_53 : decode cX9_opensAt 53 = .ok (.iastore, 1) := by decide +kernel
theorem dX9_opensAt_54 : decode cX9_opensAt 54 = .ok (.aload_n 0, 1) := by decide +kernel
theorem dX9_opensAt_55 : decode cX9_opensAt 55 = .ok (.getfield 35, 3) := by decide +kernel
theorem dX9_opensAt_58 : decode cX9_opensAt 58 = .ok (.iload_n 1, 1) := by decide +kernel
theorem dX9_opensAt_59 : decode cX9_opensAt 59 = .ok (.aload_n 0, 1) := by decide +kernel
theorem dX9_opensAt_60 : decode cX9_opensAt 60 = .ok (.getfield 32, 3) := by decide +kernel
theorem dX9_opensAt_63 : decode cX9_opensAt 63 = .ok (.iload_n 1, 1) := by decide +kernel
theorem dX9_opensAt_64 : decode cX9_opensAt 64 = .ok (.iaload, 1) := by decide +kernel
theorem dX9_opensAt_65 : decode cX9_opensAt 65 = .ok (.ifCond .ne 7, 3) := by decide +kernel
theorem dX9_opensAt_68 : decode cX9_opensAt 68 = .ok (.iconst (-1), 1) := by decide +kernel
theorem dX9_opensAt_69 : decode cX9_opensAt 69 = .ok (.goto 14, 3) := by decide +kernel
theorem dX9_opensAt_72 : decode cX9_opensAt 72 = .ok (.aload_n 0, 1) := by decide +kernel
theorem dX9_opensAt_73 : decode cX9_opensAt 73 = .ok (.getfield 23, 3) := by decide +kernel
theorem dX9_opensAt_76 : decode cX9_opensAt 76 = .ok (.aload_n 0, 1) := by decide +kernel
theorem dX9_opensAt_77 : decode cX9_opensAt 77 = .ok (.getfield 38, 3) := by decide +kernel
theorem dX9_opensAt_80 : decode cX9_opensAt 80 = .ok (.iload_n 1, 1) := by decide +kernel
theorem dX9_opensAt_81 : decode cX9_opensAt 81 = .ok (.iaload, 1) := by decide +kernel
theorem dX9_opensAt_82 : decode cX9_opensAt 82 = .ok (.iaload, 1) := by decide +kernel
theorem dX9_opensAt_83 : decode cX9_opensAt 83 = .ok (.iastore, 1) := by decide +kernel
theorem dX9_opensAt_84 : decode cX9_opensAt 84 = .ok (.aload_n 0, 1) := by decide +kernel
theorem dX9_opensAt_85 : decode cX9_opensAt 85 = .ok (.getfield 38, 3) := by decide +kernel
theorem dX9_opensAt_88 : decode cX9_opensAt 88 = .ok (.iload_n 1, 1) := by decide +kernel
theorem dX9_opensAt_89 : decode cX9_opensAt 89 = .ok (.dup2, 1) := by decide +kernel
theorem dX9_opensAt_90 : decode cX9_opensAt 90 = .ok (.iaload, 1) := by decide +kernel
theorem dX9_opensAt_91 : decode cX9_opensAt 91 = .ok (.iconst 1, 1) := by decide +kernel
theorem dX9_opensAt_92 : decode cX9_opensAt 92 = .ok (.iadd, 1) := by decide +kernel
theorem dX9_opensAt_93 : decode cX9_opensAt 93 = .ok (.iastore, 1) := by decide +kernel
theorem dX9_opensAt_94 : decode cX9_opensAt 94 = .ok (.iload_n 2, 1) := by decide +kernel
theorem dX9_opensAt_95 : decode cX9_opensAt 95 = .ok (.ireturn, 1) := by decide +kernel
theorem dX9_takesAt_0 : decode cX9_takesAt 0 = .ok (.aload_n 0, 1) := by decide +kernel
theorem dX9_takesAt_1 : decode cX9_takesAt 1 = .ok (.getfield 26, 3) := by decide +kernel
theorem dX9_takesAt_4 : decode cX9_takesAt 4 = .ok (.bipush 7, 2) := by decide +kernel
theorem dX9_takesAt_6 : decode cX9_takesAt 6 = .ok (.iload_n 1, 1) := by decide +kernel
theorem dX9_takesAt_7 : decode cX9_takesAt 7 = .ok (.imul, 1) := by decide +kernel
theorem dX9_takesAt_8 : decode cX9_takesAt 8 = .ok (.iload_n 2, 1) := by decide +kernel
theorem dX9_takesAt_9 : decode cX9_takesAt 9 = .ok (.iadd, 1) := by decide +kernel
theorem dX9_takesAt_10 : decode cX9_takesAt 10 = .ok (.iaload, 1) := by decide +kernel
theorem dX9_takesAt_11 : decode cX9_takesAt 11 = .ok (.istore_n 3, 1) := by decide +kernel
theorem dX9_takesAt_12 : decode cX9_takesAt 12 = .ok (.aload_n 0, 1) := by decide +kernel
theorem dX9_takesAt_13 : decode cX9_takesAt 13 = .ok (.getfield 26, 3) := by decide +kernel
theorem dX9_takesAt_16 : decode cX9_takesAt 16 = .ok (.bipush 7, 2) := by decide +kernel
theorem dX9_takesAt_18 : decode cX9_takesAt 18 = .ok (.iload_n 1, 1) := by decide +kernel
theorem dX9_takesAt_19 : decode cX9_takesAt 19 = .ok (.imul, 1) := by decide +kernel
theorem dX9_takesAt_20 : decode cX9_takesAt 20 = .ok (.iload_n 2, 1) := by decide +kernel
theorem dX9_takesAt_21 : decode cX9_takesAt 21 = .ok (.iadd, 1) := by decide +kernel
theorem dX9_takesAt_22 : decode cX9_takesAt 22 = .ok (.aload_n 0, 1) := by decide +kernel
theorem dX9_takesAt_23 : decode cX9_takesAt 23 = .ok (.getfield 35, 3) := by decide +kernel
theorem dX9_takesAt_26 : decode cX9_takesAt 26 = .ok (.iload_n 1, 1) := by decide +kernel
theorem dX9_takesAt_27 : decode cX9_takesAt 27 = .ok (.iaload, 1) := by decide +kernel
theorem dX9_takesAt_28 : decode cX9_takesAt 28 = .ok (.iastore, 1) := by decide +kernel
theorem dX9_takesAt_29 : decode cX9_takesAt 29 = .ok (.aload_n 0, 1) := by decide +kernel
theorem dX9_takesAt_30 : decode cX9_takesAt 30 = .ok (.getfield 29, 3) := by decide +kernel
theorem dX9_takesAt_33 : decode cX9_takesAt 33 = .ok (.bipush 7, 2) := by decide +kernel
theorem dX9_takesAt_35 : decode cX9_takesAt 35 = .ok (.iload_n 1, 1) := by decide +kernel
theorem dX9_takesAt_36 : decode cX9_takesAt 36 = .ok (.imul, 1) := by decide +kernel
theorem dX9_takesAt_37 : decode cX9_takesAt 37 = .ok (.iload_n 2, 1) := by decide +kernel
theorem dX9_takesAt_38 : decode cX9_takesAt 38 = .ok (.iadd, 1) := by decide +kernel
theorem dX9_takesAt_39 : decode cX9_takesAt 39 = .ok (.dup2, 1) := by decide +kernel
theorem dX9_takesAt_40 : decode cX9_takesAt 40 = .ok (.iaload, 1) := by decide +kernel
theorem dX9_takesAt_41 : decode cX9_takesAt 41 = .ok (.iconst 1, 1) := by decide +kernel
theorem dX9_takesAt_42 : decode cX9_takesAt 42 = .ok (.iadd, 1) := by decide +kernel
theorem dX9_takesAt_43 : decode cX9_takesAt 43 = .ok (.iastore, 1) := by decide +kernel
theorem dX9_takesAt_44 : decode cX9_takesAt 44 = .ok (.aload_n 0, 1) := by decide +kernel
theorem dX9_takesAt_45 : decode cX9_takesAt 45 = .ok (.getfield 44, 3) := by decide +kernel
theorem dX9_takesAt_48 : decode cX9_takesAt 48 = .ok (.iload_n 1, 1) := by decide +kernel
theorem dX9_takesAt_49 : decode cX9_takesAt 49 = .ok (.dup2, 1) := by decide +kernel
theorem dX9_takesAt_50 : decode cX9_takesAt 50 = .ok (.iaload, 1) := by decide +kernel
theorem dX9_takesAt_51 : decode cX9_takesAt 51 = .ok (.iconst 1, 1) := by decide +kernel
theorem dX9_takesAt_52 : decode cX9_takesAt 52 = .ok (.iadd, 1) := by decide +kernel
theorem dX9_takesAt_53 : decode cX9_takesAt 53 = .ok (.iastore, 1) := by decide +kernel
theorem dX9_takesAt_54 : decode cX9_takesAt 54 = .ok (.aload_n 0, 1) := by decide +kernel
theorem dX9_takesAt_55 : decode cX9_takesAt 55 = .ok (.getfield 41, 3) := by decide +kernel
theorem dX9_takesAt_58 : decode cX9_takesAt 58 = .ok (.iload_n 1, 1) := by decide +kernel
theorem dX9_takesAt_59 : decode cX9_takesAt 59 = .ok (.iload_n 2, 1) := by decide +kernel
theorem dX9_takesAt_60 : decode cX9_takesAt 60 = .ok (.iastore, 1) := by decide +kernel
theorem dX9_takesAt_61 : decode cX9_takesAt 61 = .ok (.aload_n 0, 1) := by decide +kernel
theorem dX9_takesAt_62 : decode cX9_takesAt 62 = .ok (.getfield 35, 3) := by decide +kernel
theorem dX9_takesAt_65 : decode cX9_takesAt 65 = .ok (.iload_n 1, 1) := by decide +kernel
theorem dX9_takesAt_66 : decode cX9_takesAt 66 = .ok (.iload_n 3, 1) := by decide +kernel
theorem dX9_takesAt_67 : decode cX9_takesAt 67 = .ok (.iastore, 1) := by decide +kernel
theorem dX9_takesAt_68 : decode cX9_takesAt 68 = .ok (.iload_n 3, 1) := by decide +kernel
theorem dX9_takesAt_69 : decode cX9_takesAt 69 = .ok (.ireturn, 1) := by decide +kernel
theorem dX9_lawsNumber_0 : decode cX9_lawsNumber 0 = .ok (.iload_n 3, 1) := by decide +kernel
theorem dX9_lawsNumber_1 : decode cX9_lawsNumber 1 = .ok (.ifCond .ge 12, 3) := by decide +kernel
theorem dX9_lawsNumber_4 : decode cX9_lawsNumber 4 = .ok (.aload_n 0, 1) := by decide +kernel
theorem dX9_lawsNumber_5 : decode cX9_lawsNumber 5 = .ok (.iload_n 1, 1) := by decide +kernel
theorem dX9_lawsNumber_6 : decode cX9_lawsNumber 6 = .ok (.iload_n 2, 1) := by decide +kernel
theorem dX9_lawsNumber_7 : decode cX9_lawsNumber 7 = .ok (.invokevirtual 292, 3) := by decide +kernel
theorem dX9_lawsNumber_10 : decode cX9_lawsNumber 10 = .ok (.goto 14, 3) := by decide +kernel
theorem dX9_lawsNumber_13 : decode cX9_lawsNumber 13 = .ok (.aload_n 0, 1) := by decide +kernel
theorem dX9_lawsNumber_14 : decode cX9_lawsNumber 14 = .ok (.getfield 7, 3) := by decide +kernel
theorem dX9_lawsNumber_17 : decode cX9_lawsNumber 17 = .ok (.bipush 7, 2) := by decide +kernel
theorem dX9_lawsNumber_19 : decode cX9_lawsNumber 19 = .ok (.iload_n 2, 1) := by decide +kernel
theorem dX9_lawsNumber_20 : decode cX9_lawsNumber 20 = .ok (.imul, 1) := by decide +kernel
theorem dX9_lawsNumber_21 : decode cX9_lawsNumber 21 = .ok (.iload_n 3, 1) := by decide +kernel
theorem dX9_lawsNumber_22 : decode cX9_lawsNumber 22 = .ok (.iadd, 1) := by decide +kernel
theorem dX9_lawsNumber_23 : decode cX9_lawsNumber 23 = .ok (.iaload, 1) := by decide +kernel
theorem dX9_lawsNumber_24 : decode cX9_lawsNumber 24 = .ok (.istore 4, 2) := by decide +kernel
theorem dX9_lawsNumber_26 : decode cX9_lawsNumber 26 = .ok (.aload_n 0, 1) := by decide +kernel
theorem dX9_lawsNumber_27 : decode cX9_lawsNumber 27 = .ok (.getfield 282, 3) := by decide +kernel
theorem dX9_lawsNumber_30 : decode cX9_lawsNumber 30 = .ok (.ifCond .ne 6, 3) := by decide +kernel
theorem dX9_lawsNumber_33 : decode cX9_lawsNumber 33 = .ok (.iload 4, 2) := by decide +kernel
theorem dX9_lawsNumber_35 : decode cX9_lawsNumber 35 = .ok (.ireturn, 1) := by decide +kernel
theorem dX9_lawsNumber_36 : decode cX9_lawsNumber 36 = .ok (.iload_n 3, 1) := by decide +kernel
theorem dX9_lawsNumber_37 : decode cX9_lawsNumber 37 = .ok (.ifCond .ge 7, 3) := by decide +kernel
theorem dX9_lawsNumber_40 : decode cX9_lawsNumber 40 = .ok (.iconst 0, 1) := by decide +kernel
theorem dX9_lawsNumber_41 : decode cX9_lawsNumber 41 = .ok (.goto 14, 3) := by decide +kernel
theorem dX9_lawsNumber_44 : decode cX9_lawsNumber 44 = .ok (.aload_n 0, 1) := by decide +kernel
theorem dX9_lawsNumber_45 : decode cX9_lawsNumber 45 = .ok (.getfield 26, 3) := by decide +kernel
theorem dX9_lawsNumber_48 : decode cX9_lawsNumber 48 = .ok (.bipush 7, 2) := by decide +kernel
theorem dX9_lawsNumber_50 : decode cX9_lawsNumber 50 = .ok (.iload_n 1, 1) := by decide +kernel
theorem dX9_lawsNumber_51 : decode cX9_lawsNumber 51 = .ok (.imul, 1) := by decide +kernel
theorem dX9_lawsNumber_52 : decode cX9_lawsNumber 52 = .ok (.iload_n 3, 1) := by decide +kernel
theorem dX9_lawsNumber_53 : decode cX9_lawsNumber 53 = .ok (.iadd, 1) := by decide +kernel
theorem dX9_lawsNumber_54 : decode cX9_lawsNumber 54 = .ok (.iaload, 1) := by decide +kernel
theorem dX9_lawsNumber_55 : decode cX9_lawsNumber 55 = .ok (.istore 5, 2) := by decide +kernel
theorem dX9_lawsNumber_57 : decode cX9_lawsNumber 57 = .ok (.aload_n 0, 1) := by decide +kernel
theorem dX9_lawsNumber_58 : decode cX9_lawsNumber 58 = .ok (.getfield 82, 3) := by decide +kernel
theorem dX9_lawsNumber_61 : decode cX9_lawsNumber 61 = .ok (.iconst 0, 1) := by decide +kernel
theorem dX9_lawsNumber_62 : decode cX9_lawsNumber 62 = .ok (.iload 4, 2) := by decide +kernel
theorem dX9_lawsNumber_64 : decode cX9_lawsNumber 64 = .ok (.iastore, 1) := by decide +kernel
theorem dX9_lawsNumber_65 : decode cX9_lawsNumber 65 = .ok (.aload_n 0, 1) := by decide +kernel
theorem dX9_lawsNumber_66 : decode cX9_lawsNumber 66 = .ok (.getfield 82, 3) := by decide +kernel
theorem dX9_lawsNumber_69 : decode cX9_lawsNumber 69 = .ok (.iconst 1, 1) := by decide +kernel
theorem dX9_lawsNumber_70 : decode cX9_lawsNumber 70 = .ok (.iload_n 3, 1) := by decide +kernel
theorem dX9_lawsNumber_71 : decode cX9_lawsNumber 71 = .ok (.ifCond .ge 7, 3) := by decide +kernel
theorem dX9_lawsNumber_74 : decode cX9_lawsNumber 74 = .ok (.iconst 0, 1) := by decide +kernel
theorem dX9_lawsNumber_75 : decode cX9_lawsNumber 75 = .ok (.goto 15, 3) := by decide +kernel
theorem dX9_lawsNumber_78 : decode cX9_lawsNumber 78 = .ok (.aload_n 0, 1) := by decide +kernel
theorem dX9_lawsNumber_79 : decode cX9_lawsNumber 79 = .ok (.getfield 7, 3) := by decide +kernel
theorem dX9_lawsNumber_82 : decode cX9_lawsNumber 82 = .ok (.bipush 7, 2) := by decide +kernel
theorem dX9_lawsNumber_84 : decode cX9_lawsNumber 84 = .ok (.iload 5, 2) := by decide +kernel
theorem dX9_lawsNumber_86 : decode cX9_lawsNumber 86 = .ok (.imul, 1) := by decide +kernel
theorem dX9_lawsNumber_87 : decode cX9_lawsNumber 87 = .ok (.iload_n 3, 1) := by decide +kernel
theorem dX9_lawsNumber_88 : decode cX9_lawsNumber 88 = .ok (.iadd, 1) := by decide +kernel
theorem dX9_lawsNumber_89 : decode cX9_lawsNumber 89 = .ok (.iaload, 1) := by decide +kernel
theorem dX9_lawsNumber_90 : decode cX9_lawsNumber 90 = .ok (.iastore, 1) := by decide +kernel
theorem dX9_lawsNumber_91 : decode cX9_lawsNumber 91 = .ok (.aload_n 0, 1) := by decide +kernel
theorem dX9_lawsNumber_92 : decode cX9_lawsNumber 92 = .ok (.getfield 82, 3) := by decide +kernel
theorem dX9_lawsNumber_95 : decode cX9_lawsNumber 95 = .ok (.iconst 2, 1) := by decide +kernel
theorem dX9_lawsNumber_96 : decode cX9_lawsNumber 96 = .ok (.iload_n 3, 1) := by decide +kernel
theorem dX9_lawsNumber_97 : decode cX9_lawsNumber 97 = .ok (.ifCond .ge 7, 3) := by decide +kernel
theorem dX9_lawsNumber_100 : decode cX9_lawsNumber 100 = .ok (.iconst 0, 1) := by decide +kernel
theorem dX9_lawsNumber_101 : decode cX9_lawsNumber 101 = .ok (.goto 14, 3) := by decide +kernel
theorem dX9_lawsNumber_104 : decode cX9_lawsNumber 104 = .ok (.aload_n 0, 1) := by decide +kernel
theorem dX9_lawsNumber_105 : decode cX9_lawsNumber 105 = .ok (.getfield 29, 3) := by decide +kernel
theorem dX9_lawsNumber_108 : decode cX9_lawsNumber 108 = .ok (.bipush 7, 2) := by decide +kernel
theorem dX9_lawsNumber_110 : decode cX9_lawsNumber 110 = .ok (.iload_n 1, 1) := by decide +kernel
theorem dX9_lawsNumber_111 : decode cX9_lawsNumber 111 = .ok (.imul, 1) := by decide +kernel
theorem dX9_lawsNumber_112 : decode cX9_lawsNumber 112 = .ok (.iload_n 3, 1) := by decide +kernel
theorem dX9_lawsNumber_113 : decode cX9_lawsNumber 113 = .ok (.iadd, 1) := by decide +kernel
theorem dX9_lawsNumber_114 : decode cX9_lawsNumber 114 = .ok (.iaload, 1) := by decide +kernel
theorem dX9_lawsNumber_115 : decode cX9_lawsNumber 115 = .ok (.iastore, 1) := by decide +kernel
theorem dX9_lawsNumber_116 : decode cX9_lawsNumber 116 = .ok (.aload_n 0, 1) := by decide +kernel
theorem dX9_lawsNumber_117 : decode cX9_lawsNumber 117 = .ok (.getfield 82, 3) := by decide +kernel
theorem dX9_lawsNumber_120 : decode cX9_lawsNumber 120 = .ok (.iconst 3, 1) := by decide +kernel
theorem dX9_lawsNumber_121 : decode cX9_lawsNumber 121 = .ok (.iload_n 3, 1) := by decide +kernel
theorem dX9_lawsNumber_122 : decode cX9_lawsNumber 122 = .ok (.ifCond .ge 7, 3) := by decide +kernel
theorem dX9_lawsNumber_125 : decode cX9_lawsNumber 125 = .ok (.iconst 0, 1) := by decide +kernel
theorem dX9_lawsNumber_126 : decode cX9_lawsNumber 126 = .ok (.goto 15, 3) := by decide +kernel
theorem dX9_lawsNumber_129 : decode cX9_lawsNumber 129 = .ok (.aload_n 0, 1) := by decide +kernel
theorem dX9_lawsNumber_130 : decode cX9_lawsNumber 130 = .ok (.getfield 13, 3) := by decide +kernel
theorem dX9_lawsNumber_133 : decode cX9_lawsNumber 133 = .ok (.bipush 7, 2) := by decide +kernel
theorem dX9_lawsNumber_135 : decode cX9_lawsNumber 135 = .ok (.iload_n 2, 1) := by decide +kernel
theorem dX9_lawsNumber_136 : decode cX9_lawsNumber 136 = .ok (.imul, 1) := by decide +kernel
theorem dX9_lawsNumber_137 : decode cX9_lawsNumber 137 = .ok (.iload 5, 2) := by decide +kernel
theorem dX9_lawsNumber_139 : decode cX9_lawsNumber 139 = .ok (.iadd, 1) := by decide +kernel
theorem dX9_lawsNumber_140 : decode cX9_lawsNumber 140 = .ok (.iaload, 1) := by decide +kernel
theorem dX9_lawsNumber_141 : decode cX9_lawsNumber 141 = .ok (.iastore, 1) := by decide +kernel
theorem dX9_lawsNumber_142 : decode cX9_lawsNumber 142 = .ok (.aload_n 0, 1) := by decide +kernel
theorem dX9_lawsNumber_143 : decode cX9_lawsNumber 143 = .ok (.getfield 82, 3) := by decide +kernel
theorem dX9_lawsNumber_146 : decode cX9_lawsNumber 146 = .ok (.iconst 4, 1) := by decide +kernel
theorem dX9_lawsNumber_147 : decode cX9_lawsNumber 147 = .ok (.iload_n 3, 1) := by decide +kernel
theorem dX9_lawsNumber_148 : decode cX9_lawsNumber 148 = .ok (.ifCond .ge 7, 3) := by decide +kernel
theorem dX9_lawsNumber_151 : decode cX9_lawsNumber 151 = .ok (.iconst 1, 1) := by decide +kernel
theorem dX9_lawsNumber_152 : decode cX9_lawsNumber 152 = .ok (.goto 4, 3) := by decide +kernel
theorem dX9_lawsNumber_155 : decode cX9_lawsNumber 155 = .ok (.iconst 0, 1) := by decide +kernel
theorem dX9_lawsNumber_156 : decode cX9_lawsNumber 156 = .ok (.iastore, 1) := by decide +kernel
theorem dX9_lawsNumber_157 : decode cX9_lawsNumber 157 = .ok (.aload_n 0, 1) := by decide +kernel
theorem dX9_lawsNumber_158 : decode cX9_lawsNumber 158 = .ok (.getfield 82, 3) := by decide +kernel
theorem dX9_lawsNumber_161 : decode cX9_lawsNumber 161 = .ok (.iconst 5, 1) := by decide +kernel
theorem dX9_lawsNumber_162 : decode cX9_lawsNumber 162 = .ok (.aload_n 0, 1) := by decide +kernel
theorem dX9_lawsNumber_163 : decode cX9_lawsNumber 163 = .ok (.getfield 32, 3) := by decide +kernel
theorem dX9_lawsNumber_166 : decode cX9_lawsNumber 166 = .ok (.iload_n 1, 1) := by decide +kernel
theorem dX9_lawsNumber_167 : decode cX9_lawsNumber 167 = .ok (.iaload, 1) := by decide +kernel
theorem dX9_lawsNumber_168 : decode cX9_lawsNumber 168 = .ok (.invokestatic 286, 3) := by decide +kernel
theorem dX9_lawsNumber_171 : decode cX9_lawsNumber 171 = .ok (.iastore, 1) := by decide +kernel
theorem dX9_lawsNumber_172 : decode cX9_lawsNumber 172 = .ok (.aload_n 0, 1) := by decide +kernel
theorem dX9_lawsNumber_173 : decode cX9_lawsNumber 173 = .ok (.iconst 0, 1) := by decide +kernel
theorem dX9_lawsNumber_174 : decode cX9_lawsNumber 174 = .ok (.invokevirtual 295, 3) := by decide +kernel
theorem dX9_lawsNumber_177 : decode cX9_lawsNumber 177 = .ok (.ireturn, 1) := by decide +kernel
theorem dX9_choice_0 : decode cX9_choice 0 = .ok (.aload_n 0, 1) := by decide +kernel
theorem dX9_choice_1 : decode cX9_choice 1 = .ok (.getfield 35, 3) := by decide +kernel
theorem dX9_choice_4 : decode cX9_choice 4 = .ok (.iload_n 1, 1) := by decide +kernel
theorem dX9_choice_5 : decode cX9_choice 5 = .ok (.iaload, 1) := by decide +kernel
theorem dX9_choice_6 : decode cX9_choice 6 = .ok (.istore_n 2, 1) := by decide +kernel
theorem dX9_choice_7 : decode cX9_choice 7 = .ok (.iconst (-1), 1) := by decide +kernel
theorem dX9_choice_8 : decode cX9_choice 8 = .ok (.istore_n 3, 1) := by decide +kernel
theorem dX9_choice_9 : decode cX9_choice 9 = .ok (.aload_n 0, 1) := by decide +kernel
theorem dX9_choice_10 : decode cX9_choice 10 = .ok (.getfield 16, 3) := by decide +kernel
theorem dX9_choice_13 : decode cX9_choice 13 = .ok (.iload_n 2, 1) := by decide +kernel
theorem dX9_choice_14 : decode cX9_choice 14 = .ok (.iaload, 1) := by decide +kernel
theorem dX9_choice_15 : decode cX9_choice 15 = .ok (.iconst 2, 1) := by decide +kernel
theorem dX9_choice_16 : decode cX9_choice 16 = .ok (.if_icmp .ne 13, 3) := by decide +kernel
theorem dX9_choice_19 : decode cX9_choice 19 = .ok (.aload_n 0, 1) := by decide +kernel
theorem dX9_choice_20 : decode cX9_choice 20 = .ok (.iload_n 1, 1) := by decide +kernel
theorem dX9_choice_21 : decode cX9_choice 21 = .ok (.iload_n 2, 1) := by decide +kernel
theorem dX9_choice_22 : decode cX9_choice 22 = .ok (.iconst (-1), 1) := by decide +kernel
theorem dX9_choice_23 : decode cX9_choice 23 = .ok (.invokevirtual 298, 3) := by decide +kernel
theorem dX9_choice_26 : decode cX9_choice 26 = .ok (.goto 25, 3) := by decide +kernel
theorem dX9_choice_29 : decode cX9_choice 29 = .ok (.aload_n 0, 1) := by decide +kernel
theorem dX9_choice_30 : decode cX9_choice 30 = .ok (.getfield 16, 3) := by decide +kernel
theorem dX9_choice_33 : decode cX9_choice 33 = .ok (.iload_n 2, 1) := by decide +kernel
theorem dX9_choice_34 : decode cX9_choice 34 = .ok (.iaload, 1) := by decide +kernel
theorem dX9_choice_35 : decode cX9_choice 35 = .ok (.iconst 1, 1) := by decide +kernel
theorem dX9_choice_36 : decode cX9_choice 36 = .ok (.if_icmp .ne 9, 3) := by decide +kernel
theorem dX9_choice_39 : decode cX9_choice 39 = .ok (.sipush (-1000), 3) := by decide +kernel
theorem dX9_choice_42 : decode cX9_choice 42 = .ok (.goto 9, 3) := by decide +kernel
theorem dX9_choice_45 : decode cX9_choice 45 = .ok (.aload_n 0, 1) := by decide +kernel
theorem dX9_choice_46 : decode cX9_choice 46 = .ok (.iload_n 1, 1) := by decide +kernel
theorem dX9_choice_47 : decode cX9_choice 47 = .ok (.iload_n 2, 1) := by decide +kernel
theorem dX9_choice_48 : decode cX9_choice 48 = .ok (.invokevirtual 292, 3) := by decide +kernel
theorem dX9_choice_51 : decode cX9_choice 51 = .ok (.istore 4, 2) := by decide +kernel
theorem dX9_choice_53 : decode cX9_choice 53 = .ok (.iconst 0, 1) := by decide +kernel
theorem dX9_choice_54 : decode cX9_choice 54 = .ok (.istore 5, 2) := by decide +kernel
theorem dX9_choice_56 : decode cX9_choice 56 = .ok (.iload 5, 2) := by decide +kernel
theorem dX9_choice_58 : decode cX9_choice 58 = .ok (.aload_n 0, 1) := by decide +kernel
theorem dX9_choice_59 : decode cX9_choice 59 = .ok (.getfield 155, 3) := by decide +kernel
theorem dX9_choice_62 : decode cX9_choice 62 = .ok (.if_icmp .ge 141, 3) := by decide +kernel
theorem dX9_choice_65 : decode cX9_choice 65 = .ok (.aload_n 0, 1) := by decide +kernel
theorem dX9_choice_66 : decode cX9_choice 66 = .ok (.iload_n 1, 1) := by decide +kernel
theorem dX9_choice_67 : decode cX9_choice 67 = .ok (.iload 5, 2) := by decide +kernel
theorem dX9_choice_69 : decode cX9_choice 69 = .ok (.invokevirtual 301, 3) := by decide +kernel
theorem dX9_choice_72 : decode cX9_choice 72 = .ok (.ifCond .eq 125, 3) := by decide +kernel
theorem dX9_choice_75 : decode cX9_choice 75 = .ok (.aload_n 0, 1) := by decide +kernel
theorem dX9_choice_76 : decode cX9_choice 76 = .ok (.getfield 16, 3) := by decide +kernel
theorem dX9_choice_79 : decode cX9_choice 79 = .ok (.iload_n 2, 1) := by decide +kernel
theorem dX9_choice_80 : decode cX9_choice 80 = .ok (.iaload, 1) := by decide +kernel
