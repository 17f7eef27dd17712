theorem dX8_people_65 : decode cX8_people 65 = .ok (.iload_n 2, 1) := by decide +kernel
theorem dX8_people_66 : decode cX8_people 66 = .ok (.ifCond .lt 45, 3) := by decide +kernel
theorem dX8_people_69 : decode cX8_people 69 = .ok (.iload_n 2, 1) := by decide +kernel
theorem dX8_people_70 : decode cX8_people 70 = .ok (.bipush 60, 2) := by decide +kernel
theorem dX8_people_72 : decode cX8_people 72 = .ok (.if_icmp .ge 39, 3) := by decide +kernel
theorem dX8_people_75 : decode cX8_people 75 = .ok (.iload 5, 2) := by decide +kernel
theorem dX8_people_77 : decode cX8_people 77 = .ok (.iload_n 3, 1) := by decide +kernel
theorem dX8_people_78 : decode cX8_people 78 = .ok (.if_icmp .ge 33, 3) := by decide +kernel
theorem dX8_people_81 : decode cX8_people 81 = .ok (.aload_n 0, 1) := by decide +kernel
theorem dX8_people_82 : decode cX8_people 82 = .ok (.getfield 10, 3) := by decide +kernel
theorem dX8_people_85 : decode cX8_people 85 = .ok (.getfield 71, 3) := by decide +kernel
theorem dX8_people_88 : decode cX8_people 88 = .ok (.bipush 7, 2) := by decide +kernel
theorem dX8_people_90 : decode cX8_people 90 = .ok (.if_icmp .ge 21, 3) := by decide +kernel
theorem dX8_people_93 : decode cX8_people 93 = .ok (.aload_n 0, 1) := by decide +kernel
theorem dX8_people_94 : decode cX8_people 94 = .ok (.iload_n 1, 1) := by decide +kernel
theorem dX8_people_95 : decode cX8_people 95 = .ok (.iload_n 2, 1) := by decide +kernel
theorem dX8_people_96 : decode cX8_people 96 = .ok (.iload 5, 2) := by decide +kernel
theorem dX8_people_98 : decode cX8_people 98 = .ok (.iadd, 1) := by decide +kernel
theorem dX8_people_99 : decode cX8_people 99 = .ok (.invokevirtual 85, 3) := by decide +kernel
theorem dX8_people_102 : decode cX8_people 102 = .ok (.ifCond .eq 9, 3) := by decide +kernel
theorem dX8_people_105 : decode cX8_people 105 = .ok (.iinc 5 1, 3) := by decide +kernel
theorem dX8_people_108 : decode cX8_people 108 = .ok (.goto (-33), 3) := by decide +kernel
theorem dX8_people_111 : decode cX8_people 111 = .ok (.iload 5, 2) := by decide +kernel
theorem dX8_people_113 : decode cX8_people 113 = .ok (.ireturn, 1) := by decide +kernel
theorem dX8_mend_0 : decode cX8_mend 0 = .ok (.aload_n 0, 1) := by decide +kernel
theorem dX8_mend_1 : decode cX8_mend 1 = .ok (.getfield 10, 3) := by decide +kernel
theorem dX8_mend_4 : decode cX8_mend 4 = .ok (.iload_n 1, 1) := by decide +kernel
theorem dX8_mend_5 : decode cX8_mend 5 = .ok (.iload_n 2, 1) := by decide +kernel
theorem dX8_mend_6 : decode cX8_mend 6 = .ok (.invokevirtual 89, 3) := by decide +kernel
theorem dX8_mend_9 : decode cX8_mend 9 = .ok (.ifCond .eq 11, 3) := by decide +kernel
theorem dX8_mend_12 : decode cX8_mend 12 = .ok (.iload_n 2, 1) := by decide +kernel
theorem dX8_mend_13 : decode cX8_mend 13 = .ok (.iload_n 3, 1) := by decide +kernel
theorem dX8_mend_14 : decode cX8_mend 14 = .ok (.invokestatic 92, 3) := by decide +kernel
theorem dX8_mend_17 : decode cX8_mend 17 = .ok (.ifCond .ne 5, 3) := by decide +kernel
theorem dX8_mend_20 : decode cX8_mend 20 = .ok (.iconst (-1), 1) := by decide +kernel
theorem dX8_mend_21 : decode cX8_mend 21 = .ok (.ireturn, 1) := by decide +kernel
theorem dX8_mend_22 : decode cX8_mend 22 = .ok (.aload_n 0, 1) := by decide +kernel
theorem dX8_mend_23 : decode cX8_mend 23 = .ok (.getfield 10, 3) := by decide +kernel
theorem dX8_mend_26 : decode cX8_mend 26 = .ok (.iload_n 1, 1) := by decide +kernel
theorem dX8_mend_27 : decode cX8_mend 27 = .ok (.iload_n 2, 1) := by decide +kernel
theorem dX8_mend_28 : decode cX8_mend 28 = .ok (.invokevirtual 95, 3) := by decide +kernel
theorem dX8_mend_31 : decode cX8_mend 31 = .ok (.istore 4, 2) := by decide +kernel
theorem dX8_mend_33 : decode cX8_mend 33 = .ok (.aload_n 0, 1) := by decide +kernel
theorem dX8_mend_34 : decode cX8_mend 34 = .ok (.getfield 19, 3) := by decide +kernel
theorem dX8_mend_37 : decode cX8_mend 37 = .ok (.iload_n 1, 1) := by decide +kernel
theorem dX8_mend_38 : decode cX8_mend 38 = .ok (.iload_n 2, 1) := by decide +kernel
theorem dX8_mend_39 : decode cX8_mend 39 = .ok (.iload 4, 2) := by decide +kernel
theorem dX8_mend_41 : decode cX8_mend 41 = .ok (.iload_n 3, 1) := by decide +kernel
theorem dX8_mend_42 : decode cX8_mend 42 = .ok (.invokevirtual 99, 3) := by decide +kernel
theorem dX8_mend_45 : decode cX8_mend 45 = .ok (.aload_n 0, 1) := by decide +kernel
theorem dX8_mend_46 : decode cX8_mend 46 = .ok (.getfield 10, 3) := by decide +kernel
theorem dX8_mend_49 : decode cX8_mend 49 = .ok (.iload_n 1, 1) := by decide +kernel
theorem dX8_mend_50 : decode cX8_mend 50 = .ok (.iload_n 2, 1) := by decide +kernel
theorem dX8_mend_51 : decode cX8_mend 51 = .ok (.iload_n 3, 1) := by decide +kernel
theorem dX8_mend_52 : decode cX8_mend 52 = .ok (.invokevirtual 103, 3) := by decide +kernel
theorem dX8_mend_55 : decode cX8_mend 55 = .ok (.iload 4, 2) := by decide +kernel
theorem dX8_mend_57 : decode cX8_mend 57 = .ok (.ireturn, 1) := by decide +kernel
theorem dX8_of_0 : decode cX8_of 0 = .ok (.iload_n 2, 1) := by decide +kernel
theorem dX8_of_1 : decode cX8_of 1 = .ok (.ifCond .lt 34, 3) := by decide +kernel
theorem dX8_of_4 : decode cX8_of 4 = .ok (.iload_n 2, 1) := by decide +kernel
theorem dX8_of_5 : decode cX8_of 5 = .ok (.iconst 4, 1) := by decide +kernel
theorem dX8_of_6 : decode cX8_of 6 = .ok (.if_icmp .gt 29, 3) := by decide +kernel
theorem dX8_of_9 : decode cX8_of 9 = .ok (.aload_n 0, 1) := by decide +kernel
theorem dX8_of_10 : decode cX8_of 10 = .ok (.getfield 10, 3) := by decide +kernel
theorem dX8_of_13 : decode cX8_of 13 = .ok (.iload_n 1, 1) := by decide +kernel
theorem dX8_of_14 : decode cX8_of 14 = .ok (.iload_n 2, 1) := by decide +kernel
theorem dX8_of_15 : decode cX8_of 15 = .ok (.invokevirtual 89, 3) := by decide +kernel
theorem dX8_of_18 : decode cX8_of 18 = .ok (.ifCond .eq 15, 3) := by decide +kernel
theorem dX8_of_21 : decode cX8_of 21 = .ok (.aload_n 0, 1) := by decide +kernel
theorem dX8_of_22 : decode cX8_of 22 = .ok (.getfield 10, 3) := by decide +kernel
theorem dX8_of_25 : decode cX8_of 25 = .ok (.iload_n 1, 1) := by decide +kernel
theorem dX8_of_26 : decode cX8_of 26 = .ok (.iload_n 2, 1) := by decide +kernel
theorem dX8_of_27 : decode cX8_of 27 = .ok (.invokevirtual 95, 3) := by decide +kernel
theorem dX8_of_30 : decode cX8_of 30 = .ok (.goto 4, 3) := by decide +kernel
theorem dX8_of_33 : decode cX8_of 33 = .ok (.iconst (-1), 1) := by decide +kernel
theorem dX8_of_34 : decode cX8_of 34 = .ok (.ireturn, 1) := by decide +kernel
theorem dX8_of_35 : decode cX8_of 35 = .ok (.aload_n 0, 1) := by decide +kernel
theorem dX8_of_36 : decode cX8_of 36 = .ok (.getfield 10, 3) := by decide +kernel
theorem dX8_of_39 : decode cX8_of 39 = .ok (.iload_n 1, 1) := by decide +kernel
theorem dX8_of_40 : decode cX8_of 40 = .ok (.invokevirtual 107, 3) := by decide +kernel
theorem dX8_of_43 : decode cX8_of 43 = .ok (.ifCond .ne 5, 3) := by decide +kernel
theorem dX8_of_46 : decode cX8_of 46 = .ok (.iconst (-1), 1) := by decide +kernel
theorem dX8_of_47 : decode cX8_of 47 = .ok (.ireturn, 1) := by decide +kernel
theorem dX8_of_48 : decode cX8_of 48 = .ok (.iload_n 2, 1) := by decide +kernel
theorem dX8_of_49 : decode cX8_of 49 = .ok (.tableswitch 95 10 13 #[31, 41, 68, 78], 31) := by decide +kernel
theorem dX8_of_80 : decode cX8_of 80 = .ok (.aload_n 0, 1) := by decide +kernel
theorem dX8_of_81 : decode cX8_of 81 = .ok (.getfield 33, 3) := by decide +kernel
theorem dX8_of_84 : decode cX8_of 84 = .ok (.getfield 110, 3) := by decide +kernel
theorem dX8_of_87 : decode cX8_of 87 = .ok (.iload_n 1, 1) := by decide +kernel
theorem dX8_of_88 : decode cX8_of 88 = .ok (.iaload, 1) := by decide +kernel
theorem dX8_of_89 : decode cX8_of 89 = .ok (.ireturn, 1) := by decide +kernel
theorem dX8_of_90 : decode cX8_of 90 = .ok (.aload_n 0, 1) := by decide +kernel
theorem dX8_of_91 : decode cX8_of 91 = .ok (.getfield 33, 3) := by decide +kernel
theorem dX8_of_94 : decode cX8_of 94 = .ok (.getfield 114, 3) := by decide +kernel
theorem dX8_of_97 : decode cX8_of 97 = .ok (.iload_n 1, 1) := by decide +kernel
theorem dX8_of_98 : decode cX8_of 98 = .ok (.iaload, 1) := by decide +kernel
theorem dX8_of_99 : decode cX8_of 99 = .ok (.ifCond .ge 8, 3) := by decide +kernel
theorem dX8_of_102 : decode cX8_of 102 = .ok (.bipush (-2), 2) := by decide +kernel
theorem dX8_of_104 : decode cX8_of 104 = .ok (.goto 12, 3) := by decide +kernel
theorem dX8_of_107 : decode cX8_of 107 = .ok (.aload_n 0, 1) := by decide +kernel
theorem dX8_of_108 : decode cX8_of 108 = .ok (.getfield 33, 3) := by decide +kernel
theorem dX8_of_111 : decode cX8_of 111 = .ok (.getfield 114, 3) := by decide +kernel
theorem dX8_of_114 : decode cX8_of 114 = .ok (.iload_n 1, 1) := by decide +kernel
theorem dX8_of_115 : decode cX8_of 115 = .ok (.iaload, 1) := by decide +kernel
theorem dX8_of_116 : decode cX8_of 116 = .ok (.ireturn, 1) := by decide +kernel
theorem dX8_of_117 : decode cX8_of 117 = .ok (.aload_n 0, 1) := by decide +kernel
theorem dX8_of_118 : decode cX8_of 118 = .ok (.getfield 33, 3) := by decide +kernel
theorem dX8_of_121 : decode cX8_of 121 = .ok (.getfield 117, 3) := by decide +kernel
theorem dX8_of_124 : decode cX8_of 124 = .ok (.iload_n 1, 1) := by decide +kernel
theorem dX8_of_125 : decode cX8_of 125 = .ok (.iaload, 1) := by decide +kernel
theorem dX8_of_126 : decode cX8_of 126 = .ok (.ireturn, 1) := by decide +kernel
theorem dX8_of_127 : decode cX8_of 127 = .ok (.iload_n 1, 1) := by decide +kernel
theorem dX8_of_128 : decode cX8_of 128 = .ok (.aload_n 0, 1) := by decide +kernel
theorem dX8_of_129 : decode cX8_of 129 = .ok (.getfield 33, 3) := by decide +kernel
theorem dX8_of_132 : decode cX8_of 132 = .ok (.getfield 120, 3) := by decide +kernel
theorem dX8_of_135 : decode cX8_of 135 = .ok (.if_icmp .lt 7, 3) := by decide +kernel
theorem dX8_of_138 : decode cX8_of 138 = .ok (.iconst 1, 1) := by decide +kernel
theorem dX8_of_139 : decode cX8_of 139 = .ok (.goto 4, 3) := by decide +kernel
theorem dX8_of_142 : decode cX8_of 142 = .ok (.iconst 0, 1) := by decide +kernel
theorem dX8_of_143 : decode cX8_of 143 = .ok (.ireturn, 1) := by decide +kernel
theorem dX8_of_144 : decode cX8_of 144 = .ok (.iconst (-1), 1) := by decide +kernel
theorem dX8_of_145 : decode cX8_of 145 = .ok (.ireturn, 1) := by decide +kernel
theorem dX8_swap_0 : decode cX8_swap 0 = .ok (.aload_n 0, 1) := by decide +kernel
theorem dX8_swap_1 : decode cX8_swap 1 = .ok (.getfield 10, 3) := by decide +kernel
theorem dX8_swap_4 : decode cX8_swap 4 = .ok (.iload_n 1, 1) := by decide +kernel
theorem dX8_swap_5 : decode cX8_swap 5 = .ok (.invokevirtual 123, 3) := by decide +kernel
theorem dX8_swap_8 : decode cX8_swap 8 = .ok (.ifCond .eq 14, 3) := by decide +kernel
theorem dX8_swap_11 : decode cX8_swap 11 = .ok (.iload_n 1, 1) := by decide +kernel
theorem dX8_swap_12 : decode cX8_swap 12 = .ok (.bipush 10, 2) := by decide +kernel
theorem dX8_swap_14 : decode cX8_swap 14 = .ok (.idiv, 1) := by decide +kernel
theorem dX8_swap_15 : decode cX8_swap 15 = .ok (.iload_n 1, 1) := by decide +kernel
theorem dX8_swap_16 : decode cX8_swap 16 = .ok (.bipush 10, 2) := by decide +kernel
theorem dX8_swap_18 : decode cX8_swap 18 = .ok (.irem, 1) := by decide +kernel
theorem dX8_swap_19 : decode cX8_swap 19 = .ok (.if_icmp .ne 5, 3) := by decide +kernel
theorem dX8_swap_22 : decode cX8_swap 22 = .ok (.iconst (-1), 1) := by decide +kernel
theorem dX8_swap_23 : decode cX8_swap 23 = .ok (.ireturn, 1) := by decide +kernel
theorem dX8_swap_24 : decode cX8_swap 24 = .ok (.aload_n 0, 1) := by decide +kernel
theorem dX8_swap_25 : decode cX8_swap 25 = .ok (.getfield 33, 3) := by decide +kernel
theorem dX8_swap_28 : decode cX8_swap 28 = .ok (.invokevirtual 67, 3) := by decide +kernel
theorem dX8_swap_31 : decode cX8_swap 31 = .ok (.ifCond .eq 6, 3) := by decide +kernel
theorem dX8_swap_34 : decode cX8_swap 34 = .ok (.bipush (-5), 2) := by decide +kernel
theorem dX8_swap_36 : decode cX8_swap 36 = .ok (.ireturn, 1) := by decide +kernel
theorem dX8_swap_37 : decode cX8_swap 37 = .ok (.aload_n 0, 1) := by decide +kernel
theorem dX8_swap_38 : decode cX8_swap 38 = .ok (.getfield 33, 3) := by decide +kernel
theorem dX8_swap_41 : decode cX8_swap 41 = .ok (.iload_n 1, 1) := by decide +kernel
theorem dX8_swap_42 : decode cX8_swap 42 = .ok (.bipush 10, 2) := by decide +kernel
theorem dX8_swap_44 : decode cX8_swap 44 = .ok (.idiv, 1) := by decide +kernel
theorem dX8_swap_45 : decode cX8_swap 45 = .ok (.iload_n 1, 1) := by decide +kernel
theorem dX8_swap_46 : decode cX8_swap 46 = .ok (.bipush 10, 2) := by decide +kernel
theorem dX8_swap_48 : decode cX8_swap 48 = .ok (.irem, 1) := by decide +kernel
theorem dX8_swap_49 : decode cX8_swap 49 = .ok (.invokevirtual 126, 3) := by decide +kernel
theorem dX8_swap_52 : decode cX8_swap 52 = .ok (.aload_n 0, 1) := by decide +kernel
theorem dX8_swap_53 : decode cX8_swap 53 = .ok (.getfield 33, 3) := by decide +kernel
theorem dX8_swap_56 : decode cX8_swap 56 = .ok (.getfield 110, 3) := by decide +kernel
theorem dX8_swap_59 : decode cX8_swap 59 = .ok (.iload_n 1, 1) := by decide +kernel
theorem dX8_swap_60 : decode cX8_swap 60 = .ok (.bipush 10, 2) := by decide +kernel
theorem dX8_swap_62 : decode cX8_swap 62 = .ok (.idiv, 1) := by decide +kernel
theorem dX8_swap_63 : decode cX8_swap 63 = .ok (.iaload, 1) := by decide +kernel
theorem dX8_swap_64 : decode cX8_swap 64 = .ok (.ireturn, 1) := by decide +kernel
theorem dX8_feed_0 : decode cX8_feed 0 = .ok (.iload_n 1, 1) := by decide +kernel
theorem dX8_feed_1 : decode cX8_feed 1 = .ok (.ifCond .lt 10, 3) := by decide +kernel
theorem dX8_feed_4 : decode cX8_feed 4 = .ok (.iload_n 1, 1) := by decide +kernel
theorem dX8_feed_5 : decode cX8_feed 5 = .ok (.sipush 255, 3) := by decide +kernel
theorem dX8_feed_8 : decode cX8_feed 8 = .ok (.if_icmp .le 5, 3) := by decide +kernel
theorem dX8_feed_11 : decode cX8_feed 11 = .ok (.iconst (-1), 1) := by decide +kernel
theorem dX8_feed_12 : decode cX8_feed 12 = .ok (.ireturn, 1) := by decide +kernel
theorem dX8_feed_13 : decode cX8_feed 13 = .ok (.aload_n 0, 1) := by decide +kernel
theorem dX8_feed_14 : decode cX8_feed 14 = .ok (.getfield 26, 3) := by decide +kernel
theorem dX8_feed_17 : decode cX8_feed 17 = .ok (.iload_n 1, 1) := by decide +kernel
theorem dX8_feed_18 : decode cX8_feed 18 = .ok (.invokevirtual 130, 3) := by decide +kernel
theorem dX8_feed_21 : decode cX8_feed 21 = .ok (.ifCond .eq 13, 3) := by decide +kernel
theorem dX8_feed_24 : decode cX8_feed 24 = .ok (.aload_n 0, 1) := by decide +kernel
theorem dX8_feed_25 : decode cX8_feed 25 = .ok (.getfield 26, 3) := by decide +kernel
theorem dX8_feed_28 : decode cX8_feed 28 = .ok (.getfield 133, 3) := by decide +kernel
theorem dX8_feed_31 : decode cX8_feed 31 = .ok (.goto 5, 3) := by decide +kernel
theorem dX8_feed_34 : decode cX8_feed 34 = .ok (.bipush (-3), 2) := by decide +kernel
theorem dX8_feed_36 : decode cX8_feed 36 = .ok (.ireturn, 1) := by decide +kernel
theorem dX8_law_0 : decode cX8_law 0 = .ok (.aload_n 0, 1) := by decide +kernel
theorem dX8_law_1 : decode cX8_law 1 = .ok (.getfield 26, 3) := by decide +kernel
theorem dX8_law_4 : decode cX8_law 4 = .ok (.invokevirtual 136, 3) := by decide +kernel
theorem dX8_law_7 : decode cX8_law 7 = .ok (.istore_n 1, 1) := by decide +kernel
theorem dX8_law_8 : decode cX8_law 8 = .ok (.iload_n 1, 1) := by decide +kernel
theorem dX8_law_9 : decode cX8_law 9 = .ok (.iconst (-1), 1) := by decide +kernel
theorem dX8_law_10 : decode cX8_law 10 = .ok (.if_icmp .eq 8, 3) := by decide +kernel
theorem dX8_law_13 : decode cX8_law 13 = .ok (.bipush (-100), 2) := by decide +kernel
theorem dX8_law_15 : decode cX8_law 15 = .ok (.iload_n 1, 1) := by decide +kernel
theorem dX8_law_16 : decode cX8_law 16 = .ok (.isub, 1) := by decide +kernel
theorem dX8_law_17 : decode cX8_law 17 = .ok (.ireturn, 1) := by decide +kernel
theorem dX8_law_18 : decode cX8_law 18 = .ok (.aload_n 0, 1) := by decide +kernel
theorem dX8_law_19 : decode cX8_law 19 = .ok (.getfield 10, 3) := by decide +kernel
theorem dX8_law_22 : decode cX8_law 22 = .ok (.aload_n 0, 1) := by decide +kernel
theorem dX8_law_23 : decode cX8_law 23 = .ok (.getfield 26, 3) := by decide +kernel
theorem dX8_law_26 : decode cX8_law 26 = .ok (.aload_n 0, 1) := by decide +kernel
theorem dX8_law_27 : decode cX8_law 27 = .ok (.getfield 10, 3) := by decide +kernel
theorem dX8_law_30 : decode cX8_law 30 = .ok (.getfield 140, 3) := by decide +kernel
theorem dX8_law_33 : decode cX8_law 33 = .ok (.invokevirtual 144, 3) := by decide +kernel
theorem dX8_law_36 : decode cX8_law 36 = .ok (.putfield 140, 3) := by decide +kernel
theorem dX8_law_39 : decode cX8_law 39 = .ok (.iconst 1, 1) := by decide +kernel
theorem dX8_law_40 : decode cX8_law 40 = .ok (.ireturn, 1) := by decide +kernel
theorem dX8_turn_0 : decode cX8_turn 0 = .ok (.aload_n 0, 1) := by decide +kernel
theorem dX8_turn_1 : decode cX8_turn 1 = .ok (.getfield 33, 3) := by decide +kernel
theorem dX8_turn_4 : decode cX8_turn 4 = .ok (.aload_n 0, 1) := by decide +kernel
theorem dX8_turn_5 : decode cX8_turn 5 = .ok (.getfield 10, 3) := by decide +kernel
theorem dX8_turn_8 : decode cX8_turn 8 = .ok (.invokevirtual 148, 3) := by decide +kernel
theorem dX8_turn_11 : decode cX8_turn 11 = .ok (.ireturn, 1) := by decide +kernel
theorem dX8_open_0 : decode cX8_open 0 = .ok (.aload_n 0, 1) := by decide +kernel
theorem dX8_open_1 : decode cX8_open 1 = .ok (.getfield 33, 3) := by decide +kernel
theorem dX8_open_4 : decode cX8_open 4 = .ok (.aload_n 0, 1) := by decide +kernel
theorem dX8_open_5 : decode cX8_open 5 = .ok (.getfield 10, 3) := by decide +kernel
theorem dX8_open_8 : decode cX8_open 8 = .ok (.invokevirtual 148, 3) := by decide +kernel
theorem dX8_open_11 : decode cX8_open 11 = .ok (.istore_n 1, 1) := by decide +kernel
theorem dX8_open_12 : decode cX8_open 12 = .ok (.iload_n 1, 1) := by decide +kernel
theorem dX8_open_13 : decode cX8_open 13 = .ok (.ifCond .ge 8, 3) := by decide +kernel
theorem dX8_open_16 : decode cX8_open 16 = .ok (.bipush (-5), 2) := by decide +kernel
theorem dX8_open_18 : decode cX8_open 18 = .ok (.goto 11, 3) := by decide +kernel
theorem dX8_open_21 : decode cX8_open 21 = .ok (.aload_n 0, 1) := by decide +kernel
theorem dX8_open_22 : decode cX8_open 22 = .ok (.getfield 33, 3) := by decide +kernel
theorem dX8_open_25 : decode cX8_open 25 = .ok (.iload_n 1, 1) := by decide +kernel
theorem dX8_open_26 : decode cX8_open 26 = .ok (.invokevirtual 152, 3) := by decide +kernel
theorem dX8_open_29 : decode cX8_open 29 = .ok (.ireturn, 1) := by decide +kernel
theorem dX8_take_0 : decode cX8_take 0 = .ok (.aload_n 0, 1) := by decide +kernel
theorem dX8_take_1 : decode cX8_take 1 = .ok (.getfield 10, 3) := by decide +kernel
theorem dX8_take_4 : decode cX8_take 4 = .ok (.iload_n 1, 1) := by decide +kernel
theorem dX8_take_5 : decode cX8_take 5 = .ok (.invokevirtual 107, 3) := by decide +kernel
theorem dX8_take_8 : decode cX8_take 8 = .ok (.ifCond .ne 5, 3) := by decide +kernel
theorem dX8_take_11 : decode cX8_take 11 = .ok (.iconst (-1), 1) := by decide +kernel
theorem dX8_take_12 : decode cX8_take 12 = .ok (.ireturn, 1) := by decide +kernel
theorem dX8_take_13 : decode cX8_take 13 = .ok (.aload_n 0, 1) := by decide +kernel
theorem dX8_take_14 : decode cX8_take 14 = .ok (.getfield 33, 3) := by decide +kernel
theorem dX8_take_17 : decode cX8_take 17 = .ok (.aload_n 0, 1) := by decide +kernel
theorem dX8_take_18 : decode cX8_take 18 = .ok (.getfield 10, 3) := by decide +kernel
theorem dX8_take_21 : decode cX8_take 21 = .ok (.invokevirtual 148, 3) := by decide +kernel
theorem dX8_take_24 : decode cX8_take 24 = .ok (.istore_n 2, 1) := by decide +kernel
theorem dX8_take_25 : decode cX8_take 25 = .ok (.iload_n 2, 1) := by decide +kernel
theorem dX8_take_26 : decode cX8_take 26 = .ok (.ifCond .ge 6, 3) := by decide +kernel
theorem dX8_take_29 : decode cX8_take 29 = .ok (.bipush (-5), 2) := by decide +kernel
theorem dX8_take_31 : decode cX8_take 31 = .ok (.ireturn, 1) := by decide +kernel
theorem dX8_take_32 : decode cX8_take 32 = .ok (.aload_n 0, 1) := by decide +kernel
theorem dX8_take_33 : decode cX8_take 33 = .ok (.getfield 33, 3) := by decide +kernel
theorem dX8_take_36 : decode cX8_take 36 = .ok (.iload_n 1, 1) := by decide +kernel
theorem dX8_take_37 : decode cX8_take 37 = .ok (.aload_n 0, 1) := by decide +kernel
theorem dX8_take_38 : decode cX8_take 38 = .ok (.getfield 10, 3) := by decide +kernel
theorem dX8_take_41 : decode cX8_take 41 = .ok (.invokevirtual 155, 3) := by decide +kernel
theorem dX8_take_44 : decode cX8_take 44 = .ok (.ifCond .eq 15, 3) := by decide +kernel
theorem dX8_take_47 : decode cX8_take 47 = .ok (.aload_n 0, 1) := by decide +kernel
theorem dX8_take_48 : decode cX8_take 48 = .ok (.getfield 33, 3) := by decide +kernel
theorem dX8_take_51 : decode cX8_take 51 = .ok (.iload_n 2, 1) := by decide +kernel
theorem dX8_take_52 : decode cX8_take 52 = .ok (.iload_n 1, 1) := by decide +kernel
theorem dX8_take_53 : decode cX8_take 53 = .ok (.invokevirtual 159, 3) := by decide +kernel
theorem dX8_take_56 : decode cX8_take 56 = .ok (.goto 5, 3) := by decide +kernel
theorem dX8_take_59 : decode cX8_take 59 = .ok (.bipush (-2), 2) := by decide +kernel
theorem dX8_take_61 : decode cX8_take 61 = .ok (.ireturn, 1) := by decide +kernel
theorem dX8_goOn_0 : decode cX8_goOn 0 = .ok (.aload_n 0, 1) := by decide +kernel
theorem dX8_goOn_1 : decode cX8_goOn 1 = .ok (.getfield 33, 3) := by decide +kernel
theorem dX8_goOn_4 : decode cX8_goOn 4 = .ok (.aload_n 0, 1) := by decide +kernel
theorem dX8_goOn_5 : decode cX8_goOn 5 = .ok (.getfield 10, 3) := by decide +kernel
theorem dX8_goOn_8 : decode cX8_goOn 8 = .ok (.getfield 71, 3) := by decide +kernel
theorem dX8_goOn_11 : decode cX8_goOn 11 = .ok (.aload_n 0, 1) := by decide +kernel
theorem dX8_goOn_12 : decode cX8_goOn 12 = .ok (.getfield 10, 3) := by decide +kernel
theorem dX8_goOn_15 : decode cX8_goOn 15 = .ok (.invokevirtual 162, 3) := by decide +kernel
theorem dX8_goOn_18 : decode cX8_goOn 18 = .ok (.ireturn, 1) := by decide +kernel
theorem dX8_again_0 : decode cX8_again 0 = .ok (.aload_n 0, 1) := by decide +kernel
theorem dX8_again_1 : decode cX8_again 1 = .ok (.getfield 10, 3) := by decide +kernel
theorem dX8_again_4 : decode cX8_again 4 = .ok (.getfield 166, 3) := by decide +kernel
theorem dX8_again_7 : decode cX8_again 7 = .ok (.ifCond .eq 27, 3) := by decide +kernel
theorem dX8_again_10 : decode cX8_again 10 = .ok (.aload_n 0, 1) := by decide +kernel
theorem dX8_again_11 : decode cX8_again 11 = .ok (.getfield 33, 3) := by decide +kernel
theorem dX8_again_14 : decode cX8_again 14 = .ok (.getfield 169, 3) := by decide +kernel
theorem dX8_again_17 : decode cX8_again 17 = .ok (.ifCond .ne 17, 3) := by decide +kernel
theorem dX8_again_20 : decode cX8_again 20 = .ok (.aload_n 0, 1) := by decide +kernel
theorem dX8_again_21 : decode cX8_again 21 = .ok (.getfield 33, 3) := by decide +kernel
theorem dX8_again_24 : decode cX8_again 24 = .ok (.aload_n 0, 1) := by decide +kernel
theorem dX8_again_25 : decode cX8_again 25 = .ok (.getfield 10, 3) := by decide +kernel
theorem dX8_again_28 : decode cX8_again 28 = .ok (.invokevirtual 173, 3) := by decide +kernel
theorem dX8_again_31 : decode cX8_again 31 = .ok (.ifCond .ne 6, 3) := by decide +kernel
theorem dX8_again_34 : decode cX8_again 34 = .ok (.bipush (-5), 2) := by decide +kernel
theorem dX8_again_36 : decode cX8_again 36 = .ok (.ireturn, 1) := by decide +kernel
theorem dX8_again_37 : decode cX8_again 37 = .ok (.aload_n 0, 1) := by decide +kernel
theorem dX8_again_38 : decode cX8_again 38 = .ok (.getfield 33, 3) := by decide +kernel
theorem dX8_again_41 : decode cX8_again 41 = .ok (.aload_n 0, 1) := by decide +kernel
theorem dX8_again_42 : decode cX8_again 42 = .ok (.getfield 10, 3) := by decide +kernel
theorem dX8_again_45 : decode cX8_again 45 = .ok (.invokevirtual 177, 3) := by decide +kernel
theorem dX8_again_48 : decode cX8_again 48 = .ok (.aload_n 0, 1) := by decide +kernel
theorem dX8_again_49 : decode cX8_again 49 = .ok (.getfield 33, 3) := by decide +kernel
theorem dX8_again_52 : decode cX8_again 52 = .ok (.getfield 114, 3) := by decide +kernel
theorem dX8_again_55 : decode cX8_again 55 = .ok (.aload_n 0, 1) := by decide +kernel
theorem dX8_again_56 : decode cX8_again 56 = .ok (.getfield 33, 3) := by decide +kernel
theorem dX8_again_59 : decode cX8_again 59 = .ok (.getfield 110, 3) := by decide +kernel
theorem dX8_again_62 : decode cX8_again 62 = .ok (.iconst 0, 1) := by decide +kernel
theorem dX8_again_63 : decode cX8_again 63 = .ok (.iaload, 1) := by decide +kernel
theorem dX8_again_64 : decode cX8_again 64 = .ok (.iaload, 1) := by decide +kernel
theorem dX8_again_65 : decode cX8_again 65 = .ok (.ireturn, 1) := by decide +kernel
theorem dX8_anew_0 : decode cX8_anew 0 = .ok (.aload_n 0, 1) := by decide +kernel
theorem dX8_anew_1 : decode cX8_anew 1 = .ok (.getfield 33, 3) := by decide +kernel
theorem dX8_anew_4 : decode cX8_anew 4 = .ok (.invokevirtual 180, 3) := by decide +kernel
theorem dX8_anew_7 : decode cX8_anew 7 = .ok (.aload_n 0, 1) := by decide +kernel
theorem dX8_anew_8 : decode cX8_anew 8 = .ok (.getfield 10, 3) := by decide +kernel
theorem dX8_anew_11 : decode cX8_anew 11 = .ok (.getfield 71, 3) := by decide +kernel
theorem dX8_anew_14 : decode cX8_anew 14 = .ok (.ireturn, 1) := by decide +kernel
theorem dX8_led_0 : decode cX8_led 0 = .ok (.iload_n 1, 1) := by decide +kernel
theorem dX8_led_1 : decode cX8_led 1 = .ok (.ifCond .lt 8, 3) := by decide +kernel
theorem dX8_led_4 : decode cX8_led 4 = .ok (.iload_n 1, 1) := by decide +kernel
theorem dX8_led_5 : decode cX8_led 5 = .ok (.iconst 2, 1) := by decide +kernel
theorem dX8_led_6 : decode cX8_led 6 = .ok (.if_icmp .le 5, 3) := by decide +kernel
theorem dX8_led_9 : decode cX8_led 9 = .ok (.iconst (-1), 1) := by decide +kernel
theorem dX8_led_10 : decode cX8_led 10 = .ok (.ireturn, 1) := by decide +kernel
theorem dX8_led_11 : decode cX8_led 11 = .ok (.iload_n 1, 1) := by decide +kernel
theorem dX8_led_12 : decode cX8_led 12 = .ok (.iconst 2, 1) := by decide +kernel
theorem dX8_led_13 : decode cX8_led 13 = .ok (.if_icmp .ne 11, 3) := by decide +kernel
theorem dX8_led_16 : decode cX8_led 16 = .ok (.aload_n 0, 1) := by decide +kernel
theorem dX8_led_17 : decode cX8_led 17 = .ok (.getfield 33, 3) := by decide +kernel
theorem dX8_led_20 : decode cX8_led 20 = .ok (.getfield 183, 3) := by decide +kernel
theorem dX8_led_23 : decode cX8_led 23 = .ok (.ireturn, 1) := by decide +kernel
theorem dX8_led_24 : decode cX8_led 24 = .ok (.aload_n 0, 1) := by decide +kernel
theorem dX8_led_25 : decode cX8_led 25 = .ok (.getfield 33, 3) := by decide +kernel
theorem dX8_led_28 : decode cX8_led 28 = .ok (.getfield 183, 3) := by decide +kernel
theorem dX8_led_31 : decode cX8_led 31 = .ok (.ifCond .ne 6, 3) := by decide +kernel
theorem dX8_led_34 : decode cX8_led 34 = .ok (.bipush (-5), 2) := by decide +kernel
theorem dX8_led_36 : decode cX8_led 36 = .ok (.ireturn, 1) := by decide +kernel
theorem dX8_led_37 : decode cX8_led 37 = .ok (.iload_n 1, 1) := by decide +kernel
theorem dX8_led_38 : decode cX8_led 38 = .ok (.ifCond .ne 13, 3) := by decide +kernel
theorem dX8_led_41 : decode cX8_led 41 = .ok (.aload_n 0, 1) := by decide +kernel
theorem dX8_led_42 : decode cX8_led 42 = .ok (.getfield 33, 3) := by decide +kernel
theorem dX8_led_45 : decode cX8_led 45 = .ok (.getfield 186, 3) := by decide +kernel
theorem dX8_led_48 : decode cX8_led 48 = .ok (.goto 10, 3) := by decide +kernel
theorem dX8_led_51 : decode cX8_led 51 = .ok (.aload_n 0, 1) := by decide +kernel
theorem dX8_led_52 : decode cX8_led 52 = .ok (.getfield 33, 3) := by decide +kernel
theorem dX8_led_55 : decode cX8_led 55 = .ok (.getfield 189, 3) := by decide +kernel
theorem dX8_led_58 : decode cX8_led 58 = .ok (.ireturn, 1) := by decide +kernel
theorem dX8_evening_0 : decode cX8_evening 0 = .ok (.iload_n 2, 1) := by decide +kernel
theorem dX8_evening_1 : decode cX8_evening 1 = .ok (.ifCond .eq 8, 3) := by decide +kernel
theorem dX8_evening_4 : decode cX8_evening 4 = .ok (.iload_n 2, 1) := by decide +kernel
theorem dX8_evening_5 : decode cX8_evening 5 = .ok (.iconst 3, 1) := by decide +kernel
theorem dX8_evening_6 : decode cX8_evening 6 = .ok (.if_icmp .ne 7, 3) := by decide +kernel
theorem dX8_evening_9 : decode cX8_evening 9 = .ok (.iconst 1, 1) := by decide +kernel
theorem dX8_evening_10 : decode cX8_evening 10 = .ok (.goto 4, 3) := by decide +kernel
theorem dX8_evening_13 : decode cX8_evening 13 = .ok (.iconst 0, 1) := by decide +kernel
theorem dX8_evening_14 : decode cX8_evening 14 = .ok (.istore_n 3, 1) := by decide +kernel
theorem dX8_evening_15 : decode cX8_evening 15 = .ok (.iload_n 2, 1) := by decide +kernel
theorem dX8_evening_16 : decode cX8_evening 16 = .ok (.ifCond .lt 30, 3) := by decide +kernel
theorem dX8_evening_19 : decode cX8_evening 19 = .ok (.iload_n 2, 1) := by decide +kernel
theorem dX8_evening_20 : decode cX8_evening 20 = .ok (.iconst 3, 1) := by decide +kernel
theorem dX8_evening_21 : decode cX8_evening 21 = .ok (.if_icmp .gt 25, 3) := by decide +kernel
theorem dX8_evening_24 : decode cX8_evening 24 = .ok (.iload_n 3, 1) := by decide +kernel
theorem dX8_evening_25 : decode cX8_evening 25 = .ok (.ifCond .eq 17, 3) := by decide +kernel
theorem dX8_evening_28 : decode cX8_evening 28 = .ok (.aload_n 0, 1) := by decide +kernel
theorem dX8_evening_29 : decode cX8_evening 29 = .ok (.getfield 10, 3) := by decide +kernel
theorem dX8_evening_32 : decode cX8_evening 32 = .ok (.iload_n 1, 1) := by decide +kernel
theorem dX8_evening_33 : decode cX8_evening 33 = .ok (.invokevirtual 107, 3) := by decide +kernel
theorem dX8_evening_36 : decode cX8_evening 36 = .ok (.ifCond .ne 12, 3) := by decide +kernel
theorem dX8_evening_39 : decode cX8_evening 39 = .ok (.goto 7, 3) := by decide +kernel
theorem dX8_evening_42 : decode cX8_evening 42 = .ok (.iload_n 1, 1) := by decide +kernel
theorem dX8_evening_43 : decode cX8_evening 43 = .ok (.ifCond .eq 5, 3) := by decide +kernel
theorem dX8_evening_46 : decode cX8_evening 46 = .ok (.iconst (-1), 1) := by decide +kernel
theorem dX8_evening_47 : decode cX8_evening 47 = .ok (.ireturn, 1) := by decide +kernel
theorem dX8_evening_48 : decode cX8_evening 48 = .ok (.aload_n 0, 1) := by decide +kernel
theorem dX8_evening_49 : decode cX8_evening 49 = .ok (.getfield 45, 3) := by decide +kernel
theorem dX8_evening_52 : decode cX8_evening 52 = .ok (.aload_n 0, 1) := by decide +kernel
theorem dX8_evening_53 : decode cX8_evening 53 = .ok (.getfield 33, 3) := by decide +kernel
theorem dX8_evening_56 : decode cX8_evening 56 = .ok (.getfield 110, 3) := by decide +kernel
theorem dX8_evening_59 : decode cX8_evening 59 = .ok (.invokevirtual 192, 3) := by decide +kernel
theorem dX8_evening_62 : decode cX8_evening 62 = .ok (.astore 4, 2) := by decide +kernel
theorem dX8_evening_64 : decode cX8_evening 64 = .ok (.iload_n 2, 1) := by decide +kernel
theorem dX8_evening_65 : decode cX8_evening 65 = .ok (.tableswitch 51 0 2 #[27, 35, 41], 27) := by decide +kernel
theorem dX8_evening_92 : decode cX8_evening 92 = .ok (.aload 4, 2) := by decide +kernel
theorem dX8_evening_94 : decode cX8_evening 94 = .ok (.getfield 114, 3) := by decide +kernel
theorem dX8_evening_97 : decode cX8_evening 97 = .ok (.iload_n 1, 1) := by decide +kernel
theorem dX8_evening_98 : decode cX8_evening 98 = .ok (.iaload, 1) := by decide +kernel
theorem dX8_evening_99 : decode cX8_evening 99 = .ok (.ireturn, 1) := by decide +kernel
theorem dX8_evening_100 : decode cX8_evening 100 = .ok (.aload 4, 2) := by decide +kernel
theorem dX8_evening_102 : decode cX8_evening 102 = .ok (.getfield 183, 3) := by decide +kernel
theorem dX8_evening_105 : decode cX8_evening 105 = .ok (.ireturn, 1) := by decide +kernel
theorem dX8_evening_106 : decode cX8_evening 106 = .ok (.aload 4, 2) := by decide +kernel
theorem dX8_evening_108 : decode cX8_evening 108 = .ok (.aload_n 0, 1) := by decide +kernel
theorem dX8_evening_109 : decode cX8_evening 109 = .ok (.getfield 10, 3) := by decide +kernel
theorem dX8_evening_112 : decode cX8_evening 112 = .ok (.invokevirtual 196, 3) := by decide +kernel
theorem dX8_evening_115 : decode cX8_evening 115 = .ok (.ireturn, 1) := by decide +kernel
theorem dX8_evening_116 : decode cX8_evening 116 = .ok (.aload 4, 2) := by decide +kernel
theorem dX8_evening_118 : decode cX8_evening 118 = .ok (.getfield 117, 3) := by decide +kernel
theorem dX8_evening_121 : decode cX8_evening 121 = .ok (.iload_n 1, 1) := by decide +kernel
theorem dX8_evening_122 : decode cX8_evening 122 = .ok (.iaload, 1) := by decide +kernel
theorem dX8_evening_123 : decode cX8_evening 123 = .ok (.ireturn, 1) := by decide +kernel
theorem dX8_exact_0 : decode cX8_exact 0 = .ok (.iload_n 1, 1) := by decide +kernel
theorem dX8_exact_1 : decode cX8_exact 1 = .ok (.iconst (-1), 1) := by decide +kernel
theorem dX8_exact_2 : decode cX8_exact 2 = .ok (.if_icmp .eq 16, 3) := by decide +kernel
theorem dX8_exact_5 : decode cX8_exact 5 = .ok (.aload_n 0, 1) := by decide +kernel
theorem dX8_exact_6 : decode cX8_exact 6 = .ok (.getfield 10, 3) := by decide +kernel
theorem dX8_exact_9 : decode cX8_exact 9 = .ok (.iload_n 1, 1) := by decide +kernel
theorem dX8_exact_10 : decode cX8_exact 10 = .ok (.invokevirtual 107, 3) := by decide +kernel
theorem dX8_exact_13 : decode cX8_exact 13 = .ok (.ifCond .ne 5, 3) := by decide +kernel
theorem dX8_exact_16 : decode cX8_exact 16 = .ok (.iconst (-1), 1) := by decide +kernel
theorem dX8_exact_17 : decode cX8_exact 17 = .ok (.ireturn, 1) := by decide +kernel
theorem dX8_exact_18 : decode cX8_exact 18 = .ok (.aload_n 0, 1) := by decide +kernel
theorem dX8_exact_19 : decode cX8_exact 19 = .ok (.getfield 10, 3) := by decide +kernel
theorem dX8_exact_22 : decode cX8_exact 22 = .ok (.getfield 71, 3) := by decide +kernel
theorem dX8_exact_25 : decode cX8_exact 25 = .ok (.iconst 3, 1) := by decide +kernel
theorem dX8_exact_26 : decode cX8_exact 26 = .ok (.if_icmp .gt 14, 3) := by decide +kernel
theorem dX8_exact_29 : decode cX8_exact 29 = .ok (.aload_n 0, 1) := by decide +kernel
theorem dX8_exact_30 : decode cX8_exact 30 = .ok (.getfield 10, 3) := by decide +kernel
theorem dX8_exact_33 : decode cX8_exact 33 = .ok (.getfield 199, 3) := by decide +kernel
theorem dX8_exact_36 : decode cX8_exact 36 = .ok (.iconst 2, 1) := by decide +kernel
theorem dX8_exact_37 : decode cX8_exact 37 = .ok (.if_icmp .le 6, 3) := by decide +kernel
theorem dX8_exact_40 : decode cX8_exact 40 = .ok (.bipush (-5), 2) := by decide +kernel
theorem dX8_exact_42 : decode cX8_exact 42 = .ok (.ireturn, 1) := by decide +kernel
theorem dX8_exact_43 : decode cX8_exact 43 = .ok (.aload_n 0, 1) := by decide +kernel
theorem dX8_exact_44 : decode cX8_exact 44 = .ok (.getfield 45, 3) := by decide +kernel
theorem dX8_exact_47 : decode cX8_exact 47 = .ok (.aload_n 0, 1) := by decide +kernel
theorem dX8_exact_48 : decode cX8_exact 48 = .ok (.getfield 33, 3) := by decide +kernel
theorem dX8_exact_51 : decode cX8_exact 51 = .ok (.getfield 110, 3) := by decide +kernel
theorem dX8_exact_54 : decode cX8_exact 54 = .ok (.iload_n 1, 1) := by decide +kernel
theorem dX8_exact_55 : decode cX8_exact 55 = .ok (.invokevirtual 202, 3) := by decide +kernel
theorem dX8_exact_58 : decode cX8_exact 58 = .ok (.ireturn, 1) := by decide +kernel
theorem dX8_best_0 : decode cX8_best 0 = .ok (.iload_n 1, 1) := by decide +kernel
theorem dX8_best_1 : decode cX8_best 1 = .ok (.iconst (-1), 1) := by decide +kernel
theorem dX8_best_2 : decode cX8_best 2 = .ok (.if_icmp .eq 16, 3) := by decide +kernel
theorem dX8_best_5 : decode cX8_best 5 = .ok (.aload_n 0, 1) := by decide +kernel
theorem dX8_best_6 : decode cX8_best 6 = .ok (.getfield 10, 3) := by decide +kernel
theorem dX8_best_9 : decode cX8_best 9 = .ok (.iload_n 1, 1) := by decide +kernel
theorem dX8_best_10 : decode cX8_best 10 = .ok (.invokevirtual 107, 3) := by decide +kernel
theorem dX8_best_13 : decode cX8_best 13 = .ok (.ifCond .ne 5, 3) := by decide +kernel
theorem dX8_best_16 : decode cX8_best 16 = .ok (.iconst (-1), 1) := by decide +kernel
theorem dX8_best_17 : decode cX8_best 17 = .ok (.ireturn, 1) := by decide +kernel
theorem dX8_best_18 : decode cX8_best 18 = .ok (.aload_n 0, 1) := by decide +kernel
theorem dX8_best_19 : decode cX8_best 19 = .ok (.getfield 45, 3) := by decide +kernel
theorem dX8_best_22 : decode cX8_best 22 = .ok (.iload_n 1, 1) := by decide +kernel
theorem dX8_best_23 : decode cX8_best 23 = .ok (.invokevirtual 206, 3) := by decide +kernel
theorem dX8_best_26 : decode cX8_best 26 = .ok (.ireturn, 1) := by decide +kernel
theorem dX8_pairs_0 : decode cX8_pairs 0 = .ok (.aload_n 0, 1) := by decide +kernel
theorem dX8_pairs_1 : decode cX8_pairs 1 = .ok (.getfield 45, 3) := by decide +kernel
theorem dX8_pairs_4 : decode cX8_pairs 4 = .ok (.aload_n 0, 1) := by decide +kernel
theorem dX8_pairs_5 : decode cX8_pairs 5 = .ok (.getfield 33, 3) := by decide +kernel
theorem dX8_pairs_8 : decode cX8_pairs 8 = .ok (.getfield 110, 3) := by decide +kernel
theorem dX8_pairs_11 : decode cX8_pairs 11 = .ok (.invokevirtual 209, 3) := by decide +kernel
theorem dX8_pairs_14 : decode cX8_pairs 14 = .ok (.ireturn, 1) := by decide +kernel
theorem dX8_face_0 : decode cX8_face 0 = .ok (.aload_n 0, 1) := by decide +kernel
theorem dX8_face_1 : decode cX8_face 1 = .ok (.getfield 10, 3) := by decide +kernel
theorem dX8_face_4 : decode cX8_face 4 = .ok (.iload_n 1, 1) := by decide +kernel
theorem dX8_face_5 : decode cX8_face 5 = .ok (.invokevirtual 107, 3) := by decide +kernel
theorem dX8_face_8 : decode cX8_face 8 = .ok (.ifCond .eq 21, 3) := by decide +kernel
theorem dX8_face_11 : decode cX8_face 11 = .ok (.aload_n 0, 1) := by decide +kernel
theorem dX8_face_12 : decode cX8_face 12 = .ok (.getfield 45, 3) := by decide +kernel
theorem dX8_face_15 : decode cX8_face 15 = .ok (.aload_n 0, 1) := by decide +kernel
theorem dX8_face_16 : decode cX8_face 16 = .ok (.getfield 33, 3) := by decide +kernel
theorem dX8_face_19 : decode cX8_face 19 = .ok (.getfield 110, 3) := by decide +kernel
theorem dX8_face_22 : decode cX8_face 22 = .ok (.iload_n 1, 1) := by decide +kernel
theorem dX8_face_23 : decode cX8_face 23 = .ok (.invokevirtual 213, 3) := by decide +kernel
theorem dX8_face_26 : decode cX8_face 26 = .ok (.goto 4, 3) := by decide +kernel
theorem dX8_face_29 : decode cX8_face 29 = .ok (.iconst (-1), 1) := by decide +kernel
theorem dX8_face_30 : decode cX8_face 30 = .ok (.ireturn, 1) := by decide +kernel
theorem dX8_numbers_0 : decode cX8_numbers 0 = .ok (.iload_n 2, 1) := by decide +kernel
theorem dX8_numbers_1 : decode cX8_numbers 1 = .ok (.iconst 1, 1) := by decide +kernel
theorem dX8_numbers_2 : decode cX8_numbers 2 = .ok (.if_icmp .lt 25, 3) := by decide +kernel
theorem dX8_numbers_5 : decode cX8_numbers 5 = .ok (.iload_n 2, 1) := by decide +kernel
theorem dX8_numbers_6 : decode cX8_numbers 6 = .ok (.bipush 30, 2) := by decide +kernel
theorem dX8_numbers_8 : decode cX8_numbers 8 = .ok (.if_icmp .gt 19, 3) := by decide +kernel
theorem dX8_numbers_11 : decode cX8_numbers 11 = .ok (.iload_n 3, 1) := by decide +kernel
theorem dX8_numbers_12 : decode cX8_numbers 12 = .ok (.iconst (-1), 1) := by decide +kernel
theorem dX8_numbers_13 : decode cX8_numbers 13 = .ok (.if_icmp .eq 16, 3) := by decide +kernel
theorem dX8_numbers_16 : decode cX8_numbers 16 = .ok (.aload_n 0, 1) := by decide +kernel
theorem dX8_numbers_17 : decode cX8_numbers 17 = .ok (.getfield 10, 3) := by decide +kernel
theorem dX8_numbers_20 : decode cX8_numbers 20 = .ok (.iload_n 3, 1) := by decide +kernel
theorem dX8_numbers_21 : decode cX8_numbers 21 = .ok (.invokevirtual 107, 3) := by decide +kernel
theorem dX8_numbers_24 : decode cX8_numbers 24 = .ok (.ifCond .ne 5, 3) := by decide +kernel
theorem dX8_numbers_27 : decode cX8_numbers 27 = .ok (.iconst (-1), 1) := by decide +kernel
theorem dX8_numbers_28 : decode cX8_numbers 28 = .ok (.ireturn, 1) := by decide +kernel
theorem dX8_numbers_29 : decode cX8_numbers 29 = .ok (.aload_n 0, 1) := by decide +kernel
theorem dX8_numbers_30 : decode cX8_numbers 30 = .ok (.getfield 45, 3) := by decide +kernel
theorem dX8_numbers_33 : decode cX8_numbers 33 = .ok (.aload_n 0, 1) := by decide +kernel
theorem dX8_numbers_34 : decode cX8_numbers 34 = .ok (.getfield 33, 3) := by decide +kernel
theorem dX8_numbers_37 : decode cX8_numbers 37 = .ok (.getfield 110, 3) := by decide +kernel
theorem dX8_numbers_40 : decode cX8_numbers 40 = .ok (.iload_n 1, 1) := by decide +kernel
theorem dX8_numbers_41 : decode cX8_numbers 41 = .ok (.iload_n 2, 1) := by decide +kernel
theorem dX8_numbers_42 : decode cX8_numbers 42 = .ok (.invokevirtual 216, 3) := by decide +kernel
theorem dX8_numbers_45 : decode cX8_numbers 45 = .ok (.iload_n 3, 1) := by decide +kernel
theorem dX8_numbers_46 : decode cX8_numbers 46 = .ok (.iconst (-1), 1) := by decide +kernel
theorem dX8_numbers_47 : decode cX8_numbers 47 = .ok (.if_icmp .ne 13, 3) := by decide +kernel
theorem dX8_numbers_50 : decode cX8_numbers 50 = .ok (.aload_n 0, 1) := by decide +kernel
theorem dX8_numbers_51 : decode cX8_numbers 51 = .ok (.getfield 45, 3) := by decide +kernel
theorem dX8_numbers_54 : decode cX8_numbers 54 = .ok (.invokevirtual 220, 3) := by decide +kernel
theorem dX8_numbers_57 : decode cX8_numbers 57 = .ok (.goto 12, 3) := by decide +kernel
theorem dX8_numbers_60 : decode cX8_numbers 60 = .ok (.aload_n 0, 1) := by decide +kernel
theorem dX8_numbers_61 : decode cX8_numbers 61 = .ok (.getfield 45, 3) := by decide +kernel
theorem dX8_numbers_64 : decode cX8_numbers 64 = .ok (.getfield 223, 3) := by decide +kernel
theorem dX8_numbers_67 : decode cX8_numbers 67 = .ok (.iload_n 3, 1) := by decide +kernel
theorem dX8_numbers_68 : decode cX8_numbers 68 = .ok (.iaload, 1) := by decide +kernel
theorem dX8_numbers_69 : decode cX8_numbers 69 = .ok (.ireturn, 1) := by decide +kernel
theorem dX8_judge_0 : decode cX8_judge 0 = .ok (.aload_n 0, 1) := by decide +kernel
theorem dX8_judge_1 : decode cX8_judge 1 = .ok (.getfield 59, 3) := by decide +kernel
theorem dX8_judge_4 : decode cX8_judge 4 = .ok (.iload_n 1, 1) := by decide +kernel
theorem dX8_judge_5 : decode cX8_judge 5 = .ok (.invokevirtual 82, 3) := by decide +kernel
theorem dX8_judge_8 : decode cX8_judge 8 = .ok (.istore_n 2, 1) := by decide +kernel
theorem dX8_judge_9 : decode cX8_judge 9 = .ok (.iload_n 2, 1) := by decide +kernel
theorem dX8_judge_10 : decode cX8_judge 10 = .ok (.ifCond .eq 5, 3) := by decide +kernel
theorem dX8_judge_13 : decode cX8_judge 13 = .ok (.iload_n 2, 1) := by decide +kernel
theorem dX8_judge_14 : decode cX8_judge 14 = .ok (.ireturn, 1) := by decide +kernel
theorem dX8_judge_15 : decode cX8_judge 15 = .ok (.aload_n 0, 1) := by decide +kernel
theorem dX8_judge_16 : decode cX8_judge 16 = .ok (.getfield 45, 3) := by decide +kernel
theorem dX8_judge_19 : decode cX8_judge 19 = .ok (.aload_n 0, 1) := by decide +kernel
theorem dX8_judge_20 : decode cX8_judge 20 = .ok (.getfield 59, 3) := by decide +kernel
theorem dX8_judge_23 : decode cX8_judge 23 = .ok (.getfield 226, 3) := by decide +kernel
theorem dX8_judge_26 : decode cX8_judge 26 = .ok (.iload_n 1, 1) := by decide +kernel
theorem dX8_judge_27 : decode cX8_judge 27 = .ok (.aaload, 1) := by decide +kernel
theorem dX8_judge_28 : decode cX8_judge 28 = .ok (.aload_n 0, 1) := by decide +kernel
theorem dX8_judge_29 : decode cX8_judge 29 = .ok (.getfield 59, 3) := by decide +kernel
theorem dX8_judge_32 : decode cX8_judge 32 = .ok (.getfield 230, 3) := by decide +kernel
theorem dX8_judge_35 : decode cX8_judge 35 = .ok (.iload_n 1, 1) := by decide +kernel
theorem dX8_judge_36 : decode cX8_judge 36 = .ok (.iaload, 1) := by decide +kernel
theorem dX8_judge_37 : decode cX8_judge 37 = .ok (.invokevirtual 233, 3) := by decide +kernel
theorem dX8_judge_40 : decode cX8_judge 40 = .ok (.aload_n 0, 1) := by decide +kernel
theorem dX8_judge_41 : decode cX8_judge 41 = .ok (.getfield 45, 3) := by decide +kernel
theorem dX8_judge_44 : decode cX8_judge 44 = .ok (.aload_n 0, 1) := by decide +kernel
theorem dX8_judge_45 : decode cX8_judge 45 = .ok (.getfield 45, 3) := by decide +kernel
theorem dX8_judge_48 : decode cX8_judge 48 = .ok (.aload_n 0, 1) := by decide +kernel
theorem dX8_judge_49 : decode cX8_judge 49 = .ok (.getfield 33, 3) := by decide +kernel
theorem dX8_judge_52 : decode cX8_judge 52 = .ok (.getfield 110, 3) := by decide +kernel
theorem dX8_judge_55 : decode cX8_judge 55 = .ok (.invokevirtual 192, 3) := by decide +kernel
theorem dX8_judge_58 : decode cX8_judge 58 = .ok (.invokevirtual 237, 3) := by decide +kernel
theorem dX8_judge_61 : decode cX8_judge 61 = .ok (.ireturn, 1) := by decide +kernel
theorem dX8_lots_0 : decode cX8_lots 0 = .ok (.aload_n 0, 1) := by decide +kernel
theorem dX8_lots_1 : decode cX8_lots 1 = .ok (.getfield 59, 3) := by decide +kernel
theorem dX8_lots_4 : decode cX8_lots 4 = .ok (.iload_n 1, 1) := by decide +kernel
theorem dX8_lots_5 : decode cX8_lots 5 = .ok (.invokevirtual 82, 3) := by decide +kernel
theorem dX8_lots_8 : decode cX8_lots 8 = .ok (.istore_n 2, 1) := by decide +kernel
theorem dX8_lots_9 : decode cX8_lots 9 = .ok (.iload_n 2, 1) := by decide +kernel
theorem dX8_lots_10 : decode cX8_lots 10 = .ok (.ifCond .eq 5, 3) := by decide +kernel
theorem dX8_lots_13 : decode cX8_lots 13 = .ok (.iload_n 2, 1) := by decide +kernel
theorem dX8_lots_14 : decode cX8_lots 14 = .ok (.ireturn, 1) := by decide +kernel
theorem dX8_lots_15 : decode cX8_lots 15 = .ok (.aload_n 0, 1) := by decide +kernel
theorem dX8_lots_16 : decode cX8_lots 16 = .ok (.getfield 45, 3) := by decide +kernel
theorem dX8_lots_19 : decode cX8_lots 19 = .ok (.aload_n 0, 1) := by decide +kernel
theorem dX8_lots_20 : decode cX8_lots 20 = .ok (.getfield 59, 3) := by decide +kernel
theorem dX8_lots_23 : decode cX8_lots 23 = .ok (.getfield 226, 3) := by decide +kernel
theorem dX8_lots_26 : decode cX8_lots 26 = .ok (.iload_n 1, 1) := by decide +kernel
theorem dX8_lots_27 : decode cX8_lots 27 = .ok (.aaload, 1) := by decide +kernel
theorem dX8_lots_28 : decode cX8_lots 28 = .ok (.aload_n 0, 1) := by decide +kernel
theorem dX8_lots_29 : decode cX8_lots 29 = .ok (.getfield 59, 3) := by decide +kernel
theorem dX8_lots_32 : decode cX8_lots 32 = .ok (.getfield 230, 3) := by decide +kernel
theorem dX8_lots_35 : decode cX8_lots 35 = .ok (.iload_n 1, 1) := by decide +kernel
theorem dX8_lots_36 : decode cX8_lots 36 = .ok (.iaload, 1) := by decide +kernel
theorem dX8_lots_37 : decode cX8_lots 37 = .ok (.invokevirtual 233, 3) := by decide +kernel
theorem dX8_lots_40 : decode cX8_lots 40 = .ok (.aload_n 0, 1) := by decide +kernel
theorem dX8_lots_41 : decode cX8_lots 41 = .ok (.getfield 45, 3) := by decide +kernel
theorem dX8_lots_44 : decode cX8_lots 44 = .ok (.invokevirtual 241, 3) := by decide +kernel
theorem dX8_lots_47 : decode cX8_lots 47 = .ok (.ireturn, 1) := by decide +kernel
theorem dX8_image_0 : decode cX8_image 0 = .ok (.aload_n 0, 1) := by decide +kernel
theorem dX8_image_1 : decode cX8_image 1 = .ok (.getfield 37, 3) := by decide +kernel
theorem dX8_image_4 : decode cX8_image 4 = .ok (.aload_n 0, 1) := by decide +kernel
theorem dX8_image_5 : decode cX8_image 5 = .ok (.getfield 33, 3) := by decide +kernel
theorem dX8_image_8 : decode cX8_image 8 = .ok (.invokevirtual 244, 3) := by decide +kernel
theorem dX8_image_11 : decode cX8_image 11 = .ok (.aload_n 0, 1) := by decide +kernel
theorem dX8_image_12 : decode cX8_image 12 = .ok (.aload_n 0, 1) := by decide +kernel
theorem dX8_image_13 : decode cX8_image 13 = .ok (.getfield 10, 3) := by decide +kernel
theorem dX8_image_16 : decode cX8_image 16 = .ok (.getfield 71, 3) := by decide +kernel
theorem dX8_image_19 : decode cX8_image 19 = .ok (.putfield 63, 3) := by decide +kernel
theorem dX8_image_22 : decode cX8_image 22 = .ok (.aload_n 0, 1) := by decide +kernel
theorem dX8_image_23 : decode cX8_image 23 = .ok (.getfield 10, 3) := by decide +kernel
theorem dX8_image_26 : decode cX8_image 26 = .ok (.getfield 71, 3) := by decide +kernel
theorem dX8_image_29 : decode cX8_image 29 = .ok (.ireturn, 1) := by decide +kernel
theorem dX8_back_0 : decode cX8_back 0 = .ok (.aload_n 0, 1) := by decide +kernel
theorem dX8_back_1 : decode cX8_back 1 = .ok (.getfield 63, 3) := by decide +kernel
theorem dX8_back_4 : decode cX8_back 4 = .ok (.aload_n 0, 1) := by decide +kernel
theorem dX8_back_5 : decode cX8_back 5 = .ok (.getfield 10, 3) := by decide +kernel
theorem dX8_back_8 : decode cX8_back 8 = .ok (.getfield 71, 3) := by decide +kernel
theorem dX8_back_11 : decode cX8_back 11 = .ok (.if_icmp .eq 6, 3) := by decide +kernel
theorem dX8_back_14 : decode cX8_back 14 = .ok (.bipush (-5), 2) := by decide +kernel
theorem dX8_back_16 : decode cX8_back 16 = .ok (.ireturn, 1) := by decide +kernel
theorem dX8_back_17 : decode cX8_back 17 = .ok (.aload_n 0, 1) := by decide +kernel
theorem dX8_back_18 : decode cX8_back 18 = .ok (.getfield 33, 3) := by decide +kernel
theorem dX8_back_21 : decode cX8_back 21 = .ok (.aload_n 0, 1) := by decide +kernel
theorem dX8_back_22 : decode cX8_back 22 = .ok (.getfield 37, 3) := by decide +kernel
theorem dX8_back_25 : decode cX8_back 25 = .ok (.invokevirtual 244, 3) := by decide +kernel
theorem dX8_back_28 : decode cX8_back 28 = .ok (.aload_n 0, 1) := by decide +kernel
theorem dX8_back_29 : decode cX8_back 29 = .ok (.getfield 10, 3) := by decide +kernel
theorem dX8_back_32 : decode cX8_back 32 = .ok (.getfield 71, 3) := by decide +kernel
theorem dX8_back_35 : decode cX8_back 35 = .ok (.ireturn, 1) := by decide +kernel
theorem dX8_undo_0 : decode cX8_undo 0 = .ok (.aload_n 0, 1) := by decide +kernel
theorem dX8_undo_1 : decode cX8_undo 1 = .ok (.getfield 19, 3) := by decide +kernel
theorem dX8_undo_4 : decode cX8_undo 4 = .ok (.getfield 247, 3) := by decide +kernel
theorem dX8_undo_7 : decode cX8_undo 7 = .ok (.ifCond .gt 6, 3) := by decide +kernel
theorem dX8_undo_10 : decode cX8_undo 10 = .ok (.bipush (-5), 2) := by decide +kernel
theorem dX8_undo_12 : decode cX8_undo 12 = .ok (.ireturn, 1) := by decide +kernel
theorem dX8_undo_13 : decode cX8_undo 13 = .ok (.aload_n 0, 1) := by decide +kernel
theorem dX8_undo_14 : decode cX8_undo 14 = .ok (.getfield 19, 3) := by decide +kernel
theorem dX8_undo_17 : decode cX8_undo 17 = .ok (.aload_n 0, 1) := by decide +kernel
theorem dX8_undo_18 : decode cX8_undo 18 = .ok (.getfield 10, 3) := by decide +kernel
theorem dX8_undo_21 : decode cX8_undo 21 = .ok (.invokevirtual 250, 3) := by decide +kernel
theorem dX8_undo_24 : decode cX8_undo 24 = .ok (.aload_n 0, 1) := by decide +kernel
theorem dX8_undo_25 : decode cX8_undo 25 = .ok (.getfield 19, 3) := by decide +kernel
theorem dX8_undo_28 : decode cX8_undo 28 = .ok (.getfield 247, 3) := by decide +kernel
theorem dX8_undo_31 : decode cX8_undo 31 = .ok (.ireturn, 1) := by decide +kernel
theorem dX8_redo_0 : decode cX8_redo 0 = .ok (.aload_n 0, 1) := by decide +kernel
theorem dX8_redo_1 : decode cX8_redo 1 = .ok (.getfield 19, 3) := by decide +kernel
theorem dX8_redo_4 : decode cX8_redo 4 = .ok (.getfield 247, 3) := by decide +kernel
theorem dX8_redo_7 : decode cX8_redo 7 = .ok (.aload_n 0, 1) := by decide +kernel
theorem dX8_redo_8 : decode cX8_redo 8 = .ok (.getfield 19, 3) := by decide +kernel
theorem dX8_redo_11 : decode cX8_redo 11 = .ok (.getfield 253, 3) := by decide +kernel
theorem dX8_redo_14 : decode cX8_redo 14 = .ok (.if_icmp .lt 6, 3) := by decide +kernel
theorem dX8_redo_17 : decode cX8_redo 17 = .ok (.bipush (-5), 2) := by decide +kernel
theorem dX8_redo_19 : decode cX8_redo 19 = .ok (.ireturn, 1) := by decide +kernel
theorem dX8_redo_20 : decode cX8_redo 20 = .ok (.aload_n 0, 1) := by decide +kernel
theorem dX8_redo_21 : decode cX8_redo 21 = .ok (.getfield 19, 3) := by decide +kernel
theorem dX8_redo_24 : decode cX8_redo 24 = .ok (.aload_n 0, 1) := by decide +kernel
theorem dX8_redo_25 : decode cX8_redo 25 = .ok (.getfield 10, 3) := by decide +kernel
theorem dX8_redo_28 : decode cX8_redo 28 = .ok (.invokevirtual 256, 3) := by decide +kernel
theorem dX8_redo_31 : decode cX8_redo 31 = .ok (.aload_n 0, 1) := by decide +kernel
theorem dX8_redo_32 : decode cX8_redo 32 = .ok (.getfield 19, 3) := by decide +kernel
theorem dX8_redo_35 : decode cX8_redo 35 = .ok (.getfield 253, 3) := by decide +kernel
theorem dX8_redo_38 : decode cX8_redo 38 = .ok (.aload_n 0, 1) := by decide +kernel
theorem dX8_redo_39 : decode cX8_redo 39 = .ok (.getfield 19, 3) := by decide +kernel
theorem dX8_redo_42 : decode cX8_redo 42 = .ok (.getfield 247, 3) := by decide +kernel
theorem dX8_redo_45 : decode cX8_redo 45 = .ok (.isub, 1) := by decide +kernel
theorem dX8_redo_46 : decode cX8_redo 46 = .ok (.ireturn, 1) := by decide +kernel
theorem dX8_body_0 : decode cX8_body 0 = .ok (.iload_n 1, 1) := by decide +kernel
theorem dX8_body_1 : decode cX8_body 1 = .ok (.ifCond .lt 9, 3) := by decide +kernel
theorem dX8_body_4 : decode cX8_body 4 = .ok (.iload_n 1, 1) := by decide +kernel
theorem dX8_body_5 : decode cX8_body 5 = .ok (.bipush 8, 2) := by decide +kernel
theorem dX8_body_7 : decode cX8_body 7 = .ok (.if_icmp .lt 5, 3) := by decide +kernel
theorem dX8_body_10 : decode cX8_body 10 = .ok (.iconst (-1), 1) := by decide +kernel
theorem dX8_body_11 : decode cX8_body 11 = .ok (.ireturn, 1) := by decide +kernel
theorem dX8_body_12 : decode cX8_body 12 = .ok (.aload_n 0, 1) := by decide +kernel
theorem dX8_body_13 : decode cX8_body 13 = .ok (.getfield 52, 3) := by decide +kernel
theorem dX8_body_16 : decode cX8_body 16 = .ok (.iload_n 1, 1) := by decide +kernel
theorem dX8_body_17 : decode cX8_body 17 = .ok (.invokevirtual 259, 3) := by decide +kernel
theorem dX8_body_20 : decode cX8_body 20 = .ok (.ireturn, 1) := by decide +kernel
theorem dX8_act_0 : decode cX8_act 0 = .ok (.aload_n 0, 1) := by decide +kernel
theorem dX8_act_1 : decode cX8_act 1 = .ok (.getfield 52, 3) := by decide +kernel
theorem dX8_act_4 : decode cX8_act 4 = .ok (.iload_n 1, 1) := by decide +kernel
theorem dX8_act_5 : decode cX8_act 5 = .ok (.iload_n 2, 1) := by decide +kernel
theorem dX8_act_6 : decode cX8_act 6 = .ok (.iload_n 3, 1) := by decide +kernel
theorem dX8_act_7 : decode cX8_act 7 = .ok (.invokevirtual 262, 3) := by decide +kernel
theorem dX8_act_10 : decode cX8_act 10 = .ok (.ireturn, 1) := by decide +kernel
theorem dX8_trace_0 : decode cX8_trace 0 = .ok (.aload_n 0, 1) := by decide +kernel
theorem dX8_trace_1 : decode cX8_trace 1 = .ok (.getfield 52, 3) := by decide +kernel
theorem dX8_trace_4 : decode cX8_trace 4 = .ok (.iload_n 1, 1) := by decide +kernel
theorem dX8_trace_5 : decode cX8_trace 5 = .ok (.invokevirtual 266, 3) := by decide +kernel
theorem dX8_trace_8 : decode cX8_trace 8 = .ok (.ireturn, 1) := by decide +kernel
theorem dX8_keep_0 : decode cX8_keep 0 = .ok (.aload_n 0, 1) := by decide +kernel
theorem dX8_keep_1 : decode cX8_keep 1 = .ok (.getfield 59, 3) := by decide +kernel
theorem dX8_keep_4 : decode cX8_keep 4 = .ok (.iload_n 1, 1) := by decide +kernel
theorem dX8_keep_5 : decode cX8_keep 5 = .ok (.invokevirtual 78, 3) := by decide +kernel
theorem dX8_keep_8 : decode cX8_keep 8 = .ok (.ifCond .eq 19, 3) := by decide +kernel
theorem dX8_keep_11 : decode cX8_keep 11 = .ok (.iload_n 2, 1) := by decide +kernel
theorem dX8_keep_12 : decode cX8_keep 12 = .ok (.iconst (-1), 1) := by decide +kernel
theorem dX8_keep_13 : decode cX8_keep 13 = .ok (.if_icmp .eq 16, 3) := by decide +kernel
theorem dX8_keep_16 : decode cX8_keep 16 = .ok (.aload_n 0, 1) := by decide +kernel
theorem dX8_keep_17 : decode cX8_keep 17 = .ok (.getfield 52, 3) := by decide +kernel
theorem dX8_keep_20 : decode cX8_keep 20 = .ok (.iload_n 2, 1) := by decide +kernel
theorem dX8_keep_21 : decode cX8_keep 21 = .ok (.invokevirtual 269, 3) := by decide +kernel
theorem dX8_keep_24 : decode cX8_keep 24 = .ok (.ifCond .ne 5, 3) := by decide +kernel
theorem dX8_keep_27 : decode cX8_keep 27 = .ok (.iconst (-1), 1) := by decide +kernel
theorem dX8_keep_28 : decode cX8_keep 28 = .ok (.ireturn, 1) := by decide +kernel
theorem dX8_keep_29 : decode cX8_keep 29 = .ok (.aload_n 0, 1) := by decide +kernel
theorem dX8_keep_30 : decode cX8_keep 30 = .ok (.getfield 59, 3) := by decide +kernel
theorem dX8_keep_33 : decode cX8_keep 33 = .ok (.iload_n 1, 1) := by decide +kernel
theorem dX8_keep_34 : decode cX8_keep 34 = .ok (.iload_n 2, 1) := by decide +kernel
theorem dX8_keep_35 : decode cX8_keep 35 = .ok (.invokevirtual 272, 3) := by decide +kernel
theorem dX8_keep_38 : decode cX8_keep 38 = .ok (.iconst 1, 1) := by decide +kernel
theorem dX8_keep_39 : decode cX8_keep 39 = .ok (.ireturn, 1) := by decide +kernel
theorem dX8_row_0 : decode cX8_row 0 = .ok (.aload_n 0, 1) := by decide +kernel
theorem dX8_row_1 : decode cX8_row 1 = .ok (.getfield 59, 3) := by decide +kernel
theorem dX8_row_4 : decode cX8_row 4 = .ok (.iload_n 1, 1) := by decide +kernel
theorem dX8_row_5 : decode cX8_row 5 = .ok (.invokevirtual 78, 3) := by decide +kernel
theorem dX8_row_8 : decode cX8_row 8 = .ok (.ifCond .eq 18, 3) := by decide +kernel
theorem dX8_row_11 : decode cX8_row 11 = .ok (.iload_n 2, 1) := by decide +kernel
theorem dX8_row_12 : decode cX8_row 12 = .ok (.ifCond .lt 14, 3) := by decide +kernel
theorem dX8_row_15 : decode cX8_row 15 = .ok (.iload_n 2, 1) := by decide +kernel
theorem dX8_row_16 : decode cX8_row 16 = .ok (.iconst 4, 1) := by decide +kernel
theorem dX8_row_17 : decode cX8_row 17 = .ok (.if_icmp .gt 9, 3) := by decide +kernel
theorem dX8_row_20 : decode cX8_row 20 = .ok (.iload_n 3, 1) := by decide +kernel
theorem dX8_row_21 : decode cX8_row 21 = .ok (.bipush 60, 2) := by decide +kernel
theorem dX8_row_23 : decode cX8_row 23 = .ok (.if_icmp .le 5, 3) := by decide +kernel
theorem dX8_row_26 : decode cX8_row 26 = .ok (.iconst (-1), 1) := by decide +kernel
theorem dX8_row_27 : decode cX8_row 27 = .ok (.ireturn, 1) := by decide +kernel
theorem dX8_row_28 : decode cX8_row 28 = .ok (.iload_n 3, 1) := by decide +kernel
theorem dX8_row_29 : decode cX8_row 29 = .ok (.ifCond .ge 6, 3) := by decide +kernel
theorem dX8_row_32 : decode cX8_row 32 = .ok (.bipush (-14), 2) := by decide +kernel
theorem dX8_row_34 : decode cX8_row 34 = .ok (.ireturn, 1) := by decide +kernel
theorem dX8_row_35 : decode cX8_row 35 = .ok (.aload_n 0, 1) := by decide +kernel
theorem dX8_row_36 : decode cX8_row 36 = .ok (.getfield 59, 3) := by decide +kernel
theorem dX8_row_39 : decode cX8_row 39 = .ok (.iload_n 1, 1) := by decide +kernel
theorem dX8_row_40 : decode cX8_row 40 = .ok (.iload_n 2, 1) := by decide +kernel
theorem dX8_row_41 : decode cX8_row 41 = .ok (.iload_n 3, 1) := by decide +kernel
theorem dX8_row_42 : decode cX8_row 42 = .ok (.invokevirtual 275, 3) := by decide +kernel
theorem dX8_row_45 : decode cX8_row 45 = .ok (.iconst 1, 1) := by decide +kernel
theorem dX8_row_46 : decode cX8_row 46 = .ok (.ireturn, 1) := by decide +kernel
theorem dX8_put_0 : decode cX8_put 0 = .ok (.aload_n 0, 1) := by decide +kernel
theorem dX8_put_1 : decode cX8_put 1 = .ok (.getfield 59, 3) := by decide +kernel
theorem dX8_put_4 : decode cX8_put 4 = .ok (.iload_n 1, 1) := by decide +kernel
theorem dX8_put_5 : decode cX8_put 5 = .ok (.iload_n 2, 1) := by decide +kernel
theorem dX8_put_6 : decode cX8_put 6 = .ok (.invokevirtual 278, 3) := by decide +kernel
theorem dX8_put_9 : decode cX8_put 9 = .ok (.istore 5, 2) := by decide +kernel
theorem dX8_put_11 : decode cX8_put 11 = .ok (.iload 5, 2) := by decide +kernel
theorem dX8_put_13 : decode cX8_put 13 = .ok (.ifCond .eq 6, 3) := by decide +kernel
theorem dX8_put_16 : decode cX8_put 16 = .ok (.iload 5, 2) := by decide +kernel
theorem dX8_put_18 : decode cX8_put 18 = .ok (.ireturn, 1) := by decide +kernel
theorem dX8_put_19 : decode cX8_put 19 = .ok (.aload_n 0, 1) := by decide +kernel
theorem dX8_put_20 : decode cX8_put 20 = .ok (.getfield 59, 3) := by decide +kernel
theorem dX8_put_23 : decode cX8_put 23 = .ok (.getfield 226, 3) := by decide +kernel
theorem dX8_put_26 : decode cX8_put 26 = .ok (.iload_n 1, 1) := by decide +kernel
theorem dX8_put_27 : decode cX8_put 27 = .ok (.aaload, 1) := by decide +kernel
theorem dX8_put_28 : decode cX8_put 28 = .ok (.iload_n 2, 1) := by decide +kernel
theorem dX8_put_29 : decode cX8_put 29 = .ok (.aload_n 0, 1) := by decide +kernel
theorem dX8_put_30 : decode cX8_put 30 = .ok (.getfield 59, 3) := by decide +kernel
theorem dX8_put_33 : decode cX8_put 33 = .ok (.getfield 281, 3) := by decide +kernel
theorem dX8_put_36 : decode cX8_put 36 = .ok (.iload_n 1, 1) := by decide +kernel
theorem dX8_put_37 : decode cX8_put 37 = .ok (.iaload, 1) := by decide +kernel
theorem dX8_put_38 : decode cX8_put 38 = .ok (.lload_n 3, 1) := by decide +kernel
theorem dX8_put_39 : decode cX8_put 39 = .ok (.invokestatic 284, 3) := by decide +kernel
theorem dX8_put_42 : decode cX8_put 42 = .ok (.lastore, 1) := by decide +kernel
theorem dX8_put_43 : decode cX8_put 43 = .ok (.iconst 1, 1) := by decide +kernel
theorem dX8_put_44 : decode cX8_put 44 = .ok (.ireturn, 1) := by decide +kernel
theorem dX8_element_0 : decode cX8_element 0 = .ok (.aload_n 0, 1) := by decide +kernel
theorem dX8_element_1 : decode cX8_element 1 = .ok (.getfield 59, 3) := by decide +kernel
theorem dX8_element_4 : decode cX8_element 4 = .ok (.iload_n 1, 1) := by decide +kernel
theorem dX8_element_5 : decode cX8_element 5 = .ok (.iload_n 2, 1) := by decide +kernel
theorem dX8_element_6 : decode cX8_element 6 = .ok (.invokevirtual 278, 3) := by decide +kernel
theorem dX8_element_9 : decode cX8_element 9 = .ok (.ifCond .eq 9, 3) := by decide +kernel
theorem dX8_element_12 : decode cX8_element 12 = .ok (.ldc2_w 290, 3) := by decide +kernel
theorem dX8_element_15 : decode cX8_element 15 = .ok (.goto 14, 3) := by decide +kernel
theorem dX8_element_18 : decode cX8_element 18 = .ok (.aload_n 0, 1) := by decide +kernel
theorem dX8_element_19 : decode cX8_element 19 = .ok (.getfield 59, 3) := by decide +kernel
theorem dX8_element_22 : decode cX8_element 22 = .ok (.getfield 226, 3) := by decide +kernel
theorem dX8_element_25 : decode cX8_element 25 = .ok (.iload_n 1, 1) := by decide +kernel
theorem dX8_element_26 : decode cX8_element 26 = .ok (.aaload, 1) := by decide +kernel
theorem dX8_element_27 : decode cX8_element 27 = .ok (.iload_n 2, 1) := by decide +kernel
theorem dX8_element_28 : decode cX8_element 28 = .ok (.laload, 1) := by decide +kernel
theorem dX8_element_29 : decode cX8_element 29 = .ok (.lreturn, 1) := by decide +kernel
theorem dX8_shift_0 : decode cX8_shift 0 = .ok (.aload_n 0, 1) := by decide +kernel
theorem dX8_shift_1 : decode cX8_shift 1 = .ok (.getfield 59, 3) := by decide +kernel
theorem dX8_shift_4 : decode cX8_shift 4 = .ok (.iload_n 1, 1) := by decide +kernel
theorem dX8_shift_5 : decode cX8_shift 5 = .ok (.invokevirtual 78, 3) := by decide +kernel
theorem dX8_shift_8 : decode cX8_shift 8 = .ok (.ifCond .eq 14, 3) := by decide +kernel
theorem dX8_shift_11 : decode cX8_shift 11 = .ok (.aload_n 0, 1) := by decide +kernel
theorem dX8_shift_12 : decode cX8_shift 12 = .ok (.getfield 59, 3) := by decide +kernel
theorem dX8_shift_15 : decode cX8_shift 15 = .ok (.iload_n 3, 1) := by decide +kernel
theorem dX8_shift_16 : decode cX8_shift 16 = .ok (.invokevirtual 78, 3) := by decide +kernel
theorem dX8_shift_19 : decode cX8_shift 19 = .ok (.ifCond .ne 5, 3) := by decide +kernel
theorem dX8_shift_22 : decode cX8_shift 22 = .ok (.iconst (-1), 1) := by decide +kernel
theorem dX8_shift_23 : decode cX8_shift 23 = .ok (.ireturn, 1) := by decide +kernel
theorem dX8_shift_24 : decode cX8_shift 24 = .ok (.aload_n 0, 1) := by decide +kernel
theorem dX8_shift_25 : decode cX8_shift 25 = .ok (.getfield 59, 3) := by decide +kernel
theorem dX8_shift_28 : decode cX8_shift 28 = .ok (.iload_n 1, 1) := by decide +kernel
theorem dX8_shift_29 : decode cX8_shift 29 = .ok (.invokevirtual 292, 3) := by decide +kernel
theorem dX8_shift_32 : decode cX8_shift 32 = .ok (.ifCond .ne 14, 3) := by decide +kernel
theorem dX8_shift_35 : decode cX8_shift 35 = .ok (.aload_n 0, 1) := by decide +kernel
theorem dX8_shift_36 : decode cX8_shift 36 = .ok (.getfield 59, 3) := by decide +kernel
theorem dX8_shift_39 : decode cX8_shift 39 = .ok (.iload_n 3, 1) := by decide +kernel
theorem dX8_shift_40 : decode cX8_shift 40 = .ok (.invokevirtual 292, 3) := by decide +kernel
theorem dX8_shift_43 : decode cX8_shift 43 = .ok (.ifCond .eq 6, 3) := by decide +kernel
theorem dX8_shift_46 : decode cX8_shift 46 = .ok (.bipush (-11), 2) := by decide +kernel
theorem dX8_shift_48 : decode cX8_shift 48 = .ok (.ireturn, 1) := by decide +kernel
theorem dX8_shift_49 : decode cX8_shift 49 = .ok (.aload_n 0, 1) := by decide +kernel
theorem dX8_shift_50 : decode cX8_shift 50 = .ok (.getfield 59, 3) := by decide +kernel
theorem dX8_shift_53 : decode cX8_shift 53 = .ok (.iload_n 1, 1) := by decide +kernel
theorem dX8_shift_54 : decode cX8_shift 54 = .ok (.invokevirtual 295, 3) := by decide +kernel
theorem dX8_shift_57 : decode cX8_shift 57 = .ok (.ifCond .eq 24, 3) := by decide +kernel
theorem dX8_shift_60 : decode cX8_shift 60 = .ok (.aload_n 0, 1) := by decide +kernel
theorem dX8_shift_61 : decode cX8_shift 61 = .ok (.getfield 59, 3) := by decide +kernel
theorem dX8_shift_64 : decode cX8_shift 64 = .ok (.getfield 281, 3) := by decide +kernel
theorem dX8_shift_67 : decode cX8_shift 67 = .ok (.iload_n 1, 1) := by decide +kernel
theorem dX8_shift_68 : decode cX8_shift 68 = .ok (.iaload, 1) := by decide +kernel
theorem dX8_shift_69 : decode cX8_shift 69 = .ok (.aload_n 0, 1) := by decide +kernel
theorem dX8_shift_70 : decode cX8_shift 70 = .ok (.getfield 59, 3) := by decide +kernel
theorem dX8_shift_73 : decode cX8_shift 73 = .ok (.getfield 281, 3) := by decide +kernel
theorem dX8_shift_76 : decode cX8_shift 76 = .ok (.iload_n 3, 1) := by decide +kernel
theorem dX8_shift_77 : decode cX8_shift 77 = .ok (.iaload, 1) := by decide +kernel
theorem dX8_shift_78 : decode cX8_shift 78 = .ok (.if_icmp .eq 6, 3) := by decide +kernel
theorem dX8_shift_81 : decode cX8_shift 81 = .ok (.bipush (-12), 2) := by decide +kernel
theorem dX8_shift_83 : decode cX8_shift 83 = .ok (.ireturn, 1) := by decide +kernel
theorem dX8_shift_84 : decode cX8_shift 84 = .ok (.aload_n 0, 1) := by decide +kernel
theorem dX8_shift_85 : decode cX8_shift 85 = .ok (.getfield 59, 3) := by decide +kernel
theorem dX8_shift_88 : decode cX8_shift 88 = .ok (.iload_n 1, 1) := by decide +kernel
theorem dX8_shift_89 : decode cX8_shift 89 = .ok (.iload_n 2, 1) := by decide +kernel
theorem dX8_shift_90 : decode cX8_shift 90 = .ok (.iload 5, 2) := by decide +kernel
theorem dX8_shift_92 : decode cX8_shift 92 = .ok (.invokevirtual 298, 3) := by decide +kernel
theorem dX8_shift_95 : decode cX8_shift 95 = .ok (.ifCond .eq 18, 3) := by decide +kernel
theorem dX8_shift_98 : decode cX8_shift 98 = .ok (.aload_n 0, 1) := by decide +kernel
theorem dX8_shift_99 : decode cX8_shift 99 = .ok (.getfield 59, 3) := by decide +kernel
theorem dX8_shift_102 : decode cX8_shift 102 = .ok (.iload_n 3, 1) := by decide +kernel
theorem dX8_shift_103 : decode cX8_shift 103 = .ok (.iload 4, 2) := by decide +kernel
theorem dX8_shift_105 : decode cX8_shift 105 = .ok (.iload 5, 2) := by decide +kernel
theorem dX8_shift_107 : decode cX8_shift 107 = .ok (.invokevirtual 298, 3) := by decide +kernel
theorem dX8_shift_110 : decode cX8_shift 110 = .ok (.ifCond .ne 6, 3) := by decide +kernel
theorem dX8_shift_113 : decode cX8_shift 113 = .ok (.bipush (-13), 2) := by decide +kernel
theorem dX8_shift_115 : decode cX8_shift 115 = .ok (.ireturn, 1) := by decide +kernel
theorem dX8_shift_116 : decode cX8_shift 116 = .ok (.aload_n 0, 1) := by decide +kernel
theorem dX8_shift_117 : decode cX8_shift 117 = .ok (.getfield 59, 3) := by decide +kernel
theorem dX8_shift_120 : decode cX8_shift 120 = .ok (.getfield 226, 3) := by decide +kernel
theorem dX8_shift_123 : decode cX8_shift 123 = .ok (.iload_n 1, 1) := by decide +kernel
theorem dX8_shift_124 : decode cX8_shift 124 = .ok (.aaload, 1) := by decide +kernel
theorem dX8_shift_125 : decode cX8_shift 125 = .ok (.iload_n 2, 1) := by decide +kernel
theorem dX8_shift_126 : decode cX8_shift 126 = .ok (.aload_n 0, 1) := by decide +kernel
theorem dX8_shift_127 : decode cX8_shift 127 = .ok (.getfield 59, 3) := by decide +kernel
theorem dX8_shift_130 : decode cX8_shift 130 = .ok (.getfield 226, 3) := by decide +kernel
theorem dX8_shift_133 : decode cX8_shift 133 = .ok (.iload_n 3, 1) := by decide +kernel
theorem dX8_shift_134 : decode cX8_shift 134 = .ok (.aaload, 1) := by decide +kernel
theorem dX8_shift_135 : decode cX8_shift 135 = .ok (.iload 4, 2) := by decide +kernel
theorem dX8_shift_137 : decode cX8_shift 137 = .ok (.iload 5, 2) := by decide +kernel
theorem dX8_shift_139 : decode cX8_shift 139 = .ok (.invokestatic 302, 3) := by decide +kernel
theorem dX8_shift_142 : decode cX8_shift 142 = .ok (.iload 5, 2) := by decide +kernel
theorem dX8_shift_144 : decode cX8_shift 144 = .ok (.ireturn, 1) := by decide +kernel
theorem dX8_taken_0 : decode cX8_taken 0 = .ok (.aload_n 0, 1) := by decide +kernel
theorem dX8_taken_1 : decode cX8_taken 1 = .ok (.getfield 59, 3) := by decide +kernel
theorem dX8_taken_4 : decode cX8_taken 4 = .ok (.iload_n 1, 1) := by decide +kernel
theorem dX8_taken_5 : decode cX8_taken 5 = .ok (.invokevirtual 78, 3) := by decide +kernel
theorem dX8_taken_8 : decode cX8_taken 8 = .ok (.ifCond .eq 13, 3) := by decide +kernel
theorem dX8_taken_11 : decode cX8_taken 11 = .ok (.iload_n 2, 1) := by decide +kernel
theorem dX8_taken_12 : decode cX8_taken 12 = .ok (.ifCond .lt 9, 3) := by decide +kernel
theorem dX8_taken_15 : decode cX8_taken 15 = .ok (.iload_n 2, 1) := by decide +kernel
theorem dX8_taken_16 : decode cX8_taken 16 = .ok (.bipush 8, 2) := by decide +kernel
theorem dX8_taken_18 : decode cX8_taken 18 = .ok (.if_icmp .lt 5, 3) := by decide +kernel
theorem dX8_taken_21 : decode cX8_taken 21 = .ok (.iconst (-1), 1) := by decide +kernel
theorem dX8_taken_22 : decode cX8_taken 22 = .ok (.ireturn, 1) := by decide +kernel
theorem dX8_taken_23 : decode cX8_taken 23 = .ok (.aload_n 0, 1) := by decide +kernel
theorem dX8_taken_24 : decode cX8_taken 24 = .ok (.getfield 59, 3) := by decide +kernel
theorem dX8_taken_27 : decode cX8_taken 27 = .ok (.iload_n 1, 1) := by decide +kernel
theorem dX8_taken_28 : decode cX8_taken 28 = .ok (.invokevirtual 292, 3) := by decide +kernel
theorem dX8_taken_31 : decode cX8_taken 31 = .ok (.ifCond .eq 6, 3) := by decide +kernel
theorem dX8_taken_34 : decode cX8_taken 34 = .ok (.bipush (-11), 2) := by decide +kernel
theorem dX8_taken_36 : decode cX8_taken 36 = .ok (.ireturn, 1) := by decide +kernel
theorem dX8_taken_37 : decode cX8_taken 37 = .ok (.aload_n 0, 1) := by decide +kernel
theorem dX8_taken_38 : decode cX8_taken 38 = .ok (.getfield 59, 3) := by decide +kernel
theorem dX8_taken_41 : decode cX8_taken 41 = .ok (.iload_n 1, 1) := by decide +kernel
theorem dX8_taken_42 : decode cX8_taken 42 = .ok (.invokevirtual 295, 3) := by decide +kernel
theorem dX8_taken_45 : decode cX8_taken 45 = .ok (.ifCond .eq 7, 3) := by decide +kernel
theorem dX8_taken_48 : decode cX8_taken 48 = .ok (.iconst (-1), 1) := by decide +kernel
theorem dX8_taken_49 : decode cX8_taken 49 = .ok (.goto 19, 3) := by decide +kernel
theorem dX8_taken_52 : decode cX8_taken 52 = .ok (.aload_n 0, 1) := by decide +kernel
theorem dX8_taken_53 : decode cX8_taken 53 = .ok (.getfield 52, 3) := by decide +kernel
theorem dX8_taken_56 : decode cX8_taken 56 = .ok (.aload_n 0, 1) := by decide +kernel
theorem dX8_taken_57 : decode cX8_taken 57 = .ok (.getfield 59, 3) := by decide +kernel
theorem dX8_taken_60 : decode cX8_taken 60 = .ok (.getfield 230, 3) := by decide +kernel
theorem dX8_taken_63 : decode cX8_taken 63 = .ok (.iload_n 1, 1) := by decide +kernel
theorem dX8_taken_64 : decode cX8_taken 64 = .ok (.iaload, 1) := by decide +kernel
theorem dX8_taken_65 : decode cX8_taken 65 = .ok (.invokevirtual 308, 3) := by decide +kernel
theorem dX8_taken_68 : decode cX8_taken 68 = .ok (.istore_n 3, 1) := by decide +kernel
theorem dX8_taken_69 : decode cX8_taken 69 = .ok (.iload_n 3, 1) := by decide +kernel
theorem dX8_taken_70 : decode cX8_taken 70 = .ok (.iload_n 2, 1) := by decide +kernel
theorem dX8_taken_71 : decode cX8_taken 71 = .ok (.invokestatic 311, 3) := by decide +kernel
theorem dX8_taken_74 : decode cX8_taken 74 = .ok (.ifCond .eq 7, 3) := by decide +kernel
theorem dX8_taken_77 : decode cX8_taken 77 = .ok (.iload_n 3, 1) := by decide +kernel
theorem dX8_taken_78 : decode cX8_taken 78 = .ok (.goto 5, 3) := by decide +kernel
theorem dX8_taken_81 : decode cX8_taken 81 = .ok (.bipush (-12), 2) := by decide +kernel
theorem dX8_taken_83 : decode cX8_taken 83 = .ok (.ireturn, 1) := by decide +kernel
theorem dX8_count_0 : decode cX8_count 0 = .ok (.iload_n 1, 1) := by decide +kernel
theorem dX8_count_1 : decode cX8_count 1 = .ok (.tableswitch 111 0 6 #[43, 51, 67, 79, 87, 95, 103], 43) := by decide +kernel
theorem dX8_count_44 : decode cX8_count 44 = .ok (.aload_n 0, 1) := by decide +kernel
theorem dX8_count_45 : decode cX8_count 45 = .ok (.getfield 10, 3) := by decide +kernel
theorem dX8_count_48 : decode cX8_count 48 = .ok (.getfield 71, 3) := by decide +kernel
theorem dX8_count_51 : decode cX8_count 51 = .ok (.ireturn, 1) := by decide +kernel
theorem dX8_count_52 : decode cX8_count 52 = .ok (.aload_n 0, 1) := by decide +kernel
theorem dX8_count_53 : decode cX8_count 53 = .ok (.getfield 10, 3) := by decide +kernel
theorem dX8_count_56 : decode cX8_count 56 = .ok (.getfield 71, 3) := by decide +kernel
theorem dX8_count_59 : decode cX8_count 59 = .ok (.aload_n 0, 1) := by decide +kernel
theorem dX8_count_60 : decode cX8_count 60 = .ok (.getfield 33, 3) := by decide +kernel
theorem dX8_count_63 : decode cX8_count 63 = .ok (.getfield 120, 3) := by decide +kernel
theorem dX8_count_66 : decode cX8_count 66 = .ok (.isub, 1) := by decide +kernel
theorem dX8_count_67 : decode cX8_count 67 = .ok (.ireturn, 1) := by decide +kernel
theorem dX8_count_68 : decode cX8_count 68 = .ok (.aload_n 0, 1) := by decide +kernel
theorem dX8_count_69 : decode cX8_count 69 = .ok (.getfield 33, 3) := by decide +kernel
theorem dX8_count_72 : decode cX8_count 72 = .ok (.aload_n 0, 1) := by decide +kernel
theorem dX8_count_73 : decode cX8_count 73 = .ok (.getfield 10, 3) := by decide +kernel
theorem dX8_count_76 : decode cX8_count 76 = .ok (.invokevirtual 314, 3) := by decide +kernel
theorem dX8_count_79 : decode cX8_count 79 = .ok (.ireturn, 1) := by decide +kernel
theorem dX8_count_80 : decode cX8_count 80 = .ok (.aload_n 0, 1) := by decide +kernel
theorem dX8_count_81 : decode cX8_count 81 = .ok (.getfield 26, 3) := by decide +kernel
theorem dX8_count_84 : decode cX8_count 84 = .ok (.getfield 133, 3) := by decide +kernel
theorem dX8_count_87 : decode cX8_count 87 = .ok (.ireturn, 1) := by decide +kernel
theorem dX8_count_88 : decode cX8_count 88 = .ok (.aload_n 0, 1) := by decide +kernel
theorem dX8_count_89 : decode cX8_count 89 = .ok (.getfield 19, 3) := by decide +kernel
theorem dX8_count_92 : decode cX8_count 92 = .ok (.getfield 247, 3) := by decide +kernel
theorem dX8_count_95 : decode cX8_count 95 = .ok (.ireturn, 1) := by decide +kernel
theorem dX8_count_96 : decode cX8_count 96 = .ok (.aload_n 0, 1) := by decide +kernel
theorem dX8_count_97 : decode cX8_count 97 = .ok (.getfield 52, 3) := by decide +kernel
theorem dX8_count_100 : decode cX8_count 100 = .ok (.getfield 317, 3) := by decide +kernel
theorem dX8_count_103 : decode cX8_count 103 = .ok (.ireturn, 1) := by decide +kernel
theorem dX8_count_104 : decode cX8_count 104 = .ok (.aload_n 0, 1) := by decide +kernel
theorem dX8_count_105 : decode cX8_count 105 = .ok (.getfield 52, 3) := by decide +kernel
theorem dX8_count_108 : decode cX8_count 108 = .ok (.getfield 320, 3) := by decide +kernel
theorem dX8_count_111 : decode cX8_count 111 = .ok (.ireturn, 1) := by decide +kernel
theorem dX8_count_112 : decode cX8_count 112 = .ok (.iconst (-1), 1) := by decide +kernel
theorem dX8_count_113 : decode cX8_count 113 = .ok (.ireturn, 1) := by decide +kernel
theorem dX8_welcome_0 : decode cX8_welcome 0 = .ok (.aload_n 0, 1) := by decide +kernel
theorem dX8_welcome_1 : decode cX8_welcome 1 = .ok (.getfield 10, 3) := by decide +kernel
theorem dX8_welcome_4 : decode cX8_welcome 4 = .ok (.getfield 71, 3) := by decide +kernel
theorem dX8_welcome_7 : decode cX8_welcome 7 = .ok (.istore_n 2, 1) := by decide +kernel
theorem dX8_welcome_8 : decode cX8_welcome 8 = .ok (.iload_n 2, 1) := by decide +kernel
theorem dX8_welcome_9 : decode cX8_welcome 9 = .ok (.bipush 7, 2) := by decide +kernel
theorem dX8_welcome_11 : decode cX8_welcome 11 = .ok (.if_icmp .lt 6, 3) := by decide +kernel
theorem dX8_welcome_14 : decode cX8_welcome 14 = .ok (.bipush (-3), 2) := by decide +kernel
theorem dX8_welcome_16 : decode cX8_welcome 16 = .ok (.ireturn, 1) := by decide +kernel
theorem dX8_welcome_17 : decode cX8_welcome 17 = .ok (.aload_n 0, 1) := by decide +kernel
theorem dX8_welcome_18 : decode cX8_welcome 18 = .ok (.getfield 10, 3) := by decide +kernel
theorem dX8_welcome_21 : decode cX8_welcome 21 = .ok (.getfield 323, 3) := by decide +kernel
theorem dX8_welcome_24 : decode cX8_welcome 24 = .ok (.iload_n 2, 1) := by decide +kernel
theorem dX8_welcome_25 : decode cX8_welcome 25 = .ok (.iload_n 1, 1) := by decide +kernel
theorem dX8_welcome_26 : decode cX8_welcome 26 = .ok (.iastore, 1) := by decide +kernel
theorem dX8_welcome_27 : decode cX8_welcome 27 = .ok (.aload_n 0, 1) := by decide +kernel
theorem dX8_welcome_28 : decode cX8_welcome 28 = .ok (.getfield 33, 3) := by decide +kernel
theorem dX8_welcome_31 : decode cX8_welcome 31 = .ok (.getfield 110, 3) := by decide +kernel
theorem dX8_welcome_34 : decode cX8_welcome 34 = .ok (.iload_n 2, 1) := by decide +kernel
theorem dX8_welcome_35 : decode cX8_welcome 35 = .ok (.iload_n 2, 1) := by decide +kernel
theorem dX8_welcome_36 : decode cX8_welcome 36 = .ok (.iastore, 1) := by decide +kernel
theorem dX8_welcome_37 : decode cX8_welcome 37 = .ok (.aload_n 0, 1) := by decide +kernel
theorem dX8_welcome_38 : decode cX8_welcome 38 = .ok (.getfield 10, 3) := by decide +kernel
theorem dX8_welcome_41 : decode cX8_welcome 41 = .ok (.iload_n 2, 1) := by decide +kernel
theorem dX8_welcome_42 : decode cX8_welcome 42 = .ok (.iconst 1, 1) := by decide +kernel
theorem dX8_welcome_43 : decode cX8_welcome 43 = .ok (.iadd, 1) := by decide +kernel
theorem dX8_welcome_44 : decode cX8_welcome 44 = .ok (.putfield 71, 3) := by decide +kernel
theorem dX8_welcome_47 : decode cX8_welcome 47 = .ok (.iload_n 2, 1) := by decide +kernel
theorem dX8_welcome_48 : decode cX8_welcome 48 = .ok (.ireturn, 1) := by decide +kernel
theorem dX8_welcomeFrom_0 : decode cX8_welcomeFrom 0 = .ok (.aload_n 0, 1) := by decide +kernel
theorem dX8_welcomeFrom_1 : decode cX8_welcomeFrom 1 = .ok (.getfield 59, 3) := by decide +kernel
theorem dX8_welcomeFrom_4 : decode cX8_welcomeFrom 4 = .ok (.iload_n 1, 1) := by decide +kernel
theorem dX8_welcomeFrom_5 : decode cX8_welcomeFrom 5 = .ok (.iload_n 2, 1) := by decide +kernel
theorem dX8_welcomeFrom_6 : decode cX8_welcomeFrom 6 = .ok (.invokevirtual 278, 3) := by decide +kernel
theorem dX8_welcomeFrom_9 : decode cX8_welcomeFrom 9 = .ok (.ifCond .eq 5, 3) := by decide +kernel
theorem dX8_welcomeFrom_12 : decode cX8_welcomeFrom 12 = .ok (.iconst 0, 1) := by decide +kernel
theorem dX8_welcomeFrom_13 : decode cX8_welcomeFrom 13 = .ok (.ireturn, 1) := by decide +kernel
theorem dX8_welcomeFrom_14 : decode cX8_welcomeFrom 14 = .ok (.aload_n 0, 1) := by decide +kernel
theorem dX8_welcomeFrom_15 : decode cX8_welcomeFrom 15 = .ok (.getfield 59, 3) := by decide +kernel
theorem dX8_welcomeFrom_18 : decode cX8_welcomeFrom 18 = .ok (.getfield 226, 3) := by decide +kernel
theorem dX8_welcomeFrom_21 : decode cX8_welcomeFrom 21 = .ok (.iload_n 1, 1) := by decide +kernel
theorem dX8_welcomeFrom_22 : decode cX8_welcomeFrom 22 = .ok (.aaload, 1) := by decide +kernel
theorem dX8_welcomeFrom_23 : decode cX8_welcomeFrom 23 = .ok (.iload_n 2, 1) := by decide +kernel
theorem dX8_welcomeFrom_24 : decode cX8_welcomeFrom 24 = .ok (.laload, 1) := by decide +kernel
theorem dX8_welcomeFrom_25 : decode cX8_welcomeFrom 25 = .ok (.l2i, 1) := by decide +kernel
theorem dX8_welcomeFrom_26 : decode cX8_welcomeFrom 26 = .ok (.istore_n 3, 1) := by decide +kernel
theorem dX8_welcomeFrom_27 : decode cX8_welcomeFrom 27 = .ok (.iload_n 3, 1) := by decide +kernel
theorem dX8_welcomeFrom_28 : decode cX8_welcomeFrom 28 = .ok (.ifCond .lt 20, 3) := by decide +kernel
theorem dX8_welcomeFrom_31 : decode cX8_welcomeFrom 31 = .ok (.iload_n 3, 1) := by decide +kernel
theorem dX8_welcomeFrom_32 : decode cX8_welcomeFrom 32 = .ok (.iconst 2, 1) := by decide +kernel
theorem dX8_welcomeFrom_33 : decode cX8_welcomeFrom 33 = .ok (.if_icmp .gt 15, 3) := by decide +kernel
theorem dX8_welcomeFrom_36 : decode cX8_welcomeFrom 36 = .ok (.aload_n 0, 1) := by decide +kernel
theorem dX8_welcomeFrom_37 : decode cX8_welcomeFrom 37 = .ok (.iload_n 3, 1) := by decide +kernel
theorem dX8_welcomeFrom_38 : decode cX8_welcomeFrom 38 = .ok (.invokevirtual 74, 3) := by decide +kernel
theorem dX8_welcomeFrom_41 : decode cX8_welcomeFrom 41 = .ok (.ifCond .lt 7, 3) := by decide +kernel
theorem dX8_welcomeFrom_44 : decode cX8_welcomeFrom 44 = .ok (.iconst 1, 1) := by decide +kernel
theorem dX8_welcomeFrom_45 : decode cX8_welcomeFrom 45 = .ok (.goto 4, 3) := by decide +kernel
theorem dX8_welcomeFrom_48 : decode cX8_welcomeFrom 48 = .ok (.iconst 0, 1) := by decide +kernel
theorem dX8_welcomeFrom_49 : decode cX8_welcomeFrom 49 = .ok (.ireturn, 1) := by decide +kernel
theorem dX9_init_0 : decode cX9_init 0 = .ok (.aload_n 0, 1) := by decide +kernel
theorem dX9_init_1 : decode cX9_init 1 = .ok (.invokespecial 1, 3) := by decide +kernel
theorem dX9_init_4 : decode cX9_init 4 = .ok (.aload_n 0, 1) := by decide +kernel
theorem dX9_init_5 : decode cX9_init 5 = .ok (.bipush 49, 2) := by decide +kernel
theorem dX9_init_7 : decode cX9_init 7 = .ok (.newarray .int, 2) := by decide +kernel
theorem dX9_init_9 : decode cX9_init 9 = .ok (.putfield 7, 3) := by decide +kernel
theorem dX9_init_12 : decode cX9_init 12 = .ok (.aload_n 0, 1) := by decide +kernel
theorem dX9_init_13 : decode cX9_init 13 = .ok (.bipush 49, 2) := by decide +kernel
theorem dX9_init_15 : decode cX9_init 15 = .ok (.newarray .int, 2) := by decide +kernel
theorem dX9_init_17 : decode cX9_init 17 = .ok (.dup, 1) := by decide +kernel
theorem dX9_init_18 : decode cX9_init 18 = .ok (.iconst 0, 1) := by decide +kernel
theorem dX9_init_19 : decode cX9_init 19 = .ok (.iconst 5, 1) := by decide +kernel
theorem dX9_init_20 : decode cX9_init 20 = .ok (.iastore, 1) := by decide +kernel
theorem dX9_init_21 : decode cX9_init 21 = .ok (.dup, 1) := by decide +kernel
theorem dX9_init_22 : decode cX9_init 22 = .ok (.iconst 1, 1) := by decide +kernel
theorem dX9_init_23 : decode cX9_init 23 = .ok (.iconst 5, 1) := by decide +kernel
theorem dX9_init_24 : decode cX9_init 24 = .ok (.iastore, 1) := by decide +kernel
theorem dX9_init_25 : decode cX9_init 25 = .ok (.dup, 1) := by decide +kernel
theorem dX9_init_26 : decode cX9_init 26 = .ok (.iconst 2, 1) := by decide +kernel
theorem dX9_init_27 : decode cX9_init 27 = .ok (.iconst 5, 1) := by decide +kernel
theorem dX9_init_28 : decode cX9_init 28 = .ok (.iastore, 1) := by decide +kernel
theorem dX9_init_29 : decode cX9_init 29 = .ok (.dup, 1) := by decide +kernel
theorem dX9_init_30 : decode cX9_init 30 = .ok (.iconst 3, 1) := by decide +kernel
theorem dX9_init_31 : decode cX9_init 31 = .ok (.iconst 5, 1) := by decide +kernel
theorem dX9_init_32 : decode cX9_init 32 = .ok (.iastore, 1) := by decide +kernel
theorem dX9_init_33 : decode cX9_init 33 = .ok (.dup, 1) := by decide +kernel
theorem dX9_init_34 : decode cX9_init 34 = .ok (.iconst 4, 1) := by decide +kernel
theorem dX9_init_35 : decode cX9_init 35 = .ok (.iconst 5, 1) := by decide +kernel
theorem dX9_init_36 : decode cX9_init 36 = .ok (.iastore, 1) := by decide +kernel
theorem dX9_init_37 : decode cX9_init 37 = .ok (.dup, 1) := by decide +kernel
theorem dX9_init_38 : decode cX9_init 38 = .ok (.iconst 5, 1) := by decide +kernel
theorem dX9_init_39 : decode cX9_init 39 = .ok (.iconst 5, 1) := by decide +kernel
theorem dX9_init_40 : decode cX9_init 40 = .ok (.iastore, 1) := by decide +kernel
theorem dX9_init_41 : decode cX9_init 41 = .ok (.dup, 1) := by decide +kernel
theorem dX9_init_42 : decode cX9_init 42 = .ok (.bipush 6, 2) := by decide +kernel
theorem dX9_init_44 : decode cX9_init 44 = .ok (.iconst 5, 1) := by decide +kernel
theorem dX9_init_45 : decode cX9_init 45 = .ok (.iastore, 1) := by decide +kernel
theorem dX9_init_46 : decode cX9_init 46 = .ok (.dup, 1) := by decide +kernel
theorem dX9_init_47 : decode cX9_init 47 = .ok (.bipush 7, 2) := by decide +kernel
theorem dX9_init_49 : decode cX9_init 49 = .ok (.iconst 5, 1) := by decide +kernel
theorem dX9_init_50 : decode cX9_init 50 = .ok (.iastore, 1) := by decide +kernel
theorem dX9_init_51 : decode cX9_init 51 = .ok (.dup, 1) := by decide +kernel
theorem dX9_init_52 : decode cX9_init 52 = .ok (.bipush 8, 2) := by decide +kernel
theorem dX9_init_54 : decode cX9_init 54 = .ok (.iconst 5, 1) := by decide +kernel
theorem dX9_init_55 : decode cX9_init 55 = .ok (.iastore, 1) := by decide +kernel
theorem dX9_init_56 : decode cX9_init 56 = .ok (.dup, 1) := by decide +kernel
theorem dX9_init_57 : decode cX9_init 57 = .ok (.bipush 9, 2) := by decide +kernel
theorem dX9_init_59 : decode cX9_init 59 = .ok (.iconst 5, 1) := by decide +kernel
theorem dX9_init_60 : decode cX9_init 60 = .ok (.iastore, 1) := by decide +kernel
theorem dX9_init_61 : decode cX9_init 61 = .ok (.dup, 1) := by decide +kernel
theorem dX9_init_62 : decode cX9_init 62 = .ok (.bipush 10, 2) := by decide +kernel
theorem dX9_init_64 : decode cX9_init 64 = .ok (.iconst 5, 1) := by decide +kernel
theorem dX9_init_65 : decode cX9_init 65 = .ok (.iastore, 1) := by decide +kernel
theorem dX9_init_66 : decode cX9_init 66 = .ok (.dup, 1) := by decide +kernel
theorem dX9_init_67 : decode cX9_init 67 = .ok (.bipush 11, 2) := by decide +kernel
theorem dX9_init_69 : decode cX9_init 69 = .ok (.iconst 5, 1) := by decide +kernel
theorem dX9_init_70 : decode cX9_init 70 = .ok (.iastore, 1) := by decide +kernel
theorem dX9_init_71 : decode cX9_init 71 = .ok (.dup, 1) := by decide +kernel
theorem dX9_init_72 : decode cX9_init 72 = .ok (.bipush 12, 2) := by decide +kernel
theorem dX9_init_74 : decode cX9_init 74 = .ok (.iconst 5, 1) := by decide +kernel
theorem dX9_init_75 : decode cX9_init 75 = .ok (.iastore, 1) := by decide +kernel
theorem dX9_init_76 : decode cX9_init 76 = .ok (.dup, 1) := by decide +kernel
theorem dX9_init_77 : decode cX9_init 77 = .ok (.bipush 13, 2) := by decide +kernel
theorem dX9_init_79 : decode cX9_init 79 = .ok (.iconst 5, 1) := by decide +kernel
theorem dX9_init_80 : decode cX9_init 80 = .ok (.iastore, 1) := by decide +kernel
theorem dX9_init_81 : decode cX9_init 81 = .ok (.dup, 1) := by decide +kernel
theorem dX9_init_82 : decode cX9_init 82 = .ok (.bipush 14, 2) := by decide +kernel
theorem dX9_init_84 : decode cX9_init 84 = .ok (.iconst 5, 1) := by decide +kernel
theorem dX9_init_85 : decode cX9_init 85 = .ok (.iastore, 1) := by decide +kernel
theorem dX9_init_86 : decode cX9_init 86 = .ok (.dup, 1) := by decide +kernel
theorem dX9_init_87 : decode cX9_init 87 = .ok (.bipush 15, 2) := by decide +kernel
theorem dX9_init_89 : decode cX9_init 89 = .ok (.iconst 5, 1) := by decide +kernel
theorem dX9_init_90 : decode cX9_init 90 = .ok (.iastore, 1) := by decide +kernel
theorem dX9_init_91 : decode cX9_init 91 = .ok (.dup, 1) := by decide +kernel
theorem dX9_init_92 : decode cX9_init 92 = .ok (.bipush 16, 2) := by decide +kernel
theorem dX9_init_94 : decode cX9_init 94 = .ok (.iconst 5, 1) := by decide +kernel
theorem dX9_init_95 : decode cX9_init 95 = .ok (.iastore, 1) := by decide +kernel
theorem dX9_init_96 : decode cX9_init 96 = .ok (.dup, 1) := by decide +kernel
theorem dX9_init_97 : decode cX9_init 97 = .ok (.bipush 17, 2) := by decide +kernel
theorem dX9_init_99 : decode cX9_init 99 = .ok (.iconst 5, 1) := by decide +kernel
theorem dX9_init_100 : decode cX9_init 100 = .ok (.iastore, 1) := by decide +kernel
theorem dX9_init_101 : decode cX9_init 101 = .ok (.dup, 1) := by decide +kernel
theorem dX9_init_102 : decode cX9_init 102 = .ok (.bipush 18, 2) := by decide +kernel
theorem dX9_init_104 : decode cX9_init 104 = .ok (.iconst 5, 1) := by decide +kernel
theorem dX9_init_105 : decode cX9_init 105 = .ok (.iastore, 1) := by decide +kernel
theorem dX9_init_106 : decode cX9_init 106 = .ok (.dup, 1) := by decide +kernel
theorem dX9_init_107 : decode cX9_init 107 = .ok (.bipush 19, 2) := by decide +kernel
theorem dX9_init_109 : decode cX9_init 109 = .ok (.iconst 5, 1) := by decide +kernel
theorem dX9_init_110 : decode cX9_init 110 = .ok (.iastore, 1) := by decide +kernel
theorem dX9_init_111 : decode cX9_init 111 = .ok (.dup, 1) := by decide +kernel
theorem dX9_init_112 : decode cX9_init 112 = .ok (.bipush 20, 2) := by decide +kernel
theorem dX9_init_114 : decode cX9_init 114 = .ok (.iconst 5, 1) := by decide +kernel
theorem dX9_init_115 : decode cX9_init 115 = .ok (.iastore, 1) := by decide +kernel
theorem dX9_init_116 : decode cX9_init 116 = .ok (.dup, 1) := by decide +kernel
theorem dX9_init_117 : decode cX9_init 117 = .ok (.bipush 21, 2) := by decide +kernel
theorem dX9_init_119 : decode cX9_init 119 = .ok (.iconst 5, 1) := by decide +kernel
theorem dX9_init_120 : decode cX9_init 120 = .ok (.iastore, 1) := by decide +kernel
theorem dX9_init_121 : decode cX9_init 121 = .ok (.dup, 1) := by decide +kernel
theorem dX9_init_122 : decode cX9_init 122 = .ok (.bipush 22, 2) := by decide +kernel
theorem dX9_init_124 : decode cX9_init 124 = .ok (.iconst 5, 1) := by decide +kernel
theorem dX9_init_125 : decode cX9_init 125 = .ok (.iastore, 1) := by decide +kernel
theorem dX9_init_126 : decode cX9_init 126 = .ok (.dup, 1) := by decide +kernel
theorem dX9_init_127 : decode cX9_init 127 = .ok (.bipush 23, 2) := by decide +kernel
theorem dX9_init_129 : decode cX9_init 129 = .ok (.iconst 5, 1) := by decide +kernel
theorem dX9_init_130 : decode cX9_init 130 = .ok (.iastore, 1) := by decide +kernel
theorem dX9_init_131 : decode cX9_init 131 = .ok (.dup, 1) := by decide +kernel
theorem dX9_init_132 : decode cX9_init 132 = .ok (.bipush 24, 2) := by decide +kernel
theorem dX9_init_134 : decode cX9_init 134 = .ok (.iconst 5, 1) := by decide +kernel
theorem dX9_init_135 : decode cX9_init 135 = .ok (.iastore, 1) := by decide +kernel
theorem dX9_init_136 : decode cX9_init 136 = .ok (.dup, 1) := by decide +kernel
theorem dX9_init_137 : decode cX9_init 137 = .ok (.bipush 25, 2) := by decide +kernel
theorem dX9_init_139 : decode cX9_init 139 = .ok (.iconst 5, 1) := by decide +kernel
theorem dX9_init_140 : decode cX9_init 140 = .ok (.iastore, 1) := by decide +kernel
theorem dX9_init_141 : decode cX9_init 141 = .ok (.dup, 1) := by decide +kernel
theorem dX9_init_142 : decode cX9_init 142 = .ok (.bipush 26, 2) := by decide +kernel
theorem dX9_init_144 : decode cX9_init 144 = .ok (.iconst 5, 1) := by decide +kernel
theorem dX9_init_145 : decode cX9_init 145 = .ok (.iastore, 1) := by decide +kernel
theorem dX9_init_146 : decode cX9_init 146 = .ok (.dup, 1) := by decide +kernel
theorem dX9_init_147 : decode cX9_init 147 = .ok (.bipush 27, 2) := by decide +kernel
theorem dX9_init_149 : decode cX9_init 149 = .ok (.iconst 5, 1) := by decide +kernel
theorem dX9_init_150 : decode cX9_init 150 = .ok (.iastore, 1) := by decide +kernel
theorem dX9_init_151 : decode cX9_init 151 = .ok (.dup, 1) := by decide +kernel
theorem dX9_init_152 : decode cX9_init 152 = .ok (.bipush 28, 2) := by decide +kernel
theorem dX9_init_154 : decode cX9_init 154 = .ok (.iconst 5, 1) := by decide +kernel
theorem dX9_init_155 : decode cX9_init 155 = .ok (.iastore, 1) := by decide +kernel
theorem dX9_init_156 : decode cX9_init 156 = .ok (.dup, 1) := by decide +kernel
theorem dX9_init_157 : decode cX9_init 157 = .ok (.bipush 29, 2) := by decide +kernel
theorem dX9_init_159 : decode cX9_init 159 = .ok (.iconst 5, 1) := by decide +kernel
theorem dX9_init_160 : decode cX9_init 160 = .ok (.iastore, 1) := by decide +kernel
theorem dX9_init_161 : decode cX9_init 161 = .ok (.dup, 1) := by decide +kernel
theorem dX9_init_162 : decode cX9_init 162 = .ok (.bipush 30, 2) := by decide +kernel
theorem dX9_init_164 : decode cX9_init 164 = .ok (.iconst 5, 1) := by decide +kernel
theorem dX9_init_165 : decode cX9_init 165 = .ok (.iastore, 1) := by decide +kernel
theorem dX9_init_166 : decode cX9_init 166 = .ok (.dup, 1) := by decide +kernel
theorem dX9_init_167 : decode cX9_init 167 = .ok (.bipush 31, 2) := by decide +kernel
theorem dX9_init_169 : decode cX9_init 169 = .ok (.iconst 5, 1) := by decide +kernel
theorem dX9_init_170 : decode cX9_init 170 = .ok (.iastore, 1) := by decide +kernel
theorem dX9_init_171 : decode cX9_init 171 = .ok (.dup, 1) := by decide +kernel
theorem dX9_init_172 : decode cX9_init 172 = .ok (.bipush 32, 2) := by decide +kernel
theorem dX9_init_174 : decode cX9_init 174 = .ok (.iconst 5, 1) := by decide +kernel
theorem dX9_init_175 : decode cX9_init 175 = .ok (.iastore, 1) := by decide +kernel
theorem dX9_init_176 : decode cX9_init 176 = .ok (.dup, 1) := by decide +kernel
theorem dX9_init_177 : decode cX9_init 177 = .ok (.bipush 33, 2) := by decide +kernel
theorem dX9_init_179 : decode cX9_init 179 = .ok (.iconst 5, 1) := by decide +kernel
theorem dX9_init_180 : decode cX9_init 180 = .ok (.iastore, 1) := by decide +kernel
theorem dX9_init_181 : decode cX9_init 181 = .ok (.dup, 1) := by decide +kernel
theorem dX9_init_182 : decode cX9_init 182 = .ok (.bipush 34, 2) := by decide +kernel
theorem dX9_init_184 : decode cX9_init 184 = .ok (.iconst 5, 1) := by decide +kernel
theorem dX9_init_185 : decode cX9_init 185 = .ok (.iastore, 1) := by decide +kernel
theorem dX9_init_186 : decode cX9_init 186 = .ok (.dup, 1) := by decide +kernel
theorem dX9_init_187 : decode cX9_init 187 = .ok (.bipush 35, 2) := by decide +kernel
theorem dX9_init_189 : decode cX9_init 189 = .ok (.iconst 5, 1) := by decide +kernel
theorem dX9_init_190 : decode cX9_init 190 = .ok (.iastore, 1) := by decide +kernel
theorem dX9_init_191 : decode cX9_init 191 = .ok (.dup, 1) := by decide +kernel
theorem dX9_init_192 : decode cX9_init 192 = .ok (.bipush 36, 2) := by decide +kernel
theorem dX9_init_194 : decode cX9_init 194 = .ok (.iconst 5, 1) := by decide +kernel
theorem dX9_init_195 : decode cX9_init 195 = .ok (.iastore, 1) := by decide +kernel
theorem dX9_init_196 : decode cX9_init 196 = .ok (.dup, 1) := by decide +kernel
theorem dX9_init_197 : decode cX9_init 197 = .ok (.bipush 37, 2) := by decide +kernel
theorem dX9_init_199 : decode cX9_init 199 = .ok (.iconst 5, 1) := by decide +kernel
theorem dX9_init_200 : decode cX9_init 200 = .ok (.iastore, 1) := by decide +kernel
theorem dX9_init_201 : decode cX9_init 201 = .ok (.dup, 1) := by decide +kernel
theorem dX9_init_202 : decode cX9_init 202 = .ok (.bipush 38, 2) := by decide +kernel
theorem dX9_init_204 : decode cX9_init 204 = .ok (.iconst 5, 1) := by decide +kernel
theorem dX9_init_205 : decode cX9_init 205 = .ok (.iastore, 1) := by decide +kernel
theorem dX9_init_206 : decode cX9_init 206 = .ok (.dup, 1) := by decide +kernel
theorem dX9_init_207 : decode cX9_init 207 = .ok (.bipush 39, 2) := by decide +kernel
theorem dX9_init_209 : decode cX9_init 209 = .ok (.iconst 5, 1) := by decide +kernel
theorem dX9_init_210 : decode cX9_init 210 = .ok (.iastore, 1) := by decide +kernel
theorem dX9_init_211 : decode cX9_init 211 = .ok (.dup, 1) := by decide +kernel
theorem dX9_init_212 : decode cX9_init 212 = .ok (.bipush 40, 2) := by decide +kernel
theorem dX9_init_214 : decode cX9_init 214 = .ok (.iconst 5, 1) := by decide +kernel
theorem dX9_init_215 : decode cX9_init 215 = .ok (.iastore, 1) := by decide +kernel
theorem dX9_init_216 : decode cX9_init 216 = .ok (.dup, 1) := by decide +kernel
theorem dX9_init_217 : decode cX9_init 217 = .ok (.bipush 41, 2) := by decide +kernel
theorem dX9_init_219 : decode cX9_init 219 = .ok (.iconst 5, 1) := by decide +kernel
theorem dX9_init_220 : decode cX9_init 220 = .ok (.iastore, 1) := by decide +kernel
theorem dX9_init_221 : decode cX9_init 221 = .ok (.dup, 1) := by decide +kernel
theorem dX9_init_222 : decode cX9_init 222 = .ok (.bipush 42, 2) := by decide +kernel
theorem dX9_init_224 : decode cX9_init 224 = .ok (.iconst 5, 1) := by decide +kernel
theorem dX9_init_225 : decode cX9_init 225 = .ok (.iastore, 1) := by decide +kernel
theorem dX9_init_226 : decode cX9_init 226 = .ok (.dup, 1) := by decide +kernel
theorem dX9_init_227 : decode cX9_init 227 = .ok (.bipush 43, 2) := by decide +kernel
theorem dX9_init_229 : decode cX9_init 229 = .ok (.iconst 5, 1) := by decide +kernel
theorem dX9_init_230 : decode cX9_init 230 = .ok (.iastore, 1) := by decide +kernel
theorem dX9_init_231 : decode cX9_init 231 = .ok (.dup, 1) := by decide +kernel
theorem dX9_init_232 : decode cX9_init 232 = .ok (.bipush 44, 2) := by decide +kernel
theorem dX9_init_234 : decode cX9_init 234 = .ok (.iconst 5, 1) := by decide +kernel
theorem dX9_init_235 : decode cX9_init 235 = .ok (.iastore, 1) := by decide +kernel
theorem dX9_init_236 : decode cX9_init 236 = .ok (.dup, 1) := by decide +kernel
theorem dX9_init_237 : decode cX9_init 237 = .ok (.bipush 45, 2) := by decide +kernel
theorem dX9_init_239 : decode cX9_init 239 = .ok (.iconst 5, 1) := by decide +kernel
theorem dX9_init_240 : decode cX9_init 240 = .ok (.iastore, 1) := by decide +kernel
theorem dX9_init_241 : decode cX9_init 241 = .ok (.dup, 1) := by decide +kernel
theorem dX9_init_242 : decode cX9_init 242 = .ok (.bipush 46, 2) := by decide +kernel
theorem dX9_init_244 : decode cX9_init 244 = .ok (.iconst 5, 1) := by decide +kernel
theorem dX9_init_245 : decode cX9_init 245 = .ok (.iastore, 1) := by decide +kernel
theorem dX9_init_246 : decode cX9_init 246 = .ok (.dup, 1) := by decide +kernel
theorem dX9_init_247 : decode cX9_init 247 = .ok (.bipush 47, 2) := by decide +kernel
theorem dX9_init_249 : decode cX9_init 249 = .ok (.iconst 5, 1) := by decide +kernel
theorem dX9_init_250 : decode cX9_init 250 = .ok (.iastore, 1) := by decide +kernel
theorem dX9_init_251 : decode cX9_init 251 = .ok (.dup, 1) := by decide +kernel
theorem dX9_init_252 : decode cX9_init 252 = .ok (.bipush 48, 2) := by decide +kernel
theorem dX9_init_254 : decode cX9_init 254 = .ok (.iconst 5, 1) := by decide +kernel
theorem dX9_init_255 : decode cX9_init 255 = .ok (.iastore, 1) := by decide +kernel
theorem dX9_init_256 : decode cX9_init 256 = .ok (.putfield 13, 3) := by decide +kernel
theorem dX9_init_259 : decode cX9_init 259 = .ok (.aload_n 0, 1) := by decide +kernel
theorem dX9_init_260 : decode cX9_init 260 = .ok (.bipush 7, 2) := by decide +kernel
theorem dX9_init_262 : decode cX9_init 262 = .ok (.newarray .int, 2) := by decide +kernel
theorem dX9_init_264 : decode cX9_init 264 = .ok (.putfield 16, 3) := by decide +kernel
theorem dX9_init_267 : decode cX9_init 267 = .ok (.aload_n 0, 1) := by decide +kernel
theorem dX9_init_268 : decode cX9_init 268 = .ok (.iconst 3, 1) := by decide +kernel
theorem dX9_init_269 : decode cX9_init 269 = .ok (.putfield 19, 3) := by decide +kernel
theorem dX9_init_272 : decode cX9_init 272 = .ok (.aload_n 0, 1) := by decide +kernel
theorem dX9_init_273 : decode cX9_init 273 = .ok (.bipush 7, 2) := by decide +kernel
theorem dX9_init_275 : decode cX9_init 275 = .ok (.newarray .int, 2) := by decide +kernel
theorem dX9_init_277 : decode cX9_init 277 = .ok (.putfield 23, 3) := by decide +kernel
theorem dX9_init_280 : decode cX9_init 280 = .ok (.aload_n 0, 1) := by decide +kernel
theorem dX9_init_281 : decode cX9_init 281 = .ok (.bipush 14, 2) := by decide +kernel
theorem dX9_init_283 : decode cX9_init 283 = .ok (.newarray .int, 2) := by decide +kernel
theorem dX9_init_285 : decode cX9_init 285 = .ok (.putfield 26, 3) := by decide +kernel
theorem dX9_init_288 : decode cX9_init 288 = .ok (.aload_n 0, 1) := by decide +kernel
theorem dX9_init_289 : decode cX9_init 289 = .ok (.bipush 14, 2) := by decide +kernel
theorem dX9_init_291 : decode cX9_init 291 = .ok (.newarray .int, 2) := by decide +kernel
theorem dX9_init_293 : decode cX9_init 293 = .ok (.putfield 29, 3) := by decide +kernel
theorem dX9_init_296 : decode cX9_init 296 = .ok (.aload_n 0, 1) := by decide +kernel
theorem dX9_init_297 : decode cX9_init 297 = .ok (.iconst 2, 1) := by decide +kernel
theorem dX9_init_298 : decode cX9_init 298 = .ok (.newarray .int, 2) := by decide +kernel
theorem dX9_init_300 : decode cX9_init 300 = .ok (.putfield 32, 3) := by decide +kernel
theorem dX9_init_303 : decode cX9_init 303 = .ok (.aload_n 0, 1) := by decide +kernel
theorem dX9_init_304 : decode cX9_init 304 = .ok (.iconst 2, 1) := by decide +kernel
theorem dX9_init_305 : decode cX9_init 305 = .ok (.newarray .int, 2) := by decide +kernel
theorem dX9_init_307 : decode cX9_init 307 = .ok (.dup, 1) := by decide +kernel
theorem dX9_init_308 : decode cX9_init 308 = .ok (.iconst 0, 1) := by decide +kernel
theorem dX9_init_309 : decode cX9_init 309 = .ok (.iconst (-1), 1) := by decide +kernel
theorem dX9_init_310 : decode cX9_init 310 = .ok (.iastore, 1) := by decide +kernel
theorem dX9_init_311 : decode cX9_init 311 = .ok (.dup, 1) := by decide +kernel
theorem dX9_init_312 : decode cX9_init 312 = .ok (.iconst 1, 1) := by decide +kernel
theorem dX9_init_313 : decode cX9_init 313 = .ok (.iconst (-1), 1) := by decide +kernel
theorem dX9_init_314 : decode cX9_init 314 = .ok (.iastore, 1) := by decide +kernel
theorem dX9_init_315 : decode cX9_init 315 = .ok (.putfield 35, 3) := by decide +kernel
theorem dX9_init_318 : decode cX9_init 318 = .ok (.aload_n 0, 1) := by decide +kernel
theorem dX9_init_319 : decode cX9_init 319 = .ok (.iconst 2, 1) := by decide +kernel
theorem dX9_init_320 : decode cX9_init 320 = .ok (.newarray .int, 2) := by decide +kernel
theorem dX9_init_322 : decode cX9_init 322 = .ok (.putfield 38, 3) := by decide +kernel
theorem dX9_init_325 : decode cX9_init 325 = .ok (.aload_n 0, 1) := by decide +kernel
theorem dX9_init_326 : decode cX9_init 326 = .ok (.iconst 2, 1) := by decide +kernel
theorem dX9_init_327 : decode cX9_init 327 = .ok (.newarray .int, 2) := by decide +kernel
theorem dX9_init_329 : decode cX9_init 329 = .ok (.putfield 41, 3) := by decide +kernel
theorem dX9_init_332 : decode cX9_init 332 = .ok (.aload_n 0, 1) := by decide +kernel
theorem dX9_init_333 : decode cX9_init 333 = .ok (.iconst 2, 1) := by decide +kernel
theorem dX9_init_334 : decode cX9_init 334 = .ok (.newarray .int, 2) := by decide +kernel
theorem dX9_init_336 : decode cX9_init 336 = .ok (.putfield 44, 3) := by decide +kernel
theorem dX9_init_339 : decode cX9_init 339 = .ok (.aload_n 0, 1) := by decide +kernel
theorem dX9_init_340 : decode cX9_init 340 = .ok (.iconst (-1), 1) := by decide +kernel
theorem dX9_init_341 : decode cX9_init 341 = .ok (.putfield 47, 3) := by decide +kernel
theorem dX9_init_344 : decode cX9_init 344 = .ok (.aload_n 0, 1) := by decide +kernel
theorem dX9_init_345 : decode cX9_init 345 = .ok (.bipush 40, 2) := by decide +kernel
theorem dX9_init_347 : decode cX9_init 347 = .ok (.newarray .int, 2) := by decide +kernel
theorem dX9_init_349 : decode cX9_init 349 = .ok (.putfield 50, 3) := by decide +kernel
theorem dX9_init_352 : decode cX9_init 352 = .ok (.aload_n 0, 1) := by decide +kernel
theorem dX9_init_353 : decode cX9_init 353 = .ok (.bipush 40, 2) := by decide +kernel
theorem dX9_init_355 : decode cX9_init 355 = .ok (.newarray .int, 2) := by decide +kernel
theorem dX9_init_357 : decode cX9_init 357 = .ok (.putfield 53, 3) := by decide +kernel
theorem dX9_init_360 : decode cX9_init 360 = .ok (.aload_n 0, 1) := by decide +kernel
theorem dX9_init_361 : decode cX9_init 361 = .ok (.bipush 40, 2) := by decide +kernel
theorem dX9_init_363 : decode cX9_init 363 = .ok (.newarray .int, 2) := by decide +kernel
theorem dX9_init_365 : decode cX9_init 365 = .ok (.putfield 56, 3) := by decide +kernel
theorem dX9_init_368 : decode cX9_init 368 = .ok (.aload_n 0, 1) := by decide +kernel
theorem dX9_init_369 : decode cX9_init 369 = .ok (.bipush 40, 2) := by decide +kernel
theorem dX9_init_371 : decode cX9_init 371 = .ok (.newarray .int, 2) := by decide +kernel
theorem dX9_init_373 : decode cX9_init 373 = .ok (.putfield 59, 3) := by decide +kernel
theorem dX9_init_376 : decode cX9_init 376 = .ok (.aload_n 0, 1) := by decide +kernel
theorem dX9_init_377 : decode cX9_init 377 = .ok (.bipush 120, 2) := by decide +kernel
theorem dX9_init_379 : decode cX9_init 379 = .ok (.newarray .byte, 2) := by decide +kernel
theorem dX9_init_381 : decode cX9_init 381 = .ok (.putfield 62, 3) := by decide +kernel
theorem dX9_init_384 : decode cX9_init 384 = .ok (.aload_n 0, 1) := by decide +kernel
theorem dX9_init_385 : decode cX9_init 385 = .ok (.sipush 260, 3) := by decide +kernel
theorem dX9_init_388 : decode cX9_init 388 = .ok (.newarray .byte, 2) := by decide +kernel
theorem dX9_init_390 : decode cX9_init 390 = .ok (.putfield 66, 3) := by decide +kernel
theorem dX9_init_393 : decode cX9_init 393 = .ok (.aload_n 0, 1) := by decide +kernel
theorem dX9_init_394 : decode cX9_init 394 = .ok (.sipush 260, 3) := by decide +kernel
theorem dX9_init_397 : decode cX9_init 397 = .ok (.newarray .int, 2) := by decide +kernel
theorem dX9_init_399 : decode cX9_init 399 = .ok (.putfield 69, 3) := by decide +kernel
theorem dX9_init_402 : decode cX9_init 402 = .ok (.aload_n 0, 1) := by decide +kernel
theorem dX9_init_403 : decode cX9_init 403 = .ok (.iconst 2, 1) := by decide +kernel
theorem dX9_init_404 : decode cX9_init 404 = .ok (.newarray .int, 2) := by decide +kernel
theorem dX9_init_406 : decode cX9_init 406 = .ok (.putfield 72, 3) := by decide +kernel
theorem dX9_init_409 : decode cX9_init 409 = .ok (.aload_n 0, 1) := by decide +kernel
theorem dX9_init_410 : decode cX9_init 410 = .ok (.bipush 122, 2) := by decide +kernel
theorem dX9_init_412 : decode cX9_init 412 = .ok (.newarray .short, 2) := by decide +kernel
theorem dX9_init_414 : decode cX9_init 414 = .ok (.putfield 75, 3) := by decide +kernel
theorem dX9_init_417 : decode cX9_init 417 = .ok (.aload_n 0, 1) := by decide +kernel
theorem dX9_init_418 : decode cX9_init 418 = .ok (.bipush 122, 2) := by decide +kernel
theorem dX9_init_420 : decode cX9_init 420 = .ok (.newarray .short, 2) := by decide +kernel
theorem dX9_init_422 : decode cX9_init 422 = .ok (.putfield 79, 3) := by decide +kernel
theorem dX9_init_425 : decode cX9_init 425 = .ok (.aload_n 0, 1) := by decide +kernel
theorem dX9_init_426 : decode cX9_init 426 = .ok (.bipush 6, 2) := by decide +kernel
theorem dX9_init_428 : decode cX9_init 428 = .ok (.newarray .int, 2) := by decide +kernel
theorem dX9_init_430 : decode cX9_init 430 = .ok (.putfield 82, 3) := by decide +kernel
theorem dX9_init_433 : decode cX9_init 433 = .ok (.aload_n 0, 1) := by decide +kernel
theorem dX9_init_434 : decode cX9_init 434 = .ok (.sipush 130, 3) := by decide +kernel
theorem dX9_init_437 : decode cX9_init 437 = .ok (.newarray .int, 2) := by decide +kernel
theorem dX9_init_439 : decode cX9_init 439 = .ok (.putfield 85, 3) := by decide +kernel
theorem dX9_init_442 : decode cX9_init 442 = .ok (.aload_n 0, 1) := by decide +kernel
theorem dX9_init_443 : decode cX9_init 443 = .ok (.bipush 36, 2) := by decide +kernel
theorem dX9_init_445 : decode cX9_init 445 = .ok (.newarray .int, 2) := by decide +kernel
theorem dX9_init_447 : decode cX9_init 447 = .ok (.putfield 88, 3) := by decide +kernel
theorem dX9_init_450 : decode cX9_init 450 = .ok (.aload_n 0, 1) := by decide +kernel
theorem dX9_init_451 : decode cX9_init 451 = .ok (.bipush 36, 2) := by decide +kernel
theorem dX9_init_453 : decode cX9_init 453 = .ok (.newarray .int, 2) := by decide +kernel
theorem dX9_init_455 : decode cX9_init 455 = .ok (.putfield 91, 3) := by decide +kernel
theorem dX9_init_458 : decode cX9_init 458 = .ok (.aload_n 0, 1) := by decide +kernel
theorem dX9_init_459 : decode cX9_init 459 = .ok (.bipush 60, 2) := by decide +kernel
theorem dX9_init_461 : decode cX9_init 461 = .ok (.newarray .int, 2) := by decide +kernel
theorem dX9_init_463 : decode cX9_init 463 = .ok (.putfield 94, 3) := by decide +kernel
theorem dX9_init_466 : decode cX9_init 466 = .ok (.aload_n 0, 1) := by decide +kernel
theorem dX9_init_467 : decode cX9_init 467 = .ok (.bipush 39, 2) := by decide +kernel
theorem dX9_init_469 : decode cX9_init 469 = .ok (.newarray .int, 2) := by decide +kernel
theorem dX9_init_471 : decode cX9_init 471 = .ok (.putfield 97, 3) := by decide +kernel
theorem dX9_init_474 : decode cX9_init 474 = .ok (.aload_n 0, 1) := by decide +kernel
theorem dX9_init_475 : decode cX9_init 475 = .ok (.bipush 13, 2) := by decide +kernel
theorem dX9_init_477 : decode cX9_init 477 = .ok (.newarray .int, 2) := by decide +kernel
theorem dX9_init_479 : decode cX9_init 479 = .ok (.putfield 100, 3) := by decide +kernel
theorem dX9_init_482 : decode cX9_init 482 = .ok (.aload_n 0, 1) := by decide +kernel
theorem dX9_init_483 : decode cX9_init 483 = .ok (.bipush 7, 2) := by decide +kernel
theorem dX9_init_485 : decode cX9_init 485 = .ok (.newarray .int, 2) := by decide +kernel
theorem dX9_init_487 : decode cX9_init 487 = .ok (.putfield 103, 3) := by decide +kernel
theorem dX9_init_490 : decode cX9_init 490 = .ok (.aload_n 0, 1) := by decide +kernel
theorem dX9_init_491 : decode cX9_init 491 = .ok (.bipush 7, 2) := by decide +kernel
theorem dX9_init_493 : decode cX9_init 493 = .ok (.newarray .int, 2) := by decide +kernel
theorem dX9_init_495 : decode cX9_init 495 = .ok (.putfield 106, 3) := by decide +kernel
theorem dX9_init_498 : decode cX9_init 498 = .ok (.aload_n 0, 1) := by decide +kernel
theorem dX9_init_499 : decode cX9_init 499 = .ok (.bipush 7, 2) := by decide +kernel
theorem dX9_init_501 : decode cX9_init 501 = .ok (.newarray .int, 2) := by decide +kernel
theorem dX9_init_503 : decode cX9_init 503 = .ok (.putfield 109, 3) := by decide +kernel
theorem dX9_init_506 : decode cX9_init 506 = .ok (.aload_n 0, 1) := by decide +kernel
theorem dX9_init_507 : decode cX9_init 507 = .ok (.bipush 7, 2) := by decide +kernel
theorem dX9_init_509 : decode cX9_init 509 = .ok (.newarray .int, 2) := by decide +kernel
theorem dX9_init_511 : decode cX9_init 511 = .ok (.putfield 112, 3) := by decide +kernel
theorem dX9_init_514 : decode cX9_init 514 = .ok (.aload_n 0, 1) := by decide +kernel
theorem dX9_init_515 : decode cX9_init 515 = .ok (.bipush 7, 2) := by decide +kernel
theorem dX9_init_517 : decode cX9_init 517 = .ok (.newarray .int, 2) := by decide +kernel
theorem dX9_init_519 : decode cX9_init 519 = .ok (.putfield 115, 3) := by decide +kernel
theorem dX9_init_522 : decode cX9_init 522 = .ok (.aload_n 0, 1) := by decide +kernel
theorem dX9_init_523 : decode cX9_init 523 = .ok (.iconst (-1), 1) := by decide +kernel
theorem dX9_init_524 : decode cX9_init 524 = .ok (.putfield 118, 3) := by decide +kernel
theorem dX9_init_527 : decode cX9_init 527 = .ok (.aload_n 0, 1) := by decide +kernel
theorem dX9_init_528 : decode cX9_init 528 = .ok (.bipush 7, 2) := by decide +kernel
theorem dX9_init_530 : decode cX9_init 530 = .ok (.newarray .int, 2) := by decide +kernel
theorem dX9_init_532 : decode cX9_init 532 = .ok (.putfield 121, 3) := by decide +kernel
theorem dX9_init_535 : decode cX9_init 535 = .ok (.aload_n 0, 1) := by decide +kernel
theorem dX9_init_536 : decode cX9_init 536 = .ok (.bipush 7, 2) := by decide +kernel
theorem dX9_init_538 : decode cX9_init 538 = .ok (.newarray .int, 2) := by decide +kernel
theorem dX9_init_540 : decode cX9_init 540 = .ok (.putfield 124, 3) := by decide +kernel
theorem dX9_init_543 : decode cX9_init 543 = .ok (.aload_n 0, 1) := by decide +kernel
theorem dX9_init_544 : decode cX9_init 544 = .ok (.bipush 7, 2) := by decide +kernel
theorem dX9_init_546 : decode cX9_init 546 = .ok (.newarray .int, 2) := by decide +kernel
theorem dX9_init_548 : decode cX9_init 548 = .ok (.putfield 127, 3) := by decide +kernel
theorem dX9_init_551 : decode cX9_init 551 = .ok (.aload_n 0, 1) := by decide +kernel
theorem dX9_init_552 : decode cX9_init 552 = .ok (.bipush 10, 2) := by decide +kernel
theorem dX9_init_554 : decode cX9_init 554 = .ok (.newarray .int, 2) := by decide +kernel
theorem dX9_init_556 : decode cX9_init 556 = .ok (.putfield 130, 3) := by decide +kernel
theorem dX9_init_559 : decode cX9_init 559 = .ok (.aload_n 0, 1) := by decide +kernel
theorem dX9_init_560 : decode cX9_init 560 = .ok (.bipush 50, 2) := by decide +kernel
theorem dX9_init_562 : decode cX9_init 562 = .ok (.newarray .int, 2) := by decide +kernel
theorem dX9_init_564 : decode cX9_init 564 = .ok (.putfield 133, 3) := by decide +kernel
theorem dX9_init_567 : decode cX9_init 567 = .ok (.aload_n 0, 1) := by decide +kernel
theorem dX9_init_568 : decode cX9_init 568 = .ok (.bipush 24, 2) := by decide +kernel
theorem dX9_init_570 : decode cX9_init 570 = .ok (.newarray .int, 2) := by decide +kernel
theorem dX9_init_572 : decode cX9_init 572 = .ok (.putfield 136, 3) := by decide +kernel
theorem dX9_init_575 : decode cX9_init 575 = .ok (.aload_n 0, 1) := by decide +kernel
theorem dX9_init_576 : decode cX9_init 576 = .ok (.bipush 6, 2) := by decide +kernel
theorem dX9_init_578 : decode cX9_init 578 = .ok (.newarray .int, 2) := by decide +kernel
theorem dX9_init_580 : decode cX9_init 580 = .ok (.dup, 1) := by decide +kernel
theorem dX9_init_581 : decode cX9_init 581 = .ok (.iconst 0, 1) := by decide +kernel
theorem dX9_init_582 : decode cX9_init 582 = .ok (.iconst (-1), 1) := by decide +kernel
theorem dX9_init_583 : decode cX9_init 583 = .ok (.iastore, 1) := by decide +kernel
theorem dX9_init_584 : decode cX9_init 584 = .ok (.dup, 1) := by decide +kernel
theorem dX9_init_585 : decode cX9_init 585 = .ok (.iconst 1, 1) := by decide +kernel
theorem dX9_init_586 : decode cX9_init 586 = .ok (.iconst (-1), 1) := by decide +kernel
theorem dX9_init_587 : decode cX9_init 587 = .ok (.iastore, 1) := by decide +kernel
theorem dX9_init_588 : decode cX9_init 588 = .ok (.dup, 1) := by decide +kernel
theorem dX9_init_589 : decode cX9_init 589 = .ok (.iconst 2, 1) := by decide +kernel
theorem dX9_init_590 : decode cX9_init 590 = .ok (.iconst (-1), 1) := by decide +kernel
theorem dX9_init_591 : decode cX9_init 591 = .ok (.iastore, 1) := by decide +kernel
theorem dX9_init_592 : decode cX9_init 592 = .ok (.dup, 1) := by decide +kernel
theorem dX9_init_593 : decode cX9_init 593 = .ok (.iconst 3, 1) := by decide +kernel
theorem dX9_init_594 : decode cX9_init 594 = .ok (.iconst (-1), 1) := by decide +kernel
theorem dX9_init_595 : decode cX9_init 595 = .ok (.iastore, 1) := by decide +kernel
theorem dX9_init_596 : decode cX9_init 596 = .ok (.dup, 1) := by decide +kernel
theorem dX9_init_597 : decode cX9_init 597 = .ok (.iconst 4, 1) := by decide +kernel
theorem dX9_init_598 : decode cX9_init 598 = .ok (.iconst (-1), 1) := by decide +kernel
theorem dX9_init_599 : decode cX9_init 599 = .ok (.iastore, 1) := by decide +kernel
theorem dX9_init_600 : decode cX9_init 600 = .ok (.dup, 1) := by decide +kernel
theorem dX9_init_601 : decode cX9_init 601 = .ok (.iconst 5, 1) := by decide +kernel
theorem dX9_init_602 : decode cX9_init 602 = .ok (.iconst (-1), 1) := by decide +kernel
theorem dX9_init_603 : decode cX9_init 603 = .ok (.iastore, 1) := by decide +kernel
theorem dX9_init_604 : decode cX9_init 604 = .ok (.putfield 139, 3) := by decide +kernel
theorem dX9_init_607 : decode cX9_init 607 = .ok (.aload_n 0, 1) := by decide +kernel
theorem dX9_init_608 : decode cX9_init 608 = .ok (.bipush 6, 2) := by decide +kernel
theorem dX9_init_610 : decode cX9_init 610 = .ok (.newarray .int, 2) := by decide +kernel
theorem dX9_init_612 : decode cX9_init 612 = .ok (.putfield 142, 3) := by decide +kernel
theorem dX9_init_615 : decode cX9_init 615 = .ok (.aload_n 0, 1) := by decide +kernel
theorem dX9_init_616 : decode cX9_init 616 = .ok (.sipush 360, 3) := by decide +kernel
theorem dX9_init_619 : decode cX9_init 619 = .ok (.newarray .long, 2) := by decide +kernel
theorem dX9_init_621 : decode cX9_init 621 = .ok (.putfield 145, 3) := by decide +kernel
theorem dX9_init_624 : decode cX9_init 624 = .ok (.aload_n 0, 1) := by decide +kernel
theorem dX9_init_625 : decode cX9_init 625 = .ok (.bipush 60, 2) := by decide +kernel
theorem dX9_init_627 : decode cX9_init 627 = .ok (.newarray .long, 2) := by decide +kernel
theorem dX9_init_629 : decode cX9_init 629 = .ok (.putfield 149, 3) := by decide +kernel
theorem dX9_init_632 : decode cX9_init 632 = .ok (.return_, 1) := by decide +kernel
theorem dX9_in_0 : decode cX9_in 0 = .ok (.iload_n 0, 1) := by decide +kernel
theorem dX9_in_1 : decode cX9_in 1 = .ok (.iload_n 1, 1) := by decide +kernel
theorem dX9_in_2 : decode cX9_in 2 = .ok (.if_icmp .lt 12, 3) := by decide +kernel
theorem dX9_in_5 : decode cX9_in 5 = .ok (.iload_n 0, 1) := by decide +kernel
theorem dX9_in_6 : decode cX9_in 6 = .ok (.iload_n 2, 1) := by decide +kernel
theorem dX9_in_7 : decode cX9_in 7 = .ok (.if_icmp .gt 7, 3) := by decide +kernel
theorem dX9_in_10 : decode cX9_in 10 = .ok (.iconst 1, 1) := by decide +kernel
theorem dX9_in_11 : decode cX9_in 11 = .ok (.goto 4, 3) := by decide +kernel
theorem dX9_in_14 : decode cX9_in 14 = .ok (.iconst 0, 1) := by decide +kernel
theorem dX9_in_15 : decode cX9_in 15 = .ok (.ireturn, 1) := by decide +kernel
theorem dX9_isPerson_0 : decode cX9_isPerson 0 = .ok (.iload_n 1, 1) := by decide +kernel
theorem dX9_isPerson_1 : decode cX9_isPerson 1 = .ok (.iconst 0, 1) := by decide +kernel
theorem dX9_isPerson_2 : decode cX9_isPerson 2 = .ok (.aload_n 0, 1) := by decide +kernel
theorem dX9_isPerson_3 : decode cX9_isPerson 3 = .ok (.getfield 155, 3) := by decide +kernel
theorem dX9_isPerson_6 : decode cX9_isPerson 6 = .ok (.iconst 1, 1) := by decide +kernel
theorem dX9_isPerson_7 : decode cX9_isPerson 7 = .ok (.isub, 1) := by decide +kernel
theorem dX9_isPerson_8 : decode cX9_isPerson 8 = .ok (.invokestatic 158, 3) := by decide +kernel
theorem dX9_isPerson_11 : decode cX9_isPerson 11 = .ok (.ireturn, 1) := by decide +kernel
theorem dX9_beginAt_0 : decode cX9_beginAt 0 = .ok (.iconst 0, 1) := by decide +kernel
theorem dX9_beginAt_1 : decode cX9_beginAt 1 = .ok (.istore_n 2, 1) := by decide +kernel
theorem dX9_beginAt_2 : decode cX9_beginAt 2 = .ok (.iload_n 2, 1) := by decide +kernel
theorem dX9_beginAt_3 : decode cX9_beginAt 3 = .ok (.aload_n 0, 1) := by decide +kernel
theorem dX9_beginAt_4 : decode cX9_beginAt 4 = .ok (.getfield 155, 3) := by decide +kernel
theorem dX9_beginAt_7 : decode cX9_beginAt 7 = .ok (.if_icmp .ge 33, 3) := by decide +kernel
theorem dX9_beginAt_10 : decode cX9_beginAt 10 = .ok (.aload_n 0, 1) := by decide +kernel
theorem dX9_beginAt_11 : decode cX9_beginAt 11 = .ok (.getfield 26, 3) := by decide +kernel
theorem dX9_beginAt_14 : decode cX9_beginAt 14 = .ok (.bipush 7, 2) := by decide +kernel
theorem dX9_beginAt_16 : decode cX9_beginAt 16 = .ok (.iload_n 1, 1) := by decide +kernel
theorem dX9_beginAt_17 : decode cX9_beginAt 17 = .ok (.imul, 1) := by decide +kernel
theorem dX9_beginAt_18 : decode cX9_beginAt 18 = .ok (.iload_n 2, 1) := by decide +kernel
theorem dX9_beginAt_19 : decode cX9_beginAt 19 = .ok (.iadd, 1) := by decide +kernel
theorem dX9_beginAt_20 : decode cX9_beginAt 20 = .ok (.iconst (-1), 1) := by decide +kernel
theorem dX9_beginAt_21 : decode cX9_beginAt 21 = .ok (.iastore, 1) := by decide +kernel
theorem dX9_beginAt_22 : decode cX9_beginAt 22 = .ok (.aload_n 0, 1) := by decide +kernel
theorem dX9_beginAt_23 : decode cX9_beginAt 23 = .ok (.getfield 29, 3) := by decide +kernel
theorem dX9_beginAt_26 : decode cX9_beginAt 26 = .ok (.bipush 7, 2) := by decide +kernel
theorem dX9_beginAt_28 : decode cX9_beginAt 28 = .ok (.iload_n 1, 1) := by decide +kernel
theorem dX9_beginAt_29 : decode cX9_beginAt 29 = .ok (.imul, 1) := by decide +kernel
theorem dX9_beginAt_30 : decode cX9_beginAt 30 = .ok (.iload_n 2, 1) := by decide +kernel
theorem dX9_beginAt_31 : decode cX9_beginAt 31 = .ok (.iadd, 1) := by decide +kernel
theorem dX9_beginAt_32 : decode cX9_beginAt 32 = .ok (.iconst 0, 1) := by decide +kernel
theorem dX9_beginAt_33 : decode cX9_beginAt 33 = .ok (.iastore, 1) := by decide +kernel
theorem dX9_beginAt_34 : decode cX9_beginAt 34 = .ok (.iinc 2 1, 3) := by decide +kernel
theorem dX9_beginAt_37 : decode cX9_beginAt 37 = .ok (.goto (-35), 3) := by decide +kernel
theorem dX9_beginAt_40 : decode cX9_beginAt 40 = .ok (.aload_n 0, 1) := by decide +kernel
theorem dX9_beginAt_41 : decode cX9_beginAt 41 = .ok (.getfield 32, 3) := by decide +kernel
theorem dX9_beginAt_44 : decode cX9_beginAt 44 = .ok (.iload_n 1, 1) := by decide +kernel
theorem dX9_beginAt_45 : decode cX9_beginAt 45 = .ok (.iconst 1, 1) := by decide +kernel
theorem dX9_beginAt_46 : decode cX9_beginAt 46 = .ok (.aload_n 0, 1) := by decide +kernel
theorem dX9_beginAt_47 : decode cX9_beginAt 47 = .ok (.getfield 155, 3) := by decide +kernel
theorem dX9_beginAt_50 : decode cX9_beginAt 50 = .ok (.ishl, 1) := by decide +kernel
theorem dX9_beginAt_51 : decode cX9_beginAt 51 = .ok (.iconst 1, 1) := by decide +kernel
theorem dX9_beginAt_52 : decode cX9_beginAt 52 = .ok (.isub, 1) := by decide +kernel
theorem dX9_beginAt_53 : decode cX9_beginAt 53 = .ok (.iastore, 1) := by decide +kernel
theorem dX9_beginAt_54 : decode cX9_beginAt 54 = .ok (.aload_n 0, 1) := by decide +kernel
theorem dX9_beginAt_55 : decode cX9_beginAt 55 = .ok (.getfield 41, 3) := by decide +kernel
theorem dX9_beginAt_58 : decode cX9_beginAt 58 = .ok (.iload_n 1, 1) := by decide +kernel
theorem dX9_beginAt_59 : decode cX9_beginAt 59 = .ok (.iconst (-1), 1) := by decide +kernel
theorem dX9_beginAt_60 : decode cX9_beginAt 60 = .ok (.iastore, 1) := by decide +kernel
theorem dX9_beginAt_61 : decode cX9_beginAt 61 = .ok (.aload_n 0, 1) := by decide +kernel
theorem dX9_beginAt_62 : decode cX9_beginAt 62 = .ok (.getfield 44, 3) := by decide +kernel
theorem dX9_beginAt_65 : decode cX9_beginAt 65 = .ok (.iload_n 1, 1) := by decide +kernel
theorem dX9_beginAt_66 : decode cX9_beginAt 66 = .ok (.iconst 0, 1) := by decide +kernel
theorem dX9_beginAt_67 : decode cX9_beginAt 67 = .ok (.iastore, 1) := by decide +kernel
theorem dX9_beginAt_68 : decode cX9_beginAt 68 = .ok (.aload_n 0, 1) := by decide +kernel
theorem dX9_beginAt_69 : decode cX9_beginAt 69 = .ok (.getfield 35, 3) := by decide +kernel
theorem dX9_beginAt_72 : decode cX9_beginAt 72 = .ok (.iload_n 1, 1) := by decide +kernel
theorem dX9_beginAt_73 : decode cX9_beginAt 73 = .ok (.aload_n 0, 1) := by decide +kernel
theorem dX9_beginAt_74 : decode cX9_beginAt 74 = .ok (.getfield 155, 3) := by decide +kernel
theorem dX9_beginAt_77 : decode cX9_beginAt 77 = .ok (.ifCond .le 12, 3) := by decide +kernel
theorem dX9_beginAt_80 : decode cX9_beginAt 80 = .ok (.aload_n 0, 1) := by decide +kernel
theorem dX9_beginAt_81 : decode cX9_beginAt 81 = .ok (.getfield 23, 3) := by decide +kernel
theorem dX9_beginAt_84 : decode cX9_beginAt 84 = .ok (.iconst 0, 1) := by decide +kernel
theorem dX9_beginAt_85 : decode cX9_beginAt 85 = .ok (.iaload, 1) := by decide +kernel
theorem dX9_beginAt_86 : decode cX9_beginAt 86 = .ok (.goto 4, 3) := by decide +kernel
theorem dX9_beginAt_89 : decode cX9_beginAt 89 = .ok (.iconst (-1), 1) := by decide +kernel
theorem dX9_beginAt_90 : decode cX9_beginAt 90 = .ok (.iastore, 1) := by decide +kernel
theorem dX9_beginAt_91 : decode cX9_beginAt 91 = .ok (.aload_n 0, 1) := by decide +kernel
theorem dX9_beginAt_92 : decode cX9_beginAt 92 = .ok (.getfield 38, 3) := by decide +kernel
theorem dX9_beginAt_95 : decode cX9_beginAt 95 = .ok (.iload_n 1, 1) := by decide +kernel
theorem dX9_beginAt_96 : decode cX9_beginAt 96 = .ok (.iconst 1, 1) := by decide +kernel
theorem dX9_beginAt_97 : decode cX9_beginAt 97 = .ok (.iastore, 1) := by decide +kernel
theorem dX9_beginAt_98 : decode cX9_beginAt 98 = .ok (.return_, 1) := by decide +kernel
theorem dX9_addPerson_0 : decode cX9_addPerson 0 = .ok (.aload_n 0, 1) := by decide +kernel
theorem dX9_addPerson_1 : decode cX9_addPerson 1 = .ok (.getfield 16, 3) := by decide +kernel
theorem dX9_addPerson_4 : decode cX9_addPerson 4 = .ok (.aload_n 0, 1) := by decide +kernel
theorem dX9_addPerson_5 : decode cX9_addPerson 5 = .ok (.getfield 155, 3) := by decide +kernel
theorem dX9_addPerson_8 : decode cX9_addPerson 8 = .ok (.iload_n 1, 1) := by decide +kernel
theorem dX9_addPerson_9 : decode cX9_addPerson 9 = .ok (.iastore, 1) := by decide +kernel
theorem dX9_addPerson_10 : decode cX9_addPerson 10 = .ok (.aload_n 0, 1) := by decide +kernel
theorem dX9_addPerson_11 : decode cX9_addPerson 11 = .ok (.getfield 23, 3) := by decide +kernel
theorem dX9_addPerson_14 : decode cX9_addPerson 14 = .ok (.aload_n 0, 1) := by decide +kernel
theorem dX9_addPerson_15 : decode cX9_addPerson 15 = .ok (.getfield 155, 3) := by decide +kernel
theorem dX9_addPerson_18 : decode cX9_addPerson 18 = .ok (.aload_n 0, 1) := by decide +kernel
theorem dX9_addPerson_19 : decode cX9_addPerson 19 = .ok (.getfield 155, 3) := by decide +kernel
theorem dX9_addPerson_22 : decode cX9_addPerson 22 = .ok (.iastore, 1) := by decide +kernel
theorem dX9_addPerson_23 : decode cX9_addPerson 23 = .ok (.aload_n 0, 1) := by decide +kernel
theorem dX9_addPerson_24 : decode cX9_addPerson 24 = .ok (.dup, 1) := by decide +kernel
theorem dX9_addPerson_25 : decode cX9_addPerson 25 = .ok (.getfield 155, 3) := by decide +kernel
theorem dX9_addPerson_28 : decode cX9_addPerson 28 = .ok (.iconst 1, 1) := by decide +kernel
theorem dX9_addPerson_29 : decode cX9_addPerson 29 = .ok (.iadd, 1) := by decide +kernel
theorem dX9_addPerson_30 : decode cX9_addPerson 30 = .ok (.putfield 155, 3) := by decide +kernel
theorem dX9_addPerson_33 : decode cX9_addPerson 33 = .ok (.aload_n 0, 1) := by decide +kernel
theorem dX9_addPerson_34 : decode cX9_addPerson 34 = .ok (.iconst 0, 1) := by decide +kernel
theorem dX9_addPerson_35 : decode cX9_addPerson 35 = .ok (.invokevirtual 162, 3) := by decide +kernel
theorem dX9_addPerson_38 : decode cX9_addPerson 38 = .ok (.aload_n 0, 1) := by decide +kernel
theorem dX9_addPerson_39 : decode cX9_addPerson 39 = .ok (.getfield 155, 3) := by decide +kernel
theorem dX9_addPerson_42 : decode cX9_addPerson 42 = .ok (.iconst 1, 1) := by decide +kernel
theorem dX9_addPerson_43 : decode cX9_addPerson 43 = .ok (.isub, 1) := by decide +kernel
theorem dX9_addPerson_44 : decode cX9_addPerson 44 = .ok (.ireturn, 1) := by decide +kernel
theorem dX9_person_0 : decode cX9_person 0 = .ok (.iload_n 1, 1) := by decide +kernel
theorem dX9_person_1 : decode cX9_person 1 = .ok (.iconst 0, 1) := by decide +kernel
theorem dX9_person_2 : decode cX9_person 2 = .ok (.iconst 2, 1) := by decide +kernel
theorem dX9_person_3 : decode cX9_person 3 = .ok (.invokestatic 158, 3) := by decide +kernel
theorem dX9_person_6 : decode cX9_person 6 = .ok (.ifCond .ne 5, 3) := by decide +kernel
theorem dX9_person_9 : decode cX9_person 9 = .ok (.iconst (-1), 1) := by decide +kernel
theorem dX9_person_10 : decode cX9_person 10 = .ok (.ireturn, 1) := by decide +kernel
theorem dX9_person_11 : decode cX9_person 11 = .ok (.aload_n 0, 1) := by decide +kernel
theorem dX9_person_12 : decode cX9_person 12 = .ok (.getfield 166, 3) := by decide +kernel
theorem dX9_person_15 : decode cX9_person 15 = .ok (.ifCond .le 6, 3) := by decide +kernel
theorem dX9_person_18 : decode cX9_person 18 = .ok (.bipush (-5), 2) := by decide +kernel
theorem dX9_person_20 : decode cX9_person 20 = .ok (.ireturn, 1) := by decide +kernel
theorem dX9_person_21 : decode cX9_person 21 = .ok (.aload_n 0, 1) := by decide +kernel
theorem dX9_person_22 : decode cX9_person 22 = .ok (.getfield 155, 3) := by decide +kernel
theorem dX9_person_25 : decode cX9_person 25 = .ok (.bipush 7, 2) := by decide +kernel
theorem dX9_person_27 : decode cX9_person 27 = .ok (.if_icmp .ne 8, 3) := by decide +kernel
theorem dX9_person_30 : decode cX9_person 30 = .ok (.bipush (-3), 2) := by decide +kernel
theorem dX9_person_32 : decode cX9_person 32 = .ok (.goto 8, 3) := by decide +kernel
theorem dX9_person_35 : decode cX9_person 35 = .ok (.aload_n 0, 1) := by decide +kernel
theorem dX9_person_36 : decode cX9_person 36 = .ok (.iload_n 1, 1) := by decide +kernel
theorem dX9_person_37 : decode cX9_person 37 = .ok (.invokevirtual 169, 3) := by decide +kernel
theorem dX9_person_40 : decode cX9_person 40 = .ok (.ireturn, 1) := by decide +kernel
theorem dX9_people_0 : decode cX9_people 0 = .ok (.iload_n 1, 1) := by decide +kernel
theorem dX9_people_1 : decode cX9_people 1 = .ok (.invokestatic 173, 3) := by decide +kernel
theorem dX9_people_4 : decode cX9_people 4 = .ok (.ifCond .eq 13, 3) := by decide +kernel
theorem dX9_people_7 : decode cX9_people 7 = .ok (.iload_n 3, 1) := by decide +kernel
theorem dX9_people_8 : decode cX9_people 8 = .ok (.iconst 1, 1) := by decide +kernel
theorem dX9_people_9 : decode cX9_people 9 = .ok (.bipush 7, 2) := by decide +kernel
theorem dX9_people_11 : decode cX9_people 11 = .ok (.invokestatic 158, 3) := by decide +kernel
theorem dX9_people_14 : decode cX9_people 14 = .ok (.ifCond .ne 5, 3) := by decide +kernel
theorem dX9_people_17 : decode cX9_people 17 = .ok (.iconst (-1), 1) := by decide +kernel
theorem dX9_people_18 : decode cX9_people 18 = .ok (.ireturn, 1) := by decide +kernel
theorem dX9_people_19 : decode cX9_people 19 = .ok (.aload_n 0, 1) := by decide +kernel
theorem dX9_people_20 : decode cX9_people 20 = .ok (.getfield 139, 3) := by decide +kernel
theorem dX9_people_23 : decode cX9_people 23 = .ok (.iload_n 1, 1) := by decide +kernel
theorem dX9_people_24 : decode cX9_people 24 = .ok (.iaload, 1) := by decide +kernel
theorem dX9_people_25 : decode cX9_people 25 = .ok (.iconst (-1), 1) := by decide +kernel
theorem dX9_people_26 : decode cX9_people 26 = .ok (.if_icmp .eq 17, 3) := by decide +kernel
theorem dX9_people_29 : decode cX9_people 29 = .ok (.aload_n 0, 1) := by decide +kernel
theorem dX9_people_30 : decode cX9_people 30 = .ok (.getfield 139, 3) := by decide +kernel
theorem dX9_people_33 : decode cX9_people 33 = .ok (.iload_n 1, 1) := by decide +kernel
theorem dX9_people_34 : decode cX9_people 34 = .ok (.iaload, 1) := by decide +kernel
theorem dX9_people_35 : decode cX9_people 35 = .ok (.bipush (-2), 2) := by decide +kernel
theorem dX9_people_37 : decode cX9_people 37 = .ok (.if_icmp .eq 6, 3) := by decide +kernel
theorem dX9_people_40 : decode cX9_people 40 = .ok (.bipush (-12), 2) := by decide +kernel
theorem dX9_people_42 : decode cX9_people 42 = .ok (.ireturn, 1) := by decide +kernel
theorem dX9_people_43 : decode cX9_people 43 = .ok (.aload_n 0, 1) := by decide +kernel
theorem dX9_people_44 : decode cX9_people 44 = .ok (.getfield 166, 3) := by decide +kernel
theorem dX9_people_47 : decode cX9_people 47 = .ok (.ifCond .le 6, 3) := by decide +kernel
theorem dX9_people_50 : decode cX9_people 50 = .ok (.bipush (-5), 2) := by decide +kernel
theorem dX9_people_52 : decode cX9_people 52 = .ok (.ireturn, 1) := by decide +kernel
theorem dX9_people_53 : decode cX9_people 53 = .ok (.aload_n 0, 1) := by decide +kernel
theorem dX9_people_54 : decode cX9_people 54 = .ok (.getfield 139, 3) := by decide +kernel
theorem dX9_people_57 : decode cX9_people 57 = .ok (.iload_n 1, 1) := by decide +kernel
theorem dX9_people_58 : decode cX9_people 58 = .ok (.iaload, 1) := by decide +kernel
theorem dX9_people_59 : decode cX9_people 59 = .ok (.iconst (-1), 1) := by decide +kernel
theorem dX9_people_60 : decode cX9_people 60 = .ok (.if_icmp .ne 5, 3) := by decide +kernel
theorem dX9_people_63 : decode cX9_people 63 = .ok (.iconst 0, 1) := by decide +kernel
theorem dX9_people_64 : decode cX9_people 64 = .ok (.ireturn, 1) := by decide +kernel
theorem dX9_people_65 : decode cX9_people 65 = .ok (.iconst 0, 1) := by decide +kernel
theorem dX9_people_66 : decode cX9_people 66 = .ok (.istore 4, 2) := by decide +kernel
theorem dX9_people_68 : decode cX9_people 68 = .ok (.iload 4, 2) := by decide +kernel
theorem dX9_people_70 : decode cX9_people 70 = .ok (.iload_n 3, 1) := by decide +kernel
theorem dX9_people_71 : decode cX9_people 71 = .ok (.if_icmp .ge 85, 3) := by decide +kernel
theorem dX9_people_74 : decode cX9_people 74 = .ok (.iload_n 2, 1) := by decide +kernel
theorem dX9_people_75 : decode cX9_people 75 = .ok (.i2l, 1) := by decide +kernel
theorem dX9_people_76 : decode cX9_people 76 = .ok (.iload 4, 2) := by decide +kernel
theorem dX9_people_78 : decode cX9_people 78 = .ok (.i2l, 1) := by decide +kernel
theorem dX9_people_79 : decode cX9_people 79 = .ok (.ladd, 1) := by decide +kernel
theorem dX9_people_80 : decode cX9_people 80 = .ok (.lstore 5, 2) := by decide +kernel
theorem dX9_people_82 : decode cX9_people 82 = .ok (.lload 5, 2) := by decide +kernel
theorem dX9_people_84 : decode cX9_people 84 = .ok (.lconst 0, 1) := by decide +kernel
theorem dX9_people_85 : decode cX9_people 85 = .ok (.lcmp, 1) := by decide +kernel
theorem dX9_people_86 : decode cX9_people 86 = .ok (.ifCond .lt 25, 3) := by decide +kernel
theorem dX9_people_89 : decode cX9_people 89 = .ok (.lload 5, 2) := by decide +kernel
theorem dX9_people_91 : decode cX9_people 91 = .ok (.aload_n 0, 1) := by decide +kernel
theorem dX9_people_92 : decode cX9_people 92 = .ok (.getfield 142, 3) := by decide +kernel
theorem dX9_people_95 : decode cX9_people 95 = .ok (.iload_n 1, 1) := by decide +kernel
theorem dX9_people_96 : decode cX9_people 96 = .ok (.iaload, 1) := by decide +kernel
theorem dX9_people_97 : decode cX9_people 97 = .ok (.i2l, 1) := by decide +kernel
theorem dX9_people_98 : decode cX9_people 98 = .ok (.lcmp, 1) := by decide +kernel
theorem dX9_people_99 : decode cX9_people 99 = .ok (.ifCond .ge 12, 3) := by decide +kernel
theorem dX9_people_102 : decode cX9_people 102 = .ok (.aload_n 0, 1) := by decide +kernel
theorem dX9_people_103 : decode cX9_people 103 = .ok (.getfield 155, 3) := by decide +kernel
theorem dX9_people_106 : decode cX9_people 106 = .ok (.bipush 7, 2) := by decide +kernel
theorem dX9_people_108 : decode cX9_people 108 = .ok (.if_icmp .ne 6, 3) := by decide +kernel
theorem dX9_people_111 : decode cX9_people 111 = .ok (.iload 4, 2) := by decide +kernel
theorem dX9_people_113 : decode cX9_people 113 = .ok (.ireturn, 1) := by decide +kernel
theorem dX9_people_114 : decode cX9_people 114 = .ok (.aload_n 0, 1) := by decide +kernel
theorem dX9_people_115 : decode cX9_people 115 = .ok (.getfield 145, 3) := by decide +kernel
theorem dX9_people_118 : decode cX9_people 118 = .ok (.bipush 60, 2) := by decide +kernel
theorem dX9_people_120 : decode cX9_people 120 = .ok (.iload_n 1, 1) := by decide +kernel
theorem dX9_people_121 : decode cX9_people 121 = .ok (.imul, 1) := by decide +kernel
theorem dX9_people_122 : decode cX9_people 122 = .ok (.lload 5, 2) := by decide +kernel
theorem dX9_people_124 : decode cX9_people 124 = .ok (.l2i, 1) := by decide +kernel
theorem dX9_people_125 : decode cX9_people 125 = .ok (.iadd, 1) := by decide +kernel
theorem dX9_people_126 : decode cX9_people 126 = .ok (.laload, 1) := by decide +kernel
theorem dX9_people_127 : decode cX9_people 127 = .ok (.l2i, 1) := by decide +kernel
theorem dX9_people_128 : decode cX9_people 128 = .ok (.istore 7, 2) := by decide +kernel
theorem dX9_people_130 : decode cX9_people 130 = .ok (.iload 7, 2) := by decide +kernel
theorem dX9_people_132 : decode cX9_people 132 = .ok (.iconst 0, 1) := by decide +kernel
theorem dX9_people_133 : decode cX9_people 133 = .ok (.iconst 2, 1) := by decide +kernel
theorem dX9_people_134 : decode cX9_people 134 = .ok (.invokestatic 158, 3) := by decide +kernel
theorem dX9_people_137 : decode cX9_people 137 = .ok (.ifCond .ne 6, 3) := by decide +kernel
theorem dX9_people_140 : decode cX9_people 140 = .ok (.iload 4, 2) := by decide +kernel
theorem dX9_people_142 : decode cX9_people 142 = .ok (.ireturn, 1) := by decide +kernel
theorem dX9_people_143 : decode cX9_people 143 = .ok (.aload_n 0, 1) := by decide +kernel
theorem dX9_people_144 : decode cX9_people 144 = .ok (.iload 7, 2) := by decide +kernel
theorem dX9_people_146 : decode cX9_people 146 = .ok (.invokevirtual 169, 3) := by decide +kernel
theorem dX9_people_149 : decode cX9_people 149 = .ok (.pop, 1) := by decide +kernel
theorem dX9_people_150 : decode cX9_people 150 = .ok (.iinc 4 1, 3) := by decide +kernel
theorem dX9_people_153 : decode cX9_people 153 = .ok (.goto (-85), 3) := by decide +kernel
theorem dX9_people_156 : decode cX9_people 156 = .ok (.iload_n 3, 1) := by decide +kernel
theorem dX9_people_157 : decode cX9_people 157 = .ok (.ireturn, 1) := by decide +kernel
theorem dX9_valueAt_0 : decode cX9_valueAt 0 = .ok (.iload_n 1, 1) := by decide +kernel
theorem dX9_valueAt_1 : decode cX9_valueAt 1 = .ok (.ifCond .ne 12, 3) := by decide +kernel
theorem dX9_valueAt_4 : decode cX9_valueAt 4 = .ok (.aload_n 0, 1) := by decide +kernel
theorem dX9_valueAt_5 : decode cX9_valueAt 5 = .ok (.getfield 7, 3) := by decide +kernel
theorem dX9_valueAt_8 : decode cX9_valueAt 8 = .ok (.iload_n 2, 1) := by decide +kernel
theorem dX9_valueAt_9 : decode cX9_valueAt 9 = .ok (.iaload, 1) := by decide +kernel
theorem dX9_valueAt_10 : decode cX9_valueAt 10 = .ok (.goto 47, 3) := by decide +kernel
theorem dX9_valueAt_13 : decode cX9_valueAt 13 = .ok (.iload_n 1, 1) := by decide +kernel
theorem dX9_valueAt_14 : decode cX9_valueAt 14 = .ok (.iconst 1, 1) := by decide +kernel
theorem dX9_valueAt_15 : decode cX9_valueAt 15 = .ok (.if_icmp .ne 12, 3) := by decide +kernel
theorem dX9_valueAt_18 : decode cX9_valueAt 18 = .ok (.aload_n 0, 1) := by decide +kernel
theorem dX9_valueAt_19 : decode cX9_valueAt 19 = .ok (.getfield 13, 3) := by decide +kernel
theorem dX9_valueAt_22 : decode cX9_valueAt 22 = .ok (.iload_n 2, 1) := by decide +kernel
theorem dX9_valueAt_23 : decode cX9_valueAt 23 = .ok (.iaload, 1) := by decide +kernel
theorem dX9_valueAt_24 : decode cX9_valueAt 24 = .ok (.goto 33, 3) := by decide +kernel
theorem dX9_valueAt_27 : decode cX9_valueAt 27 = .ok (.iload_n 1, 1) := by decide +kernel
theorem dX9_valueAt_28 : decode cX9_valueAt 28 = .ok (.iconst 2, 1) := by decide +kernel
theorem dX9_valueAt_29 : decode cX9_valueAt 29 = .ok (.if_icmp .ne 12, 3) := by decide +kernel
theorem dX9_valueAt_32 : decode cX9_valueAt 32 = .ok (.aload_n 0, 1) := by decide +kernel
theorem dX9_valueAt_33 : decode cX9_valueAt 33 = .ok (.getfield 16, 3) := by decide +kernel
theorem dX9_valueAt_36 : decode cX9_valueAt 36 = .ok (.iload_n 2, 1) := by decide +kernel
theorem dX9_valueAt_37 : decode cX9_valueAt 37 = .ok (.iaload, 1) := by decide +kernel
theorem dX9_valueAt_38 : decode cX9_valueAt 38 = .ok (.goto 19, 3) := by decide +kernel
theorem dX9_valueAt_41 : decode cX9_valueAt 41 = .ok (.iload_n 1, 1) := by decide +kernel
theorem dX9_valueAt_42 : decode cX9_valueAt 42 = .ok (.iconst 3, 1) := by decide +kernel
theorem dX9_valueAt_43 : decode cX9_valueAt 43 = .ok (.if_icmp .ne 10, 3) := by decide +kernel
theorem dX9_valueAt_46 : decode cX9_valueAt 46 = .ok (.aload_n 0, 1) := by decide +kernel
theorem dX9_valueAt_47 : decode cX9_valueAt 47 = .ok (.getfield 19, 3) := by decide +kernel
theorem dX9_valueAt_50 : decode cX9_valueAt 50 = .ok (.goto 7, 3) := by decide +kernel
theorem dX9_valueAt_53 : decode cX9_valueAt 53 = .ok (.aload_n 0, 1) := by decide +kernel
theorem dX9_valueAt_54 : decode cX9_valueAt 54 = .ok (.getfield 177, 3) := by decide +kernel
theorem dX9_valueAt_57 : decode cX9_valueAt 57 = .ok (.ireturn, 1) := by decide +kernel
theorem dX9_lays_0 : decode cX9_lays 0 = .ok (.iload_n 1, 1) := by decide +kernel
theorem dX9_lays_1 : decode cX9_lays 1 = .ok (.ifCond .ne 13, 3) := by decide +kernel
theorem dX9_lays_4 : decode cX9_lays 4 = .ok (.aload_n 0, 1) := by decide +kernel
theorem dX9_lays_5 : decode cX9_lays 5 = .ok (.getfield 7, 3) := by decide +kernel
theorem dX9_lays_8 : decode cX9_lays 8 = .ok (.iload_n 2, 1) := by decide +kernel
theorem dX9_lays_9 : decode cX9_lays 9 = .ok (.iload_n 3, 1) := by decide +kernel
theorem dX9_lays_10 : decode cX9_lays 10 = .ok (.iastore, 1) := by decide +kernel
theorem dX9_lays_11 : decode cX9_lays 11 = .ok (.goto 51, 3) := by decide +kernel
theorem dX9_lays_14 : decode cX9_lays 14 = .ok (.iload_n 1, 1) := by decide +kernel
theorem dX9_lays_15 : decode cX9_lays 15 = .ok (.iconst 1, 1) := by decide +kernel
theorem dX9_lays_16 : decode cX9_lays 16 = .ok (.if_icmp .ne 13, 3) := by decide +kernel
theorem dX9_lays_19 : decode cX9_lays 19 = .ok (.aload_n 0, 1) := by decide +kernel
theorem dX9_lays_20 : decode cX9_lays 20 = .ok (.getfield 13, 3) := by decide +kernel
theorem dX9_lays_23 : decode cX9_lays 23 = .ok (.iload_n 2, 1) := by decide +kernel
theorem dX9_lays_24 : decode cX9_lays 24 = .ok (.iload_n 3, 1) := by decide +kernel
theorem dX9_lays_25 : decode cX9_lays 25 = .ok (.iastore, 1) := by decide +kernel
theorem dX9_lays_26 : decode cX9_lays 26 = .ok (.goto 36, 3) := by decide +kernel
theorem dX9_lays_29 : decode cX9_lays 29 = .ok (.iload_n 1, 1) := by decide +kernel
theorem dX9_lays_30 : decode cX9_lays 30 = .ok (.iconst 2, 1) := by decide +kernel
theorem dX9_lays_31 : decode cX9_lays 31 = .ok (.if_icmp .ne 13, 3) := by decide +kernel
theorem dX9_lays_34 : decode cX9_lays 34 = .ok (.aload_n 0, 1) := by decide +kernel
theorem dX9_lays_35 : decode cX9_lays 35 = .ok (.getfield 16, 3) := by decide +kernel
theorem dX9_lays_38 : decode cX9_lays 38 = .ok (.iload_n 2, 1) := by decide +kernel
theorem dX9_lays_39 : decode cX9_lays 39 = .ok (.iload_n 3, 1) := by decide +kernel
theorem dX9_lays_40 : decode cX9_lays 40 = .ok (.iastore, 1) := by decide +kernel
theorem dX9_lays_41 : decode cX9_lays 41 = .ok (.goto 21, 3) := by decide +kernel
theorem dX9_lays_44 : decode cX9_lays 44 = .ok (.iload_n 1, 1) := by decide +kernel
theorem dX9_lays_45 : decode cX9_lays 45 = .ok (.iconst 3, 1) := by decide +kernel
theorem dX9_lays_46 : decode cX9_lays 46 = .ok (.if_icmp .ne 11, 3) := by decide +kernel
theorem dX9_lays_49 : decode cX9_lays 49 = .ok (.aload_n 0, 1) := by decide +kernel
theorem dX9_lays_50 : decode cX9_lays 50 = .ok (.iload_n 3, 1) := by decide +kernel
theorem dX9_lays_51 : decode cX9_lays 51 = .ok (.putfield 19, 3) := by decide +kernel
theorem dX9_lays_54 : decode cX9_lays 54 = .ok (.goto 8, 3) := by decide +kernel
theorem dX9_lays_57 : decode cX9_lays 57 = .ok (.aload_n 0, 1) := by decide +kernel
theorem dX9_lays_58 : decode cX9_lays 58 = .ok (.iload_n 3, 1) := by decide +kernel
theorem dX9_lays_59 : decode cX9_lays 59 = .ok (.putfield 177, 3) := by decide +kernel
theorem dX9_lays_62 : decode cX9_lays 62 = .ok (.return_, 1) := by decide +kernel
theorem dX9_changes_0 : decode cX9_changes 0 = .ok (.aload_n 0, 1) := by decide +kernel
theorem dX9_changes_1 : decode cX9_changes 1 = .ok (.iload_n 1, 1) := by decide +kernel
theorem dX9_changes_2 : decode cX9_changes 2 = .ok (.iload_n 2, 1) := by decide +kernel
theorem dX9_changes_3 : decode cX9_changes 3 = .ok (.invokevirtual 180, 3) := by decide +kernel
theorem dX9_changes_6 : decode cX9_changes 6 = .ok (.istore 4, 2) := by decide +kernel
theorem dX9_changes_8 : decode cX9_changes 8 = .ok (.iload 4, 2) := by decide +kernel
theorem dX9_changes_10 : decode cX9_changes 10 = .ok (.iload_n 3, 1) := by decide +kernel
theorem dX9_changes_11 : decode cX9_changes 11 = .ok (.if_icmp .ne 6, 3) := by decide +kernel
theorem dX9_changes_14 : decode cX9_changes 14 = .ok (.iload 4, 2) := by decide +kernel
theorem dX9_changes_16 : decode cX9_changes 16 = .ok (.ireturn, 1) := by decide +kernel
theorem dX9_changes_17 : decode cX9_changes 17 = .ok (.aload_n 0, 1) := by decide +kernel
theorem dX9_changes_18 : decode cX9_changes 18 = .ok (.iconst 0, 1) := by decide +kernel
theorem dX9_changes_19 : decode cX9_changes 19 = .ok (.putfield 184, 3) := by decide +kernel
theorem dX9_changes_22 : decode cX9_changes 22 = .ok (.aload_n 0, 1) := by decide +kernel
theorem dX9_changes_23 : decode cX9_changes 23 = .ok (.getfield 187, 3) := by decide +kernel
theorem dX9_changes_26 : decode cX9_changes 26 = .ok (.bipush 40, 2) := by decide +kernel
theorem dX9_changes_28 : decode cX9_changes 28 = .ok (.if_icmp .ne 93, 3) := by decide +kernel
theorem dX9_changes_31 : decode cX9_changes 31 = .ok (.iconst 1, 1) := by decide +kernel
theorem dX9_changes_32 : decode cX9_changes 32 = .ok (.istore 5, 2) := by decide +kernel
theorem dX9_changes_34 : decode cX9_changes 34 = .ok (.iload 5, 2) := by decide +kernel
theorem dX9_changes_36 : decode cX9_changes 36 = .ok (.bipush 40, 2) := by decide +kernel
theorem dX9_changes_38 : decode cX9_changes 38 = .ok (.if_icmp .ge 73, 3) := by decide +kernel
theorem dX9_changes_41 : decode cX9_changes 41 = .ok (.aload_n 0, 1) := by decide +kernel
theorem dX9_changes_42 : decode cX9_changes 42 = .ok (.getfield 50, 3) := by decide +kernel
theorem dX9_changes_45 : decode cX9_changes 45 = .ok (.iload 5, 2) := by decide +kernel
theorem dX9_changes_47 : decode cX9_changes 47 = .ok (.iconst 1, 1) := by decide +kernel
theorem dX9_changes_48 : decode cX9_changes 48 = .ok (.isub, 1) := by decide +kernel
theorem dX9_changes_49 : decode cX9_changes 49 = .ok (.aload_n 0, 1) := by decide +kernel
theorem dX9_changes_50 : decode cX9_changes 50 = .ok (.getfield 50, 3) := by decide +kernel
theorem dX9_changes_53 : decode cX9_changes 53 = .ok (.iload 5, 2) := by decide +kernel
theorem dX9_changes_55 : decode cX9_changes 55 = .ok (.iaload, 1) := by decide +kernel
