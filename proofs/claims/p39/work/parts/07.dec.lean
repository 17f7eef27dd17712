theorem dX8_of_80 : decode cX8_of 80 = .ok (.aload_n 0, 1) := by decide +kernel
theorem dX8_of_81 : decode cX8_of 81 = .ok (.getfield 33, 3) := by decide +kernel
theorem dX8_of_84 : decode cX8_of 84 = .ok (.getfield 110, 3) := by decide +kernel
theorem dX8_of_87 : decode cX8_of 87 = .ok (.iload_n 1, 1) := by decide +kernel
theorem dX8_of_88 : decode cX8_of 88 = .ok (.iaload, 1) := by decide +kernel
theorem dX8_of_89 : decode cX8_of 89 = .ok (.ireturn, 1) := by decide +kernel
theorem dX8_of_90 : decode cX8_of 90 = .ok (.aload_n 0, 1) := by decide +kernel
theorem dX8_of_91 : decode cX8_of 91 = .ok (.getfield 33, 3) := by decide +kernel
theorem dX8_of_94 : decode cX8_of 94 = .ok (.getfield 114, 3) := by decide +kernel
theorem dX8_of_97 : decode cX8_of 97 = .ok (.iload_n 1, 1) := by decide +kernel
theorem dX8_of_98 : decode cX8_of 98 = .ok (.iaload, 1) := by decide +kernel
theorem dX8_of_99 : decode cX8_of 99 = .ok (.ifCond .ge 8, 3) := by decide +kernel
theorem dX8_of_102 : decode cX8_of 102 = .ok (.bipush (-2), 2) := by decide +kernel
theorem dX8_of_104 : decode cX8_of 104 = .ok (.goto 12, 3) := by decide +kernel
theorem dX8_of_107 : decode cX8_of 107 = .ok (.aload_n 0, 1) := by decide +kernel
theorem dX8_of_108 : decode cX8_of 108 = .ok (.getfield 33, 3) := by decide +kernel
theorem dX8_of_111 : decode cX8_of 111 = .ok (.getfield 114, 3) := by decide +kernel
theorem dX8_of_114 : decode cX8_of 114 = .ok (.iload_n 1, 1) := by decide +kernel
theorem dX8_of_115 : decode cX8_of 115 = .ok (.iaload, 1) := by decide +kernel
theorem dX8_of_116 : decode cX8_of 116 = .ok (.ireturn, 1) := by decide +kernel
theorem dX8_of_117 : decode cX8_of 117 = .ok (.aload_n 0, 1) := by decide +kernel
theorem dX8_of_118 : decode cX8_of 118 = .ok (.getfield 33, 3) := by decide +kernel
theorem dX8_of_121 : decode cX8_of 121 = .ok (.getfield 117, 3) := by decide +kernel
theorem dX8_of_124 : decode cX8_of 124 = .ok (.iload_n 1, 1) := by decide +kernel
theorem dX8_of_125 : decode cX8_of 125 = .ok (.iaload, 1) := by decide +kernel
theorem dX8_of_126 : decode cX8_of 126 = .ok (.ireturn, 1) := by decide +kernel
theorem dX8_of_127 : decode cX8_of 127 = .ok (.iload_n 1, 1) := by decide +kernel
theorem dX8_of_128 : decode cX8_of 128 = .ok (.aload_n 0, 1) := by decide +kernel
theorem dX8_of_129 : decode cX8_of 129 = .ok (.getfield 33, 3) := by decide +kernel
theorem dX8_of_132 : decode cX8_of 132 = .ok (.getfield 120, 3) := by decide +kernel
theorem dX8_of_135 : decode cX8_of 135 = .ok (.if_icmp .lt 7, 3) := by decide +kernel
theorem dX8_of_138 : decode cX8_of 138 = .ok (.iconst 1, 1) := by decide +kernel
theorem dX8_of_139 : decode cX8_of 139 = .ok (.goto 4, 3) := by decide +kernel
theorem dX8_of_142 : decode cX8_of 142 = .ok (.iconst 0, 1) := by decide +kernel
theorem dX8_of_143 : decode cX8_of 143 = .ok (.ireturn, 1) := by decide +kernel
theorem dX8_of_144 : decode cX8_of 144 = .ok (.iconst (-1), 1) := by decide +kernel
theorem dX8_of_145 : decode cX8_of 145 = .ok (.ireturn, 1) := by decide +kernel
theorem dX8_swap_0 : decode cX8_swap 0 = .ok (.aload_n 0, 1) := by decide +kernel
theorem dX8_swap_1 : decode cX8_swap 1 = .ok (.getfield 10, 3) := by decide +kernel
theorem dX8_swap_4 : decode cX8_swap 4 = .ok (.iload_n 1, 1) := by decide +kernel
theorem dX8_swap_5 : decode cX8_swap 5 = .ok (.invokevirtual 123, 3) := by decide +kernel
theorem dX8_swap_8 : decode cX8_swap 8 = .ok (.ifCond .eq 14, 3) := by decide +kernel
theorem dX8_swap_11 : decode cX8_swap 11 = .ok (.iload_n 1, 1) := by decide +kernel
theorem dX8_swap_12 : decode cX8_swap 12 = .ok (.bipush 10, 2) := by decide +kernel
theorem dX8_swap_14 : decode cX8_swap 14 = .ok (.idiv, 1) := by decide +kernel
theorem dX8_swap_15 : decode cX8_swap 15 = .ok (.iload_n 1, 1) := by decide +kernel
theorem dX8_swap_16 : decode cX8_swap 16 = .ok (.bipush 10, 2) := by decide +kernel
theorem dX8_swap_18 : decode cX8_swap 18 = .ok (.irem, 1) := by decide +kernel
theorem dX8_swap_19 : decode cX8_swap 19 = .ok (.if_icmp .ne 5, 3) := by decide +kernel
theorem dX8_swap_22 : decode cX8_swap 22 = .ok (.iconst (-1), 1) := by decide +kernel
theorem dX8_swap_23 : decode cX8_swap 23 = .ok (.ireturn, 1) := by decide +kernel
theorem dX8_swap_24 : decode cX8_swap 24 = .ok (.aload_n 0, 1) := by decide +kernel
theorem dX8_swap_25 : decode cX8_swap 25 = .ok (.getfield 33, 3) := by decide +kernel
theorem dX8_swap_28 : decode cX8_swap 28 = .ok (.invokevirtual 67, 3) := by decide +kernel
theorem dX8_swap_31 : decode cX8_swap 31 = .ok (.ifCond .eq 6, 3) := by decide +kernel
theorem dX8_swap_34 : decode cX8_swap 34 = .ok (.bipush (-5), 2) := by decide +kernel
theorem dX8_swap_36 : decode cX8_swap 36 = .ok (.ireturn, 1) := by decide +kernel
theorem dX8_swap_37 : decode cX8_swap 37 = .ok (.aload_n 0, 1) := by decide +kernel
theorem dX8_swap_38 : decode cX8_swap 38 = .ok (.getfield 33, 3) := by decide +kernel
theorem dX8_swap_41 : decode cX8_swap 41 = .ok (.iload_n 1, 1) := by decide +kernel
theorem dX8_swap_42 : decode cX8_swap 42 = .ok (.bipush 10, 2) := by decide +kernel
theorem dX8_swap_44 : decode cX8_swap 44 = .ok (.idiv, 1) := by decide +kernel
theorem dX8_swap_45 : decode cX8_swap 45 = .ok (.iload_n 1, 1) := by decide +kernel
theorem dX8_swap_46 : decode cX8_swap 46 = .ok (.bipush 10, 2) := by decide +kernel
theorem dX8_swap_48 : decode cX8_swap 48 = .ok (.irem, 1) := by decide +kernel
theorem dX8_swap_49 : decode cX8_swap 49 = .ok (.invokevirtual 126, 3) := by decide +kernel
theorem dX8_swap_52 : decode cX8_swap 52 = .ok (.aload_n 0, 1) := by decide +kernel
theorem dX8_swap_53 : decode cX8_swap 53 = .ok (.getfield 33, 3) := by decide +kernel
theorem dX8_swap_56 : decode cX8_swap 56 = .ok (.getfield 110, 3) := by decide +kernel
theorem dX8_swap_59 : decode cX8_swap 59 = .ok (.iload_n 1, 1) := by decide +kernel
theorem dX8_swap_60 : decode cX8_swap 60 = .ok (.bipush 10, 2) := by decide +kernel
theorem dX8_swap_62 : decode cX8_swap 62 = .ok (.idiv, 1) := by decide +kernel
theorem dX8_swap_63 : decode cX8_swap 63 = .ok (.iaload, 1) := by decide +kernel
theorem dX8_swap_64 : decode cX8_swap 64 = .ok (.ireturn, 1) := by decide +kernel
theorem dX8_feed_0 : decode cX8_feed 0 = .ok (.iload_n 1, 1) := by decide +kernel
theorem dX8_feed_1 : decode cX8_feed 1 = .ok (.ifCond .lt 10, 3) := by decide +kernel
theorem dX8_feed_4 : decode cX8_feed 4 = .ok (.iload_n 1, 1) := by decide +kernel
theorem dX8_feed_5 : decode cX8_feed 5 = .ok (.sipush 255, 3) := by decide +kernel
theorem dX8_feed_8 : decode cX8_feed 8 = .ok (.if_icmp .le 5, 3) := by decide +kernel
theorem dX8_feed_11 : decode cX8_feed 11 = .ok (.iconst (-1), 1) := by decide +kernel
theorem dX8_feed_12 : decode cX8_feed 12 = .ok (.ireturn, 1) := by decide +kernel
theorem dX8_feed_13 : decode cX8_feed 13 = .ok (.aload_n 0, 1) := by decide +kernel
theorem dX8_feed_14 : decode cX8_feed 14 = .ok (.getfield 26, 3) := by decide +kernel
theorem dX8_feed_17 : decode cX8_feed 17 = .ok (.iload_n 1, 1) := by decide +kernel
theorem dX8_feed_18 : decode cX8_feed 18 = .ok (.invokevirtual 130, 3) := by decide +kernel
theorem dX8_feed_21 : decode cX8_feed 21 = .ok (.ifCond .eq 13, 3) := by decide +kernel
theorem dX8_feed_24 : decode cX8_feed 24 = .ok (.aload_n 0, 1) := by decide +kernel
theorem dX8_feed_25 : decode cX8_feed 25 = .ok (.getfield 26, 3) := by decide +kernel
theorem dX8_feed_28 : decode cX8_feed 28 = .ok (.getfield 133, 3) := by decide +kernel
theorem dX8_feed_31 : decode cX8_feed 31 = .ok (.goto 5, 3) := by decide +kernel
theorem dX8_feed_34 : decode cX8_feed 34 = .ok (.bipush (-3), 2) := by decide +kernel
theorem dX8_feed_36 : decode cX8_feed 36 = .ok (.ireturn, 1) := by decide +kernel
theorem dX8_law_0 : decode cX8_law 0 = .ok (.aload_n 0, 1) := by decide +kernel
theorem dX8_law_1 : decode cX8_law 1 = .ok (.getfield 26, 3) := by decide +kernel
theorem dX8_law_4 : decode cX8_law 4 = .ok (.invokevirtual 136, 3) := by decide +kernel
theorem dX8_law_7 : decode cX8_law 7 = .ok (.istore_n 1, 1) := by decide +kernel
theorem dX8_law_8 : decode cX8_law 8 = .ok (.iload_n 1, 1) := by decide +kernel
theorem dX8_law_9 : decode cX8_law 9 = .ok (.iconst (-1), 1) := by decide +kernel
theorem dX8_law_10 : decode cX8_law 10 = .ok (.if_icmp .eq 8, 3) := by decide +kernel
theorem dX8_law_13 : decode cX8_law 13 = .ok (.bipush (-100), 2) := by decide +kernel
theorem dX8_law_15 : decode cX8_law 15 = .ok (.iload_n 1, 1) := by decide +kernel
theorem dX8_law_16 : decode cX8_law 16 = .ok (.isub, 1) := by decide +kernel
theorem dX8_law_17 : decode cX8_law 17 = .ok (.ireturn, 1) := by decide +kernel
theorem dX8_law_18 : decode cX8_law 18 = .ok (.aload_n 0, 1) := by decide +kernel
theorem dX8_law_19 : decode cX8_law 19 = .ok (.getfield 10, 3) := by decide +kernel
theorem dX8_law_22 : decode cX8_law 22 = .ok (.aload_n 0, 1) := by decide +kernel
theorem dX8_law_23 : decode cX8_law 23 = .ok (.getfield 26, 3) := by decide +kernel
theorem dX8_law_26 : decode cX8_law 26 = .ok (.aload_n 0, 1) := by decide +kernel
theorem dX8_law_27 : decode cX8_law 27 = .ok (.getfield 10, 3) := by decide +kernel
theorem dX8_law_30 : decode cX8_law 30 = .ok (.getfield 140, 3) := by decide +kernel
theorem dX8_law_33 : decode cX8_law 33 = .ok (.invokevirtual 144, 3) := by decide +kernel
theorem dX8_law_36 : decode cX8_law 36 = .ok (.putfield 140, 3) := by decide +kernel
theorem dX8_law_39 : decode cX8_law 39 = .ok (.iconst 1, 1) := by decide +kernel
theorem dX8_law_40 : decode cX8_law 40 = .ok (.ireturn, 1) := by decide +kernel
theorem dX8_turn_0 : decode cX8_turn 0 = .ok (.aload_n 0, 1) := by decide +kernel
theorem dX8_turn_1 : decode cX8_turn 1 = .ok (.getfield 33, 3) := by decide +kernel
theorem dX8_turn_4 : decode cX8_turn 4 = .ok (.aload_n 0, 1) := by decide +kernel
theorem dX8_turn_5 : decode cX8_turn 5 = .ok (.getfield 10, 3) := by decide +kernel
theorem dX8_turn_8 : decode cX8_turn 8 = .ok (.invokevirtual 148, 3) := by decide +kernel
theorem dX8_turn_11 : decode cX8_turn 11 = .ok (.ireturn, 1) := by decide +kernel
theorem dX8_open_0 : decode cX8_open 0 = .ok (.aload_n 0, 1) := by decide +kernel
theorem dX8_open_1 : decode cX8_open 1 = .ok (.getfield 33, 3) := by decide +kernel
theorem dX8_open_4 : decode cX8_open 4 = .ok (.aload_n 0, 1) := by decide +kernel
theorem dX8_open_5 : decode cX8_open 5 = .ok (.getfield 10, 3) := by decide +kernel
theorem dX8_open_8 : decode cX8_open 8 = .ok (.invokevirtual 148, 3) := by decide +kernel
theorem dX8_open_11 : decode cX8_open 11 = .ok (.istore_n 1, 1) := by decide +kernel
theorem dX8_open_12 : decode cX8_open 12 = .ok (.iload_n 1, 1) := by decide +kernel
theorem dX8_open_13 : decode cX8_open 13 = .ok (.ifCond .ge 8, 3) := by decide +kernel
theorem dX8_open_16 : decode cX8_open 16 = .ok (.bipush (-5), 2) := by decide +kernel
theorem dX8_open_18 : decode cX8_open 18 = .ok (.goto 11, 3) := by decide +kernel
theorem dX8_open_21 : decode cX8_open 21 = .ok (.aload_n 0, 1) := by decide +kernel
theorem dX8_open_22 : decode cX8_open 22 = .ok (.getfield 33, 3) := by decide +kernel
theorem dX8_open_25 : decode cX8_open 25 = .ok (.iload_n 1, 1) := by decide +kernel
theorem dX8_open_26 : decode cX8_open 26 = .ok (.invokevirtual 152, 3) := by decide +kernel
theorem dX8_open_29 : decode cX8_open 29 = .ok (.ireturn, 1) := by decide +kernel
theorem dX8_goOn_0 : decode cX8_goOn 0 = .ok (.aload_n 0, 1) := by decide +kernel
theorem dX8_goOn_1 : decode cX8_goOn 1 = .ok (.getfield 33, 3) := by decide +kernel
theorem dX8_goOn_4 : decode cX8_goOn 4 = .ok (.aload_n 0, 1) := by decide +kernel
theorem dX8_goOn_5 : decode cX8_goOn 5 = .ok (.getfield 10, 3) := by decide +kernel
theorem dX8_goOn_8 : decode cX8_goOn 8 = .ok (.getfield 71, 3) := by decide +kernel
theorem dX8_goOn_11 : decode cX8_goOn 11 = .ok (.aload_n 0, 1) := by decide +kernel
theorem dX8_goOn_12 : decode cX8_goOn 12 = .ok (.getfield 10, 3) := by decide +kernel
theorem dX8_goOn_15 : decode cX8_goOn 15 = .ok (.invokevirtual 162, 3) := by decide +kernel
theorem dX8_goOn_18 : decode cX8_goOn 18 = .ok (.ireturn, 1) := by decide +kernel
theorem dX8_again_0 : decode cX8_again 0 = .ok (.aload_n 0, 1) := by decide +kernel
theorem dX8_again_1 : decode cX8_again 1 = .ok (.getfield 10, 3) := by decide +kernel
theorem dX8_again_4 : decode cX8_again 4 = .ok (.getfield 166, 3) := by decide +kernel
theorem dX8_again_7 : decode cX8_again 7 = .ok (.ifCond .eq 27, 3) := by decide +kernel
theorem dX8_again_10 : decode cX8_again 10 = .ok (.aload_n 0, 1) := by decide +kernel
theorem dX8_again_11 : decode cX8_again 11 = .ok (.getfield 33, 3) := by decide +kernel
theorem dX8_again_14 : decode cX8_again 14 = .ok (.getfield 169, 3) := by decide +kernel
theorem dX8_again_17 : decode cX8_again 17 = .ok (.ifCond .ne 17, 3) := by decide +kernel
theorem dX8_again_20 : decode cX8_again 20 = .ok (.aload_n 0, 1) := by decide +kernel
theorem dX8_again_21 : decode cX8_again 21 = .ok (.getfield 33, 3) := by decide +kernel
theorem dX8_again_24 : decode cX8_again 24 = .ok (.aload_n 0, 1) := by decide +kernel
theorem dX8_again_25 : decode cX8_again 25 = .ok (.getfield 10, 3) := by decide +kernel
theorem dX8_again_28 : decode cX8_again 28 = .ok (.invokevirtual 173, 3) := by decide +kernel
theorem dX8_again_31 : decode cX8_again 31 = .ok (.ifCond .ne 6, 3) := by decide +kernel
theorem dX8_again_34 : decode cX8_again 34 = .ok (.bipush (-5), 2) := by decide +kernel
theorem dX8_again_36 : decode cX8_again 36 = .ok (.ireturn, 1) := by decide +kernel
theorem dX8_again_37 : decode cX8_again 37 = .ok (.aload_n 0, 1) := by decide +kernel
theorem dX8_again_38 : decode cX8_again 38 = .ok (.getfield 33, 3) := by decide +kernel
theorem dX8_again_41 : decode cX8_again 41 = .ok (.aload_n 0, 1) := by decide +kernel
theorem dX8_again_42 : decode cX8_again 42 = .ok (.getfield 10, 3) := by decide +kernel
theorem dX8_again_45 : decode cX8_again 45 = .ok (.invokevirtual 177, 3) := by decide +kernel
theorem dX8_again_48 : decode cX8_again 48 = .ok (.aload_n 0, 1) := by decide +kernel
theorem dX8_again_49 : decode cX8_again 49 = .ok (.getfield 33, 3) := by decide +kernel
theorem dX8_again_52 : decode cX8_again 52 = .ok (.getfield 114, 3) := by decide +kernel
theorem dX8_again_55 : decode cX8_again 55 = .ok (.aload_n 0, 1) := by decide +kernel
theorem dX8_again_56 : decode cX8_again 56 = .ok (.getfield 33, 3) := by decide +kernel
theorem dX8_again_59 : decode cX8_again 59 = .ok (.getfield 110, 3) := by decide +kernel
theorem dX8_again_62 : decode cX8_again 62 = .ok (.iconst 0, 1) := by decide +kernel
theorem dX8_again_63 : decode cX8_again 63 = .ok (.iaload, 1) := by decide +kernel
theorem dX8_again_64 : decode cX8_again 64 = .ok (.iaload, 1) := by decide +kernel
theorem dX8_again_65 : decode cX8_again 65 = .ok (.ireturn, 1) := by decide +kernel
theorem dX8_anew_0 : decode cX8_anew 0 = .ok (.aload_n 0, 1) := by decide +kernel
theorem dX8_anew_1 : decode cX8_anew 1 = .ok (.getfield 33, 3) := by decide +kernel
theorem dX8_anew_4 : decode cX8_anew 4 = .ok (.invokevirtual 180, 3) := by decide +kernel
theorem dX8_anew_7 : decode cX8_anew 7 = .ok (.aload_n 0, 1) := by decide +kernel
theorem dX8_anew_8 : decode cX8_anew 8 = .ok (.getfield 10, 3) := by decide +kernel
theorem dX8_anew_11 : decode cX8_anew 11 = .ok (.getfield 71, 3) := by decide +kernel
theorem dX8_anew_14 : decode cX8_anew 14 = .ok (.ireturn, 1) := by decide +kernel
theorem dX8_led_0 : decode cX8_led 0 = .ok (.iload_n 1, 1) := by decide +kernel
theorem dX8_led_1 : decode cX8_led 1 = .ok (.ifCond .lt 8, 3) := by decide +kernel
theorem dX8_led_4 : decode cX8_led 4 = .ok (.iload_n 1, 1) := by decide +kernel
theorem dX8_led_5 : decode cX8_led 5 = .ok (.iconst 2, 1) := by decide +kernel
theorem dX8_led_6 : decode cX8_led 6 = .ok (.if_icmp .le 5, 3) := by decide +kernel
theorem dX8_led_9 : decode cX8_led 9 = .ok (.iconst (-1), 1) := by decide +kernel
theorem dX8_led_10 : decode cX8_led 10 = .ok (.ireturn, 1) := by decide +kernel
theorem dX8_led_11 : decode cX8_led 11 = .ok (.iload_n 1, 1) := by decide +kernel
theorem dX8_led_12 : decode cX8_led 12 = .ok (.iconst 2, 1) := by decide +kernel
theorem dX8_led_13 : decode cX8_led 13 = .ok (.if_icmp .ne 11, 3) := by decide +kernel
theorem dX8_led_16 : decode cX8_led 16 = .ok (.aload_n 0, 1) := by decide +kernel
theorem dX8_led_17 : decode cX8_led 17 = .ok (.getfield 33, 3) := by decide +kernel
theorem dX8_led_20 : decode cX8_led 20 = .ok (.getfield 183, 3) := by decide +kernel
theorem dX8_led_23 : decode cX8_led 23 = .ok (.ireturn, 1) := by decide +kernel
theorem dX8_led_24 : decode cX8_led 24 = .ok (.aload_n 0, 1) := by decide +kernel
theorem dX8_led_25 : decode cX8_led 25 = .ok (.getfield 33, 3) := by decide +kernel
theorem dX8_led_28 : decode cX8_led 28 = .ok (.getfield 183, 3) := by decide +kernel
theorem dX8_led_31 : decode cX8_led 31 = .ok (.ifCond .ne 6, 3) := by decide +kernel
theorem dX8_led_34 : decode cX8_led 34 = .ok (.bipush (-5), 2) := by decide +kernel
theorem dX8_led_36 : decode cX8_led 36 = .ok (.ireturn, 1) := by decide +kernel
theorem dX8_led_37 : decode cX8_led 37 = .ok (.iload_n 1, 1) := by decide +kernel
theorem dX8_led_38 : decode cX8_led 38 = .ok (.ifCond .ne 13, 3) := by decide +kernel
theorem dX8_led_41 : decode cX8_led 41 = .ok (.aload_n 0, 1) := by decide +kernel
theorem dX8_led_42 : decode cX8_led 42 = .ok (.getfield 33, 3) := by decide +kernel
theorem dX8_led_45 : decode cX8_led 45 = .ok (.getfield 186, 3) := by decide +kernel
theorem dX8_led_48 : decode cX8_led 48 = .ok (.goto 10, 3) := by decide +kernel
theorem dX8_led_51 : decode cX8_led 51 = .ok (.aload_n 0, 1) := by decide +kernel
theorem dX8_led_52 : decode cX8_led 52 = .ok (.getfield 33, 3) := by decide +kernel
theorem dX8_led_55 : decode cX8_led 55 = .ok (.getfield 189, 3) := by decide +kernel
theorem dX8_led_58 : decode cX8_led 58 = .ok (.ireturn, 1) := by decide +kernel
theorem dX8_evening_0 : decode cX8_evening 0 = .ok (.iload_n 2, 1) := by decide +kernel
theorem dX8_evening_1 : decode cX8_evening 1 = .ok (.ifCond .eq 8, 3) := by decide +kernel
theorem dX8_evening_4 : decode cX8_evening 4 = .ok (.iload_n 2, 1) := by decide +kernel
theorem dX8_evening_5 : decode cX8_evening 5 = .ok (.iconst 3, 1) := by decide +kernel
theorem dX8_evening_6 : decode cX8_evening 6 = .ok (.if_icmp .ne 7, 3) := by decide +kernel
theorem dX8_evening_9 : decode cX8_evening 9 = .ok (.iconst 1, 1) := by decide +kernel
theorem dX8_evening_10 : decode cX8_evening 10 = .ok (.goto 4, 3) := by decide +kernel
theorem dX8_evening_13 : decode cX8_evening 13 = .ok (.iconst 0, 1) := by decide +kernel
theorem dX8_evening_14 : decode cX8_evening 14 = .ok (.istore_n 3, 1) := by decide +kernel
theorem dX8_evening_15 : decode cX8_evening 15 = .ok (.iload_n 2, 1) := by decide +kernel
theorem dX8_evening_16 : decode cX8_evening 16 = .ok (.ifCond .lt 30, 3) := by decide +kernel
theorem dX8_evening_19 : decode cX8_evening 19 = .ok (.iload_n 2, 1) := by decide +kernel
theorem dX8_evening_20 : decode cX8_evening 20 = .ok (.iconst 3, 1) := by decide +kernel
theorem dX8_evening_21 : decode cX8_evening 21 = .ok (.if_icmp .gt 25, 3) := by decide +kernel
theorem dX8_evening_24 : decode cX8_evening 24 = .ok (.iload_n 3, 1) := by decide +kernel
theorem dX8_evening_25 : decode cX8_evening 25 = .ok (.ifCond .eq 17, 3) := by decide +kernel
theorem dX8_evening_28 : decode cX8_evening 28 = .ok (.aload_n 0, 1) := by decide +kernel
theorem dX8_evening_29 : decode cX8_evening 29 = .ok (.getfield 10, 3) := by decide +kernel
theorem dX8_evening_32 : decode cX8_evening 32 = .ok (.iload_n 1, 1) := by decide +kernel
theorem dX8_evening_33 : decode cX8_evening 33 = .ok (.invokevirtual 107, 3) := by decide +kernel
theorem dX8_evening_36 : decode cX8_evening 36 = .ok (.ifCond .ne 12, 3) := by decide +kernel
theorem dX8_evening_39 : decode cX8_evening 39 = .ok (.goto 7, 3) := by decide +kernel
theorem dX8_evening_42 : decode cX8_evening 42 = .ok (.iload_n 1, 1) := by decide +kernel
theorem dX8_evening_43 : decode cX8_evening 43 = .ok (.ifCond .eq 5, 3) := by decide +kernel
theorem dX8_evening_46 : decode cX8_evening 46 = .ok (.iconst (-1), 1) := by decide +kernel
theorem dX8_evening_47 : decode cX8_evening 47 = .ok (.ireturn, 1) := by decide +kernel
theorem dX8_evening_48 : decode cX8_evening 48 = .ok (.aload_n 0, 1) := by decide +kernel
theorem dX8_evening_49 : decode cX8_evening 49 = .ok (.getfield 45, 3) := by decide +kernel
theorem dX8_evening_52 : decode cX8_evening 52 = .ok (.aload_n 0, 1) := by decide +kernel
theorem dX8_evening_53 : decode cX8_evening 53 = .ok (.getfield 33, 3) := by decide +kernel
theorem dX8_evening_56 : decode cX8_evening 56 = .ok (.getfield 110, 3) := by decide +kernel
theorem dX8_evening_59 : decode cX8_evening 59 = .ok (.invokevirtual 192, 3) := by decide +kernel
theorem dX8_evening_62 : decode cX8_evening 62 = .ok (.astore 4, 2) := by decide +kernel
theorem dX8_evening_64 : decode cX8_evening 64 = .ok (.iload_n 2, 1) := by decide +kernel
theorem dX8_evening_65 : decode cX8_evening 65 = .ok (.tableswitch 51 0 2 #[27, 35, 41], 27) := by decide +kernel
theorem dX8_evening_92 : decode cX8_evening 92 = .ok (.aload 4, 2) := by decide +kernel
theorem dX8_evening_94 : decode cX8_evening 94 = .ok (.getfield 114, 3) := by decide +kernel
theorem dX8_evening_97 : decode cX8_evening 97 = .ok (.iload_n 1, 1) := by decide +kernel
theorem dX8_evening_98 : decode cX8_evening 98 = .ok (.iaload, 1) := by decide +kernel
theorem dX8_evening_99 : decode cX8_evening 99 = .ok (.ireturn, 1) := by decide +kernel
theorem dX8_evening_100 : decode cX8_evening 100 = .ok (.aload 4, 2) := by decide +kernel
theorem dX8_evening_102 : decode cX8_evening 102 = .ok (.getfield 183, 3) := by decide +kernel
theorem dX8_evening_105 : decode cX8_evening 105 = .ok (.ireturn, 1) := by decide +kernel
theorem dX8_evening_106 : decode cX8_evening 106 = .ok (.aload 4, 2) := by decide +kernel
theorem dX8_evening_108 : decode cX8_evening 108 = .ok (.aload_n 0, 1) := by decide +kernel
theorem dX8_evening_109 : decode cX8_evening 109 = .ok (.getfield 10, 3) := by decide +kernel
theorem dX8_evening_112 : decode cX8_evening 112 = .ok (.invokevirtual 196, 3) := by decide +kernel
theorem dX8_evening_115 : decode cX8_evening 115 = .ok (.ireturn, 1) := by decide +kernel
theorem dX8_evening_116 : decode cX8_evening 116 = .ok (.aload 4, 2) := by decide +kernel
theorem dX8_evening_118 : decode cX8_evening 118 = .ok (.getfield 117, 3) := by decide +kernel
theorem dX8_evening_121 : decode cX8_evening 121 = .ok (.iload_n 1, 1) := by decide +kernel
theorem dX8_evening_122 : decode cX8_evening 122 = .ok (.iaload, 1) := by decide +kernel
theorem dX8_evening_123 : decode cX8_evening 123 = .ok (.ireturn, 1) := by decide +kernel
theorem dX8_exact_0 : decode cX8_exact 0 = .ok (.iload_n 1, 1) := by decide +kernel
theorem dX8_exact_1 : decode cX8_exact 1 = .ok (.iconst (-1), 1) := by decide +kernel
theorem dX8_exact_2 : decode cX8_exact 2 = .ok (.if_icmp .eq 16, 3) := by decide +kernel
theorem dX8_exact_5 : decode cX8_exact 5 = .ok (.aload_n 0, 1) := by decide +kernel
theorem dX8_exact_6 : decode cX8_exact 6 = .ok (.getfield 10, 3) := by decide +kernel
theorem dX8_exact_9 : decode cX8_exact 9 = .ok (.iload_n 1, 1) := by decide +kernel
theorem dX8_exact_10 : decode cX8_exact 10 = .ok (.invokevirtual 107, 3) := by decide +kernel
theorem dX8_exact_13 : decode cX8_exact 13 = .ok (.ifCond .ne 5, 3) := by decide +kernel
theorem dX8_exact_16 : decode cX8_exact 16 = .ok (.iconst (-1), 1) := by decide +kernel
theorem dX8_exact_17 : decode cX8_exact 17 = .ok (.ireturn, 1) := by decide +kernel
theorem dX8_exact_18 : decode cX8_exact 18 = .ok (.aload_n 0, 1) := by decide +kernel
theorem dX8_exact_19 : decode cX8_exact 19 = .ok (.getfield 10, 3) := by decide +kernel
theorem dX8_exact_22 : decode cX8_exact 22 = .ok (.getfield 71, 3) := by decide +kernel
theorem dX8_exact_25 : decode cX8_exact 25 = .ok (.iconst 3, 1) := by decide +kernel
theorem dX8_exact_26 : decode cX8_exact 26 = .ok (.if_icmp .gt 14, 3) := by decide +kernel
theorem dX8_exact_29 : decode cX8_exact 29 = .ok (.aload_n 0, 1) := by decide +kernel
theorem dX8_exact_30 : decode cX8_exact 30 = .ok (.getfield 10, 3) := by decide +kernel
theorem dX8_exact_33 : decode cX8_exact 33 = .ok (.getfield 199, 3) := by decide +kernel
theorem dX8_exact_36 : decode cX8_exact 36 = .ok (.iconst 2, 1) := by decide +kernel
theorem dX8_exact_37 : decode cX8_exact 37 = .ok (.if_icmp .le 6, 3) := by decide +kernel
theorem dX8_exact_40 : decode cX8_exact 40 = .ok (.bipush (-5), 2) := by decide +kernel
theorem dX8_exact_42 : decode cX8_exact 42 = .ok (.ireturn, 1) := by decide +kernel
theorem dX8_exact_43 : decode cX8_exact 43 = .ok (.aload_n 0, 1) := by decide +kernel
theorem dX8_exact_44 : decode cX8_exact 44 = .ok (.getfield 45, 3) := by decide +kernel
theorem dX8_exact_47 : decode cX8_exact 47 = .ok (.aload_n 0, 1) := by decide +kernel
theorem dX8_exact_48 : decode cX8_exact 48 = .ok (.getfield 33, 3) := by decide +kernel
theorem dX8_exact_51 : decode cX8_exact 51 = .ok (.getfield 110, 3) := by decide +kernel
theorem dX8_exact_54 : decode cX8_exact 54 = .ok (.iload_n 1, 1) := by decide +kernel
theorem dX8_exact_55 : decode cX8_exact 55 = .ok (.invokevirtual 202, 3) := by decide +kernel
theorem dX8_exact_58 : decode cX8_exact 58 = .ok (.ireturn, 1) := by decide +kernel
theorem dX8_best_0 : decode cX8_best 0 = .ok (.iload_n 1, 1) := by decide +kernel
theorem dX8_best_1 : decode cX8_best 1 = .ok (.iconst (-1), 1) := by decide +kernel
theorem dX8_best_2 : decode cX8_best 2 = .ok (.if_icmp .eq 16, 3) := by decide +kernel
theorem dX8_best_5 : decode cX8_best 5 = .ok (.aload_n 0, 1) := by decide +kernel
theorem dX8_best_6 : decode cX8_best 6 = .ok (.getfield 10, 3) := by decide +kernel
theorem dX8_best_9 : decode cX8_best 9 = .ok (.iload_n 1, 1) := by decide +kernel
theorem dX8_best_10 : decode cX8_best 10 = .ok (.invokevirtual 107, 3) := by decide +kernel
theorem dX8_best_13 : decode cX8_best 13 = .ok (.ifCond .ne 5, 3) := by decide +kernel
theorem dX8_best_16 : decode cX8_best 16 = .ok (.iconst (-1), 1) := by decide +kernel
theorem dX8_best_17 : decode cX8_best 17 = .ok (.ireturn, 1) := by decide +kernel
theorem dX8_best_18 : decode cX8_best 18 = .ok (.aload_n 0, 1) := by decide +kernel
theorem dX8_best_19 : decode cX8_best 19 = .ok (.getfield 45, 3) := by decide +kernel
theorem dX8_best_22 : decode cX8_best 22 = .ok (.iload_n 1, 1) := by decide +kernel
theorem dX8_best_23 : decode cX8_best 23 = .ok (.invokevirtual 206, 3) := by decide +kernel
theorem dX8_best_26 : decode cX8_best 26 = .ok (.ireturn, 1) := by decide +kernel
theorem dX8_pairs_0 : decode cX8_pairs 0 = .ok (.aload_n 0, 1) := by decide +kernel
theorem dX8_pairs_1 : decode cX8_pairs 1 = .ok (.getfield 45, 3) := by decide +kernel
theorem dX8_pairs_4 : decode cX8_pairs 4 = .ok (.aload_n 0, 1) := by decide +kernel
theorem dX8_pairs_5 : decode cX8_pairs 5 = .ok (.getfield 33, 3) := by decide +kernel
theorem dX8_pairs_8 : decode cX8_pairs 8 = .ok (.getfield 110, 3) := by decide +kernel
theorem dX8_pairs_11 : decode cX8_pairs 11 = .ok (.invokevirtual 209, 3) := by decide +kernel
theorem dX8_pairs_14 : decode cX8_pairs 14 = .ok (.ireturn, 1) := by decide +kernel
theorem dX8_face_0 : decode cX8_face 0 = .ok (.aload_n 0, 1) := by decide +kernel
theorem dX8_face_1 : decode cX8_face 1 = .ok (.getfield 10, 3) := by decide +kernel
theorem dX8_face_4 : decode cX8_face 4 = .ok (.iload_n 1, 1) := by decide +kernel
theorem dX8_face_5 : decode cX8_face 5 = .ok (.invokevirtual 107, 3) := by decide +kernel
theorem dX8_face_8 : decode cX8_face 8 = .ok (.ifCond .eq 21, 3) := by decide +kernel
theorem dX8_face_11 : decode cX8_face 11 = .ok (.aload_n 0, 1) := by decide +kernel
theorem dX8_face_12 : decode cX8_face 12 = .ok (.getfield 45, 3) := by decide +kernel
theorem dX8_face_15 : decode cX8_face 15 = .ok (.aload_n 0, 1) := by decide +kernel
theorem dX8_face_16 : decode cX8_face 16 = .ok (.getfield 33, 3) := by decide +kernel
theorem dX8_face_19 : decode cX8_face 19 = .ok (.getfield 110, 3) := by decide +kernel
theorem dX8_face_22 : decode cX8_face 22 = .ok (.iload_n 1, 1) := by decide +kernel
theorem dX8_face_23 : decode cX8_face 23 = .ok (.invokevirtual 213, 3) := by decide +kernel
theorem dX8_face_26 : decode cX8_face 26 = .ok (.goto 4, 3) := by decide +kernel
theorem dX8_face_29 : decode cX8_face 29 = .ok (.iconst (-1), 1) := by decide +kernel
theorem dX8_face_30 : decode cX8_face 30 = .ok (.ireturn, 1) := by decide +kernel
theorem dX8_numbers_0 : decode cX8_numbers 0 = .ok (.iload_n 2, 1) := by decide +kernel
theorem dX8_numbers_1 : decode cX8_numbers 1 = .ok (.iconst 1, 1) := by decide +kernel
theorem dX8_numbers_2 : decode cX8_numbers 2 = .ok (.if_icmp .lt 25, 3) := by decide +kernel
theorem dX8_numbers_5 : decode cX8_numbers 5 = .ok (.iload_n 2, 1) := by decide +kernel
theorem dX8_numbers_6 : decode cX8_numbers 6 = .ok (.bipush 30, 2) := by decide +kernel
theorem dX8_numbers_8 : decode cX8_numbers 8 = .ok (.if_icmp .gt 19, 3) := by decide +kernel
theorem dX8_numbers_11 : decode cX8_numbers 11 = .ok (.iload_n 3, 1) := by decide +kernel
theorem dX8_numbers_12 : decode cX8_numbers 12 = .ok (.iconst (-1), 1) := by decide +kernel
theorem dX8_numbers_13 : decode cX8_numbers 13 = .ok (.if_icmp .eq 16, 3) := by decide +kernel
theorem dX8_numbers_16 : decode cX8_numbers 16 = .ok (.aload_n 0, 1) := by decide +kernel
theorem dX8_numbers_17 : decode cX8_numbers 17 = .ok (.getfield 10, 3) := by decide +kernel
theorem dX8_numbers_20 : decode cX8_numbers 20 = .ok (.iload_n 3, 1) := by decide +kernel
theorem dX8_numbers_21 : decode cX8_numbers 21 = .ok (.invokevirtual 107, 3) := by decide +kernel
theorem dX8_numbers_24 : decode cX8_numbers 24 = .ok (.ifCond .ne 5, 3) := by decide +kernel
theorem dX8_numbers_27 : decode cX8_numbers 27 = .ok (.iconst (-1), 1) := by decide +kernel
theorem dX8_numbers_28 : decode cX8_numbers 28 = .ok (.ireturn, 1) := by decide +kernel
theorem dX8_numbers_29 : decode cX8_numbers 29 = .ok (.aload_n 0, 1) := by decide +kernel
theorem dX8_numbers_30 : decode cX8_numbers 30 = .ok (.getfield 45, 3) := by decide +kernel
theorem dX8_numbers_33 : decode cX8_numbers 33 = .ok (.aload_n 0, 1) := by decide +kernel
theorem dX8_numbers_34 : decode cX8_numbers 34 = .ok (.getfield 33, 3) := by decide +kernel
theorem dX8_numbers_37 : decode cX8_numbers 37 = .ok (.getfield 110, 3) := by decide +kernel
theorem dX8_numbers_40 : decode cX8_numbers 40 = .ok (.iload_n 1, 1) := by decide +kernel
theorem dX8_numbers_41 : decode cX8_numbers 41 = .ok (.iload_n 2, 1) := by decide +kernel
theorem dX8_numbers_42 : decode cX8_numbers 42 = .ok (.invokevirtual 216, 3) := by decide +kernel
theorem dX8_numbers_45 : decode cX8_numbers 45 = .ok (.iload_n 3, 1) := by decide +kernel
theorem dX8_numbers_46 : decode cX8_numbers 46 = .ok (.iconst (-1), 1) := by decide +kernel
theorem dX8_numbers_47 : decode cX8_numbers 47 = .ok (.if_icmp .ne 13, 3) := by decide +kernel
theorem dX8_numbers_50 : decode cX8_numbers 50 = .ok (.aload_n 0, 1) := by decide +kernel
theorem dX8_numbers_51 : decode cX8_numbers 51 = .ok (.getfield 45, 3) := by decide +kernel
theorem dX8_numbers_54 : decode cX8_numbers 54 = .ok (.invokevirtual 220, 3) := by decide +kernel
theorem dX8_numbers_57 : decode cX8_numbers 57 = .ok (.goto 12, 3) := by decide +kernel
theorem dX8_numbers_60 : decode cX8_numbers 60 = .ok (.aload_n 0, 1) := by decide +kernel
theorem dX8_numbers_61 : decode cX8_numbers 61 = .ok (.getfield 45, 3) := by decide +kernel
theorem dX8_numbers_64 : decode cX8_numbers 64 = .ok (.getfield 223, 3) := by decide +kernel
theorem dX8_numbers_67 : decode cX8_numbers 67 = .ok (.iload_n 3, 1) := by decide +kernel
theorem dX8_numbers_68 : decode cX8_numbers 68 = .ok (.iaload, 1) := by decide +kernel
theorem dX8_numbers_69 : decode cX8_numbers 69 = .ok (.ireturn, 1) := by decide +kernel
theorem dX8_judge_0 : decode cX8_judge 0 = .ok (.aload_n 0, 1) := by decide +kernel
theorem dX8_judge_1 : decode cX8_judge 1 = .ok (.getfield 59, 3) := by decide +kernel
theorem dX8_judge_4 : decode cX8_judge 4 = .ok (.iload_n 1, 1) := by decide +kernel
theorem dX8_judge_5 : decode cX8_judge 5 = .ok (.invokevirtual 82, 3) := by decide +kernel
theorem dX8_judge_8 : decode cX8_judge 8 = .ok (.istore_n 2, 1) := by decide +kernel
theorem dX8_judge_9 : decode cX8_judge 9 = .ok (.iload_n 2, 1) := by decide +kernel
theorem dX8_judge_10 : decode cX8_judge 10 = .ok (.ifCond .eq 5, 3) := by decide +kernel
theorem dX8_judge_13 : decode cX8_judge 13 = .ok (.iload_n 2, 1) := by decide +kernel
theorem dX8_judge_14 : decode cX8_judge 14 = .ok (.ireturn, 1) := by decide +kernel
theorem dX8_judge_15 : decode cX8_judge 15 = .ok (.aload_n 0, 1) := by decide +kernel
theorem dX8_judge_16 : decode cX8_judge 16 = .ok (.getfield 45, 3) := by decide +kernel
theorem dX8_judge_19 : decode cX8_judge 19 = .ok (.aload_n 0, 1) := by decide +kernel
theorem dX8_judge_20 : decode cX8_judge 20 = .ok (.getfield 59, 3) := by decide +kernel
theorem dX8_judge_23 : decode cX8_judge 23 = .ok (.getfield 226, 3) := by decide +kernel
theorem dX8_judge_26 : decode cX8_judge 26 = .ok (.iload_n 1, 1) := by decide +kernel
theorem dX8_judge_27 : decode cX8_judge 27 = .ok (.aaload, 1) := by decide +kernel
theorem dX8_judge_28 : decode cX8_judge 28 = .ok (.aload_n 0, 1) := by decide +kernel
theorem dX8_judge_29 : decode cX8_judge 29 = .ok (.getfield 59, 3) := by decide +kernel
theorem dX8_judge_32 : decode cX8_judge 32 = .ok (.getfield 230, 3) := by decide +kernel
theorem dX8_judge_35 : decode cX8_judge 35 = .ok (.iload_n 1, 1) := by decide +kernel
theorem dX8_judge_36 : decode cX8_judge 36 = .ok (.iaload, 1) := by decide +kernel
theorem dX8_judge_37 : decode cX8_judge 37 = .ok (.invokevirtual 233, 3) := by decide +kernel
theorem dX8_judge_40 : decode cX8_judge 40 = .ok (.aload_n 0, 1) := by decide +kernel
theorem dX8_judge_41 : decode cX8_judge 41 = .ok (.getfield 45, 3) := by decide +kernel
theorem dX8_judge_44 : decode cX8_judge 44 = .ok (.aload_n 0, 1) := by decide +kernel
theorem dX8_judge_45 : decode cX8_judge 45 = .ok (.getfield 45, 3) := by decide +kernel
theorem dX8_judge_48 : decode cX8_judge 48 = .ok (.aload_n 0, 1) := by decide +kernel
theorem dX8_judge_49 : decode cX8_judge 49 = .ok (.getfield 33, 3) := by decide +kernel
theorem dX8_judge_52 : decode cX8_judge 52 = .ok (.getfield 110, 3) := by decide +kernel
theorem dX8_judge_55 : decode cX8_judge 55 = .ok (.invokevirtual 192, 3) := by decide +kernel
theorem dX8_judge_58 : decode cX8_judge 58 = .ok (.invokevirtual 237, 3) := by decide +kernel
theorem dX8_judge_61 : decode cX8_judge 61 = .ok (.ireturn, 1) := by decide +kernel
theorem dX8_lots_0 : decode cX8_lots 0 = .ok (.aload_n 0, 1) := by decide +kernel
theorem dX8_lots_1 : decode cX8_lots 1 = .ok (.getfield 59, 3) := by decide +kernel
theorem dX8_lots_4 : decode cX8_lots 4 = .ok (.iload_n 1, 1) := by decide +kernel
theorem dX8_lots_5 : decode cX8_lots 5 = .ok (.invokevirtual 82, 3) := by decide +kernel
theorem dX8_lots_8 : decode cX8_lots 8 = .ok (.istore_n 2, 1) := by decide +kernel
theorem dX8_lots_9 : decode cX8_lots 9 = .ok (.iload_n 2, 1) := by decide +kernel
theorem dX8_lots_10 : decode cX8_lots 10 = .ok (.ifCond .eq 5, 3) := by decide +kernel
theorem dX8_lots_13 : decode cX8_lots 13 = .ok (.iload_n 2, 1) := by decide +kernel
theorem dX8_lots_14 : decode cX8_lots 14 = .ok (.ireturn, 1) := by decide +kernel
theorem dX8_lots_15 : decode cX8_lots 15 = .ok (.aload_n 0, 1) := by decide +kernel
theorem dX8_lots_16 : decode cX8_lots 16 = .ok (.getfield 45, 3) := by decide +kernel
theorem dX8_lots_19 : decode cX8_lots 19 = .ok (.aload_n 0, 1) := by decide +kernel
theorem dX8_lots_20 : decode cX8_lots 20 = .ok (.getfield 59, 3) := by decide +kernel
theorem dX8_lots_23 : decode cX8_lots 23 = .ok (.getfield 226, 3) := by decide +kernel
theorem dX8_lots_26 : decode cX8_lots 26 = .ok (.iload_n 1, 1) := by decide +kernel
theorem dX8_lots_27 : decode cX8_lots 27 = .ok (.aaload, 1) := by decide +kernel
theorem dX8_lots_28 : decode cX8_lots 28 = .ok (.aload_n 0, 1) := by decide +kernel
theorem dX8_lots_29 : decode cX8_lots 29 = .ok (.getfield 59, 3) := by decide +kernel
theorem dX8_lots_32 : decode cX8_lots 32 = .ok (.getfield 230, 3) := by decide +kernel
theorem dX8_lots_35 : decode cX8_lots 35 = .ok (.iload_n 1, 1) := by decide +kernel
theorem dX8_lots_36 : decode cX8_lots 36 = .ok (.iaload, 1) := by decide +kernel
theorem dX8_lots_37 : decode cX8_lots 37 = .ok (.invokevirtual 233, 3) := by decide +kernel
theorem dX8_lots_40 : decode cX8_lots 40 = .ok (.aload_n 0, 1) := by decide +kernel
theorem dX8_lots_41 : decode cX8_lots 41 = .ok (.getfield 45, 3) := by decide +kernel
theorem dX8_lots_44 : decode cX8_lots 44 = .ok (.invokevirtual 241, 3) := by decide +kernel
theorem dX8_lots_47 : decode cX8_lots 47 = .ok (.ireturn, 1) := by decide +kernel
theorem dX8_row_0 : decode cX8_row 0 = .ok (.aload_n 0, 1) := by decide +kernel
theorem dX8_row_1 : decode cX8_row 1 = .ok (.getfield 59, 3) := by decide +kernel
theorem dX8_row_4 : decode cX8_row 4 = .ok (.iload_n 1, 1) := by decide +kernel
theorem dX8_row_5 : decode cX8_row 5 = .ok (.invokevirtual 78, 3) := by decide +kernel
theorem dX8_row_8 : decode cX8_row 8 = .ok (.ifCond .eq 18, 3) := by decide +kernel
theorem dX8_row_11 : decode cX8_row 11 = .ok (.iload_n 2, 1) := by decide +kernel
theorem dX8_row_12 : decode cX8_row 12 = .ok (.ifCond .lt 14, 3) := by decide +kernel
theorem dX8_row_15 : decode cX8_row 15 = .ok (.iload_n 2, 1) := by decide +kernel
theorem dX8_row_16 : decode cX8_row 16 = .ok (.iconst 4, 1) := by decide +kernel
theorem dX8_row_17 : decode cX8_row 17 = .ok (.if_icmp .gt 9, 3) := by decide +kernel
theorem dX8_row_20 : decode cX8_row 20 = .ok (.iload_n 3, 1) := by decide +kernel
theorem dX8_row_21 : decode cX8_row 21 = .ok (.bipush 60, 2) := by decide +kernel
theorem dX8_row_23 : decode cX8_row 23 = .ok (.if_icmp .le 5, 3) := by decide +kernel
theorem dX8_row_26 : decode cX8_row 26 = .ok (.iconst (-1), 1) := by decide +kernel
theorem dX8_row_27 : decode cX8_row 27 = .ok (.ireturn, 1) := by decide +kernel
theorem dX8_row_28 : decode cX8_row 28 = .ok (.iload_n 3, 1) := by decide +kernel
theorem dX8_row_29 : decode cX8_row 29 = .ok (.ifCond .ge 6, 3) := by decide +kernel
theorem dX8_row_32 : decode cX8_row 32 = .ok (.bipush (-14), 2) := by decide +kernel
theorem dX8_row_34 : decode cX8_row 34 = .ok (.ireturn, 1) := by decide +kernel
theorem dX8_row_35 : decode cX8_row 35 = .ok (.aload_n 0, 1) := by decide +kernel
theorem dX8_row_36 : decode cX8_row 36 = .ok (.getfield 59, 3) := by decide +kernel
theorem dX8_row_39 : decode cX8_row 39 = .ok (.iload_n 1, 1) := by decide +kernel
theorem dX8_row_40 : decode cX8_row 40 = .ok (.iload_n 2, 1) := by decide +kernel
theorem dX8_row_41 : decode cX8_row 41 = .ok (.iload_n 3, 1) := by decide +kernel
theorem dX8_row_42 : decode cX8_row 42 = .ok (.invokevirtual 275, 3) := by decide +kernel
theorem dX8_row_45 : decode cX8_row 45 = .ok (.iconst 1, 1) := by decide +kernel
theorem dX8_row_46 : decode cX8_row 46 = .ok (.ireturn, 1) := by decide +kernel
theorem dX8_put_0 : decode cX8_put 0 = .ok (.aload_n 0, 1) := by decide +kernel
theorem dX8_put_1 : decode cX8_put 1 = .ok (.getfield 59, 3) := by decide +kernel
theorem dX8_put_4 : decode cX8_put 4 = .ok (.iload_n 1, 1) := by decide +kernel
theorem dX8_put_5 : decode cX8_put 5 = .ok (.iload_n 2, 1) := by decide +kernel
theorem dX8_put_6 : decode cX8_put 6 = .ok (.invokevirtual 278, 3) := by decide +kernel
theorem dX8_put_9 : decode cX8_put 9 = .ok (.istore 5, 2) := by decide +kernel
theorem dX8_put_11 : decode cX8_put 11 = .ok (.iload 5, 2) := by decide +kernel
theorem dX8_put_13 : decode cX8_put 13 = .ok (.ifCond .eq 6, 3) := by decide +kernel
theorem dX8_put_16 : decode cX8_put 16 = .ok (.iload 5, 2) := by decide +kernel
theorem dX8_put_18 : decode cX8_put 18 = .ok (.ireturn, 1) := by decide +kernel
theorem dX8_put_19 : decode cX8_put 19 = .ok (.aload_n 0, 1) := by decide +kernel
theorem dX8_put_20 : decode cX8_put 20 = .ok (.getfield 59, 3) := by decide +kernel
theorem dX8_put_23 : decode cX8_put 23 = .ok (.getfield 226, 3) := by decide +kernel
theorem dX8_put_26 : decode cX8_put 26 = .ok (.iload_n 1, 1) := by decide +kernel
theorem dX8_put_27 : decode cX8_put 27 = .ok (.aaload, 1) := by decide +kernel
theorem dX8_put_28 : decode cX8_put 28 = .ok (.iload_n 2, 1) := by decide +kernel
theorem dX8_put_29 : decode cX8_put 29 = .ok (.aload_n 0, 1) := by decide +kernel
theorem dX8_put_30 : decode cX8_put 30 = .ok (.getfield 59, 3) := by decide +kernel
theorem dX8_put_33 : decode cX8_put 33 = .ok (.getfield 281, 3) := by decide +kernel
theorem dX8_put_36 : decode cX8_put 36 = .ok (.iload_n 1, 1) := by decide +kernel
theorem dX8_put_37 : decode cX8_put 37 = .ok (.iaload, 1) := by decide +kernel
theorem dX8_put_38 : decode cX8_put 38 = .ok (.lload_n 3, 1) := by decide +kernel
theorem dX8_put_39 : decode cX8_put 39 = .ok (.invokestatic 284, 3) := by decide +kernel
theorem dX8_put_42 : decode cX8_put 42 = .ok (.lastore, 1) := by decide +kernel
theorem dX8_put_43 : decode cX8_put 43 = .ok (.iconst 1, 1) := by decide +kernel
theorem dX8_put_44 : decode cX8_put 44 = .ok (.ireturn, 1) := by decide +kernel
theorem dX8_count_0 : decode cX8_count 0 = .ok (.iload_n 1, 1) := by decide +kernel
theorem dX8_count_1 : decode cX8_count 1 = .ok (.tableswitch 111 0 6 #[43, 51, 67, 79, 87, 95, 103], 43) := by decide +kernel
theorem dX8_count_44 : decode cX8_count 44 = .ok (.aload_n 0, 1) := by decide +kernel
theorem dX8_count_45 : decode cX8_count 45 = .ok (.getfield 10, 3) := by decide +kernel
theorem dX8_count_48 : decode cX8_count 48 = .ok (.getfield 71, 3) := by decide +kernel
theorem dX8_count_51 : decode cX8_count 51 = .ok (.ireturn, 1) := by decide +kernel
theorem dX8_count_52 : decode cX8_count 52 = .ok (.aload_n 0, 1) := by decide +kernel
theorem dX8_count_53 : decode cX8_count 53 = .ok (.getfield 10, 3) := by decide +kernel
theorem dX8_count_56 : decode cX8_count 56 = .ok (.getfield 71, 3) := by decide +kernel
theorem dX8_count_59 : decode cX8_count 59 = .ok (.aload_n 0, 1) := by decide +kernel
theorem dX8_count_60 : decode cX8_count 60 = .ok (.getfield 33, 3) := by decide +kernel
theorem dX8_count_63 : decode cX8_count 63 = .ok (.getfield 120, 3) := by decide +kernel
theorem dX8_count_66 : decode cX8_count 66 = .ok (.isub, 1) := by decide +kernel
theorem dX8_count_67 : decode cX8_count 67 = .ok (.ireturn, 1) := by decide +kernel
theorem dX8_count_68 : decode cX8_count 68 = .ok (.aload_n 0, 1) := by decide +kernel
theorem dX8_count_69 : decode cX8_count 69 = .ok (.getfield 33, 3) := by decide +kernel
theorem dX8_count_72 : decode cX8_count 72 = .ok (.aload_n 0, 1) := by decide +kernel
theorem dX8_count_73 : decode cX8_count 73 = .ok (.getfield 10, 3) := by decide +kernel
theorem dX8_count_76 : decode cX8_count 76 = .ok (.invokevirtual 314, 3) := by decide +kernel
theorem dX8_count_79 : decode cX8_count 79 = .ok (.ireturn, 1) := by decide +kernel
theorem dX8_count_80 : decode cX8_count 80 = .ok (.aload_n 0, 1) := by decide +kernel
theorem dX8_count_81 : decode cX8_count 81 = .ok (.getfield 26, 3) := by decide +kernel
theorem dX8_count_84 : decode cX8_count 84 = .ok (.getfield 133, 3) := by decide +kernel
theorem dX8_count_87 : decode cX8_count 87 = .ok (.ireturn, 1) := by decide +kernel
theorem dX8_count_88 : decode cX8_count 88 = .ok (.aload_n 0, 1) := by decide +kernel
theorem dX8_count_89 : decode cX8_count 89 = .ok (.getfield 19, 3) := by decide +kernel
theorem dX8_count_92 : decode cX8_count 92 = .ok (.getfield 247, 3) := by decide +kernel
theorem dX8_count_95 : decode cX8_count 95 = .ok (.ireturn, 1) := by decide +kernel
theorem dX8_count_96 : decode cX8_count 96 = .ok (.aload_n 0, 1) := by decide +kernel
theorem dX8_count_97 : decode cX8_count 97 = .ok (.getfield 52, 3) := by decide +kernel
theorem dX8_count_100 : decode cX8_count 100 = .ok (.getfield 317, 3) := by decide +kernel
theorem dX8_count_103 : decode cX8_count 103 = .ok (.ireturn, 1) := by decide +kernel
theorem dX8_count_104 : decode cX8_count 104 = .ok (.aload_n 0, 1) := by decide +kernel
theorem dX8_count_105 : decode cX8_count 105 = .ok (.getfield 52, 3) := by decide +kernel
theorem dX8_count_108 : decode cX8_count 108 = .ok (.getfield 320, 3) := by decide +kernel
theorem dX8_count_111 : decode cX8_count 111 = .ok (.ireturn, 1) := by decide +kernel
theorem dX8_count_112 : decode cX8_count 112 = .ok (.iconst (-1), 1) := by decide +kernel
theorem dX8_count_113 : decode cX8_count 113 = .ok (.ireturn, 1) := by decide +kernel
theorem dX8_welcome_0 : decode cX8_welcome 0 = .ok (.aload_n 0, 1) := by decide +kernel
theorem dX8_welcome_1 : decode cX8_welcome 1 = .ok (.getfield 10, 3) := by decide +kernel
theorem dX8_welcome_4 : decode cX8_welcome 4 = .ok (.getfield 71, 3) := by decide +kernel
theorem dX8_welcome_7 : decode cX8_welcome 7 = .ok (.istore_n 2, 1) := by decide +kernel
theorem dX8_welcome_8 : decode cX8_welcome 8 = .ok (.iload_n 2, 1) := by decide +kernel
theorem dX8_welcome_9 : decode cX8_welcome 9 = .ok (.bipush 7, 2) := by decide +kernel
theorem dX8_welcome_11 : decode cX8_welcome 11 = .ok (.if_icmp .lt 6, 3) := by decide +kernel
theorem dX8_welcome_14 : decode cX8_welcome 14 = .ok (.bipush (-3), 2) := by decide +kernel
theorem dX8_welcome_16 : decode cX8_welcome 16 = .ok (.ireturn, 1) := by decide +kernel
theorem dX8_welcome_17 : decode cX8_welcome 17 = .ok (.aload_n 0, 1) := by decide +kernel
theorem dX8_welcome_18 : decode cX8_welcome 18 = .ok (.getfield 10, 3) := by decide +kernel
theorem dX8_welcome_21 : decode cX8_welcome 21 = .ok (.getfield 323, 3) := by decide +kernel
theorem dX8_welcome_24 : decode cX8_welcome 24 = .ok (.iload_n 2, 1) := by decide +kernel
theorem dX8_welcome_25 : decode cX8_welcome 25 = .ok (.iload_n 1, 1) := by decide +kernel
theorem dX8_welcome_26 : decode cX8_welcome 26 = .ok (.iastore, 1) := by decide +kernel
theorem dX8_welcome_27 : decode cX8_welcome 27 = .ok (.aload_n 0, 1) := by decide +kernel
theorem dX8_welcome_28 : decode cX8_welcome 28 = .ok (.getfield 33, 3) := by decide +kernel
theorem dX8_welcome_31 : decode cX8_welcome 31 = .ok (.getfield 110, 3) := by decide +kernel
theorem dX8_welcome_34 : decode cX8_welcome 34 = .ok (.iload_n 2, 1) := by decide +kernel
theorem dX8_welcome_35 : decode cX8_welcome 35 = .ok (.iload_n 2, 1) := by decide +kernel
theorem dX8_welcome_36 : decode cX8_welcome 36 = .ok (.iastore, 1) := by decide +kernel
theorem dX8_welcome_37 : decode cX8_welcome 37 = .ok (.aload_n 0, 1) := by decide +kernel
theorem dX8_welcome_38 : decode cX8_welcome 38 = .ok (.getfield 10, 3) := by decide +kernel
theorem dX8_welcome_41 : decode cX8_welcome 41 = .ok (.iload_n 2, 1) := by decide +kernel
theorem dX8_welcome_42 : decode cX8_welcome 42 = .ok (.iconst 1, 1) := by decide +kernel
theorem dX8_welcome_43 : decode cX8_welcome 43 = .ok (.iadd, 1) := by decide +kernel
theorem dX8_welcome_44 : decode cX8_welcome 44 = .ok (.putfield 71, 3) := by decide +kernel
theorem dX8_welcome_47 : decode cX8_welcome 47 = .ok (.iload_n 2, 1) := by decide +kernel
theorem dX8_welcome_48 : decode cX8_welcome 48 = .ok (.ireturn, 1) := by decide +kernel
theorem dJ6_bitCount_0f7a4_0 : decode cJ6_bitCount_0f7a4 0 = .ok (.iload_n 0, 1) := by decide +kernel
theorem dJ6_bitCount_0f7a4_1 : decode cJ6_bitCount_0f7a4 1 = .ok (.iload_n 0, 1) := by decide +kernel
theorem dJ6_bitCount_0f7a4_2 : decode cJ6_bitCount_0f7a4 2 = .ok (.iconst 1, 1) := by decide +kernel
theorem dJ6_bitCount_0f7a4_3 : decode cJ6_bitCount_0f7a4 3 = .ok (.iushr, 1) := by decide +kernel
theorem dJ6_bitCount_0f7a4_4 : decode cJ6_bitCount_0f7a4 4 = .ok (.ldc_w 265, 3) := by decide +kernel
theorem dJ6_bitCount_0f7a4_7 : decode cJ6_bitCount_0f7a4 7 = .ok (.iand, 1) := by decide +kernel
theorem dJ6_bitCount_0f7a4_8 : decode cJ6_bitCount_0f7a4 8 = .ok (.isub, 1) := by decide +kernel
theorem dJ6_bitCount_0f7a4_9 : decode cJ6_bitCount_0f7a4 9 = .ok (.istore_n 0, 1) := by decide +kernel
theorem dJ6_bitCount_0f7a4_10 : decode cJ6_bitCount_0f7a4 10 = .ok (.iload_n 0, 1) := by decide +kernel
theorem dJ6_bitCount_0f7a4_11 : decode cJ6_bitCount_0f7a4 11 = .ok (.ldc_w 266, 3) := by decide +kernel
theorem dJ6_bitCount_0f7a4_14 : decode cJ6_bitCount_0f7a4 14 = .ok (.iand, 1) := by decide +kernel
theorem dJ6_bitCount_0f7a4_15 : decode cJ6_bitCount_0f7a4 15 = .ok (.iload_n 0, 1) := by decide +kernel
theorem dJ6_bitCount_0f7a4_16 : decode cJ6_bitCount_0f7a4 16 = .ok (.iconst 2, 1) := by decide +kernel
theorem dJ6_bitCount_0f7a4_17 : decode cJ6_bitCount_0f7a4 17 = .ok (.iushr, 1) := by decide +kernel
theorem dJ6_bitCount_0f7a4_18 : decode cJ6_bitCount_0f7a4 18 = .ok (.ldc_w 266, 3) := by decide +kernel
theorem dJ6_bitCount_0f7a4_21 : decode cJ6_bitCount_0f7a4 21 = .ok (.iand, 1) := by decide +kernel
theorem dJ6_bitCount_0f7a4_22 : decode cJ6_bitCount_0f7a4 22 = .ok (.iadd, 1) := by decide +kernel
theorem dJ6_bitCount_0f7a4_23 : decode cJ6_bitCount_0f7a4 23 = .ok (.istore_n 0, 1) := by decide +kernel
theorem dJ6_bitCount_0f7a4_24 : decode cJ6_bitCount_0f7a4 24 = .ok (.iload_n 0, 1) := by decide +kernel
theorem dJ6_bitCount_0f7a4_25 : decode cJ6_bitCount_0f7a4 25 = .ok (.iload_n 0, 1) := by decide +kernel
theorem dJ6_bitCount_0f7a4_26 : decode cJ6_bitCount_0f7a4 26 = .ok (.iconst 4, 1) := by decide +kernel
theorem dJ6_bitCount_0f7a4_27 : decode cJ6_bitCount_0f7a4 27 = .ok (.iushr, 1) := by decide +kernel
theorem dJ6_bitCount_0f7a4_28 : decode cJ6_bitCount_0f7a4 28 = .ok (.iadd, 1) := by decide +kernel
theorem dJ6_bitCount_0f7a4_29 : decode cJ6_bitCount_0f7a4 29 = .ok (.ldc_w 267, 3) := by decide +kernel
theorem dJ6_bitCount_0f7a4_32 : decode cJ6_bitCount_0f7a4 32 = .ok (.iand, 1) := by decide +kernel
theorem dJ6_bitCount_0f7a4_33 : decode cJ6_bitCount_0f7a4 33 = .ok (.istore_n 0, 1) := by decide +kernel
theorem dJ6_bitCount_0f7a4_34 : decode cJ6_bitCount_0f7a4 34 = .ok (.iload_n 0, 1) := by decide +kernel
theorem dJ6_bitCount_0f7a4_35 : decode cJ6_bitCount_0f7a4 35 = .ok (.iload_n 0, 1) := by decide +kernel
theorem dJ6_bitCount_0f7a4_36 : decode cJ6_bitCount_0f7a4 36 = .ok (.bipush 8, 2) := by decide +kernel
theorem dJ6_bitCount_0f7a4_38 : decode cJ6_bitCount_0f7a4 38 = .ok (.iushr, 1) := by decide +kernel
theorem dJ6_bitCount_0f7a4_39 : decode cJ6_bitCount_0f7a4 39 = .ok (.iadd, 1) := by decide +kernel
theorem dJ6_bitCount_0f7a4_40 : decode cJ6_bitCount_0f7a4 40 = .ok (.istore_n 0, 1) := by decide +kernel
theorem dJ6_bitCount_0f7a4_41 : decode cJ6_bitCount_0f7a4 41 = .ok (.iload_n 0, 1) := by decide +kernel
theorem dJ6_bitCount_0f7a4_42 : decode cJ6_bitCount_0f7a4 42 = .ok (.iload_n 0, 1) := by decide +kernel
theorem dJ6_bitCount_0f7a4_43 : decode cJ6_bitCount_0f7a4 43 = .ok (.bipush 16, 2) := by decide +kernel
theorem dJ6_bitCount_0f7a4_45 : decode cJ6_bitCount_0f7a4 45 = .ok (.iushr, 1) := by decide +kernel
theorem dJ6_bitCount_0f7a4_46 : decode cJ6_bitCount_0f7a4 46 = .ok (.iadd, 1) := by decide +kernel
theorem dJ6_bitCount_0f7a4_47 : decode cJ6_bitCount_0f7a4 47 = .ok (.istore_n 0, 1) := by decide +kernel
theorem dJ6_bitCount_0f7a4_48 : decode cJ6_bitCount_0f7a4 48 = .ok (.iload_n 0, 1) := by decide +kernel
theorem dJ6_bitCount_0f7a4_49 : decode cJ6_bitCount_0f7a4 49 = .ok (.bipush 63, 2) := by decide +kernel
theorem dJ6_bitCount_0f7a4_51 : decode cJ6_bitCount_0f7a4 51 = .ok (.iand, 1) := by decide +kernel
theorem dJ6_bitCount_0f7a4_52 : decode cJ6_bitCount_0f7a4 52 = .ok (.ireturn, 1) := by decide +kernel
theorem dJ9_max_7cf53_0 : decode cJ9_max_7cf53 0 = .ok (.iload_n 0, 1) := by decide +kernel
theorem dJ9_max_7cf53_1 : decode cJ9_max_7cf53 1 = .ok (.iload_n 1, 1) := by decide +kernel
theorem dJ9_max_7cf53_2 : decode cJ9_max_7cf53 2 = .ok (.if_icmp .lt 7, 3) := by decide +kernel
theorem dJ9_max_7cf53_5 : decode cJ9_max_7cf53 5 = .ok (.iload_n 0, 1) := by decide +kernel
theorem dJ9_max_7cf53_6 : decode cJ9_max_7cf53 6 = .ok (.goto 4, 3) := by decide +kernel
theorem dJ9_max_7cf53_9 : decode cJ9_max_7cf53 9 = .ok (.iload_n 1, 1) := by decide +kernel
theorem dJ9_max_7cf53_10 : decode cJ9_max_7cf53 10 = .ok (.ireturn, 1) := by decide +kernel
theorem dJ9_min_7cf53_0 : decode cJ9_min_7cf53 0 = .ok (.iload_n 0, 1) := by decide +kernel
theorem dJ9_min_7cf53_1 : decode cJ9_min_7cf53 1 = .ok (.iload_n 1, 1) := by decide +kernel
theorem dJ9_min_7cf53_2 : decode cJ9_min_7cf53 2 = .ok (.if_icmp .gt 7, 3) := by decide +kernel
theorem dJ9_min_7cf53_5 : decode cJ9_min_7cf53 5 = .ok (.iload_n 0, 1) := by decide +kernel
theorem dJ9_min_7cf53_6 : decode cJ9_min_7cf53 6 = .ok (.goto 4, 3) := by decide +kernel
theorem dJ9_min_7cf53_9 : decode cJ9_min_7cf53 9 = .ok (.iload_n 1, 1) := by decide +kernel
theorem dJ9_min_7cf53_10 : decode cJ9_min_7cf53 10 = .ok (.ireturn, 1) := by decide +kernel
theorem dJ7_fill_d0a16_0 : decode cJ7_fill_d0a16 0 = .ok (.iconst 0, 1) := by decide +kernel
theorem dJ7_fill_d0a16_1 : decode cJ7_fill_d0a16 1 = .ok (.istore_n 3, 1) := by decide +kernel
theorem dJ7_fill_d0a16_2 : decode cJ7_fill_d0a16 2 = .ok (.aload_n 0, 1) := by decide +kernel
theorem dJ7_fill_d0a16_3 : decode cJ7_fill_d0a16 3 = .ok (.arraylength, 1) := by decide +kernel
theorem dJ7_fill_d0a16_4 : decode cJ7_fill_d0a16 4 = .ok (.istore 4, 2) := by decide +kernel
theorem dJ7_fill_d0a16_6 : decode cJ7_fill_d0a16 6 = .ok (.iload_n 3, 1) := by decide +kernel
theorem dJ7_fill_d0a16_7 : decode cJ7_fill_d0a16 7 = .ok (.iload 4, 2) := by decide +kernel
theorem dJ7_fill_d0a16_9 : decode cJ7_fill_d0a16 9 = .ok (.if_icmp .ge 13, 3) := by decide +kernel
theorem dJ7_fill_d0a16_12 : decode cJ7_fill_d0a16 12 = .ok (.aload_n 0, 1) := by decide +kernel
theorem dJ7_fill_d0a16_13 : decode cJ7_fill_d0a16 13 = .ok (.iload_n 3, 1) := by decide +kernel
theorem dJ7_fill_d0a16_14 : decode cJ7_fill_d0a16 14 = .ok (.lload_n 1, 1) := by decide +kernel
theorem dJ7_fill_d0a16_15 : decode cJ7_fill_d0a16 15 = .ok (.lastore, 1) := by decide +kernel
theorem dJ7_fill_d0a16_16 : decode cJ7_fill_d0a16 16 = .ok (.iinc 3 1, 3) := by decide +kernel
theorem dJ7_fill_d0a16_19 : decode cJ7_fill_d0a16 19 = .ok (.goto (-13), 3) := by decide +kernel
theorem dJ7_fill_d0a16_22 : decode cJ7_fill_d0a16 22 = .ok (.return_, 1) := by decide +kernel
theorem dJ7_fill_53178_0 : decode cJ7_fill_53178 0 = .ok (.iconst 0, 1) := by decide +kernel
theorem dJ7_fill_53178_1 : decode cJ7_fill_53178 1 = .ok (.istore_n 2, 1) := by decide +kernel
theorem dJ7_fill_53178_2 : decode cJ7_fill_53178 2 = .ok (.aload_n 0, 1) := by decide +kernel
theorem dJ7_fill_53178_3 : decode cJ7_fill_53178 3 = .ok (.arraylength, 1) := by decide +kernel
theorem dJ7_fill_53178_4 : decode cJ7_fill_53178 4 = .ok (.istore_n 3, 1) := by decide +kernel
theorem dJ7_fill_53178_5 : decode cJ7_fill_53178 5 = .ok (.iload_n 2, 1) := by decide +kernel
theorem dJ7_fill_53178_6 : decode cJ7_fill_53178 6 = .ok (.iload_n 3, 1) := by decide +kernel
theorem dJ7_fill_53178_7 : decode cJ7_fill_53178 7 = .ok (.if_icmp .ge 13, 3) := by decide +kernel
theorem dJ7_fill_53178_10 : decode cJ7_fill_53178 10 = .ok (.aload_n 0, 1) := by decide +kernel
theorem dJ7_fill_53178_11 : decode cJ7_fill_53178 11 = .ok (.iload_n 2, 1) := by decide +kernel
theorem dJ7_fill_53178_12 : decode cJ7_fill_53178 12 = .ok (.iload_n 1, 1) := by decide +kernel
theorem dJ7_fill_53178_13 : decode cJ7_fill_53178 13 = .ok (.iastore, 1) := by decide +kernel
theorem dJ7_fill_53178_14 : decode cJ7_fill_53178 14 = .ok (.iinc 2 1, 3) := by decide +kernel
theorem dJ7_fill_53178_17 : decode cJ7_fill_53178 17 = .ok (.goto (-12), 3) := by decide +kernel
theorem dJ7_fill_53178_20 : decode cJ7_fill_53178 20 = .ok (.return_, 1) := by decide +kernel
theorem dL_tell_0 : decode cL_tell 0 = .ok (.iconst 0, 1) := by decide +kernel
theorem dL_tell_1 : decode cL_tell 1 = .ok (.istore_n 3, 1) := by decide +kernel
theorem dL_tell_2 : decode cL_tell 2 = .ok (.iload_n 3, 1) := by decide +kernel
theorem dL_tell_3 : decode cL_tell 3 = .ok (.iload_n 2, 1) := by decide +kernel
theorem dL_tell_4 : decode cL_tell 4 = .ok (.if_icmp .ge 24, 3) := by decide +kernel
theorem dL_tell_7 : decode cL_tell 7 = .ok (.aload_n 0, 1) := by decide +kernel
theorem dL_tell_8 : decode cL_tell 8 = .ok (.aload_n 1, 1) := by decide +kernel
theorem dL_tell_9 : decode cL_tell 9 = .ok (.iload_n 3, 1) := by decide +kernel
theorem dL_tell_10 : decode cL_tell 10 = .ok (.iaload, 1) := by decide +kernel
theorem dL_tell_11 : decode cL_tell 11 = .ok (.invokevirtual 7, 3) := by decide +kernel
theorem dL_tell_14 : decode cL_tell 14 = .ok (.iload_n 3, 1) := by decide +kernel
theorem dL_tell_15 : decode cL_tell 15 = .ok (.iconst 1, 1) := by decide +kernel
theorem dL_tell_16 : decode cL_tell 16 = .ok (.iadd, 1) := by decide +kernel
theorem dL_tell_17 : decode cL_tell 17 = .ok (.if_icmp .eq 5, 3) := by decide +kernel
theorem dL_tell_20 : decode cL_tell 20 = .ok (.iconst 0, 1) := by decide +kernel
theorem dL_tell_21 : decode cL_tell 21 = .ok (.ireturn, 1) := by decide +kernel
theorem dL_tell_22 : decode cL_tell 22 = .ok (.iinc 3 1, 3) := by decide +kernel
theorem dL_tell_25 : decode cL_tell 25 = .ok (.goto (-23), 3) := by decide +kernel
theorem dL_tell_28 : decode cL_tell 28 = .ok (.aload_n 0, 1) := by decide +kernel
theorem dL_tell_29 : decode cL_tell 29 = .ok (.iconst 3, 1) := by decide +kernel
theorem dL_tell_30 : decode cL_tell 30 = .ok (.invokevirtual 13, 3) := by decide +kernel
theorem dL_tell_33 : decode cL_tell 33 = .ok (.iload_n 2, 1) := by decide +kernel
theorem dL_tell_34 : decode cL_tell 34 = .ok (.if_icmp .ne 7, 3) := by decide +kernel
theorem dL_tell_37 : decode cL_tell 37 = .ok (.iconst 1, 1) := by decide +kernel
theorem dL_tell_38 : decode cL_tell 38 = .ok (.goto 4, 3) := by decide +kernel
theorem dL_tell_41 : decode cL_tell 41 = .ok (.iconst 0, 1) := by decide +kernel
theorem dL_tell_42 : decode cL_tell 42 = .ok (.ireturn, 1) := by decide +kernel
theorem dL_cell_0 : decode cL_cell 0 = .ok (.iload_n 1, 1) := by decide +kernel
theorem dL_cell_1 : decode cL_cell 1 = .ok (.aload_n 0, 1) := by decide +kernel
theorem dL_cell_2 : decode cL_cell 2 = .ok (.arraylength, 1) := by decide +kernel
theorem dL_cell_3 : decode cL_cell 3 = .ok (.if_icmp .ge 12, 3) := by decide +kernel
theorem dL_cell_6 : decode cL_cell 6 = .ok (.aload_n 0, 1) := by decide +kernel
theorem dL_cell_7 : decode cL_cell 7 = .ok (.iload_n 1, 1) := by decide +kernel
theorem dL_cell_8 : decode cL_cell 8 = .ok (.iaload, 1) := by decide +kernel
theorem dL_cell_9 : decode cL_cell 9 = .ok (.ldc 16, 2) := by decide +kernel
theorem dL_cell_11 : decode cL_cell 11 = .ok (.iand, 1) := by decide +kernel
theorem dL_cell_12 : decode cL_cell 12 = .ok (.goto 8, 3) := by decide +kernel
theorem dL_cell_15 : decode cL_cell 15 = .ok (.iload_n 1, 1) := by decide +kernel
theorem dL_cell_16 : decode cL_cell 16 = .ok (.sipush 8693, 3) := by decide +kernel
theorem dL_cell_19 : decode cL_cell 19 = .ok (.imul, 1) := by decide +kernel
theorem dL_cell_20 : decode cL_cell 20 = .ok (.ireturn, 1) := by decide +kernel
theorem dL_people_0 : decode cL_people 0 = .ok (.iconst 1, 1) := by decide +kernel
theorem dL_people_1 : decode cL_people 1 = .ok (.aload_n 0, 1) := by decide +kernel
theorem dL_people_2 : decode cL_people 2 = .ok (.iconst 0, 1) := by decide +kernel
theorem dL_people_3 : decode cL_people 3 = .ok (.invokestatic 17, 3) := by decide +kernel
theorem dL_people_6 : decode cL_people 6 = .ok (.bipush 6, 2) := by decide +kernel
theorem dL_people_8 : decode cL_people 8 = .ok (.irem, 1) := by decide +kernel
theorem dL_people_9 : decode cL_people 9 = .ok (.iadd, 1) := by decide +kernel
theorem dL_people_10 : decode cL_people 10 = .ok (.ireturn, 1) := by decide +kernel
theorem dL_way_0 : decode cL_way 0 = .ok (.aload_n 0, 1) := by decide +kernel
theorem dL_way_1 : decode cL_way 1 = .ok (.iconst 0, 1) := by decide +kernel
theorem dL_way_2 : decode cL_way 2 = .ok (.invokestatic 17, 3) := by decide +kernel
theorem dL_way_5 : decode cL_way 5 = .ok (.iconst 3, 1) := by decide +kernel
theorem dL_way_6 : decode cL_way 6 = .ok (.iconst 2, 1) := by decide +kernel
theorem dL_way_7 : decode cL_way 7 = .ok (.iload_n 1, 1) := by decide +kernel
theorem dL_way_8 : decode cL_way 8 = .ok (.imul, 1) := by decide +kernel
theorem dL_way_9 : decode cL_way 9 = .ok (.iadd, 1) := by decide +kernel
theorem dL_way_10 : decode cL_way 10 = .ok (.ishr, 1) := by decide +kernel
theorem dL_way_11 : decode cL_way 11 = .ok (.iconst 3, 1) := by decide +kernel
theorem dL_way_12 : decode cL_way 12 = .ok (.iand, 1) := by decide +kernel
theorem dL_way_13 : decode cL_way 13 = .ok (.iconst 3, 1) := by decide +kernel
theorem dL_way_14 : decode cL_way 14 = .ok (.irem, 1) := by decide +kernel
theorem dL_way_15 : decode cL_way 15 = .ok (.ireturn, 1) := by decide +kernel
theorem dL_most_0 : decode cL_most 0 = .ok (.iconst 1, 1) := by decide +kernel
theorem dL_most_1 : decode cL_most 1 = .ok (.aload_n 0, 1) := by decide +kernel
theorem dL_most_2 : decode cL_most 2 = .ok (.iconst 0, 1) := by decide +kernel
theorem dL_most_3 : decode cL_most 3 = .ok (.invokestatic 17, 3) := by decide +kernel
theorem dL_most_6 : decode cL_most 6 = .ok (.bipush 15, 2) := by decide +kernel
theorem dL_most_8 : decode cL_most 8 = .ok (.ishr, 1) := by decide +kernel
theorem dL_most_9 : decode cL_most 9 = .ok (.iconst 3, 1) := by decide +kernel
theorem dL_most_10 : decode cL_most 10 = .ok (.irem, 1) := by decide +kernel
theorem dL_most_11 : decode cL_most 11 = .ok (.iadd, 1) := by decide +kernel
theorem dL_most_12 : decode cL_most 12 = .ok (.ireturn, 1) := by decide +kernel
theorem dL_again_0 : decode cL_again 0 = .ok (.aload_n 0, 1) := by decide +kernel
theorem dL_again_1 : decode cL_again 1 = .ok (.iconst 0, 1) := by decide +kernel
theorem dL_again_2 : decode cL_again 2 = .ok (.invokestatic 17, 3) := by decide +kernel
theorem dL_again_5 : decode cL_again 5 = .ok (.bipush 17, 2) := by decide +kernel
theorem dL_again_7 : decode cL_again 7 = .ok (.ishr, 1) := by decide +kernel
theorem dL_again_8 : decode cL_again 8 = .ok (.iconst 1, 1) := by decide +kernel
theorem dL_again_9 : decode cL_again 9 = .ok (.iand, 1) := by decide +kernel
theorem dL_again_10 : decode cL_again 10 = .ok (.ireturn, 1) := by decide +kernel
theorem dL_worth_0 : decode cL_worth 0 = .ok (.aload_n 0, 1) := by decide +kernel
theorem dL_worth_1 : decode cL_worth 1 = .ok (.iconst 1, 1) := by decide +kernel
theorem dL_worth_2 : decode cL_worth 2 = .ok (.iload_n 1, 1) := by decide +kernel
theorem dL_worth_3 : decode cL_worth 3 = .ok (.iadd, 1) := by decide +kernel
theorem dL_worth_4 : decode cL_worth 4 = .ok (.invokestatic 17, 3) := by decide +kernel
theorem dL_worth_7 : decode cL_worth 7 = .ok (.iconst 3, 1) := by decide +kernel
theorem dL_worth_8 : decode cL_worth 8 = .ok (.iload_n 2, 1) := by decide +kernel
theorem dL_worth_9 : decode cL_worth 9 = .ok (.imul, 1) := by decide +kernel
theorem dL_worth_10 : decode cL_worth 10 = .ok (.ishr, 1) := by decide +kernel
theorem dL_worth_11 : decode cL_worth 11 = .ok (.aload_n 0, 1) := by decide +kernel
theorem dL_worth_12 : decode cL_worth 12 = .ok (.iconst 0, 1) := by decide +kernel
theorem dL_worth_13 : decode cL_worth 13 = .ok (.invokestatic 17, 3) := by decide +kernel
theorem dL_worth_16 : decode cL_worth 16 = .ok (.bipush 18, 2) := by decide +kernel
theorem dL_worth_18 : decode cL_worth 18 = .ok (.ishr, 1) := by decide +kernel
theorem dL_worth_19 : decode cL_worth 19 = .ok (.iconst 1, 1) := by decide +kernel
theorem dL_worth_20 : decode cL_worth 20 = .ok (.iand, 1) := by decide +kernel
theorem dL_worth_21 : decode cL_worth 21 = .ok (.ifCond .ne 8, 3) := by decide +kernel
theorem dL_worth_24 : decode cL_worth 24 = .ok (.bipush 100, 2) := by decide +kernel
theorem dL_worth_26 : decode cL_worth 26 = .ok (.goto 4, 3) := by decide +kernel
theorem dL_worth_29 : decode cL_worth 29 = .ok (.iconst 5, 1) := by decide +kernel
theorem dL_worth_30 : decode cL_worth 30 = .ok (.irem, 1) := by decide +kernel
theorem dL_worth_31 : decode cL_worth 31 = .ok (.ireturn, 1) := by decide +kernel
theorem dL_like_0 : decode cL_like 0 = .ok (.aload_n 0, 1) := by decide +kernel
