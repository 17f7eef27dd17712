theorem dX0_init_0 : decode cX0_init 0 = .ok (.aload_n 0, 1) := by decide +kernel
theorem dX0_init_1 : decode cX0_init 1 = .ok (.invokespecial 3, 3) := by decide +kernel
theorem dX0_init_4 : decode cX0_init 4 = .ok (.aload_n 0, 1) := by decide +kernel
theorem dX0_init_5 : decode cX0_init 5 = .ok (.bipush 50, 2) := by decide +kernel
theorem dX0_init_7 : decode cX0_init 7 = .ok (.newarray .int, 2) := by decide +kernel
theorem dX0_init_9 : decode cX0_init 9 = .ok (.putfield 11, 3) := by decide +kernel
theorem dX0_init_12 : decode cX0_init 12 = .ok (.aload_n 0, 1) := by decide +kernel
theorem dX0_init_13 : decode cX0_init 13 = .ok (.iconst 0, 1) := by decide +kernel
theorem dX0_init_14 : decode cX0_init 14 = .ok (.putfield 15, 3) := by decide +kernel
theorem dX0_init_17 : decode cX0_init 17 = .ok (.aload_n 0, 1) := by decide +kernel
theorem dX0_init_18 : decode cX0_init 18 = .ok (.bipush 24, 2) := by decide +kernel
theorem dX0_init_20 : decode cX0_init 20 = .ok (.newarray .int, 2) := by decide +kernel
theorem dX0_init_22 : decode cX0_init 22 = .ok (.putfield 19, 3) := by decide +kernel
theorem dX0_init_25 : decode cX0_init 25 = .ok (.aload_n 0, 1) := by decide +kernel
theorem dX0_init_26 : decode cX0_init 26 = .ok (.iconst 0, 1) := by decide +kernel
theorem dX0_init_27 : decode cX0_init 27 = .ok (.putfield 22, 3) := by decide +kernel
theorem dX0_init_30 : decode cX0_init 30 = .ok (.aload_n 0, 1) := by decide +kernel
theorem dX0_init_31 : decode cX0_init 31 = .ok (.iconst 0, 1) := by decide +kernel
theorem dX0_init_32 : decode cX0_init 32 = .ok (.putfield 25, 3) := by decide +kernel
theorem dX0_init_35 : decode cX0_init 35 = .ok (.return_, 1) := by decide +kernel
theorem dX0_add_0 : decode cX0_add 0 = .ok (.aload_n 0, 1) := by decide +kernel
theorem dX0_add_1 : decode cX0_add 1 = .ok (.getfield 15, 3) := by decide +kernel
theorem dX0_add_4 : decode cX0_add 4 = .ok (.bipush 50, 2) := by decide +kernel
theorem dX0_add_6 : decode cX0_add 6 = .ok (.if_icmp .lt 6, 3) := by decide +kernel
theorem dX0_add_9 : decode cX0_add 9 = .ok (.bipush (-3), 2) := by decide +kernel
theorem dX0_add_11 : decode cX0_add 11 = .ok (.ireturn, 1) := by decide +kernel
theorem dX0_add_12 : decode cX0_add 12 = .ok (.aload_n 0, 1) := by decide +kernel
theorem dX0_add_13 : decode cX0_add 13 = .ok (.getfield 11, 3) := by decide +kernel
theorem dX0_add_16 : decode cX0_add 16 = .ok (.aload_n 0, 1) := by decide +kernel
theorem dX0_add_17 : decode cX0_add 17 = .ok (.getfield 15, 3) := by decide +kernel
theorem dX0_add_20 : decode cX0_add 20 = .ok (.iload_n 1, 1) := by decide +kernel
theorem dX0_add_21 : decode cX0_add 21 = .ok (.iastore, 1) := by decide +kernel
theorem dX0_add_22 : decode cX0_add 22 = .ok (.aload_n 0, 1) := by decide +kernel
theorem dX0_add_23 : decode cX0_add 23 = .ok (.dup, 1) := by decide +kernel
theorem dX0_add_24 : decode cX0_add 24 = .ok (.getfield 15, 3) := by decide +kernel
theorem dX0_add_27 : decode cX0_add 27 = .ok (.iconst 1, 1) := by decide +kernel
theorem dX0_add_28 : decode cX0_add 28 = .ok (.iadd, 1) := by decide +kernel
theorem dX0_add_29 : decode cX0_add 29 = .ok (.putfield 15, 3) := by decide +kernel
theorem dX0_add_32 : decode cX0_add 32 = .ok (.aload_n 0, 1) := by decide +kernel
theorem dX0_add_33 : decode cX0_add 33 = .ok (.getfield 15, 3) := by decide +kernel
theorem dX0_add_36 : decode cX0_add 36 = .ok (.iconst 1, 1) := by decide +kernel
theorem dX0_add_37 : decode cX0_add 37 = .ok (.isub, 1) := by decide +kernel
theorem dX0_add_38 : decode cX0_add 38 = .ok (.ireturn, 1) := by decide +kernel
theorem dX0_isThere_0 : decode cX0_isThere 0 = .ok (.iload_n 1, 1) := by decide +kernel
theorem dX0_isThere_1 : decode cX0_isThere 1 = .ok (.ifCond .lt 15, 3) := by decide +kernel
theorem dX0_isThere_4 : decode cX0_isThere 4 = .ok (.iload_n 1, 1) := by decide +kernel
theorem dX0_isThere_5 : decode cX0_isThere 5 = .ok (.aload_n 0, 1) := by decide +kernel
theorem dX0_isThere_6 : decode cX0_isThere 6 = .ok (.getfield 15, 3) := by decide +kernel
theorem dX0_isThere_9 : decode cX0_isThere 9 = .ok (.if_icmp .ge 7, 3) := by decide +kernel
theorem dX0_isThere_12 : decode cX0_isThere 12 = .ok (.iconst 1, 1) := by decide +kernel
theorem dX0_isThere_13 : decode cX0_isThere 13 = .ok (.goto 4, 3) := by decide +kernel
theorem dX0_isThere_16 : decode cX0_isThere 16 = .ok (.iconst 0, 1) := by decide +kernel
theorem dX0_isThere_17 : decode cX0_isThere 17 = .ok (.ireturn, 1) := by decide +kernel
theorem dX0_kindOf_0 : decode cX0_kindOf 0 = .ok (.aload_n 0, 1) := by decide +kernel
theorem dX0_kindOf_1 : decode cX0_kindOf 1 = .ok (.iload_n 1, 1) := by decide +kernel
theorem dX0_kindOf_2 : decode cX0_kindOf 2 = .ok (.invokevirtual 28, 3) := by decide +kernel
theorem dX0_kindOf_5 : decode cX0_kindOf 5 = .ok (.ifCond .eq 12, 3) := by decide +kernel
theorem dX0_kindOf_8 : decode cX0_kindOf 8 = .ok (.aload_n 0, 1) := by decide +kernel
theorem dX0_kindOf_9 : decode cX0_kindOf 9 = .ok (.getfield 11, 3) := by decide +kernel
theorem dX0_kindOf_12 : decode cX0_kindOf 12 = .ok (.iload_n 1, 1) := by decide +kernel
theorem dX0_kindOf_13 : decode cX0_kindOf 13 = .ok (.iaload, 1) := by decide +kernel
theorem dX0_kindOf_14 : decode cX0_kindOf 14 = .ok (.goto 4, 3) := by decide +kernel
theorem dX0_kindOf_17 : decode cX0_kindOf 17 = .ok (.iconst (-1), 1) := by decide +kernel
theorem dX0_kindOf_18 : decode cX0_kindOf 18 = .ok (.ireturn, 1) := by decide +kernel
theorem dX0_isUnder_0 : decode cX0_isUnder 0 = .ok (.iload_n 0, 1) := by decide +kernel
theorem dX0_isUnder_1 : decode cX0_isUnder 1 = .ok (.istore_n 2, 1) := by decide +kernel
theorem dX0_isUnder_2 : decode cX0_isUnder 2 = .ok (.iconst 0, 1) := by decide +kernel
theorem dX0_isUnder_3 : decode cX0_isUnder 3 = .ok (.istore_n 3, 1) := by decide +kernel
theorem dX0_isUnder_4 : decode cX0_isUnder 4 = .ok (.iload_n 3, 1) := by decide +kernel
theorem dX0_isUnder_5 : decode cX0_isUnder 5 = .ok (.bipush 8, 2) := by decide +kernel
theorem dX0_isUnder_7 : decode cX0_isUnder 7 = .ok (.if_icmp .ge 32, 3) := by decide +kernel
theorem dX0_isUnder_10 : decode cX0_isUnder 10 = .ok (.iload_n 2, 1) := by decide +kernel
theorem dX0_isUnder_11 : decode cX0_isUnder 11 = .ok (.ifCond .lt 28, 3) := by decide +kernel
theorem dX0_isUnder_14 : decode cX0_isUnder 14 = .ok (.iload_n 2, 1) := by decide +kernel
theorem dX0_isUnder_15 : decode cX0_isUnder 15 = .ok (.bipush 8, 2) := by decide +kernel
theorem dX0_isUnder_17 : decode cX0_isUnder 17 = .ok (.if_icmp .ge 22, 3) := by decide +kernel
theorem dX0_isUnder_20 : decode cX0_isUnder 20 = .ok (.iload_n 2, 1) := by decide +kernel
theorem dX0_isUnder_21 : decode cX0_isUnder 21 = .ok (.iload_n 1, 1) := by decide +kernel
theorem dX0_isUnder_22 : decode cX0_isUnder 22 = .ok (.if_icmp .ne 5, 3) := by decide +kernel
theorem dX0_isUnder_25 : decode cX0_isUnder 25 = .ok (.iconst 1, 1) := by decide +kernel
theorem dX0_isUnder_26 : decode cX0_isUnder 26 = .ok (.ireturn, 1) := by decide +kernel
theorem dX0_isUnder_27 : decode cX0_isUnder 27 = .ok (.getstatic 32, 3) := by decide +kernel
theorem dX0_isUnder_30 : decode cX0_isUnder 30 = .ok (.iload_n 2, 1) := by decide +kernel
theorem dX0_isUnder_31 : decode cX0_isUnder 31 = .ok (.iaload, 1) := by decide +kernel
theorem dX0_isUnder_32 : decode cX0_isUnder 32 = .ok (.istore_n 2, 1) := by decide +kernel
theorem dX0_isUnder_33 : decode cX0_isUnder 33 = .ok (.iinc 3 1, 3) := by decide +kernel
theorem dX0_isUnder_36 : decode cX0_isUnder 36 = .ok (.goto (-32), 3) := by decide +kernel
theorem dX0_isUnder_39 : decode cX0_isUnder 39 = .ok (.iconst 0, 1) := by decide +kernel
theorem dX0_isUnder_40 : decode cX0_isUnder 40 = .ok (.ireturn, 1) := by decide +kernel
theorem dX0_traced_0 : decode cX0_traced 0 = .ok (.iload_n 1, 1) := by decide +kernel
theorem dX0_traced_1 : decode cX0_traced 1 = .ok (.ifCond .lt 26, 3) := by decide +kernel
theorem dX0_traced_4 : decode cX0_traced 4 = .ok (.iload_n 1, 1) := by decide +kernel
theorem dX0_traced_5 : decode cX0_traced 5 = .ok (.aload_n 0, 1) := by decide +kernel
theorem dX0_traced_6 : decode cX0_traced 6 = .ok (.getfield 22, 3) := by decide +kernel
theorem dX0_traced_9 : decode cX0_traced 9 = .ok (.if_icmp .ge 18, 3) := by decide +kernel
theorem dX0_traced_12 : decode cX0_traced 12 = .ok (.iload_n 1, 1) := by decide +kernel
theorem dX0_traced_13 : decode cX0_traced 13 = .ok (.bipush 24, 2) := by decide +kernel
theorem dX0_traced_15 : decode cX0_traced 15 = .ok (.if_icmp .ge 12, 3) := by decide +kernel
theorem dX0_traced_18 : decode cX0_traced 18 = .ok (.aload_n 0, 1) := by decide +kernel
theorem dX0_traced_19 : decode cX0_traced 19 = .ok (.getfield 19, 3) := by decide +kernel
theorem dX0_traced_22 : decode cX0_traced 22 = .ok (.iload_n 1, 1) := by decide +kernel
theorem dX0_traced_23 : decode cX0_traced 23 = .ok (.iaload, 1) := by decide +kernel
theorem dX0_traced_24 : decode cX0_traced 24 = .ok (.goto 4, 3) := by decide +kernel
theorem dX0_traced_27 : decode cX0_traced 27 = .ok (.iconst (-1), 1) := by decide +kernel
theorem dX0_traced_28 : decode cX0_traced 28 = .ok (.ireturn, 1) := by decide +kernel
theorem dX0_perform_0 : decode cX0_perform 0 = .ok (.aload_n 0, 1) := by decide +kernel
theorem dX0_perform_1 : decode cX0_perform 1 = .ok (.iconst 0, 1) := by decide +kernel
theorem dX0_perform_2 : decode cX0_perform 2 = .ok (.putfield 22, 3) := by decide +kernel
theorem dX0_perform_5 : decode cX0_perform 5 = .ok (.aload_n 0, 1) := by decide +kernel
theorem dX0_perform_6 : decode cX0_perform 6 = .ok (.iload_n 1, 1) := by decide +kernel
theorem dX0_perform_7 : decode cX0_perform 7 = .ok (.invokevirtual 28, 3) := by decide +kernel
theorem dX0_perform_10 : decode cX0_perform 10 = .ok (.ifCond .eq 12, 3) := by decide +kernel
theorem dX0_perform_13 : decode cX0_perform 13 = .ok (.iload_n 2, 1) := by decide +kernel
theorem dX0_perform_14 : decode cX0_perform 14 = .ok (.ifCond .lt 8, 3) := by decide +kernel
theorem dX0_perform_17 : decode cX0_perform 17 = .ok (.iload_n 2, 1) := by decide +kernel
theorem dX0_perform_18 : decode cX0_perform 18 = .ok (.iconst 3, 1) := by decide +kernel
theorem dX0_perform_19 : decode cX0_perform 19 = .ok (.if_icmp .le 5, 3) := by decide +kernel
theorem dX0_perform_22 : decode cX0_perform 22 = .ok (.iconst 0, 1) := by decide +kernel
theorem dX0_perform_23 : decode cX0_perform 23 = .ok (.ireturn, 1) := by decide +kernel
theorem dX0_perform_24 : decode cX0_perform 24 = .ok (.aload_n 0, 1) := by decide +kernel
theorem dX0_perform_25 : decode cX0_perform 25 = .ok (.iload_n 1, 1) := by decide +kernel
theorem dX0_perform_26 : decode cX0_perform 26 = .ok (.putfield 25, 3) := by decide +kernel
theorem dX0_perform_29 : decode cX0_perform 29 = .ok (.aload_n 0, 1) := by decide +kernel
theorem dX0_perform_30 : decode cX0_perform 30 = .ok (.iload_n 2, 1) := by decide +kernel
theorem dX0_perform_31 : decode cX0_perform 31 = .ok (.iload_n 3, 1) := by decide +kernel
theorem dX0_perform_32 : decode cX0_perform 32 = .ok (.iconst 0, 1) := by decide +kernel
theorem dX0_perform_33 : decode cX0_perform 33 = .ok (.invokevirtual 35, 3) := by decide +kernel
theorem dX0_perform_36 : decode cX0_perform 36 = .ok (.ireturn, 1) := by decide +kernel
theorem dX0_own_0 : decode cX0_own 0 = .ok (.aload_n 0, 1) := by decide +kernel
theorem dX0_own_1 : decode cX0_own 1 = .ok (.aload_n 0, 1) := by decide +kernel
theorem dX0_own_2 : decode cX0_own 2 = .ok (.aload_n 0, 1) := by decide +kernel
theorem dX0_own_3 : decode cX0_own 3 = .ok (.getfield 25, 3) := by decide +kernel
theorem dX0_own_6 : decode cX0_own 6 = .ok (.invokevirtual 39, 3) := by decide +kernel
theorem dX0_own_9 : decode cX0_own 9 = .ok (.iload_n 1, 1) := by decide +kernel
theorem dX0_own_10 : decode cX0_own 10 = .ok (.iload_n 2, 1) := by decide +kernel
theorem dX0_own_11 : decode cX0_own 11 = .ok (.iload_n 3, 1) := by decide +kernel
theorem dX0_own_12 : decode cX0_own 12 = .ok (.invokevirtual 43, 3) := by decide +kernel
theorem dX0_own_15 : decode cX0_own 15 = .ok (.ireturn, 1) := by decide +kernel
theorem dX0_above_0 : decode cX0_above 0 = .ok (.aload_n 0, 1) := by decide +kernel
theorem dX0_above_1 : decode cX0_above 1 = .ok (.iload_n 1, 1) := by decide +kernel
theorem dX0_above_2 : decode cX0_above 2 = .ok (.ifCond .lt 17, 3) := by decide +kernel
theorem dX0_above_5 : decode cX0_above 5 = .ok (.iload_n 1, 1) := by decide +kernel
theorem dX0_above_6 : decode cX0_above 6 = .ok (.bipush 8, 2) := by decide +kernel
theorem dX0_above_8 : decode cX0_above 8 = .ok (.if_icmp .ge 11, 3) := by decide +kernel
theorem dX0_above_11 : decode cX0_above 11 = .ok (.getstatic 32, 3) := by decide +kernel
theorem dX0_above_14 : decode cX0_above 14 = .ok (.iload_n 1, 1) := by decide +kernel
theorem dX0_above_15 : decode cX0_above 15 = .ok (.iaload, 1) := by decide +kernel
theorem dX0_above_16 : decode cX0_above 16 = .ok (.goto 4, 3) := by decide +kernel
theorem dX0_above_19 : decode cX0_above 19 = .ok (.iconst (-1), 1) := by decide +kernel
theorem dX0_above_20 : decode cX0_above 20 = .ok (.iload_n 2, 1) := by decide +kernel
theorem dX0_above_21 : decode cX0_above 21 = .ok (.iload_n 3, 1) := by decide +kernel
theorem dX0_above_22 : decode cX0_above 22 = .ok (.iload 4, 2) := by decide +kernel
theorem dX0_above_24 : decode cX0_above 24 = .ok (.invokevirtual 43, 3) := by decide +kernel
theorem dX0_above_27 : decode cX0_above 27 = .ok (.ireturn, 1) := by decide +kernel
theorem dX0_from_0 : decode cX0_from 0 = .ok (.iload_n 1, 1) := by decide +kernel
theorem dX0_from_1 : decode cX0_from 1 = .ok (.istore 5, 2) := by decide +kernel
theorem dX0_from_3 : decode cX0_from 3 = .ok (.iconst 0, 1) := by decide +kernel
theorem dX0_from_4 : decode cX0_from 4 = .ok (.istore 6, 2) := by decide +kernel
theorem dX0_from_6 : decode cX0_from 6 = .ok (.iload 6, 2) := by decide +kernel
theorem dX0_from_8 : decode cX0_from 8 = .ok (.bipush 8, 2) := by decide +kernel
theorem dX0_from_10 : decode cX0_from 10 = .ok (.if_icmp .ge 73, 3) := by decide +kernel
theorem dX0_from_13 : decode cX0_from 13 = .ok (.iload 5, 2) := by decide +kernel
theorem dX0_from_15 : decode cX0_from 15 = .ok (.ifCond .lt 68, 3) := by decide +kernel
theorem dX0_from_18 : decode cX0_from 18 = .ok (.iload 5, 2) := by decide +kernel
theorem dX0_from_20 : decode cX0_from 20 = .ok (.bipush 8, 2) := by decide +kernel
theorem dX0_from_22 : decode cX0_from 22 = .ok (.if_icmp .ge 61, 3) := by decide +kernel
theorem dX0_from_25 : decode cX0_from 25 = .ok (.getstatic 47, 3) := by decide +kernel
theorem dX0_from_28 : decode cX0_from 28 = .ok (.iconst 4, 1) := by decide +kernel
theorem dX0_from_29 : decode cX0_from 29 = .ok (.iload 5, 2) := by decide +kernel
theorem dX0_from_31 : decode cX0_from 31 = .ok (.imul, 1) := by decide +kernel
theorem dX0_from_32 : decode cX0_from 32 = .ok (.iload_n 2, 1) := by decide +kernel
theorem dX0_from_33 : decode cX0_from 33 = .ok (.iadd, 1) := by decide +kernel
theorem dX0_from_34 : decode cX0_from 34 = .ok (.iaload, 1) := by decide +kernel
theorem dX0_from_35 : decode cX0_from 35 = .ok (.ifCond .eq 34, 3) := by decide +kernel
theorem dX0_from_38 : decode cX0_from 38 = .ok (.iload 4, 2) := by decide +kernel
theorem dX0_from_40 : decode cX0_from 40 = .ok (.bipush 40, 2) := by decide +kernel
theorem dX0_from_42 : decode cX0_from 42 = .ok (.if_icmp .le 7, 3) := by decide +kernel
theorem dX0_from_45 : decode cX0_from 45 = .ok (.iconst 0, 1) := by decide +kernel
theorem dX0_from_46 : decode cX0_from 46 = .ok (.goto 22, 3) := by decide +kernel
theorem dX0_from_49 : decode cX0_from 49 = .ok (.aload_n 0, 1) := by decide +kernel
theorem dX0_from_50 : decode cX0_from 50 = .ok (.getstatic 47, 3) := by decide +kernel
theorem dX0_from_53 : decode cX0_from 53 = .ok (.iconst 4, 1) := by decide +kernel
theorem dX0_from_54 : decode cX0_from 54 = .ok (.iload 5, 2) := by decide +kernel
theorem dX0_from_56 : decode cX0_from 56 = .ok (.imul, 1) := by decide +kernel
theorem dX0_from_57 : decode cX0_from 57 = .ok (.iload_n 2, 1) := by decide +kernel
theorem dX0_from_58 : decode cX0_from 58 = .ok (.iadd, 1) := by decide +kernel
theorem dX0_from_59 : decode cX0_from 59 = .ok (.iaload, 1) := by decide +kernel
theorem dX0_from_60 : decode cX0_from 60 = .ok (.iload_n 3, 1) := by decide +kernel
theorem dX0_from_61 : decode cX0_from 61 = .ok (.iload 4, 2) := by decide +kernel
theorem dX0_from_63 : decode cX0_from 63 = .ok (.iconst 1, 1) := by decide +kernel
theorem dX0_from_64 : decode cX0_from 64 = .ok (.iadd, 1) := by decide +kernel
theorem dX0_from_65 : decode cX0_from 65 = .ok (.invokevirtual 50, 3) := by decide +kernel
theorem dX0_from_68 : decode cX0_from 68 = .ok (.ireturn, 1) := by decide +kernel
theorem dX0_from_69 : decode cX0_from 69 = .ok (.getstatic 32, 3) := by decide +kernel
theorem dX0_from_72 : decode cX0_from 72 = .ok (.iload 5, 2) := by decide +kernel
theorem dX0_from_74 : decode cX0_from 74 = .ok (.iaload, 1) := by decide +kernel
theorem dX0_from_75 : decode cX0_from 75 = .ok (.istore 5, 2) := by decide +kernel
theorem dX0_from_77 : decode cX0_from 77 = .ok (.iinc 6 1, 3) := by decide +kernel
theorem dX0_from_80 : decode cX0_from 80 = .ok (.goto (-74), 3) := by decide +kernel
theorem dX0_from_83 : decode cX0_from 83 = .ok (.iconst 0, 1) := by decide +kernel
theorem dX0_from_84 : decode cX0_from 84 = .ok (.ireturn, 1) := by decide +kernel
theorem dX0_note_0 : decode cX0_note 0 = .ok (.aload_n 0, 1) := by decide +kernel
theorem dX0_note_1 : decode cX0_note 1 = .ok (.getfield 22, 3) := by decide +kernel
theorem dX0_note_4 : decode cX0_note 4 = .ok (.bipush 24, 2) := by decide +kernel
theorem dX0_note_6 : decode cX0_note 6 = .ok (.if_icmp .ge 13, 3) := by decide +kernel
theorem dX0_note_9 : decode cX0_note 9 = .ok (.aload_n 0, 1) := by decide +kernel
theorem dX0_note_10 : decode cX0_note 10 = .ok (.getfield 19, 3) := by decide +kernel
theorem dX0_note_13 : decode cX0_note 13 = .ok (.aload_n 0, 1) := by decide +kernel
theorem dX0_note_14 : decode cX0_note 14 = .ok (.getfield 22, 3) := by decide +kernel
theorem dX0_note_17 : decode cX0_note 17 = .ok (.iload_n 1, 1) := by decide +kernel
theorem dX0_note_18 : decode cX0_note 18 = .ok (.iastore, 1) := by decide +kernel
theorem dX0_note_19 : decode cX0_note 19 = .ok (.aload_n 0, 1) := by decide +kernel
theorem dX0_note_20 : decode cX0_note 20 = .ok (.dup, 1) := by decide +kernel
theorem dX0_note_21 : decode cX0_note 21 = .ok (.getfield 22, 3) := by decide +kernel
theorem dX0_note_24 : decode cX0_note 24 = .ok (.iconst 1, 1) := by decide +kernel
theorem dX0_note_25 : decode cX0_note 25 = .ok (.iadd, 1) := by decide +kernel
theorem dX0_note_26 : decode cX0_note 26 = .ok (.putfield 22, 3) := by decide +kernel
theorem dX0_note_29 : decode cX0_note 29 = .ok (.return_, 1) := by decide +kernel
theorem dX0_run_0 : decode cX0_run 0 = .ok (.aload_n 0, 1) := by decide +kernel
theorem dX0_run_1 : decode cX0_run 1 = .ok (.iload_n 1, 1) := by decide +kernel
theorem dX0_run_2 : decode cX0_run 2 = .ok (.invokevirtual 53, 3) := by decide +kernel
theorem dX0_run_5 : decode cX0_run 5 = .ok (.iload_n 1, 1) := by decide +kernel
theorem dX0_run_6 : decode cX0_run 6 = .ok (.lookupswitch 266 #[(1, 114), (2, 121), (10, 137), (11, 147), (20, 154), (30, 165), (40, 175), (41, 186), (50, 197), (60, 208), (61, 225), (70, 236), (80, 248)], 114) := by decide +kernel
theorem dX0_run_120 : decode cX0_run 120 = .ok (.iload_n 2, 1) := by decide +kernel
theorem dX0_run_121 : decode cX0_run 121 = .ok (.aload_n 0, 1) := by decide +kernel
theorem dX0_run_122 : decode cX0_run 122 = .ok (.getfield 25, 3) := by decide +kernel
theorem dX0_run_125 : decode cX0_run 125 = .ok (.iadd, 1) := by decide +kernel
theorem dX0_run_126 : decode cX0_run 126 = .ok (.ireturn, 1) := by decide +kernel
theorem dX0_run_127 : decode cX0_run 127 = .ok (.aload_n 0, 1) := by decide +kernel
theorem dX0_run_128 : decode cX0_run 128 = .ok (.iconst 1, 1) := by decide +kernel
theorem dX0_run_129 : decode cX0_run 129 = .ok (.iload_n 2, 1) := by decide +kernel
theorem dX0_run_130 : decode cX0_run 130 = .ok (.iload_n 3, 1) := by decide +kernel
theorem dX0_run_131 : decode cX0_run 131 = .ok (.invokevirtual 35, 3) := by decide +kernel
theorem dX0_run_134 : decode cX0_run 134 = .ok (.aload_n 0, 1) := by decide +kernel
theorem dX0_run_135 : decode cX0_run 135 = .ok (.iconst 2, 1) := by decide +kernel
theorem dX0_run_136 : decode cX0_run 136 = .ok (.iconst 1, 1) := by decide +kernel
theorem dX0_run_137 : decode cX0_run 137 = .ok (.iload_n 3, 1) := by decide +kernel
theorem dX0_run_138 : decode cX0_run 138 = .ok (.invokevirtual 35, 3) := by decide +kernel
theorem dX0_run_141 : decode cX0_run 141 = .ok (.isub, 1) := by decide +kernel
theorem dX0_run_142 : decode cX0_run 142 = .ok (.ireturn, 1) := by decide +kernel
theorem dX0_run_143 : decode cX0_run 143 = .ok (.aload_n 0, 1) := by decide +kernel
theorem dX0_run_144 : decode cX0_run 144 = .ok (.iconst 0, 1) := by decide +kernel
theorem dX0_run_145 : decode cX0_run 145 = .ok (.iload_n 2, 1) := by decide +kernel
theorem dX0_run_146 : decode cX0_run 146 = .ok (.iload_n 3, 1) := by decide +kernel
theorem dX0_run_147 : decode cX0_run 147 = .ok (.invokevirtual 35, 3) := by decide +kernel
theorem dX0_run_150 : decode cX0_run 150 = .ok (.iconst 2, 1) := by decide +kernel
theorem dX0_run_151 : decode cX0_run 151 = .ok (.imul, 1) := by decide +kernel
theorem dX0_run_152 : decode cX0_run 152 = .ok (.ireturn, 1) := by decide +kernel
theorem dX0_run_153 : decode cX0_run 153 = .ok (.iload_n 2, 1) := by decide +kernel
theorem dX0_run_154 : decode cX0_run 154 = .ok (.aload_n 0, 1) := by decide +kernel
theorem dX0_run_155 : decode cX0_run 155 = .ok (.getfield 25, 3) := by decide +kernel
theorem dX0_run_158 : decode cX0_run 158 = .ok (.ixor, 1) := by decide +kernel
theorem dX0_run_159 : decode cX0_run 159 = .ok (.ireturn, 1) := by decide +kernel
theorem dX0_run_160 : decode cX0_run 160 = .ok (.aload_n 0, 1) := by decide +kernel
theorem dX0_run_161 : decode cX0_run 161 = .ok (.iconst 1, 1) := by decide +kernel
theorem dX0_run_162 : decode cX0_run 162 = .ok (.iconst 0, 1) := by decide +kernel
theorem dX0_run_163 : decode cX0_run 163 = .ok (.iload_n 2, 1) := by decide +kernel
theorem dX0_run_164 : decode cX0_run 164 = .ok (.iload_n 3, 1) := by decide +kernel
theorem dX0_run_165 : decode cX0_run 165 = .ok (.invokevirtual 57, 3) := by decide +kernel
theorem dX0_run_168 : decode cX0_run 168 = .ok (.iconst 3, 1) := by decide +kernel
theorem dX0_run_169 : decode cX0_run 169 = .ok (.iadd, 1) := by decide +kernel
theorem dX0_run_170 : decode cX0_run 170 = .ok (.ireturn, 1) := by decide +kernel
theorem dX0_run_171 : decode cX0_run 171 = .ok (.aload_n 0, 1) := by decide +kernel
theorem dX0_run_172 : decode cX0_run 172 = .ok (.iconst 2, 1) := by decide +kernel
theorem dX0_run_173 : decode cX0_run 173 = .ok (.iconst 1, 1) := by decide +kernel
theorem dX0_run_174 : decode cX0_run 174 = .ok (.iload_n 2, 1) := by decide +kernel
theorem dX0_run_175 : decode cX0_run 175 = .ok (.iload_n 3, 1) := by decide +kernel
theorem dX0_run_176 : decode cX0_run 176 = .ok (.invokevirtual 57, 3) := by decide +kernel
theorem dX0_run_179 : decode cX0_run 179 = .ok (.ineg, 1) := by decide +kernel
theorem dX0_run_180 : decode cX0_run 180 = .ok (.ireturn, 1) := by decide +kernel
theorem dX0_run_181 : decode cX0_run 181 = .ok (.aload_n 0, 1) := by decide +kernel
theorem dX0_run_182 : decode cX0_run 182 = .ok (.iconst 3, 1) := by decide +kernel
theorem dX0_run_183 : decode cX0_run 183 = .ok (.iconst 2, 1) := by decide +kernel
theorem dX0_run_184 : decode cX0_run 184 = .ok (.iload_n 2, 1) := by decide +kernel
theorem dX0_run_185 : decode cX0_run 185 = .ok (.iload_n 3, 1) := by decide +kernel
theorem dX0_run_186 : decode cX0_run 186 = .ok (.invokevirtual 57, 3) := by decide +kernel
theorem dX0_run_189 : decode cX0_run 189 = .ok (.iconst 3, 1) := by decide +kernel
theorem dX0_run_190 : decode cX0_run 190 = .ok (.imul, 1) := by decide +kernel
theorem dX0_run_191 : decode cX0_run 191 = .ok (.ireturn, 1) := by decide +kernel
theorem dX0_run_192 : decode cX0_run 192 = .ok (.aload_n 0, 1) := by decide +kernel
theorem dX0_run_193 : decode cX0_run 193 = .ok (.iconst 3, 1) := by decide +kernel
theorem dX0_run_194 : decode cX0_run 194 = .ok (.iconst 1, 1) := by decide +kernel
theorem dX0_run_195 : decode cX0_run 195 = .ok (.iload_n 2, 1) := by decide +kernel
theorem dX0_run_196 : decode cX0_run 196 = .ok (.iconst 1, 1) := by decide +kernel
theorem dX0_run_197 : decode cX0_run 197 = .ok (.iadd, 1) := by decide +kernel
theorem dX0_run_198 : decode cX0_run 198 = .ok (.iload_n 3, 1) := by decide +kernel
theorem dX0_run_199 : decode cX0_run 199 = .ok (.invokevirtual 57, 3) := by decide +kernel
theorem dX0_run_202 : decode cX0_run 202 = .ok (.ireturn, 1) := by decide +kernel
theorem dX0_run_203 : decode cX0_run 203 = .ok (.aload_n 0, 1) := by decide +kernel
theorem dX0_run_204 : decode cX0_run 204 = .ok (.iconst 4, 1) := by decide +kernel
theorem dX0_run_205 : decode cX0_run 205 = .ok (.iconst 3, 1) := by decide +kernel
theorem dX0_run_206 : decode cX0_run 206 = .ok (.iload_n 2, 1) := by decide +kernel
theorem dX0_run_207 : decode cX0_run 207 = .ok (.iload_n 3, 1) := by decide +kernel
theorem dX0_run_208 : decode cX0_run 208 = .ok (.invokevirtual 57, 3) := by decide +kernel
theorem dX0_run_211 : decode cX0_run 211 = .ok (.iconst 5, 1) := by decide +kernel
theorem dX0_run_212 : decode cX0_run 212 = .ok (.ixor, 1) := by decide +kernel
theorem dX0_run_213 : decode cX0_run 213 = .ok (.ireturn, 1) := by decide +kernel
theorem dX0_run_214 : decode cX0_run 214 = .ok (.aload_n 0, 1) := by decide +kernel
theorem dX0_run_215 : decode cX0_run 215 = .ok (.iconst 5, 1) := by decide +kernel
theorem dX0_run_216 : decode cX0_run 216 = .ok (.iconst 2, 1) := by decide +kernel
theorem dX0_run_217 : decode cX0_run 217 = .ok (.iload_n 2, 1) := by decide +kernel
theorem dX0_run_218 : decode cX0_run 218 = .ok (.iload_n 3, 1) := by decide +kernel
theorem dX0_run_219 : decode cX0_run 219 = .ok (.invokevirtual 57, 3) := by decide +kernel
theorem dX0_run_222 : decode cX0_run 222 = .ok (.aload_n 0, 1) := by decide +kernel
theorem dX0_run_223 : decode cX0_run 223 = .ok (.iconst 0, 1) := by decide +kernel
theorem dX0_run_224 : decode cX0_run 224 = .ok (.iconst 2, 1) := by decide +kernel
theorem dX0_run_225 : decode cX0_run 225 = .ok (.iload_n 3, 1) := by decide +kernel
theorem dX0_run_226 : decode cX0_run 226 = .ok (.invokevirtual 35, 3) := by decide +kernel
theorem dX0_run_229 : decode cX0_run 229 = .ok (.isub, 1) := by decide +kernel
theorem dX0_run_230 : decode cX0_run 230 = .ok (.ireturn, 1) := by decide +kernel
theorem dX0_run_231 : decode cX0_run 231 = .ok (.aload_n 0, 1) := by decide +kernel
theorem dX0_run_232 : decode cX0_run 232 = .ok (.iconst 5, 1) := by decide +kernel
theorem dX0_run_233 : decode cX0_run 233 = .ok (.iconst 3, 1) := by decide +kernel
theorem dX0_run_234 : decode cX0_run 234 = .ok (.iload_n 2, 1) := by decide +kernel
theorem dX0_run_235 : decode cX0_run 235 = .ok (.iload_n 3, 1) := by decide +kernel
theorem dX0_run_236 : decode cX0_run 236 = .ok (.invokevirtual 57, 3) := by decide +kernel
theorem dX0_run_239 : decode cX0_run 239 = .ok (.iconst 1, 1) := by decide +kernel
theorem dX0_run_240 : decode cX0_run 240 = .ok (.iadd, 1) := by decide +kernel
theorem dX0_run_241 : decode cX0_run 241 = .ok (.ireturn, 1) := by decide +kernel
theorem dX0_run_242 : decode cX0_run 242 = .ok (.aload_n 0, 1) := by decide +kernel
theorem dX0_run_243 : decode cX0_run 243 = .ok (.bipush 6, 2) := by decide +kernel
theorem dX0_run_245 : decode cX0_run 245 = .ok (.iconst 0, 1) := by decide +kernel
theorem dX0_run_246 : decode cX0_run 246 = .ok (.iload_n 2, 1) := by decide +kernel
theorem dX0_run_247 : decode cX0_run 247 = .ok (.iload_n 3, 1) := by decide +kernel
theorem dX0_run_248 : decode cX0_run 248 = .ok (.invokevirtual 57, 3) := by decide +kernel
theorem dX0_run_251 : decode cX0_run 251 = .ok (.iconst 2, 1) := by decide +kernel
theorem dX0_run_252 : decode cX0_run 252 = .ok (.imul, 1) := by decide +kernel
theorem dX0_run_253 : decode cX0_run 253 = .ok (.ireturn, 1) := by decide +kernel
theorem dX0_run_254 : decode cX0_run 254 = .ok (.aload_n 0, 1) := by decide +kernel
theorem dX0_run_255 : decode cX0_run 255 = .ok (.bipush 7, 2) := by decide +kernel
theorem dX0_run_257 : decode cX0_run 257 = .ok (.iconst 1, 1) := by decide +kernel
theorem dX0_run_258 : decode cX0_run 258 = .ok (.iload_n 2, 1) := by decide +kernel
theorem dX0_run_259 : decode cX0_run 259 = .ok (.iload_n 3, 1) := by decide +kernel
theorem dX0_run_260 : decode cX0_run 260 = .ok (.invokevirtual 57, 3) := by decide +kernel
theorem dX0_run_263 : decode cX0_run 263 = .ok (.aload_n 0, 1) := by decide +kernel
theorem dX0_run_264 : decode cX0_run 264 = .ok (.iconst 2, 1) := by decide +kernel
theorem dX0_run_265 : decode cX0_run 265 = .ok (.iconst 2, 1) := by decide +kernel
theorem dX0_run_266 : decode cX0_run 266 = .ok (.iload_n 3, 1) := by decide +kernel
theorem dX0_run_267 : decode cX0_run 267 = .ok (.invokevirtual 35, 3) := by decide +kernel
theorem dX0_run_270 : decode cX0_run 270 = .ok (.iadd, 1) := by decide +kernel
theorem dX0_run_271 : decode cX0_run 271 = .ok (.ireturn, 1) := by decide +kernel
theorem dX0_run_272 : decode cX0_run 272 = .ok (.aload_n 0, 1) := by decide +kernel
theorem dX0_run_273 : decode cX0_run 273 = .ok (.bipush 7, 2) := by decide +kernel
theorem dX0_run_275 : decode cX0_run 275 = .ok (.iconst 0, 1) := by decide +kernel
theorem dX0_run_276 : decode cX0_run 276 = .ok (.iload_n 2, 1) := by decide +kernel
theorem dX0_run_277 : decode cX0_run 277 = .ok (.iload_n 3, 1) := by decide +kernel
theorem dX0_run_278 : decode cX0_run 278 = .ok (.invokevirtual 57, 3) := by decide +kernel
theorem dX0_run_281 : decode cX0_run 281 = .ok (.iconst 1, 1) := by decide +kernel
theorem dX0_run_282 : decode cX0_run 282 = .ok (.isub, 1) := by decide +kernel
theorem dX0_run_283 : decode cX0_run 283 = .ok (.ireturn, 1) := by decide +kernel
theorem dX1_init_0 : decode cX1_init 0 = .ok (.aload_n 0, 1) := by decide +kernel
theorem dX1_init_1 : decode cX1_init 1 = .ok (.invokespecial 1, 3) := by decide +kernel
theorem dX1_init_4 : decode cX1_init 4 = .ok (.aload_n 0, 1) := by decide +kernel
theorem dX1_init_5 : decode cX1_init 5 = .ok (.bipush 40, 2) := by decide +kernel
theorem dX1_init_7 : decode cX1_init 7 = .ok (.newarray .int, 2) := by decide +kernel
theorem dX1_init_9 : decode cX1_init 9 = .ok (.putfield 9, 3) := by decide +kernel
theorem dX1_init_12 : decode cX1_init 12 = .ok (.aload_n 0, 1) := by decide +kernel
theorem dX1_init_13 : decode cX1_init 13 = .ok (.bipush 40, 2) := by decide +kernel
theorem dX1_init_15 : decode cX1_init 15 = .ok (.newarray .int, 2) := by decide +kernel
theorem dX1_init_17 : decode cX1_init 17 = .ok (.putfield 13, 3) := by decide +kernel
theorem dX1_init_20 : decode cX1_init 20 = .ok (.aload_n 0, 1) := by decide +kernel
theorem dX1_init_21 : decode cX1_init 21 = .ok (.bipush 40, 2) := by decide +kernel
theorem dX1_init_23 : decode cX1_init 23 = .ok (.newarray .int, 2) := by decide +kernel
theorem dX1_init_25 : decode cX1_init 25 = .ok (.putfield 16, 3) := by decide +kernel
theorem dX1_init_28 : decode cX1_init 28 = .ok (.aload_n 0, 1) := by decide +kernel
theorem dX1_init_29 : decode cX1_init 29 = .ok (.bipush 40, 2) := by decide +kernel
theorem dX1_init_31 : decode cX1_init 31 = .ok (.newarray .int, 2) := by decide +kernel
theorem dX1_init_33 : decode cX1_init 33 = .ok (.putfield 19, 3) := by decide +kernel
theorem dX1_init_36 : decode cX1_init 36 = .ok (.aload_n 0, 1) := by decide +kernel
theorem dX1_init_37 : decode cX1_init 37 = .ok (.iconst 0, 1) := by decide +kernel
theorem dX1_init_38 : decode cX1_init 38 = .ok (.putfield 22, 3) := by decide +kernel
theorem dX1_init_41 : decode cX1_init 41 = .ok (.aload_n 0, 1) := by decide +kernel
theorem dX1_init_42 : decode cX1_init 42 = .ok (.iconst 0, 1) := by decide +kernel
theorem dX1_init_43 : decode cX1_init 43 = .ok (.putfield 26, 3) := by decide +kernel
theorem dX1_init_46 : decode cX1_init 46 = .ok (.return_, 1) := by decide +kernel
theorem dX1_note_0 : decode cX1_note 0 = .ok (.iload_n 3, 1) := by decide +kernel
theorem dX1_note_1 : decode cX1_note 1 = .ok (.iload 4, 2) := by decide +kernel
theorem dX1_note_3 : decode cX1_note 3 = .ok (.if_icmp .ne 4, 3) := by decide +kernel
theorem dX1_note_6 : decode cX1_note 6 = .ok (.return_, 1) := by decide +kernel
theorem dX1_note_7 : decode cX1_note 7 = .ok (.aload_n 0, 1) := by decide +kernel
theorem dX1_note_8 : decode cX1_note 8 = .ok (.getfield 22, 3) := by decide +kernel
theorem dX1_note_11 : decode cX1_note 11 = .ok (.bipush 40, 2) := by decide +kernel
theorem dX1_note_13 : decode cX1_note 13 = .ok (.if_icmp .lt 7, 3) := by decide +kernel
theorem dX1_note_16 : decode cX1_note 16 = .ok (.aload_n 0, 1) := by decide +kernel
theorem dX1_note_17 : decode cX1_note 17 = .ok (.invokevirtual 29, 3) := by decide +kernel
theorem dX1_note_20 : decode cX1_note 20 = .ok (.aload_n 0, 1) := by decide +kernel
theorem dX1_note_21 : decode cX1_note 21 = .ok (.getfield 9, 3) := by decide +kernel
theorem dX1_note_24 : decode cX1_note 24 = .ok (.aload_n 0, 1) := by decide +kernel
theorem dX1_note_25 : decode cX1_note 25 = .ok (.getfield 22, 3) := by decide +kernel
theorem dX1_note_28 : decode cX1_note 28 = .ok (.iload_n 1, 1) := by decide +kernel
theorem dX1_note_29 : decode cX1_note 29 = .ok (.iastore, 1) := by decide +kernel
theorem dX1_note_30 : decode cX1_note 30 = .ok (.aload_n 0, 1) := by decide +kernel
theorem dX1_note_31 : decode cX1_note 31 = .ok (.getfield 13, 3) := by decide +kernel
theorem dX1_note_34 : decode cX1_note 34 = .ok (.aload_n 0, 1) := by decide +kernel
theorem dX1_note_35 : decode cX1_note 35 = .ok (.getfield 22, 3) := by decide +kernel
theorem dX1_note_38 : decode cX1_note 38 = .ok (.iload_n 2, 1) := by decide +kernel
theorem dX1_note_39 : decode cX1_note 39 = .ok (.iastore, 1) := by decide +kernel
theorem dX1_note_40 : decode cX1_note 40 = .ok (.aload_n 0, 1) := by decide +kernel
theorem dX1_note_41 : decode cX1_note 41 = .ok (.getfield 16, 3) := by decide +kernel
theorem dX1_note_44 : decode cX1_note 44 = .ok (.aload_n 0, 1) := by decide +kernel
theorem dX1_note_45 : decode cX1_note 45 = .ok (.getfield 22, 3) := by decide +kernel
theorem dX1_note_48 : decode cX1_note 48 = .ok (.iload_n 3, 1) := by decide +kernel
theorem dX1_note_49 : decode cX1_note 49 = .ok (.iastore, 1) := by decide +kernel
theorem dX1_note_50 : decode cX1_note 50 = .ok (.aload_n 0, 1) := by decide +kernel
theorem dX1_note_51 : decode cX1_note 51 = .ok (.getfield 19, 3) := by decide +kernel
theorem dX1_note_54 : decode cX1_note 54 = .ok (.aload_n 0, 1) := by decide +kernel
theorem dX1_note_55 : decode cX1_note 55 = .ok (.getfield 22, 3) := by decide +kernel
theorem dX1_note_58 : decode cX1_note 58 = .ok (.iload 4, 2) := by decide +kernel
theorem dX1_note_60 : decode cX1_note 60 = .ok (.iastore, 1) := by decide +kernel
theorem dX1_note_61 : decode cX1_note 61 = .ok (.aload_n 0, 1) := by decide +kernel
theorem dX1_note_62 : decode cX1_note 62 = .ok (.dup, 1) := by decide +kernel
theorem dX1_note_63 : decode cX1_note 63 = .ok (.getfield 22, 3) := by decide +kernel
theorem dX1_note_66 : decode cX1_note 66 = .ok (.iconst 1, 1) := by decide +kernel
theorem dX1_note_67 : decode cX1_note 67 = .ok (.iadd, 1) := by decide +kernel
theorem dX1_note_68 : decode cX1_note 68 = .ok (.putfield 22, 3) := by decide +kernel
theorem dX1_note_71 : decode cX1_note 71 = .ok (.aload_n 0, 1) := by decide +kernel
theorem dX1_note_72 : decode cX1_note 72 = .ok (.aload_n 0, 1) := by decide +kernel
theorem dX1_note_73 : decode cX1_note 73 = .ok (.getfield 22, 3) := by decide +kernel
theorem dX1_note_76 : decode cX1_note 76 = .ok (.putfield 26, 3) := by decide +kernel
theorem dX1_note_79 : decode cX1_note 79 = .ok (.return_, 1) := by decide +kernel
theorem dX1_forgetOldest_0 : decode cX1_forgetOldest 0 = .ok (.aload_n 0, 1) := by decide +kernel
theorem dX1_forgetOldest_1 : decode cX1_forgetOldest 1 = .ok (.getfield 9, 3) := by decide +kernel
theorem dX1_forgetOldest_4 : decode cX1_forgetOldest 4 = .ok (.iconst 1, 1) := by decide +kernel
theorem dX1_forgetOldest_5 : decode cX1_forgetOldest 5 = .ok (.aload_n 0, 1) := by decide +kernel
theorem dX1_forgetOldest_6 : decode cX1_forgetOldest 6 = .ok (.getfield 9, 3) := by decide +kernel
theorem dX1_forgetOldest_9 : decode cX1_forgetOldest 9 = .ok (.iconst 0, 1) := by decide +kernel
theorem dX1_forgetOldest_10 : decode cX1_forgetOldest 10 = .ok (.bipush 39, 2) := by decide +kernel
theorem dX1_forgetOldest_12 : decode cX1_forgetOldest 12 = .ok (.invokestatic 32, 3) := by decide +kernel
theorem dX1_forgetOldest_15 : decode cX1_forgetOldest 15 = .ok (.aload_n 0, 1) := by decide +kernel
theorem dX1_forgetOldest_16 : decode cX1_forgetOldest 16 = .ok (.getfield 13, 3) := by decide +kernel
theorem dX1_forgetOldest_19 : decode cX1_forgetOldest 19 = .ok (.iconst 1, 1) := by decide +kernel
theorem dX1_forgetOldest_20 : decode cX1_forgetOldest 20 = .ok (.aload_n 0, 1) := by decide +kernel
theorem dX1_forgetOldest_21 : decode cX1_forgetOldest 21 = .ok (.getfield 13, 3) := by decide +kernel
theorem dX1_forgetOldest_24 : decode cX1_forgetOldest 24 = .ok (.iconst 0, 1) := by decide +kernel
theorem dX1_forgetOldest_25 : decode cX1_forgetOldest 25 = .ok (.bipush 39, 2) := by decide +kernel
theorem dX1_forgetOldest_27 : decode cX1_forgetOldest 27 = .ok (.invokestatic 32, 3) := by decide +kernel
theorem dX1_forgetOldest_30 : decode cX1_forgetOldest 30 = .ok (.aload_n 0, 1) := by decide +kernel
theorem dX1_forgetOldest_31 : decode cX1_forgetOldest 31 = .ok (.getfield 16, 3) := by decide +kernel
theorem dX1_forgetOldest_34 : decode cX1_forgetOldest 34 = .ok (.iconst 1, 1) := by decide +kernel
theorem dX1_forgetOldest_35 : decode cX1_forgetOldest 35 = .ok (.aload_n 0, 1) := by decide +kernel
theorem dX1_forgetOldest_36 : decode cX1_forgetOldest 36 = .ok (.getfield 16, 3) := by decide +kernel
theorem dX1_forgetOldest_39 : decode cX1_forgetOldest 39 = .ok (.iconst 0, 1) := by decide +kernel
theorem dX1_forgetOldest_40 : decode cX1_forgetOldest 40 = .ok (.bipush 39, 2) := by decide +kernel
theorem dX1_forgetOldest_42 : decode cX1_forgetOldest 42 = .ok (.invokestatic 32, 3) := by decide +kernel
theorem dX1_forgetOldest_45 : decode cX1_forgetOldest 45 = .ok (.aload_n 0, 1) := by decide +kernel
theorem dX1_forgetOldest_46 : decode cX1_forgetOldest 46 = .ok (.getfield 19, 3) := by decide +kernel
theorem dX1_forgetOldest_49 : decode cX1_forgetOldest 49 = .ok (.iconst 1, 1) := by decide +kernel
theorem dX1_forgetOldest_50 : decode cX1_forgetOldest 50 = .ok (.aload_n 0, 1) := by decide +kernel
theorem dX1_forgetOldest_51 : decode cX1_forgetOldest 51 = .ok (.getfield 19, 3) := by decide +kernel
theorem dX1_forgetOldest_54 : decode cX1_forgetOldest 54 = .ok (.iconst 0, 1) := by decide +kernel
theorem dX1_forgetOldest_55 : decode cX1_forgetOldest 55 = .ok (.bipush 39, 2) := by decide +kernel
theorem dX1_forgetOldest_57 : decode cX1_forgetOldest 57 = .ok (.invokestatic 32, 3) := by decide +kernel
theorem dX1_forgetOldest_60 : decode cX1_forgetOldest 60 = .ok (.aload_n 0, 1) := by decide +kernel
theorem dX1_forgetOldest_61 : decode cX1_forgetOldest 61 = .ok (.bipush 39, 2) := by decide +kernel
theorem dX1_forgetOldest_63 : decode cX1_forgetOldest 63 = .ok (.putfield 22, 3) := by decide +kernel
theorem dX1_forgetOldest_66 : decode cX1_forgetOldest 66 = .ok (.return_, 1) := by decide +kernel
theorem dX1_stepBack_0 : decode cX1_stepBack 0 = .ok (.aload_n 0, 1) := by decide +kernel
theorem dX1_stepBack_1 : decode cX1_stepBack 1 = .ok (.getfield 22, 3) := by decide +kernel
theorem dX1_stepBack_4 : decode cX1_stepBack 4 = .ok (.ifCond .le 53, 3) := by decide +kernel
theorem dX1_stepBack_7 : decode cX1_stepBack 7 = .ok (.aload_n 0, 1) := by decide +kernel
theorem dX1_stepBack_8 : decode cX1_stepBack 8 = .ok (.getfield 22, 3) := by decide +kernel
theorem dX1_stepBack_11 : decode cX1_stepBack 11 = .ok (.bipush 40, 2) := by decide +kernel
theorem dX1_stepBack_13 : decode cX1_stepBack 13 = .ok (.if_icmp .gt 44, 3) := by decide +kernel
theorem dX1_stepBack_16 : decode cX1_stepBack 16 = .ok (.aload_n 0, 1) := by decide +kernel
theorem dX1_stepBack_17 : decode cX1_stepBack 17 = .ok (.dup, 1) := by decide +kernel
theorem dX1_stepBack_18 : decode cX1_stepBack 18 = .ok (.getfield 22, 3) := by decide +kernel
theorem dX1_stepBack_21 : decode cX1_stepBack 21 = .ok (.iconst 1, 1) := by decide +kernel
theorem dX1_stepBack_22 : decode cX1_stepBack 22 = .ok (.isub, 1) := by decide +kernel
theorem dX1_stepBack_23 : decode cX1_stepBack 23 = .ok (.putfield 22, 3) := by decide +kernel
theorem dX1_stepBack_26 : decode cX1_stepBack 26 = .ok (.aload_n 1, 1) := by decide +kernel
theorem dX1_stepBack_27 : decode cX1_stepBack 27 = .ok (.aload_n 0, 1) := by decide +kernel
theorem dX1_stepBack_28 : decode cX1_stepBack 28 = .ok (.getfield 9, 3) := by decide +kernel
theorem dX1_stepBack_31 : decode cX1_stepBack 31 = .ok (.aload_n 0, 1) := by decide +kernel
theorem dX1_stepBack_32 : decode cX1_stepBack 32 = .ok (.getfield 22, 3) := by decide +kernel
theorem dX1_stepBack_35 : decode cX1_stepBack 35 = .ok (.iaload, 1) := by decide +kernel
theorem dX1_stepBack_36 : decode cX1_stepBack 36 = .ok (.aload_n 0, 1) := by decide +kernel
theorem dX1_stepBack_37 : decode cX1_stepBack 37 = .ok (.getfield 13, 3) := by decide +kernel
theorem dX1_stepBack_40 : decode cX1_stepBack 40 = .ok (.aload_n 0, 1) := by decide +kernel
theorem dX1_stepBack_41 : decode cX1_stepBack 41 = .ok (.getfield 22, 3) := by decide +kernel
theorem dX1_stepBack_44 : decode cX1_stepBack 44 = .ok (.iaload, 1) := by decide +kernel
theorem dX1_stepBack_45 : decode cX1_stepBack 45 = .ok (.aload_n 0, 1) := by decide +kernel
theorem dX1_stepBack_46 : decode cX1_stepBack 46 = .ok (.getfield 16, 3) := by decide +kernel
theorem dX1_stepBack_49 : decode cX1_stepBack 49 = .ok (.aload_n 0, 1) := by decide +kernel
theorem dX1_stepBack_50 : decode cX1_stepBack 50 = .ok (.getfield 22, 3) := by decide +kernel
theorem dX1_stepBack_53 : decode cX1_stepBack 53 = .ok (.iaload, 1) := by decide +kernel
theorem dX1_stepBack_54 : decode cX1_stepBack 54 = .ok (.invokevirtual 38, 3) := by decide +kernel
theorem dX1_stepBack_57 : decode cX1_stepBack 57 = .ok (.return_, 1) := by decide +kernel
theorem dX1_stepOn_0 : decode cX1_stepOn 0 = .ok (.aload_n 0, 1) := by decide +kernel
theorem dX1_stepOn_1 : decode cX1_stepOn 1 = .ok (.getfield 22, 3) := by decide +kernel
theorem dX1_stepOn_4 : decode cX1_stepOn 4 = .ok (.ifCond .lt 64, 3) := by decide +kernel
theorem dX1_stepOn_7 : decode cX1_stepOn 7 = .ok (.aload_n 0, 1) := by decide +kernel
theorem dX1_stepOn_8 : decode cX1_stepOn 8 = .ok (.getfield 22, 3) := by decide +kernel
theorem dX1_stepOn_11 : decode cX1_stepOn 11 = .ok (.aload_n 0, 1) := by decide +kernel
theorem dX1_stepOn_12 : decode cX1_stepOn 12 = .ok (.getfield 26, 3) := by decide +kernel
theorem dX1_stepOn_15 : decode cX1_stepOn 15 = .ok (.if_icmp .ge 53, 3) := by decide +kernel
theorem dX1_stepOn_18 : decode cX1_stepOn 18 = .ok (.aload_n 0, 1) := by decide +kernel
theorem dX1_stepOn_19 : decode cX1_stepOn 19 = .ok (.getfield 22, 3) := by decide +kernel
theorem dX1_stepOn_22 : decode cX1_stepOn 22 = .ok (.bipush 40, 2) := by decide +kernel
theorem dX1_stepOn_24 : decode cX1_stepOn 24 = .ok (.if_icmp .ge 44, 3) := by decide +kernel
theorem dX1_stepOn_27 : decode cX1_stepOn 27 = .ok (.aload_n 1, 1) := by decide +kernel
theorem dX1_stepOn_28 : decode cX1_stepOn 28 = .ok (.aload_n 0, 1) := by decide +kernel
theorem dX1_stepOn_29 : decode cX1_stepOn 29 = .ok (.getfield 9, 3) := by decide +kernel
theorem dX1_stepOn_32 : decode cX1_stepOn 32 = .ok (.aload_n 0, 1) := by decide +kernel
theorem dX1_stepOn_33 : decode cX1_stepOn 33 = .ok (.getfield 22, 3) := by decide +kernel
theorem dX1_stepOn_36 : decode cX1_stepOn 36 = .ok (.iaload, 1) := by decide +kernel
theorem dX1_stepOn_37 : decode cX1_stepOn 37 = .ok (.aload_n 0, 1) := by decide +kernel
theorem dX1_stepOn_38 : decode cX1_stepOn 38 = .ok (.getfield 13, 3) := by decide +kernel
theorem dX1_stepOn_41 : decode cX1_stepOn 41 = .ok (.aload_n 0, 1) := by decide +kernel
theorem dX1_stepOn_42 : decode cX1_stepOn 42 = .ok (.getfield 22, 3) := by decide +kernel
theorem dX1_stepOn_45 : decode cX1_stepOn 45 = .ok (.iaload, 1) := by decide +kernel
theorem dX1_stepOn_46 : decode cX1_stepOn 46 = .ok (.aload_n 0, 1) := by decide +kernel
theorem dX1_stepOn_47 : decode cX1_stepOn 47 = .ok (.getfield 19, 3) := by decide +kernel
theorem dX1_stepOn_50 : decode cX1_stepOn 50 = .ok (.aload_n 0, 1) := by decide +kernel
theorem dX1_stepOn_51 : decode cX1_stepOn 51 = .ok (.getfield 22, 3) := by decide +kernel
theorem dX1_stepOn_54 : decode cX1_stepOn 54 = .ok (.iaload, 1) := by decide +kernel
theorem dX1_stepOn_55 : decode cX1_stepOn 55 = .ok (.invokevirtual 38, 3) := by decide +kernel
theorem dX1_stepOn_58 : decode cX1_stepOn 58 = .ok (.aload_n 0, 1) := by decide +kernel
theorem dX1_stepOn_59 : decode cX1_stepOn 59 = .ok (.dup, 1) := by decide +kernel
theorem dX1_stepOn_60 : decode cX1_stepOn 60 = .ok (.getfield 22, 3) := by decide +kernel
theorem dX1_stepOn_63 : decode cX1_stepOn 63 = .ok (.iconst 1, 1) := by decide +kernel
theorem dX1_stepOn_64 : decode cX1_stepOn 64 = .ok (.iadd, 1) := by decide +kernel
theorem dX1_stepOn_65 : decode cX1_stepOn 65 = .ok (.putfield 22, 3) := by decide +kernel
theorem dX1_stepOn_68 : decode cX1_stepOn 68 = .ok (.return_, 1) := by decide +kernel
theorem dX2_init_0 : decode cX2_init 0 = .ok (.aload_n 0, 1) := by decide +kernel
theorem dX2_init_1 : decode cX2_init 1 = .ok (.invokespecial 3, 3) := by decide +kernel
theorem dX2_init_4 : decode cX2_init 4 = .ok (.aload_n 0, 1) := by decide +kernel
theorem dX2_init_5 : decode cX2_init 5 = .ok (.bipush 7, 2) := by decide +kernel
theorem dX2_init_7 : decode cX2_init 7 = .ok (.newarray .int, 2) := by decide +kernel
theorem dX2_init_9 : decode cX2_init 9 = .ok (.putfield 9, 3) := by decide +kernel
theorem dX2_init_12 : decode cX2_init 12 = .ok (.aload_n 0, 1) := by decide +kernel
theorem dX2_init_13 : decode cX2_init 13 = .ok (.bipush 7, 2) := by decide +kernel
theorem dX2_init_15 : decode cX2_init 15 = .ok (.newarray .int, 2) := by decide +kernel
theorem dX2_init_17 : decode cX2_init 17 = .ok (.putfield 15, 3) := by decide +kernel
theorem dX2_init_20 : decode cX2_init 20 = .ok (.aload_n 0, 1) := by decide +kernel
theorem dX2_init_21 : decode cX2_init 21 = .ok (.bipush 7, 2) := by decide +kernel
theorem dX2_init_23 : decode cX2_init 23 = .ok (.newarray .int, 2) := by decide +kernel
theorem dX2_init_25 : decode cX2_init 25 = .ok (.putfield 18, 3) := by decide +kernel
theorem dX2_init_28 : decode cX2_init 28 = .ok (.aload_n 0, 1) := by decide +kernel
theorem dX2_init_29 : decode cX2_init 29 = .ok (.bipush 7, 2) := by decide +kernel
theorem dX2_init_31 : decode cX2_init 31 = .ok (.newarray .int, 2) := by decide +kernel
theorem dX2_init_33 : decode cX2_init 33 = .ok (.putfield 21, 3) := by decide +kernel
theorem dX2_init_36 : decode cX2_init 36 = .ok (.aload_n 0, 1) := by decide +kernel
theorem dX2_init_37 : decode cX2_init 37 = .ok (.iconst 0, 1) := by decide +kernel
theorem dX2_init_38 : decode cX2_init 38 = .ok (.putfield 24, 3) := by decide +kernel
theorem dX2_init_41 : decode cX2_init 41 = .ok (.aload_n 0, 1) := by decide +kernel
theorem dX2_init_42 : decode cX2_init 42 = .ok (.iconst (-1), 1) := by decide +kernel
theorem dX2_init_43 : decode cX2_init 43 = .ok (.putfield 28, 3) := by decide +kernel
theorem dX2_init_46 : decode cX2_init 46 = .ok (.aload_n 0, 1) := by decide +kernel
theorem dX2_init_47 : decode cX2_init 47 = .ok (.iconst (-1), 1) := by decide +kernel
theorem dX2_init_48 : decode cX2_init 48 = .ok (.putfield 31, 3) := by decide +kernel
theorem dX2_init_51 : decode cX2_init 51 = .ok (.aload_n 0, 1) := by decide +kernel
theorem dX2_init_52 : decode cX2_init 52 = .ok (.iconst 0, 1) := by decide +kernel
theorem dX2_init_53 : decode cX2_init 53 = .ok (.putfield 34, 3) := by decide +kernel
theorem dX2_init_56 : decode cX2_init 56 = .ok (.aload_n 0, 1) := by decide +kernel
theorem dX2_init_57 : decode cX2_init 57 = .ok (.iconst (-1), 1) := by decide +kernel
theorem dX2_init_58 : decode cX2_init 58 = .ok (.putfield 38, 3) := by decide +kernel
theorem dX2_init_61 : decode cX2_init 61 = .ok (.aload_n 0, 1) := by decide +kernel
theorem dX2_init_62 : decode cX2_init 62 = .ok (.iconst (-1), 1) := by decide +kernel
theorem dX2_init_63 : decode cX2_init 63 = .ok (.putfield 41, 3) := by decide +kernel
theorem dX2_init_66 : decode cX2_init 66 = .ok (.aload_n 0, 1) := by decide +kernel
theorem dX2_init_67 : decode cX2_init 67 = .ok (.iconst 0, 1) := by decide +kernel
theorem dX2_init_68 : decode cX2_init 68 = .ok (.putfield 44, 3) := by decide +kernel
theorem dX2_init_71 : decode cX2_init 71 = .ok (.aload_n 0, 1) := by decide +kernel
theorem dX2_init_72 : decode cX2_init 72 = .ok (.getfield 15, 3) := by decide +kernel
theorem dX2_init_75 : decode cX2_init 75 = .ok (.iconst (-1), 1) := by decide +kernel
theorem dX2_init_76 : decode cX2_init 76 = .ok (.invokestatic 47, 3) := by decide +kernel
theorem dX2_init_79 : decode cX2_init 79 = .ok (.aload_n 0, 1) := by decide +kernel
theorem dX2_init_80 : decode cX2_init 80 = .ok (.getfield 18, 3) := by decide +kernel
theorem dX2_init_83 : decode cX2_init 83 = .ok (.iconst (-1), 1) := by decide +kernel
theorem dX2_init_84 : decode cX2_init 84 = .ok (.invokestatic 47, 3) := by decide +kernel
theorem dX2_init_87 : decode cX2_init 87 = .ok (.return_, 1) := by decide +kernel
theorem dX2_hasBegun_0 : decode cX2_hasBegun 0 = .ok (.aload_n 0, 1) := by decide +kernel
theorem dX2_hasBegun_1 : decode cX2_hasBegun 1 = .ok (.getfield 24, 3) := by decide +kernel
theorem dX2_hasBegun_4 : decode cX2_hasBegun 4 = .ok (.ifCond .le 7, 3) := by decide +kernel
theorem dX2_hasBegun_7 : decode cX2_hasBegun 7 = .ok (.iconst 1, 1) := by decide +kernel
theorem dX2_hasBegun_8 : decode cX2_hasBegun 8 = .ok (.goto 4, 3) := by decide +kernel
theorem dX2_hasBegun_11 : decode cX2_hasBegun 11 = .ok (.iconst 0, 1) := by decide +kernel
theorem dX2_hasBegun_12 : decode cX2_hasBegun 12 = .ok (.ireturn, 1) := by decide +kernel
theorem dX2_hasEnded_0 : decode cX2_hasEnded 0 = .ok (.aload_n 0, 1) := by decide +kernel
theorem dX2_hasEnded_1 : decode cX2_hasEnded 1 = .ok (.invokevirtual 53, 3) := by decide +kernel
theorem dX2_hasEnded_4 : decode cX2_hasEnded 4 = .ok (.ifCond .eq 18, 3) := by decide +kernel
theorem dX2_hasEnded_7 : decode cX2_hasEnded 7 = .ok (.aload_n 0, 1) := by decide +kernel
theorem dX2_hasEnded_8 : decode cX2_hasEnded 8 = .ok (.getfield 24, 3) := by decide +kernel
theorem dX2_hasEnded_11 : decode cX2_hasEnded 11 = .ok (.aload_n 1, 1) := by decide +kernel
theorem dX2_hasEnded_12 : decode cX2_hasEnded 12 = .ok (.getfield 57, 3) := by decide +kernel
theorem dX2_hasEnded_15 : decode cX2_hasEnded 15 = .ok (.if_icmp .lt 7, 3) := by decide +kernel
theorem dX2_hasEnded_18 : decode cX2_hasEnded 18 = .ok (.iconst 1, 1) := by decide +kernel
theorem dX2_hasEnded_19 : decode cX2_hasEnded 19 = .ok (.goto 4, 3) := by decide +kernel
theorem dX2_hasEnded_22 : decode cX2_hasEnded 22 = .ok (.iconst 0, 1) := by decide +kernel
theorem dX2_hasEnded_23 : decode cX2_hasEnded 23 = .ok (.ireturn, 1) := by decide +kernel
theorem dX2_wrapAll_0 : decode cX2_wrapAll 0 = .ok (.aload_n 0, 1) := by decide +kernel
theorem dX2_wrapAll_1 : decode cX2_wrapAll 1 = .ok (.getfield 15, 3) := by decide +kernel
theorem dX2_wrapAll_4 : decode cX2_wrapAll 4 = .ok (.iconst (-1), 1) := by decide +kernel
theorem dX2_wrapAll_5 : decode cX2_wrapAll 5 = .ok (.invokestatic 47, 3) := by decide +kernel
theorem dX2_wrapAll_8 : decode cX2_wrapAll 8 = .ok (.aload_n 0, 1) := by decide +kernel
theorem dX2_wrapAll_9 : decode cX2_wrapAll 9 = .ok (.getfield 18, 3) := by decide +kernel
theorem dX2_wrapAll_12 : decode cX2_wrapAll 12 = .ok (.iconst (-1), 1) := by decide +kernel
theorem dX2_wrapAll_13 : decode cX2_wrapAll 13 = .ok (.invokestatic 47, 3) := by decide +kernel
theorem dX2_wrapAll_16 : decode cX2_wrapAll 16 = .ok (.aload_n 0, 1) := by decide +kernel
theorem dX2_wrapAll_17 : decode cX2_wrapAll 17 = .ok (.getfield 21, 3) := by decide +kernel
theorem dX2_wrapAll_20 : decode cX2_wrapAll 20 = .ok (.iconst 0, 1) := by decide +kernel
theorem dX2_wrapAll_21 : decode cX2_wrapAll 21 = .ok (.invokestatic 47, 3) := by decide +kernel
theorem dX2_wrapAll_24 : decode cX2_wrapAll 24 = .ok (.aload_n 0, 1) := by decide +kernel
theorem dX2_wrapAll_25 : decode cX2_wrapAll 25 = .ok (.iconst 0, 1) := by decide +kernel
theorem dX2_wrapAll_26 : decode cX2_wrapAll 26 = .ok (.putfield 24, 3) := by decide +kernel
theorem dX2_wrapAll_29 : decode cX2_wrapAll 29 = .ok (.aload_n 0, 1) := by decide +kernel
theorem dX2_wrapAll_30 : decode cX2_wrapAll 30 = .ok (.iconst (-1), 1) := by decide +kernel
theorem dX2_wrapAll_31 : decode cX2_wrapAll 31 = .ok (.putfield 28, 3) := by decide +kernel
theorem dX2_wrapAll_34 : decode cX2_wrapAll 34 = .ok (.aload_n 0, 1) := by decide +kernel
theorem dX2_wrapAll_35 : decode cX2_wrapAll 35 = .ok (.iconst (-1), 1) := by decide +kernel
theorem dX2_wrapAll_36 : decode cX2_wrapAll 36 = .ok (.putfield 31, 3) := by decide +kernel
theorem dX2_wrapAll_39 : decode cX2_wrapAll 39 = .ok (.aload_n 0, 1) := by decide +kernel
theorem dX2_wrapAll_40 : decode cX2_wrapAll 40 = .ok (.iconst 0, 1) := by decide +kernel
theorem dX2_wrapAll_41 : decode cX2_wrapAll 41 = .ok (.putfield 34, 3) := by decide +kernel
theorem dX2_wrapAll_44 : decode cX2_wrapAll 44 = .ok (.return_, 1) := by decide +kernel
theorem dX2_become_0 : decode cX2_become 0 = .ok (.aload_n 1, 1) := by decide +kernel
theorem dX2_become_1 : decode cX2_become 1 = .ok (.getfield 9, 3) := by decide +kernel
theorem dX2_become_4 : decode cX2_become 4 = .ok (.iconst 0, 1) := by decide +kernel
theorem dX2_become_5 : decode cX2_become 5 = .ok (.aload_n 0, 1) := by decide +kernel
theorem dX2_become_6 : decode cX2_become 6 = .ok (.getfield 9, 3) := by decide +kernel
theorem dX2_become_9 : decode cX2_become 9 = .ok (.iconst 0, 1) := by decide +kernel
theorem dX2_become_10 : decode cX2_become 10 = .ok (.bipush 7, 2) := by decide +kernel
theorem dX2_become_12 : decode cX2_become 12 = .ok (.invokestatic 62, 3) := by decide +kernel
theorem dX2_become_15 : decode cX2_become 15 = .ok (.aload_n 1, 1) := by decide +kernel
theorem dX2_become_16 : decode cX2_become 16 = .ok (.getfield 15, 3) := by decide +kernel
theorem dX2_become_19 : decode cX2_become 19 = .ok (.iconst 0, 1) := by decide +kernel
theorem dX2_become_20 : decode cX2_become 20 = .ok (.aload_n 0, 1) := by decide +kernel
theorem dX2_become_21 : decode cX2_become 21 = .ok (.getfield 15, 3) := by decide +kernel
theorem dX2_become_24 : decode cX2_become 24 = .ok (.iconst 0, 1) := by decide +kernel
theorem dX2_become_25 : decode cX2_become 25 = .ok (.bipush 7, 2) := by decide +kernel
theorem dX2_become_27 : decode cX2_become 27 = .ok (.invokestatic 62, 3) := by decide +kernel
theorem dX2_become_30 : decode cX2_become 30 = .ok (.aload_n 1, 1) := by decide +kernel
theorem dX2_become_31 : decode cX2_become 31 = .ok (.getfield 18, 3) := by decide +kernel
theorem dX2_become_34 : decode cX2_become 34 = .ok (.iconst 0, 1) := by decide +kernel
theorem dX2_become_35 : decode cX2_become 35 = .ok (.aload_n 0, 1) := by decide +kernel
theorem dX2_become_36 : decode cX2_become 36 = .ok (.getfield 18, 3) := by decide +kernel
theorem dX2_become_39 : decode cX2_become 39 = .ok (.iconst 0, 1) := by decide +kernel
theorem dX2_become_40 : decode cX2_become 40 = .ok (.bipush 7, 2) := by decide +kernel
theorem dX2_become_42 : decode cX2_become 42 = .ok (.invokestatic 62, 3) := by decide +kernel
theorem dX2_become_45 : decode cX2_become 45 = .ok (.aload_n 1, 1) := by decide +kernel
theorem dX2_become_46 : decode cX2_become 46 = .ok (.getfield 21, 3) := by decide +kernel
theorem dX2_become_49 : decode cX2_become 49 = .ok (.iconst 0, 1) := by decide +kernel
theorem dX2_become_50 : decode cX2_become 50 = .ok (.aload_n 0, 1) := by decide +kernel
theorem dX2_become_51 : decode cX2_become 51 = .ok (.getfield 21, 3) := by decide +kernel
theorem dX2_become_54 : decode cX2_become 54 = .ok (.iconst 0, 1) := by decide +kernel
theorem dX2_become_55 : decode cX2_become 55 = .ok (.bipush 7, 2) := by decide +kernel
theorem dX2_become_57 : decode cX2_become 57 = .ok (.invokestatic 62, 3) := by decide +kernel
theorem dX2_become_60 : decode cX2_become 60 = .ok (.aload_n 0, 1) := by decide +kernel
theorem dX2_become_61 : decode cX2_become 61 = .ok (.aload_n 1, 1) := by decide +kernel
theorem dX2_become_62 : decode cX2_become 62 = .ok (.getfield 24, 3) := by decide +kernel
theorem dX2_become_65 : decode cX2_become 65 = .ok (.putfield 24, 3) := by decide +kernel
theorem dX2_become_68 : decode cX2_become 68 = .ok (.aload_n 0, 1) := by decide +kernel
theorem dX2_become_69 : decode cX2_become 69 = .ok (.aload_n 1, 1) := by decide +kernel
theorem dX2_become_70 : decode cX2_become 70 = .ok (.getfield 28, 3) := by decide +kernel
theorem dX2_become_73 : decode cX2_become 73 = .ok (.putfield 28, 3) := by decide +kernel
theorem dX2_become_76 : decode cX2_become 76 = .ok (.aload_n 0, 1) := by decide +kernel
theorem dX2_become_77 : decode cX2_become 77 = .ok (.aload_n 1, 1) := by decide +kernel
theorem dX2_become_78 : decode cX2_become 78 = .ok (.getfield 31, 3) := by decide +kernel
theorem dX2_become_81 : decode cX2_become 81 = .ok (.putfield 31, 3) := by decide +kernel
theorem dX2_become_84 : decode cX2_become 84 = .ok (.aload_n 0, 1) := by decide +kernel
theorem dX2_become_85 : decode cX2_become 85 = .ok (.aload_n 1, 1) := by decide +kernel
theorem dX2_become_86 : decode cX2_become 86 = .ok (.getfield 34, 3) := by decide +kernel
theorem dX2_become_89 : decode cX2_become 89 = .ok (.putfield 34, 3) := by decide +kernel
theorem dX2_become_92 : decode cX2_become 92 = .ok (.aload_n 0, 1) := by decide +kernel
theorem dX2_become_93 : decode cX2_become 93 = .ok (.aload_n 1, 1) := by decide +kernel
theorem dX2_become_94 : decode cX2_become 94 = .ok (.getfield 38, 3) := by decide +kernel
theorem dX2_become_97 : decode cX2_become 97 = .ok (.putfield 38, 3) := by decide +kernel
theorem dX2_become_100 : decode cX2_become 100 = .ok (.aload_n 0, 1) := by decide +kernel
theorem dX2_become_101 : decode cX2_become 101 = .ok (.aload_n 1, 1) := by decide +kernel
theorem dX2_become_102 : decode cX2_become 102 = .ok (.getfield 41, 3) := by decide +kernel
theorem dX2_become_105 : decode cX2_become 105 = .ok (.putfield 41, 3) := by decide +kernel
theorem dX2_become_108 : decode cX2_become 108 = .ok (.aload_n 0, 1) := by decide +kernel
theorem dX2_become_109 : decode cX2_become 109 = .ok (.aload_n 1, 1) := by decide +kernel
theorem dX2_become_110 : decode cX2_become 110 = .ok (.getfield 44, 3) := by decide +kernel
theorem dX2_become_113 : decode cX2_become 113 = .ok (.putfield 44, 3) := by decide +kernel
theorem dX2_become_116 : decode cX2_become 116 = .ok (.return_, 1) := by decide +kernel
theorem dX2_beginBy_0 : decode cX2_beginBy 0 = .ok (.aload_n 1, 1) := by decide +kernel
theorem dX2_beginBy_1 : decode cX2_beginBy 1 = .ok (.iconst 0, 1) := by decide +kernel
theorem dX2_beginBy_2 : decode cX2_beginBy 2 = .ok (.aload_n 0, 1) := by decide +kernel
theorem dX2_beginBy_3 : decode cX2_beginBy 3 = .ok (.getfield 9, 3) := by decide +kernel
theorem dX2_beginBy_6 : decode cX2_beginBy 6 = .ok (.iconst 0, 1) := by decide +kernel
theorem dX2_beginBy_7 : decode cX2_beginBy 7 = .ok (.bipush 7, 2) := by decide +kernel
theorem dX2_beginBy_9 : decode cX2_beginBy 9 = .ok (.invokestatic 62, 3) := by decide +kernel
theorem dX2_beginBy_12 : decode cX2_beginBy 12 = .ok (.aload_n 0, 1) := by decide +kernel
theorem dX2_beginBy_13 : decode cX2_beginBy 13 = .ok (.invokevirtual 68, 3) := by decide +kernel
theorem dX2_beginBy_16 : decode cX2_beginBy 16 = .ok (.aload_n 0, 1) := by decide +kernel
theorem dX2_beginBy_17 : decode cX2_beginBy 17 = .ok (.iconst 0, 1) := by decide +kernel
theorem dX2_beginBy_18 : decode cX2_beginBy 18 = .ok (.putfield 44, 3) := by decide +kernel
theorem dX2_beginBy_21 : decode cX2_beginBy 21 = .ok (.return_, 1) := by decide +kernel
theorem dX2_changePlaces_0 : decode cX2_changePlaces 0 = .ok (.aload_n 0, 1) := by decide +kernel
theorem dX2_changePlaces_1 : decode cX2_changePlaces 1 = .ok (.getfield 9, 3) := by decide +kernel
theorem dX2_changePlaces_4 : decode cX2_changePlaces 4 = .ok (.iload_n 1, 1) := by decide +kernel
theorem dX2_changePlaces_5 : decode cX2_changePlaces 5 = .ok (.iaload, 1) := by decide +kernel
theorem dX2_changePlaces_6 : decode cX2_changePlaces 6 = .ok (.istore_n 3, 1) := by decide +kernel
theorem dX2_changePlaces_7 : decode cX2_changePlaces 7 = .ok (.aload_n 0, 1) := by decide +kernel
theorem dX2_changePlaces_8 : decode cX2_changePlaces 8 = .ok (.getfield 9, 3) := by decide +kernel
theorem dX2_changePlaces_11 : decode cX2_changePlaces 11 = .ok (.iload_n 1, 1) := by decide +kernel
theorem dX2_changePlaces_12 : decode cX2_changePlaces 12 = .ok (.aload_n 0, 1) := by decide +kernel
theorem dX2_changePlaces_13 : decode cX2_changePlaces 13 = .ok (.getfield 9, 3) := by decide +kernel
theorem dX2_changePlaces_16 : decode cX2_changePlaces 16 = .ok (.iload_n 2, 1) := by decide +kernel
theorem dX2_changePlaces_17 : decode cX2_changePlaces 17 = .ok (.iaload, 1) := by decide +kernel
theorem dX2_changePlaces_18 : decode cX2_changePlaces 18 = .ok (.iastore, 1) := by decide +kernel
theorem dX2_changePlaces_19 : decode cX2_changePlaces 19 = .ok (.aload_n 0, 1) := by decide +kernel
theorem dX2_changePlaces_20 : decode cX2_changePlaces 20 = .ok (.getfield 9, 3) := by decide +kernel
theorem dX2_changePlaces_23 : decode cX2_changePlaces 23 = .ok (.iload_n 2, 1) := by decide +kernel
theorem dX2_changePlaces_24 : decode cX2_changePlaces 24 = .ok (.iload_n 3, 1) := by decide +kernel
theorem dX2_changePlaces_25 : decode cX2_changePlaces 25 = .ok (.iastore, 1) := by decide +kernel
theorem dX2_changePlaces_26 : decode cX2_changePlaces 26 = .ok (.return_, 1) := by decide +kernel
theorem dX2_whoseTurn_0 : decode cX2_whoseTurn 0 = .ok (.aload_n 0, 1) := by decide +kernel
theorem dX2_whoseTurn_1 : decode cX2_whoseTurn 1 = .ok (.getfield 28, 3) := by decide +kernel
theorem dX2_whoseTurn_4 : decode cX2_whoseTurn 4 = .ok (.iconst (-1), 1) := by decide +kernel
theorem dX2_whoseTurn_5 : decode cX2_whoseTurn 5 = .ok (.if_icmp .eq 8, 3) := by decide +kernel
theorem dX2_whoseTurn_8 : decode cX2_whoseTurn 8 = .ok (.aload_n 0, 1) := by decide +kernel
theorem dX2_whoseTurn_9 : decode cX2_whoseTurn 9 = .ok (.getfield 28, 3) := by decide +kernel
theorem dX2_whoseTurn_12 : decode cX2_whoseTurn 12 = .ok (.ireturn, 1) := by decide +kernel
theorem dX2_whoseTurn_13 : decode cX2_whoseTurn 13 = .ok (.aload_n 0, 1) := by decide +kernel
theorem dX2_whoseTurn_14 : decode cX2_whoseTurn 14 = .ok (.getfield 24, 3) := by decide +kernel
theorem dX2_whoseTurn_17 : decode cX2_whoseTurn 17 = .ok (.aload_n 1, 1) := by decide +kernel
theorem dX2_whoseTurn_18 : decode cX2_whoseTurn 18 = .ok (.getfield 57, 3) := by decide +kernel
theorem dX2_whoseTurn_21 : decode cX2_whoseTurn 21 = .ok (.if_icmp .ge 24, 3) := by decide +kernel
theorem dX2_whoseTurn_24 : decode cX2_whoseTurn 24 = .ok (.aload_n 0, 1) := by decide +kernel
theorem dX2_whoseTurn_25 : decode cX2_whoseTurn 25 = .ok (.getfield 24, 3) := by decide +kernel
theorem dX2_whoseTurn_28 : decode cX2_whoseTurn 28 = .ok (.bipush 7, 2) := by decide +kernel
theorem dX2_whoseTurn_30 : decode cX2_whoseTurn 30 = .ok (.if_icmp .ge 15, 3) := by decide +kernel
theorem dX2_whoseTurn_33 : decode cX2_whoseTurn 33 = .ok (.aload_n 0, 1) := by decide +kernel
theorem dX2_whoseTurn_34 : decode cX2_whoseTurn 34 = .ok (.getfield 9, 3) := by decide +kernel
theorem dX2_whoseTurn_37 : decode cX2_whoseTurn 37 = .ok (.aload_n 0, 1) := by decide +kernel
theorem dX2_whoseTurn_38 : decode cX2_whoseTurn 38 = .ok (.getfield 24, 3) := by decide +kernel
theorem dX2_whoseTurn_41 : decode cX2_whoseTurn 41 = .ok (.iaload, 1) := by decide +kernel
theorem dX2_whoseTurn_42 : decode cX2_whoseTurn 42 = .ok (.goto 5, 3) := by decide +kernel
theorem dX2_whoseTurn_45 : decode cX2_whoseTurn 45 = .ok (.bipush (-2), 2) := by decide +kernel
theorem dX2_whoseTurn_47 : decode cX2_whoseTurn 47 = .ok (.ireturn, 1) := by decide +kernel
theorem dX2_isSafe_0 : decode cX2_isSafe 0 = .ok (.aload_n 0, 1) := by decide +kernel
theorem dX2_isSafe_1 : decode cX2_isSafe 1 = .ok (.getfield 21, 3) := by decide +kernel
theorem dX2_isSafe_4 : decode cX2_isSafe 4 = .ok (.iload_n 1, 1) := by decide +kernel
theorem dX2_isSafe_5 : decode cX2_isSafe 5 = .ok (.iaload, 1) := by decide +kernel
theorem dX2_isSafe_6 : decode cX2_isSafe 6 = .ok (.aload_n 2, 1) := by decide +kernel
theorem dX2_isSafe_7 : decode cX2_isSafe 7 = .ok (.getfield 71, 3) := by decide +kernel
theorem dX2_isSafe_10 : decode cX2_isSafe 10 = .ok (.if_icmp .lt 7, 3) := by decide +kernel
theorem dX2_isSafe_13 : decode cX2_isSafe 13 = .ok (.iconst 1, 1) := by decide +kernel
theorem dX2_isSafe_14 : decode cX2_isSafe 14 = .ok (.goto 4, 3) := by decide +kernel
theorem dX2_isSafe_17 : decode cX2_isSafe 17 = .ok (.iconst 0, 1) := by decide +kernel
theorem dX2_isSafe_18 : decode cX2_isSafe 18 = .ok (.ireturn, 1) := by decide +kernel
theorem dX2_countSafe_0 : decode cX2_countSafe 0 = .ok (.iconst 0, 1) := by decide +kernel
theorem dX2_countSafe_1 : decode cX2_countSafe 1 = .ok (.istore_n 2, 1) := by decide +kernel
theorem dX2_countSafe_2 : decode cX2_countSafe 2 = .ok (.iconst 0, 1) := by decide +kernel
theorem dX2_countSafe_3 : decode cX2_countSafe 3 = .ok (.istore_n 3, 1) := by decide +kernel
theorem dX2_countSafe_4 : decode cX2_countSafe 4 = .ok (.iload_n 3, 1) := by decide +kernel
theorem dX2_countSafe_5 : decode cX2_countSafe 5 = .ok (.aload_n 1, 1) := by decide +kernel
theorem dX2_countSafe_6 : decode cX2_countSafe 6 = .ok (.getfield 57, 3) := by decide +kernel
theorem dX2_countSafe_9 : decode cX2_countSafe 9 = .ok (.if_icmp .ge 21, 3) := by decide +kernel
theorem dX2_countSafe_12 : decode cX2_countSafe 12 = .ok (.aload_n 0, 1) := by decide +kernel
theorem dX2_countSafe_13 : decode cX2_countSafe 13 = .ok (.iload_n 3, 1) := by decide +kernel
theorem dX2_countSafe_14 : decode cX2_countSafe 14 = .ok (.aload_n 1, 1) := by decide +kernel
theorem dX2_countSafe_15 : decode cX2_countSafe 15 = .ok (.invokevirtual 74, 3) := by decide +kernel
theorem dX2_countSafe_18 : decode cX2_countSafe 18 = .ok (.ifCond .eq 6, 3) := by decide +kernel
theorem dX2_countSafe_21 : decode cX2_countSafe 21 = .ok (.iinc 2 1, 3) := by decide +kernel
theorem dX2_countSafe_24 : decode cX2_countSafe 24 = .ok (.iinc 3 1, 3) := by decide +kernel
theorem dX2_countSafe_27 : decode cX2_countSafe 27 = .ok (.goto (-23), 3) := by decide +kernel
theorem dX2_countSafe_30 : decode cX2_countSafe 30 = .ok (.iload_n 2, 1) := by decide +kernel
theorem dX2_countSafe_31 : decode cX2_countSafe 31 = .ok (.ireturn, 1) := by decide +kernel
theorem dX2_mayRob_0 : decode cX2_mayRob 0 = .ok (.iload_n 1, 1) := by decide +kernel
theorem dX2_mayRob_1 : decode cX2_mayRob 1 = .ok (.ifCond .lt 32, 3) := by decide +kernel
theorem dX2_mayRob_4 : decode cX2_mayRob 4 = .ok (.iload_n 1, 1) := by decide +kernel
theorem dX2_mayRob_5 : decode cX2_mayRob 5 = .ok (.aload_n 0, 1) := by decide +kernel
theorem dX2_mayRob_6 : decode cX2_mayRob 6 = .ok (.getfield 24, 3) := by decide +kernel
theorem dX2_mayRob_9 : decode cX2_mayRob 9 = .ok (.if_icmp .ge 24, 3) := by decide +kernel
theorem dX2_mayRob_12 : decode cX2_mayRob 12 = .ok (.iload_n 1, 1) := by decide +kernel
theorem dX2_mayRob_13 : decode cX2_mayRob 13 = .ok (.aload_n 0, 1) := by decide +kernel
theorem dX2_mayRob_14 : decode cX2_mayRob 14 = .ok (.getfield 31, 3) := by decide +kernel
theorem dX2_mayRob_17 : decode cX2_mayRob 17 = .ok (.if_icmp .eq 16, 3) := by decide +kernel
theorem dX2_mayRob_20 : decode cX2_mayRob 20 = .ok (.aload_n 0, 1) := by decide +kernel
theorem dX2_mayRob_21 : decode cX2_mayRob 21 = .ok (.iload_n 1, 1) := by decide +kernel
theorem dX2_mayRob_22 : decode cX2_mayRob 22 = .ok (.aload_n 2, 1) := by decide +kernel
theorem dX2_mayRob_23 : decode cX2_mayRob 23 = .ok (.invokevirtual 74, 3) := by decide +kernel
theorem dX2_mayRob_26 : decode cX2_mayRob 26 = .ok (.ifCond .ne 7, 3) := by decide +kernel
theorem dX2_mayRob_29 : decode cX2_mayRob 29 = .ok (.iconst 1, 1) := by decide +kernel
theorem dX2_mayRob_30 : decode cX2_mayRob 30 = .ok (.goto 4, 3) := by decide +kernel
theorem dX2_mayRob_33 : decode cX2_mayRob 33 = .ok (.iconst 0, 1) := by decide +kernel
theorem dX2_mayRob_34 : decode cX2_mayRob 34 = .ok (.ireturn, 1) := by decide +kernel
theorem dX2_unwrap_0 : decode cX2_unwrap 0 = .ok (.aload_n 0, 1) := by decide +kernel
theorem dX2_unwrap_1 : decode cX2_unwrap 1 = .ok (.getfield 24, 3) := by decide +kernel
theorem dX2_unwrap_4 : decode cX2_unwrap 4 = .ok (.bipush 7, 2) := by decide +kernel
theorem dX2_unwrap_6 : decode cX2_unwrap 6 = .ok (.if_icmp .lt 6, 3) := by decide +kernel
theorem dX2_unwrap_9 : decode cX2_unwrap 9 = .ok (.bipush (-5), 2) := by decide +kernel
theorem dX2_unwrap_11 : decode cX2_unwrap 11 = .ok (.ireturn, 1) := by decide +kernel
theorem dX2_unwrap_12 : decode cX2_unwrap 12 = .ok (.aload_n 0, 1) := by decide +kernel
theorem dX2_unwrap_13 : decode cX2_unwrap 13 = .ok (.getfield 24, 3) := by decide +kernel
theorem dX2_unwrap_16 : decode cX2_unwrap 16 = .ok (.istore_n 2, 1) := by decide +kernel
theorem dX2_unwrap_17 : decode cX2_unwrap 17 = .ok (.aload_n 0, 1) := by decide +kernel
theorem dX2_unwrap_18 : decode cX2_unwrap 18 = .ok (.dup, 1) := by decide +kernel
theorem dX2_unwrap_19 : decode cX2_unwrap 19 = .ok (.getfield 24, 3) := by decide +kernel
theorem dX2_unwrap_22 : decode cX2_unwrap 22 = .ok (.iconst 1, 1) := by decide +kernel
theorem dX2_unwrap_23 : decode cX2_unwrap 23 = .ok (.iadd, 1) := by decide +kernel
theorem dX2_unwrap_24 : decode cX2_unwrap 24 = .ok (.putfield 24, 3) := by decide +kernel
theorem dX2_unwrap_27 : decode cX2_unwrap 27 = .ok (.aload_n 0, 1) := by decide +kernel
theorem dX2_unwrap_28 : decode cX2_unwrap 28 = .ok (.iconst (-1), 1) := by decide +kernel
theorem dX2_unwrap_29 : decode cX2_unwrap 29 = .ok (.putfield 28, 3) := by decide +kernel
theorem dX2_unwrap_32 : decode cX2_unwrap 32 = .ok (.aload_n 0, 1) := by decide +kernel
theorem dX2_unwrap_33 : decode cX2_unwrap 33 = .ok (.iconst (-1), 1) := by decide +kernel
theorem dX2_unwrap_34 : decode cX2_unwrap 34 = .ok (.putfield 31, 3) := by decide +kernel
theorem dX2_unwrap_37 : decode cX2_unwrap 37 = .ok (.aload_n 0, 1) := by decide +kernel
theorem dX2_unwrap_38 : decode cX2_unwrap 38 = .ok (.iload_n 1, 1) := by decide +kernel
theorem dX2_unwrap_39 : decode cX2_unwrap 39 = .ok (.iload_n 2, 1) := by decide +kernel
theorem dX2_unwrap_40 : decode cX2_unwrap 40 = .ok (.invokevirtual 78, 3) := by decide +kernel
theorem dX2_unwrap_43 : decode cX2_unwrap 43 = .ok (.iload_n 2, 1) := by decide +kernel
theorem dX2_unwrap_44 : decode cX2_unwrap 44 = .ok (.ireturn, 1) := by decide +kernel
theorem dX2_rob_0 : decode cX2_rob 0 = .ok (.aload_n 0, 1) := by decide +kernel
theorem dX2_rob_1 : decode cX2_rob 1 = .ok (.getfield 18, 3) := by decide +kernel
theorem dX2_rob_4 : decode cX2_rob 4 = .ok (.iload_n 2, 1) := by decide +kernel
theorem dX2_rob_5 : decode cX2_rob 5 = .ok (.iaload, 1) := by decide +kernel
theorem dX2_rob_6 : decode cX2_rob 6 = .ok (.istore_n 3, 1) := by decide +kernel
theorem dX2_rob_7 : decode cX2_rob 7 = .ok (.iload_n 3, 1) := by decide +kernel
theorem dX2_rob_8 : decode cX2_rob 8 = .ok (.ifCond .ge 6, 3) := by decide +kernel
theorem dX2_rob_11 : decode cX2_rob 11 = .ok (.bipush (-2), 2) := by decide +kernel
theorem dX2_rob_13 : decode cX2_rob 13 = .ok (.ireturn, 1) := by decide +kernel
theorem dX2_rob_14 : decode cX2_rob 14 = .ok (.aload_n 0, 1) := by decide +kernel
theorem dX2_rob_15 : decode cX2_rob 15 = .ok (.getfield 15, 3) := by decide +kernel
theorem dX2_rob_18 : decode cX2_rob 18 = .ok (.iload_n 3, 1) := by decide +kernel
theorem dX2_rob_19 : decode cX2_rob 19 = .ok (.iconst (-1), 1) := by decide +kernel
theorem dX2_rob_20 : decode cX2_rob 20 = .ok (.iastore, 1) := by decide +kernel
theorem dX2_rob_21 : decode cX2_rob 21 = .ok (.aload_n 0, 1) := by decide +kernel
theorem dX2_rob_22 : decode cX2_rob 22 = .ok (.getfield 21, 3) := by decide +kernel
theorem dX2_rob_25 : decode cX2_rob 25 = .ok (.iload_n 2, 1) := by decide +kernel
theorem dX2_rob_26 : decode cX2_rob 26 = .ok (.dup2, 1) := by decide +kernel
theorem dX2_rob_27 : decode cX2_rob 27 = .ok (.iaload, 1) := by decide +kernel
theorem dX2_rob_28 : decode cX2_rob 28 = .ok (.iconst 1, 1) := by decide +kernel
theorem dX2_rob_29 : decode cX2_rob 29 = .ok (.iadd, 1) := by decide +kernel
theorem dX2_rob_30 : decode cX2_rob 30 = .ok (.iastore, 1) := by decide +kernel
theorem dX2_rob_31 : decode cX2_rob 31 = .ok (.aload_n 0, 1) := by decide +kernel
theorem dX2_rob_32 : decode cX2_rob 32 = .ok (.iload_n 3, 1) := by decide +kernel
theorem dX2_rob_33 : decode cX2_rob 33 = .ok (.putfield 28, 3) := by decide +kernel
theorem dX2_rob_36 : decode cX2_rob 36 = .ok (.aload_n 0, 1) := by decide +kernel
theorem dX2_rob_37 : decode cX2_rob 37 = .ok (.iload_n 2, 1) := by decide +kernel
theorem dX2_rob_38 : decode cX2_rob 38 = .ok (.putfield 31, 3) := by decide +kernel
theorem dX2_rob_41 : decode cX2_rob 41 = .ok (.aload_n 0, 1) := by decide +kernel
theorem dX2_rob_42 : decode cX2_rob 42 = .ok (.iload_n 1, 1) := by decide +kernel
theorem dX2_rob_43 : decode cX2_rob 43 = .ok (.iload_n 2, 1) := by decide +kernel
theorem dX2_rob_44 : decode cX2_rob 44 = .ok (.invokevirtual 78, 3) := by decide +kernel
theorem dX2_rob_47 : decode cX2_rob 47 = .ok (.iload_n 3, 1) := by decide +kernel
theorem dX2_rob_48 : decode cX2_rob 48 = .ok (.ireturn, 1) := by decide +kernel
theorem dX2_give_0 : decode cX2_give 0 = .ok (.aload_n 0, 1) := by decide +kernel
theorem dX2_give_1 : decode cX2_give 1 = .ok (.getfield 15, 3) := by decide +kernel
theorem dX2_give_4 : decode cX2_give 4 = .ok (.iload_n 1, 1) := by decide +kernel
theorem dX2_give_5 : decode cX2_give 5 = .ok (.iload_n 2, 1) := by decide +kernel
theorem dX2_give_6 : decode cX2_give 6 = .ok (.iastore, 1) := by decide +kernel
theorem dX2_give_7 : decode cX2_give 7 = .ok (.aload_n 0, 1) := by decide +kernel
theorem dX2_give_8 : decode cX2_give 8 = .ok (.getfield 18, 3) := by decide +kernel
theorem dX2_give_11 : decode cX2_give 11 = .ok (.iload_n 2, 1) := by decide +kernel
theorem dX2_give_12 : decode cX2_give 12 = .ok (.iload_n 1, 1) := by decide +kernel
theorem dX2_give_13 : decode cX2_give 13 = .ok (.iastore, 1) := by decide +kernel
theorem dX2_give_14 : decode cX2_give 14 = .ok (.aload_n 0, 1) := by decide +kernel
theorem dX2_give_15 : decode cX2_give 15 = .ok (.iload_n 1, 1) := by decide +kernel
theorem dX2_give_16 : decode cX2_give 16 = .ok (.putfield 38, 3) := by decide +kernel
theorem dX2_give_19 : decode cX2_give 19 = .ok (.aload_n 0, 1) := by decide +kernel
theorem dX2_give_20 : decode cX2_give 20 = .ok (.iload_n 2, 1) := by decide +kernel
theorem dX2_give_21 : decode cX2_give 21 = .ok (.putfield 41, 3) := by decide +kernel
theorem dX2_give_24 : decode cX2_give 24 = .ok (.aload_n 0, 1) := by decide +kernel
theorem dX2_give_25 : decode cX2_give 25 = .ok (.dup, 1) := by decide +kernel
theorem dX2_give_26 : decode cX2_give 26 = .ok (.getfield 44, 3) := by decide +kernel
theorem dX2_give_29 : decode cX2_give 29 = .ok (.iconst 1, 1) := by decide +kernel
theorem dX2_give_30 : decode cX2_give 30 = .ok (.iadd, 1) := by decide +kernel
theorem dX2_give_31 : decode cX2_give 31 = .ok (.putfield 44, 3) := by decide +kernel
theorem dX2_give_34 : decode cX2_give 34 = .ok (.return_, 1) := by decide +kernel
theorem dX2_playTill_0 : decode cX2_playTill 0 = .ok (.iconst 0, 1) := by decide +kernel
theorem dX2_playTill_1 : decode cX2_playTill 1 = .ok (.istore_n 3, 1) := by decide +kernel
theorem dX2_playTill_2 : decode cX2_playTill 2 = .ok (.aload_n 0, 1) := by decide +kernel
theorem dX2_playTill_3 : decode cX2_playTill 3 = .ok (.aload_n 2, 1) := by decide +kernel
theorem dX2_playTill_4 : decode cX2_playTill 4 = .ok (.invokevirtual 82, 3) := by decide +kernel
theorem dX2_playTill_7 : decode cX2_playTill 7 = .ok (.istore 4, 2) := by decide +kernel
theorem dX2_playTill_9 : decode cX2_playTill 9 = .ok (.iload_n 3, 1) := by decide +kernel
theorem dX2_playTill_10 : decode cX2_playTill 10 = .ok (.bipush 100, 2) := by decide +kernel
theorem dX2_playTill_12 : decode cX2_playTill 12 = .ok (.if_icmp .ge 104, 3) := by decide +kernel
theorem dX2_playTill_15 : decode cX2_playTill 15 = .ok (.iload 4, 2) := by decide +kernel
theorem dX2_playTill_17 : decode cX2_playTill 17 = .ok (.ifCond .lt 99, 3) := by decide +kernel
theorem dX2_playTill_20 : decode cX2_playTill 20 = .ok (.aload_n 0, 1) := by decide +kernel
theorem dX2_playTill_21 : decode cX2_playTill 21 = .ok (.getfield 24, 3) := by decide +kernel
theorem dX2_playTill_24 : decode cX2_playTill 24 = .ok (.iload_n 1, 1) := by decide +kernel
theorem dX2_playTill_25 : decode cX2_playTill 25 = .ok (.if_icmp .ge 91, 3) := by decide +kernel
theorem dX2_playTill_28 : decode cX2_playTill 28 = .ok (.aload_n 2, 1) := by decide +kernel
theorem dX2_playTill_29 : decode cX2_playTill 29 = .ok (.getfield 86, 3) := by decide +kernel
theorem dX2_playTill_32 : decode cX2_playTill 32 = .ok (.iload 4, 2) := by decide +kernel
theorem dX2_playTill_34 : decode cX2_playTill 34 = .ok (.iaload, 1) := by decide +kernel
theorem dX2_playTill_35 : decode cX2_playTill 35 = .ok (.istore 5, 2) := by decide +kernel
theorem dX2_playTill_37 : decode cX2_playTill 37 = .ok (.iload 5, 2) := by decide +kernel
theorem dX2_playTill_39 : decode cX2_playTill 39 = .ok (.iconst 2, 1) := by decide +kernel
theorem dX2_playTill_40 : decode cX2_playTill 40 = .ok (.if_icmp .ne 13, 3) := by decide +kernel
theorem dX2_playTill_43 : decode cX2_playTill 43 = .ok (.aload_n 0, 1) := by decide +kernel
theorem dX2_playTill_44 : decode cX2_playTill 44 = .ok (.iload 4, 2) := by decide +kernel
theorem dX2_playTill_46 : decode cX2_playTill 46 = .ok (.aload_n 2, 1) := by decide +kernel
theorem dX2_playTill_47 : decode cX2_playTill 47 = .ok (.invokevirtual 89, 3) := by decide +kernel
theorem dX2_playTill_50 : decode cX2_playTill 50 = .ok (.goto 26, 3) := by decide +kernel
theorem dX2_playTill_53 : decode cX2_playTill 53 = .ok (.iload 5, 2) := by decide +kernel
theorem dX2_playTill_55 : decode cX2_playTill 55 = .ok (.iconst 1, 1) := by decide +kernel
theorem dX2_playTill_56 : decode cX2_playTill 56 = .ok (.if_icmp .ne 13, 3) := by decide +kernel
theorem dX2_playTill_59 : decode cX2_playTill 59 = .ok (.aload_n 0, 1) := by decide +kernel
theorem dX2_playTill_60 : decode cX2_playTill 60 = .ok (.iload 4, 2) := by decide +kernel
theorem dX2_playTill_62 : decode cX2_playTill 62 = .ok (.aload_n 2, 1) := by decide +kernel
theorem dX2_playTill_63 : decode cX2_playTill 63 = .ok (.invokevirtual 93, 3) := by decide +kernel
theorem dX2_playTill_66 : decode cX2_playTill 66 = .ok (.goto 10, 3) := by decide +kernel
theorem dX2_playTill_69 : decode cX2_playTill 69 = .ok (.aload_n 0, 1) := by decide +kernel
theorem dX2_playTill_70 : decode cX2_playTill 70 = .ok (.iload 4, 2) := by decide +kernel
theorem dX2_playTill_72 : decode cX2_playTill 72 = .ok (.aload_n 2, 1) := by decide +kernel
theorem dX2_playTill_73 : decode cX2_playTill 73 = .ok (.invokevirtual 96, 3) := by decide +kernel
theorem dX2_playTill_76 : decode cX2_playTill 76 = .ok (.istore 6, 2) := by decide +kernel
theorem dX2_playTill_78 : decode cX2_playTill 78 = .ok (.iload 6, 2) := by decide +kernel
theorem dX2_playTill_80 : decode cX2_playTill 80 = .ok (.iconst (-1), 1) := by decide +kernel
theorem dX2_playTill_81 : decode cX2_playTill 81 = .ok (.if_icmp .ne 13, 3) := by decide +kernel
theorem dX2_playTill_84 : decode cX2_playTill 84 = .ok (.aload_n 0, 1) := by decide +kernel
theorem dX2_playTill_85 : decode cX2_playTill 85 = .ok (.iload 4, 2) := by decide +kernel
theorem dX2_playTill_87 : decode cX2_playTill 87 = .ok (.invokevirtual 99, 3) := by decide +kernel
theorem dX2_playTill_90 : decode cX2_playTill 90 = .ok (.pop, 1) := by decide +kernel
theorem dX2_playTill_91 : decode cX2_playTill 91 = .ok (.goto 12, 3) := by decide +kernel
theorem dX2_playTill_94 : decode cX2_playTill 94 = .ok (.aload_n 0, 1) := by decide +kernel
theorem dX2_playTill_95 : decode cX2_playTill 95 = .ok (.iload 4, 2) := by decide +kernel
theorem dX2_playTill_97 : decode cX2_playTill 97 = .ok (.iload 6, 2) := by decide +kernel
theorem dX2_playTill_99 : decode cX2_playTill 99 = .ok (.invokevirtual 103, 3) := by decide +kernel
theorem dX2_playTill_102 : decode cX2_playTill 102 = .ok (.pop, 1) := by decide +kernel
theorem dX2_playTill_103 : decode cX2_playTill 103 = .ok (.iinc 3 1, 3) := by decide +kernel
theorem dX2_playTill_106 : decode cX2_playTill 106 = .ok (.aload_n 0, 1) := by decide +kernel
theorem dX2_playTill_107 : decode cX2_playTill 107 = .ok (.aload_n 2, 1) := by decide +kernel
theorem dX2_playTill_108 : decode cX2_playTill 108 = .ok (.invokevirtual 82, 3) := by decide +kernel
theorem dX2_playTill_111 : decode cX2_playTill 111 = .ok (.istore 4, 2) := by decide +kernel
theorem dX2_playTill_113 : decode cX2_playTill 113 = .ok (.goto (-104), 3) := by decide +kernel
theorem dX2_playTill_116 : decode cX2_playTill 116 = .ok (.iload_n 3, 1) := by decide +kernel
theorem dX2_playTill_117 : decode cX2_playTill 117 = .ok (.ireturn, 1) := by decide +kernel
theorem dX2_guess_0 : decode cX2_guess 0 = .ok (.aload_n 2, 1) := by decide +kernel
theorem dX2_guess_1 : decode cX2_guess 1 = .ok (.getfield 57, 3) := by decide +kernel
theorem dX2_guess_4 : decode cX2_guess 4 = .ok (.aload_n 0, 1) := by decide +kernel
theorem dX2_guess_5 : decode cX2_guess 5 = .ok (.getfield 24, 3) := by decide +kernel
theorem dX2_guess_8 : decode cX2_guess 8 = .ok (.isub, 1) := by decide +kernel
theorem dX2_guess_9 : decode cX2_guess 9 = .ok (.istore_n 3, 1) := by decide +kernel
theorem dX2_guess_10 : decode cX2_guess 10 = .ok (.iconst 0, 1) := by decide +kernel
theorem dX2_guess_11 : decode cX2_guess 11 = .ok (.istore 4, 2) := by decide +kernel
theorem dX2_guess_13 : decode cX2_guess 13 = .ok (.aload_n 0, 1) := by decide +kernel
theorem dX2_guess_14 : decode cX2_guess 14 = .ok (.getfield 24, 3) := by decide +kernel
theorem dX2_guess_17 : decode cX2_guess 17 = .ok (.istore 5, 2) := by decide +kernel
theorem dX2_guess_19 : decode cX2_guess 19 = .ok (.iload 5, 2) := by decide +kernel
theorem dX2_guess_21 : decode cX2_guess 21 = .ok (.aload_n 2, 1) := by decide +kernel
theorem dX2_guess_22 : decode cX2_guess 22 = .ok (.getfield 57, 3) := by decide +kernel
theorem dX2_guess_25 : decode cX2_guess 25 = .ok (.if_icmp .ge 21, 3) := by decide +kernel
theorem dX2_guess_28 : decode cX2_guess 28 = .ok (.iload 4, 2) := by decide +kernel
theorem dX2_guess_30 : decode cX2_guess 30 = .ok (.aload_n 2, 1) := by decide +kernel
theorem dX2_guess_31 : decode cX2_guess 31 = .ok (.iload_n 1, 1) := by decide +kernel
theorem dX2_guess_32 : decode cX2_guess 32 = .ok (.iload 5, 2) := by decide +kernel
theorem dX2_guess_34 : decode cX2_guess 34 = .ok (.invokevirtual 107, 3) := by decide +kernel
theorem dX2_guess_37 : decode cX2_guess 37 = .ok (.iadd, 1) := by decide +kernel
theorem dX2_guess_38 : decode cX2_guess 38 = .ok (.istore 4, 2) := by decide +kernel
theorem dX2_guess_40 : decode cX2_guess 40 = .ok (.iinc 5 1, 3) := by decide +kernel
theorem dX2_guess_43 : decode cX2_guess 43 = .ok (.goto (-24), 3) := by decide +kernel
theorem dX2_guess_46 : decode cX2_guess 46 = .ok (.iload_n 3, 1) := by decide +kernel
theorem dX2_guess_47 : decode cX2_guess 47 = .ok (.ifCond .gt 7, 3) := by decide +kernel
theorem dX2_guess_50 : decode cX2_guess 50 = .ok (.iconst 0, 1) := by decide +kernel
theorem dX2_guess_51 : decode cX2_guess 51 = .ok (.goto 7, 3) := by decide +kernel
theorem dX2_guess_54 : decode cX2_guess 54 = .ok (.iload 4, 2) := by decide +kernel
theorem dX2_guess_56 : decode cX2_guess 56 = .ok (.iload_n 3, 1) := by decide +kernel
theorem dX2_guess_57 : decode cX2_guess 57 = .ok (.idiv, 1) := by decide +kernel
theorem dX2_guess_58 : decode cX2_guess 58 = .ok (.ireturn, 1) := by decide +kernel
theorem dX2_ofMostWorth_0 : decode cX2_ofMostWorth 0 = .ok (.aload_n 0, 1) := by decide +kernel
theorem dX2_ofMostWorth_1 : decode cX2_ofMostWorth 1 = .ok (.iload_n 1, 1) := by decide +kernel
theorem dX2_ofMostWorth_2 : decode cX2_ofMostWorth 2 = .ok (.aload_n 2, 1) := by decide +kernel
theorem dX2_ofMostWorth_3 : decode cX2_ofMostWorth 3 = .ok (.invokevirtual 110, 3) := by decide +kernel
theorem dX2_ofMostWorth_6 : decode cX2_ofMostWorth 6 = .ok (.istore_n 3, 1) := by decide +kernel
theorem dX2_ofMostWorth_7 : decode cX2_ofMostWorth 7 = .ok (.iconst (-1), 1) := by decide +kernel
theorem dX2_ofMostWorth_8 : decode cX2_ofMostWorth 8 = .ok (.istore 4, 2) := by decide +kernel
theorem dX2_ofMostWorth_10 : decode cX2_ofMostWorth 10 = .ok (.iconst 0, 1) := by decide +kernel
theorem dX2_ofMostWorth_11 : decode cX2_ofMostWorth 11 = .ok (.istore 5, 2) := by decide +kernel
theorem dX2_ofMostWorth_13 : decode cX2_ofMostWorth 13 = .ok (.iload 5, 2) := by decide +kernel
theorem dX2_ofMostWorth_15 : decode cX2_ofMostWorth 15 = .ok (.aload_n 0, 1) := by decide +kernel
theorem dX2_ofMostWorth_16 : decode cX2_ofMostWorth 16 = .ok (.getfield 24, 3) := by decide +kernel
theorem dX2_ofMostWorth_19 : decode cX2_ofMostWorth 19 = .ok (.if_icmp .ge 42, 3) := by decide +kernel
theorem dX2_ofMostWorth_22 : decode cX2_ofMostWorth 22 = .ok (.aload_n 0, 1) := by decide +kernel
theorem dX2_ofMostWorth_23 : decode cX2_ofMostWorth 23 = .ok (.iload 5, 2) := by decide +kernel
theorem dX2_ofMostWorth_25 : decode cX2_ofMostWorth 25 = .ok (.aload_n 2, 1) := by decide +kernel
theorem dX2_ofMostWorth_26 : decode cX2_ofMostWorth 26 = .ok (.invokevirtual 113, 3) := by decide +kernel
theorem dX2_ofMostWorth_29 : decode cX2_ofMostWorth 29 = .ok (.ifCond .eq 26, 3) := by decide +kernel
theorem dX2_ofMostWorth_32 : decode cX2_ofMostWorth 32 = .ok (.aload_n 2, 1) := by decide +kernel
theorem dX2_ofMostWorth_33 : decode cX2_ofMostWorth 33 = .ok (.iload_n 1, 1) := by decide +kernel
theorem dX2_ofMostWorth_34 : decode cX2_ofMostWorth 34 = .ok (.iload 5, 2) := by decide +kernel
theorem dX2_ofMostWorth_36 : decode cX2_ofMostWorth 36 = .ok (.invokevirtual 107, 3) := by decide +kernel
theorem dX2_ofMostWorth_39 : decode cX2_ofMostWorth 39 = .ok (.iload_n 3, 1) := by decide +kernel
theorem dX2_ofMostWorth_40 : decode cX2_ofMostWorth 40 = .ok (.if_icmp .le 15, 3) := by decide +kernel
theorem dX2_ofMostWorth_43 : decode cX2_ofMostWorth 43 = .ok (.aload_n 2, 1) := by decide +kernel
theorem dX2_ofMostWorth_44 : decode cX2_ofMostWorth 44 = .ok (.iload_n 1, 1) := by decide +kernel
theorem dX2_ofMostWorth_45 : decode cX2_ofMostWorth 45 = .ok (.iload 5, 2) := by decide +kernel
theorem dX2_ofMostWorth_47 : decode cX2_ofMostWorth 47 = .ok (.invokevirtual 107, 3) := by decide +kernel
theorem dX2_ofMostWorth_50 : decode cX2_ofMostWorth 50 = .ok (.istore_n 3, 1) := by decide +kernel
theorem dX2_ofMostWorth_51 : decode cX2_ofMostWorth 51 = .ok (.iload 5, 2) := by decide +kernel
theorem dX2_ofMostWorth_53 : decode cX2_ofMostWorth 53 = .ok (.istore 4, 2) := by decide +kernel
theorem dX2_ofMostWorth_55 : decode cX2_ofMostWorth 55 = .ok (.iinc 5 1, 3) := by decide +kernel
theorem dX2_ofMostWorth_58 : decode cX2_ofMostWorth 58 = .ok (.goto (-45), 3) := by decide +kernel
theorem dX2_ofMostWorth_61 : decode cX2_ofMostWorth 61 = .ok (.iload 4, 2) := by decide +kernel
theorem dX2_ofMostWorth_63 : decode cX2_ofMostWorth 63 = .ok (.ireturn, 1) := by decide +kernel
theorem dX2_fromWhomItLikesLeast_0 : decode cX2_fromWhomItLikesLeast 0 = .ok (.aload_n 0, 1) := by decide +kernel
theorem dX2_fromWhomItLikesLeast_1 : decode cX2_fromWhomItLikesLeast 1 = .ok (.iload_n 1, 1) := by decide +kernel
theorem dX2_fromWhomItLikesLeast_2 : decode cX2_fromWhomItLikesLeast 2 = .ok (.aload_n 2, 1) := by decide +kernel
theorem dX2_fromWhomItLikesLeast_3 : decode cX2_fromWhomItLikesLeast 3 = .ok (.invokevirtual 110, 3) := by decide +kernel
theorem dX2_fromWhomItLikesLeast_6 : decode cX2_fromWhomItLikesLeast 6 = .ok (.istore_n 3, 1) := by decide +kernel
theorem dX2_fromWhomItLikesLeast_7 : decode cX2_fromWhomItLikesLeast 7 = .ok (.bipush 10, 2) := by decide +kernel
theorem dX2_fromWhomItLikesLeast_9 : decode cX2_fromWhomItLikesLeast 9 = .ok (.istore 4, 2) := by decide +kernel
theorem dX2_fromWhomItLikesLeast_11 : decode cX2_fromWhomItLikesLeast 11 = .ok (.iconst (-1), 1) := by decide +kernel
theorem dX2_fromWhomItLikesLeast_12 : decode cX2_fromWhomItLikesLeast 12 = .ok (.istore 5, 2) := by decide +kernel
theorem dX2_fromWhomItLikesLeast_14 : decode cX2_fromWhomItLikesLeast 14 = .ok (.iconst 0, 1) := by decide +kernel
theorem dX2_fromWhomItLikesLeast_15 : decode cX2_fromWhomItLikesLeast 15 = .ok (.istore 6, 2) := by decide +kernel
theorem dX2_fromWhomItLikesLeast_17 : decode cX2_fromWhomItLikesLeast 17 = .ok (.iload 6, 2) := by decide +kernel
theorem dX2_fromWhomItLikesLeast_19 : decode cX2_fromWhomItLikesLeast 19 = .ok (.aload_n 0, 1) := by decide +kernel
theorem dX2_fromWhomItLikesLeast_20 : decode cX2_fromWhomItLikesLeast 20 = .ok (.getfield 24, 3) := by decide +kernel
theorem dX2_fromWhomItLikesLeast_23 : decode cX2_fromWhomItLikesLeast 23 = .ok (.if_icmp .ge 59, 3) := by decide +kernel
theorem dX2_fromWhomItLikesLeast_26 : decode cX2_fromWhomItLikesLeast 26 = .ok (.aload_n 2, 1) := by decide +kernel
theorem dX2_fromWhomItLikesLeast_27 : decode cX2_fromWhomItLikesLeast 27 = .ok (.iload_n 1, 1) := by decide +kernel
theorem dX2_fromWhomItLikesLeast_28 : decode cX2_fromWhomItLikesLeast 28 = .ok (.aload_n 0, 1) := by decide +kernel
theorem dX2_fromWhomItLikesLeast_29 : decode cX2_fromWhomItLikesLeast 29 = .ok (.getfield 18, 3) := by decide +kernel
theorem dX2_fromWhomItLikesLeast_32 : decode cX2_fromWhomItLikesLeast 32 = .ok (.iload 6, 2) := by decide +kernel
theorem dX2_fromWhomItLikesLeast_34 : decode cX2_fromWhomItLikesLeast 34 = .ok (.iaload, 1) := by decide +kernel
theorem dX2_fromWhomItLikesLeast_35 : decode cX2_fromWhomItLikesLeast 35 = .ok (.invokevirtual 116, 3) := by decide +kernel
theorem dX2_fromWhomItLikesLeast_38 : decode cX2_fromWhomItLikesLeast 38 = .ok (.istore 7, 2) := by decide +kernel
theorem dX2_fromWhomItLikesLeast_40 : decode cX2_fromWhomItLikesLeast 40 = .ok (.aload_n 0, 1) := by decide +kernel
theorem dX2_fromWhomItLikesLeast_41 : decode cX2_fromWhomItLikesLeast 41 = .ok (.iload 6, 2) := by decide +kernel
theorem dX2_fromWhomItLikesLeast_43 : decode cX2_fromWhomItLikesLeast 43 = .ok (.aload_n 2, 1) := by decide +kernel
theorem dX2_fromWhomItLikesLeast_44 : decode cX2_fromWhomItLikesLeast 44 = .ok (.invokevirtual 113, 3) := by decide +kernel
theorem dX2_fromWhomItLikesLeast_47 : decode cX2_fromWhomItLikesLeast 47 = .ok (.ifCond .eq 29, 3) := by decide +kernel
theorem dX2_fromWhomItLikesLeast_50 : decode cX2_fromWhomItLikesLeast 50 = .ok (.aload_n 2, 1) := by decide +kernel
theorem dX2_fromWhomItLikesLeast_51 : decode cX2_fromWhomItLikesLeast 51 = .ok (.iload_n 1, 1) := by decide +kernel
theorem dX2_fromWhomItLikesLeast_52 : decode cX2_fromWhomItLikesLeast 52 = .ok (.iload 6, 2) := by decide +kernel
theorem dX2_fromWhomItLikesLeast_54 : decode cX2_fromWhomItLikesLeast 54 = .ok (.invokevirtual 107, 3) := by decide +kernel
theorem dX2_fromWhomItLikesLeast_57 : decode cX2_fromWhomItLikesLeast 57 = .ok (.iload_n 3, 1) := by decide +kernel
theorem dX2_fromWhomItLikesLeast_58 : decode cX2_fromWhomItLikesLeast 58 = .ok (.if_icmp .le 18, 3) := by decide +kernel
theorem dX2_fromWhomItLikesLeast_61 : decode cX2_fromWhomItLikesLeast 61 = .ok (.iload 7, 2) := by decide +kernel
theorem dX2_fromWhomItLikesLeast_63 : decode cX2_fromWhomItLikesLeast 63 = .ok (.iload 4, 2) := by decide +kernel
theorem dX2_fromWhomItLikesLeast_65 : decode cX2_fromWhomItLikesLeast 65 = .ok (.if_icmp .ge 11, 3) := by decide +kernel
theorem dX2_fromWhomItLikesLeast_68 : decode cX2_fromWhomItLikesLeast 68 = .ok (.iload 7, 2) := by decide +kernel
theorem dX2_fromWhomItLikesLeast_70 : decode cX2_fromWhomItLikesLeast 70 = .ok (.istore 4, 2) := by decide +kernel
theorem dX2_fromWhomItLikesLeast_72 : decode cX2_fromWhomItLikesLeast 72 = .ok (.iload 6, 2) := by decide +kernel
theorem dX2_fromWhomItLikesLeast_74 : decode cX2_fromWhomItLikesLeast 74 = .ok (.istore 5, 2) := by decide +kernel
theorem dX2_fromWhomItLikesLeast_76 : decode cX2_fromWhomItLikesLeast 76 = .ok (.iinc 6 1, 3) := by decide +kernel
theorem dX2_fromWhomItLikesLeast_79 : decode cX2_fromWhomItLikesLeast 79 = .ok (.goto (-62), 3) := by decide +kernel
theorem dX2_fromWhomItLikesLeast_82 : decode cX2_fromWhomItLikesLeast 82 = .ok (.iload 5, 2) := by decide +kernel
theorem dX2_fromWhomItLikesLeast_84 : decode cX2_fromWhomItLikesLeast 84 = .ok (.ireturn, 1) := by decide +kernel
theorem dX2_byTheLaw_0 : decode cX2_byTheLaw 0 = .ok (.aload_n 2, 1) := by decide +kernel
theorem dX2_byTheLaw_1 : decode cX2_byTheLaw 1 = .ok (.getfield 57, 3) := by decide +kernel
theorem dX2_byTheLaw_4 : decode cX2_byTheLaw 4 = .ok (.aload_n 0, 1) := by decide +kernel
theorem dX2_byTheLaw_5 : decode cX2_byTheLaw 5 = .ok (.getfield 24, 3) := by decide +kernel
theorem dX2_byTheLaw_8 : decode cX2_byTheLaw 8 = .ok (.isub, 1) := by decide +kernel
theorem dX2_byTheLaw_9 : decode cX2_byTheLaw 9 = .ok (.istore_n 3, 1) := by decide +kernel
theorem dX2_byTheLaw_10 : decode cX2_byTheLaw 10 = .ok (.aload_n 2, 1) := by decide +kernel
theorem dX2_byTheLaw_11 : decode cX2_byTheLaw 11 = .ok (.getfield 119, 3) := by decide +kernel
theorem dX2_byTheLaw_14 : decode cX2_byTheLaw 14 = .ok (.aload_n 0, 1) := by decide +kernel
theorem dX2_byTheLaw_15 : decode cX2_byTheLaw 15 = .ok (.iload_n 1, 1) := by decide +kernel
theorem dX2_byTheLaw_16 : decode cX2_byTheLaw 16 = .ok (.aload_n 2, 1) := by decide +kernel
theorem dX2_byTheLaw_17 : decode cX2_byTheLaw 17 = .ok (.invokevirtual 110, 3) := by decide +kernel
theorem dX2_byTheLaw_20 : decode cX2_byTheLaw 20 = .ok (.iconst 0, 1) := by decide +kernel
theorem dX2_byTheLaw_21 : decode cX2_byTheLaw 21 = .ok (.iconst 0, 1) := by decide +kernel
theorem dX2_byTheLaw_22 : decode cX2_byTheLaw 22 = .ok (.iconst 0, 1) := by decide +kernel
theorem dX2_byTheLaw_23 : decode cX2_byTheLaw 23 = .ok (.iconst 1, 1) := by decide +kernel
theorem dX2_byTheLaw_24 : decode cX2_byTheLaw 24 = .ok (.iload_n 3, 1) := by decide +kernel
theorem dX2_byTheLaw_25 : decode cX2_byTheLaw 25 = .ok (.invokevirtual 123, 3) := by decide +kernel
theorem dX2_byTheLaw_28 : decode cX2_byTheLaw 28 = .ok (.istore 4, 2) := by decide +kernel
theorem dX2_byTheLaw_30 : decode cX2_byTheLaw 30 = .ok (.iconst (-1), 1) := by decide +kernel
theorem dX2_byTheLaw_31 : decode cX2_byTheLaw 31 = .ok (.istore 5, 2) := by decide +kernel
theorem dX2_byTheLaw_33 : decode cX2_byTheLaw 33 = .ok (.iconst 0, 1) := by decide +kernel
theorem dX2_byTheLaw_34 : decode cX2_byTheLaw 34 = .ok (.istore 6, 2) := by decide +kernel
theorem dX2_byTheLaw_36 : decode cX2_byTheLaw 36 = .ok (.iload 6, 2) := by decide +kernel
theorem dX2_byTheLaw_38 : decode cX2_byTheLaw 38 = .ok (.aload_n 0, 1) := by decide +kernel
theorem dX2_byTheLaw_39 : decode cX2_byTheLaw 39 = .ok (.getfield 24, 3) := by decide +kernel
theorem dX2_byTheLaw_42 : decode cX2_byTheLaw 42 = .ok (.if_icmp .ge 83, 3) := by decide +kernel
theorem dX2_byTheLaw_45 : decode cX2_byTheLaw 45 = .ok (.aload_n 0, 1) := by decide +kernel
theorem dX2_byTheLaw_46 : decode cX2_byTheLaw 46 = .ok (.iload 6, 2) := by decide +kernel
theorem dX2_byTheLaw_48 : decode cX2_byTheLaw 48 = .ok (.aload_n 2, 1) := by decide +kernel
theorem dX2_byTheLaw_49 : decode cX2_byTheLaw 49 = .ok (.invokevirtual 113, 3) := by decide +kernel
theorem dX2_byTheLaw_52 : decode cX2_byTheLaw 52 = .ok (.ifCond .eq 67, 3) := by decide +kernel
theorem dX2_byTheLaw_55 : decode cX2_byTheLaw 55 = .ok (.aload_n 0, 1) := by decide +kernel
theorem dX2_byTheLaw_56 : decode cX2_byTheLaw 56 = .ok (.getfield 18, 3) := by decide +kernel
theorem dX2_byTheLaw_59 : decode cX2_byTheLaw 59 = .ok (.iload 6, 2) := by decide +kernel
theorem dX2_byTheLaw_61 : decode cX2_byTheLaw 61 = .ok (.iaload, 1) := by decide +kernel
theorem dX2_byTheLaw_62 : decode cX2_byTheLaw 62 = .ok (.istore 7, 2) := by decide +kernel
theorem dX2_byTheLaw_64 : decode cX2_byTheLaw 64 = .ok (.aload_n 2, 1) := by decide +kernel
theorem dX2_byTheLaw_65 : decode cX2_byTheLaw 65 = .ok (.getfield 119, 3) := by decide +kernel
theorem dX2_byTheLaw_68 : decode cX2_byTheLaw 68 = .ok (.aload_n 2, 1) := by decide +kernel
theorem dX2_byTheLaw_69 : decode cX2_byTheLaw 69 = .ok (.iload_n 1, 1) := by decide +kernel
theorem dX2_byTheLaw_70 : decode cX2_byTheLaw 70 = .ok (.iload 6, 2) := by decide +kernel
theorem dX2_byTheLaw_72 : decode cX2_byTheLaw 72 = .ok (.invokevirtual 107, 3) := by decide +kernel
theorem dX2_byTheLaw_75 : decode cX2_byTheLaw 75 = .ok (.aload_n 2, 1) := by decide +kernel
theorem dX2_byTheLaw_76 : decode cX2_byTheLaw 76 = .ok (.iload 7, 2) := by decide +kernel
theorem dX2_byTheLaw_78 : decode cX2_byTheLaw 78 = .ok (.iload 6, 2) := by decide +kernel
theorem dX2_byTheLaw_80 : decode cX2_byTheLaw 80 = .ok (.invokevirtual 107, 3) := by decide +kernel
theorem dX2_byTheLaw_83 : decode cX2_byTheLaw 83 = .ok (.aload_n 0, 1) := by decide +kernel
theorem dX2_byTheLaw_84 : decode cX2_byTheLaw 84 = .ok (.getfield 21, 3) := by decide +kernel
theorem dX2_byTheLaw_87 : decode cX2_byTheLaw 87 = .ok (.iload 6, 2) := by decide +kernel
theorem dX2_byTheLaw_89 : decode cX2_byTheLaw 89 = .ok (.iaload, 1) := by decide +kernel
theorem dX2_byTheLaw_90 : decode cX2_byTheLaw 90 = .ok (.aload_n 2, 1) := by decide +kernel
theorem dX2_byTheLaw_91 : decode cX2_byTheLaw 91 = .ok (.iload_n 1, 1) := by decide +kernel
theorem dX2_byTheLaw_92 : decode cX2_byTheLaw 92 = .ok (.iload 7, 2) := by decide +kernel
theorem dX2_byTheLaw_94 : decode cX2_byTheLaw 94 = .ok (.invokevirtual 116, 3) := by decide +kernel
theorem dX2_byTheLaw_97 : decode cX2_byTheLaw 97 = .ok (.iconst 0, 1) := by decide +kernel
theorem dX2_byTheLaw_98 : decode cX2_byTheLaw 98 = .ok (.iload_n 3, 1) := by decide +kernel
theorem dX2_byTheLaw_99 : decode cX2_byTheLaw 99 = .ok (.invokevirtual 123, 3) := by decide +kernel
theorem dX2_byTheLaw_102 : decode cX2_byTheLaw 102 = .ok (.istore 8, 2) := by decide +kernel
theorem dX2_byTheLaw_104 : decode cX2_byTheLaw 104 = .ok (.iload 8, 2) := by decide +kernel
theorem dX2_byTheLaw_106 : decode cX2_byTheLaw 106 = .ok (.iload 4, 2) := by decide +kernel
theorem dX2_byTheLaw_108 : decode cX2_byTheLaw 108 = .ok (.if_icmp .le 11, 3) := by decide +kernel
theorem dX2_byTheLaw_111 : decode cX2_byTheLaw 111 = .ok (.iload 8, 2) := by decide +kernel
theorem dX2_byTheLaw_113 : decode cX2_byTheLaw 113 = .ok (.istore 4, 2) := by decide +kernel
theorem dX2_byTheLaw_115 : decode cX2_byTheLaw 115 = .ok (.iload 6, 2) := by decide +kernel
theorem dX2_byTheLaw_117 : decode cX2_byTheLaw 117 = .ok (.istore 5, 2) := by decide +kernel
theorem dX2_byTheLaw_119 : decode cX2_byTheLaw 119 = .ok (.iinc 6 1, 3) := by decide +kernel
theorem dX2_byTheLaw_122 : decode cX2_byTheLaw 122 = .ok (.goto (-86), 3) := by decide +kernel
theorem dX2_byTheLaw_125 : decode cX2_byTheLaw 125 = .ok (.iload 5, 2) := by decide +kernel
theorem dX2_byTheLaw_127 : decode cX2_byTheLaw 127 = .ok (.ireturn, 1) := by decide +kernel
theorem dX2_closeByLaw_0 : decode cX2_closeByLaw 0 = .ok (.aload_n 1, 1) := by decide +kernel
theorem dX2_closeByLaw_1 : decode cX2_closeByLaw 1 = .ok (.getfield 129, 3) := by decide +kernel
theorem dX2_closeByLaw_4 : decode cX2_closeByLaw 4 = .ok (.iconst 1, 1) := by decide +kernel
theorem dX2_closeByLaw_5 : decode cX2_closeByLaw 5 = .ok (.if_icmp .ne 16, 3) := by decide +kernel
theorem dX2_closeByLaw_8 : decode cX2_closeByLaw 8 = .ok (.aload_n 0, 1) := by decide +kernel
theorem dX2_closeByLaw_9 : decode cX2_closeByLaw 9 = .ok (.aload_n 1, 1) := by decide +kernel
theorem dX2_closeByLaw_10 : decode cX2_closeByLaw 10 = .ok (.invokevirtual 132, 3) := by decide +kernel
theorem dX2_closeByLaw_13 : decode cX2_closeByLaw 13 = .ok (.ifCond .eq 8, 3) := by decide +kernel
theorem dX2_closeByLaw_16 : decode cX2_closeByLaw 16 = .ok (.aload_n 0, 1) := by decide +kernel
theorem dX2_closeByLaw_17 : decode cX2_closeByLaw 17 = .ok (.aload_n 1, 1) := by decide +kernel
theorem dX2_closeByLaw_18 : decode cX2_closeByLaw 18 = .ok (.invokevirtual 136, 3) := by decide +kernel
theorem dX2_closeByLaw_21 : decode cX2_closeByLaw 21 = .ok (.return_, 1) := by decide +kernel
theorem dX2_chooseOnceMore_0 : decode cX2_chooseOnceMore 0 = .ok (.aload_n 0, 1) := by decide +kernel
theorem dX2_chooseOnceMore_1 : decode cX2_chooseOnceMore 1 = .ok (.iconst 1, 1) := by decide +kernel
theorem dX2_chooseOnceMore_2 : decode cX2_chooseOnceMore 2 = .ok (.putfield 34, 3) := by decide +kernel
theorem dX2_chooseOnceMore_5 : decode cX2_chooseOnceMore 5 = .ok (.aload_n 0, 1) := by decide +kernel
theorem dX2_chooseOnceMore_6 : decode cX2_chooseOnceMore 6 = .ok (.getfield 9, 3) := by decide +kernel
theorem dX2_chooseOnceMore_9 : decode cX2_chooseOnceMore 9 = .ok (.iconst 0, 1) := by decide +kernel
theorem dX2_chooseOnceMore_10 : decode cX2_chooseOnceMore 10 = .ok (.iaload, 1) := by decide +kernel
theorem dX2_chooseOnceMore_11 : decode cX2_chooseOnceMore 11 = .ok (.istore_n 2, 1) := by decide +kernel
theorem dX2_chooseOnceMore_12 : decode cX2_chooseOnceMore 12 = .ok (.aload_n 0, 1) := by decide +kernel
theorem dX2_chooseOnceMore_13 : decode cX2_chooseOnceMore 13 = .ok (.getfield 15, 3) := by decide +kernel
theorem dX2_chooseOnceMore_16 : decode cX2_chooseOnceMore 16 = .ok (.iload_n 2, 1) := by decide +kernel
theorem dX2_chooseOnceMore_17 : decode cX2_chooseOnceMore 17 = .ok (.iaload, 1) := by decide +kernel
theorem dX2_chooseOnceMore_18 : decode cX2_chooseOnceMore 18 = .ok (.istore_n 3, 1) := by decide +kernel
theorem dX2_chooseOnceMore_19 : decode cX2_chooseOnceMore 19 = .ok (.aload_n 1, 1) := by decide +kernel
theorem dX2_chooseOnceMore_20 : decode cX2_chooseOnceMore 20 = .ok (.iload_n 2, 1) := by decide +kernel
theorem dX2_chooseOnceMore_21 : decode cX2_chooseOnceMore 21 = .ok (.iload_n 3, 1) := by decide +kernel
theorem dX2_chooseOnceMore_22 : decode cX2_chooseOnceMore 22 = .ok (.invokevirtual 107, 3) := by decide +kernel
theorem dX2_chooseOnceMore_25 : decode cX2_chooseOnceMore 25 = .ok (.istore 4, 2) := by decide +kernel
theorem dX2_chooseOnceMore_27 : decode cX2_chooseOnceMore 27 = .ok (.iconst (-1), 1) := by decide +kernel
theorem dX2_chooseOnceMore_28 : decode cX2_chooseOnceMore 28 = .ok (.istore 5, 2) := by decide +kernel
theorem dX2_chooseOnceMore_30 : decode cX2_chooseOnceMore 30 = .ok (.iconst 0, 1) := by decide +kernel
theorem dX2_chooseOnceMore_31 : decode cX2_chooseOnceMore 31 = .ok (.istore 6, 2) := by decide +kernel
theorem dX2_chooseOnceMore_33 : decode cX2_chooseOnceMore 33 = .ok (.iload 6, 2) := by decide +kernel
theorem dX2_chooseOnceMore_35 : decode cX2_chooseOnceMore 35 = .ok (.aload_n 0, 1) := by decide +kernel
theorem dX2_chooseOnceMore_36 : decode cX2_chooseOnceMore 36 = .ok (.getfield 24, 3) := by decide +kernel
theorem dX2_chooseOnceMore_39 : decode cX2_chooseOnceMore 39 = .ok (.if_icmp .ge 44, 3) := by decide +kernel
theorem dX2_chooseOnceMore_42 : decode cX2_chooseOnceMore 42 = .ok (.aload_n 0, 1) := by decide +kernel
theorem dX2_chooseOnceMore_43 : decode cX2_chooseOnceMore 43 = .ok (.iload 6, 2) := by decide +kernel
theorem dX2_chooseOnceMore_45 : decode cX2_chooseOnceMore 45 = .ok (.aload_n 1, 1) := by decide +kernel
theorem dX2_chooseOnceMore_46 : decode cX2_chooseOnceMore 46 = .ok (.invokevirtual 74, 3) := by decide +kernel
theorem dX2_chooseOnceMore_49 : decode cX2_chooseOnceMore 49 = .ok (.ifCond .ne 28, 3) := by decide +kernel
theorem dX2_chooseOnceMore_52 : decode cX2_chooseOnceMore 52 = .ok (.aload_n 1, 1) := by decide +kernel
theorem dX2_chooseOnceMore_53 : decode cX2_chooseOnceMore 53 = .ok (.iload_n 2, 1) := by decide +kernel
theorem dX2_chooseOnceMore_54 : decode cX2_chooseOnceMore 54 = .ok (.iload 6, 2) := by decide +kernel
theorem dX2_chooseOnceMore_56 : decode cX2_chooseOnceMore 56 = .ok (.invokevirtual 107, 3) := by decide +kernel
theorem dX2_chooseOnceMore_59 : decode cX2_chooseOnceMore 59 = .ok (.iload 4, 2) := by decide +kernel
theorem dX2_chooseOnceMore_61 : decode cX2_chooseOnceMore 61 = .ok (.if_icmp .le 16, 3) := by decide +kernel
theorem dX2_chooseOnceMore_64 : decode cX2_chooseOnceMore 64 = .ok (.aload_n 1, 1) := by decide +kernel
theorem dX2_chooseOnceMore_65 : decode cX2_chooseOnceMore 65 = .ok (.iload_n 2, 1) := by decide +kernel
theorem dX2_chooseOnceMore_66 : decode cX2_chooseOnceMore 66 = .ok (.iload 6, 2) := by decide +kernel
theorem dX2_chooseOnceMore_68 : decode cX2_chooseOnceMore 68 = .ok (.invokevirtual 107, 3) := by decide +kernel
theorem dX2_chooseOnceMore_71 : decode cX2_chooseOnceMore 71 = .ok (.istore 4, 2) := by decide +kernel
theorem dX2_chooseOnceMore_73 : decode cX2_chooseOnceMore 73 = .ok (.iload 6, 2) := by decide +kernel
theorem dX2_chooseOnceMore_75 : decode cX2_chooseOnceMore 75 = .ok (.istore 5, 2) := by decide +kernel
theorem dX2_chooseOnceMore_77 : decode cX2_chooseOnceMore 77 = .ok (.iinc 6 1, 3) := by decide +kernel
theorem dX2_chooseOnceMore_80 : decode cX2_chooseOnceMore 80 = .ok (.goto (-47), 3) := by decide +kernel
theorem dX2_chooseOnceMore_83 : decode cX2_chooseOnceMore 83 = .ok (.iload 5, 2) := by decide +kernel
theorem dX2_chooseOnceMore_85 : decode cX2_chooseOnceMore 85 = .ok (.iconst (-1), 1) := by decide +kernel
theorem dX2_chooseOnceMore_86 : decode cX2_chooseOnceMore 86 = .ok (.if_icmp .eq 15, 3) := by decide +kernel
theorem dX2_chooseOnceMore_89 : decode cX2_chooseOnceMore 89 = .ok (.iload_n 3, 1) := by decide +kernel
theorem dX2_chooseOnceMore_90 : decode cX2_chooseOnceMore 90 = .ok (.ifCond .lt 11, 3) := by decide +kernel
theorem dX2_chooseOnceMore_93 : decode cX2_chooseOnceMore 93 = .ok (.aload_n 0, 1) := by decide +kernel
theorem dX2_chooseOnceMore_94 : decode cX2_chooseOnceMore 94 = .ok (.iload_n 2, 1) := by decide +kernel
theorem dX2_chooseOnceMore_95 : decode cX2_chooseOnceMore 95 = .ok (.iload_n 3, 1) := by decide +kernel
theorem dX2_chooseOnceMore_96 : decode cX2_chooseOnceMore 96 = .ok (.iload 5, 2) := by decide +kernel
theorem dX2_chooseOnceMore_98 : decode cX2_chooseOnceMore 98 = .ok (.invokevirtual 140, 3) := by decide +kernel
theorem dX2_chooseOnceMore_101 : decode cX2_chooseOnceMore 101 = .ok (.return_, 1) := by decide +kernel
theorem dX2_exchange_0 : decode cX2_exchange 0 = .ok (.aload_n 0, 1) := by decide +kernel
theorem dX2_exchange_1 : decode cX2_exchange 1 = .ok (.getfield 18, 3) := by decide +kernel
theorem dX2_exchange_4 : decode cX2_exchange 4 = .ok (.iload_n 3, 1) := by decide +kernel
theorem dX2_exchange_5 : decode cX2_exchange 5 = .ok (.iaload, 1) := by decide +kernel
theorem dX2_exchange_6 : decode cX2_exchange 6 = .ok (.istore 4, 2) := by decide +kernel
theorem dX2_exchange_8 : decode cX2_exchange 8 = .ok (.iload 4, 2) := by decide +kernel
theorem dX2_exchange_10 : decode cX2_exchange 10 = .ok (.ifCond .lt 35, 3) := by decide +kernel
theorem dX2_exchange_13 : decode cX2_exchange 13 = .ok (.aload_n 0, 1) := by decide +kernel
theorem dX2_exchange_14 : decode cX2_exchange 14 = .ok (.getfield 15, 3) := by decide +kernel
theorem dX2_exchange_17 : decode cX2_exchange 17 = .ok (.iload 4, 2) := by decide +kernel
theorem dX2_exchange_19 : decode cX2_exchange 19 = .ok (.iload_n 2, 1) := by decide +kernel
theorem dX2_exchange_20 : decode cX2_exchange 20 = .ok (.iastore, 1) := by decide +kernel
theorem dX2_exchange_21 : decode cX2_exchange 21 = .ok (.aload_n 0, 1) := by decide +kernel
theorem dX2_exchange_22 : decode cX2_exchange 22 = .ok (.getfield 18, 3) := by decide +kernel
theorem dX2_exchange_25 : decode cX2_exchange 25 = .ok (.iload_n 2, 1) := by decide +kernel
theorem dX2_exchange_26 : decode cX2_exchange 26 = .ok (.iload 4, 2) := by decide +kernel
theorem dX2_exchange_28 : decode cX2_exchange 28 = .ok (.iastore, 1) := by decide +kernel
theorem dX2_exchange_29 : decode cX2_exchange 29 = .ok (.aload_n 0, 1) := by decide +kernel
theorem dX2_exchange_30 : decode cX2_exchange 30 = .ok (.getfield 21, 3) := by decide +kernel
theorem dX2_exchange_33 : decode cX2_exchange 33 = .ok (.iload_n 3, 1) := by decide +kernel
theorem dX2_exchange_34 : decode cX2_exchange 34 = .ok (.dup2, 1) := by decide +kernel
theorem dX2_exchange_35 : decode cX2_exchange 35 = .ok (.iaload, 1) := by decide +kernel
theorem dX2_exchange_36 : decode cX2_exchange 36 = .ok (.iconst 1, 1) := by decide +kernel
theorem dX2_exchange_37 : decode cX2_exchange 37 = .ok (.iadd, 1) := by decide +kernel
theorem dX2_exchange_38 : decode cX2_exchange 38 = .ok (.iastore, 1) := by decide +kernel
theorem dX2_exchange_39 : decode cX2_exchange 39 = .ok (.aload_n 0, 1) := by decide +kernel
theorem dX2_exchange_40 : decode cX2_exchange 40 = .ok (.iload_n 1, 1) := by decide +kernel
theorem dX2_exchange_41 : decode cX2_exchange 41 = .ok (.iload_n 3, 1) := by decide +kernel
theorem dX2_exchange_42 : decode cX2_exchange 42 = .ok (.invokevirtual 78, 3) := by decide +kernel
theorem dX2_exchange_45 : decode cX2_exchange 45 = .ok (.return_, 1) := by decide +kernel
theorem dX2_worths_0 : decode cX2_worths 0 = .ok (.iconst 0, 1) := by decide +kernel
theorem dX2_worths_1 : decode cX2_worths 1 = .ok (.istore_n 2, 1) := by decide +kernel
theorem dX2_worths_2 : decode cX2_worths 2 = .ok (.iconst 0, 1) := by decide +kernel
theorem dX2_worths_3 : decode cX2_worths 3 = .ok (.istore_n 3, 1) := by decide +kernel
theorem dX2_worths_4 : decode cX2_worths 4 = .ok (.iload_n 3, 1) := by decide +kernel
theorem dX2_worths_5 : decode cX2_worths 5 = .ok (.aload_n 1, 1) := by decide +kernel
theorem dX2_worths_6 : decode cX2_worths 6 = .ok (.getfield 57, 3) := by decide +kernel
theorem dX2_worths_9 : decode cX2_worths 9 = .ok (.if_icmp .ge 23, 3) := by decide +kernel
theorem dX2_worths_12 : decode cX2_worths 12 = .ok (.iload_n 2, 1) := by decide +kernel
theorem dX2_worths_13 : decode cX2_worths 13 = .ok (.aload_n 1, 1) := by decide +kernel
theorem dX2_worths_14 : decode cX2_worths 14 = .ok (.iload_n 3, 1) := by decide +kernel
theorem dX2_worths_15 : decode cX2_worths 15 = .ok (.aload_n 0, 1) := by decide +kernel
theorem dX2_worths_16 : decode cX2_worths 16 = .ok (.getfield 15, 3) := by decide +kernel
theorem dX2_worths_19 : decode cX2_worths 19 = .ok (.iload_n 3, 1) := by decide +kernel
theorem dX2_worths_20 : decode cX2_worths 20 = .ok (.iaload, 1) := by decide +kernel
theorem dX2_worths_21 : decode cX2_worths 21 = .ok (.invokevirtual 107, 3) := by decide +kernel
theorem dX2_worths_24 : decode cX2_worths 24 = .ok (.iadd, 1) := by decide +kernel
theorem dX2_worths_25 : decode cX2_worths 25 = .ok (.istore_n 2, 1) := by decide +kernel
theorem dX2_worths_26 : decode cX2_worths 26 = .ok (.iinc 3 1, 3) := by decide +kernel
theorem dX2_worths_29 : decode cX2_worths 29 = .ok (.goto (-25), 3) := by decide +kernel
theorem dX2_worths_32 : decode cX2_worths 32 = .ok (.iload_n 2, 1) := by decide +kernel
theorem dX2_worths_33 : decode cX2_worths 33 = .ok (.ireturn, 1) := by decide +kernel
theorem dX3_init_0 : decode cX3_init 0 = .ok (.aload_n 0, 1) := by decide +kernel
theorem dX3_init_1 : decode cX3_init 1 = .ok (.invokespecial 3, 3) := by decide +kernel
theorem dX3_init_4 : decode cX3_init 4 = .ok (.aload_n 0, 1) := by decide +kernel
theorem dX3_init_5 : decode cX3_init 5 = .ok (.bipush 121, 2) := by decide +kernel
theorem dX3_init_7 : decode cX3_init 7 = .ok (.newarray .char, 2) := by decide +kernel
theorem dX3_init_9 : decode cX3_init 9 = .ok (.putfield 11, 3) := by decide +kernel
theorem dX3_init_12 : decode cX3_init 12 = .ok (.aload_n 0, 1) := by decide +kernel
theorem dX3_init_13 : decode cX3_init 13 = .ok (.bipush 121, 2) := by decide +kernel
theorem dX3_init_15 : decode cX3_init 15 = .ok (.newarray .int, 2) := by decide +kernel
theorem dX3_init_17 : decode cX3_init 17 = .ok (.putfield 15, 3) := by decide +kernel
theorem dX3_init_20 : decode cX3_init 20 = .ok (.aload_n 0, 1) := by decide +kernel
theorem dX3_init_21 : decode cX3_init 21 = .ok (.iconst 0, 1) := by decide +kernel
theorem dX3_init_22 : decode cX3_init 22 = .ok (.putfield 19, 3) := by decide +kernel
theorem dX3_init_25 : decode cX3_init 25 = .ok (.aload_n 0, 1) := by decide +kernel
theorem dX3_init_26 : decode cX3_init 26 = .ok (.iconst (-1), 1) := by decide +kernel
theorem dX3_init_27 : decode cX3_init 27 = .ok (.putfield 23, 3) := by decide +kernel
theorem dX3_init_30 : decode cX3_init 30 = .ok (.aload_n 0, 1) := by decide +kernel
theorem dX3_init_31 : decode cX3_init 31 = .ok (.bipush 121, 2) := by decide +kernel
theorem dX3_init_33 : decode cX3_init 33 = .ok (.newarray .int, 2) := by decide +kernel
theorem dX3_init_35 : decode cX3_init 35 = .ok (.putfield 26, 3) := by decide +kernel
theorem dX3_init_38 : decode cX3_init 38 = .ok (.aload_n 0, 1) := by decide +kernel
theorem dX3_init_39 : decode cX3_init 39 = .ok (.bipush 6, 2) := by decide +kernel
theorem dX3_init_41 : decode cX3_init 41 = .ok (.newarray .int, 2) := by decide +kernel
theorem dX3_init_43 : decode cX3_init 43 = .ok (.putfield 29, 3) := by decide +kernel
theorem dX3_init_46 : decode cX3_init 46 = .ok (.aload_n 0, 1) := by decide +kernel
theorem dX3_init_47 : decode cX3_init 47 = .ok (.getfield 11, 3) := by decide +kernel
theorem dX3_init_50 : decode cX3_init 50 = .ok (.iconst 0, 1) := by decide +kernel
theorem dX3_init_51 : decode cX3_init 51 = .ok (.bipush 36, 2) := by decide +kernel
theorem dX3_init_53 : decode cX3_init 53 = .ok (.castore, 1) := by decide +kernel
theorem dX3_init_54 : decode cX3_init 54 = .ok (.aload_n 0, 1) := by decide +kernel
theorem dX3_init_55 : decode cX3_init 55 = .ok (.getfield 15, 3) := by decide +kernel
theorem dX3_init_58 : decode cX3_init 58 = .ok (.iconst 0, 1) := by decide +kernel
theorem dX3_init_59 : decode cX3_init 59 = .ok (.iconst 0, 1) := by decide +kernel
theorem dX3_init_60 : decode cX3_init 60 = .ok (.iastore, 1) := by decide +kernel
theorem dX3_init_61 : decode cX3_init 61 = .ok (.aload_n 0, 1) := by decide +kernel
theorem dX3_init_62 : decode cX3_init 62 = .ok (.getfield 11, 3) := by decide +kernel
theorem dX3_init_65 : decode cX3_init 65 = .ok (.iconst 1, 1) := by decide +kernel
theorem dX3_init_66 : decode cX3_init 66 = .ok (.bipush 59, 2) := by decide +kernel
theorem dX3_init_68 : decode cX3_init 68 = .ok (.castore, 1) := by decide +kernel
theorem dX3_init_69 : decode cX3_init 69 = .ok (.aload_n 0, 1) := by decide +kernel
theorem dX3_init_70 : decode cX3_init 70 = .ok (.iconst 2, 1) := by decide +kernel
theorem dX3_init_71 : decode cX3_init 71 = .ok (.putfield 19, 3) := by decide +kernel
theorem dX3_init_74 : decode cX3_init 74 = .ok (.return_, 1) := by decide +kernel
theorem dX3_clear_0 : decode cX3_clear 0 = .ok (.aload_n 0, 1) := by decide +kernel
theorem dX3_clear_1 : decode cX3_clear 1 = .ok (.iconst 0, 1) := by decide +kernel
theorem dX3_clear_2 : decode cX3_clear 2 = .ok (.putfield 19, 3) := by decide +kernel
theorem dX3_clear_5 : decode cX3_clear 5 = .ok (.aload_n 0, 1) := by decide +kernel
theorem dX3_clear_6 : decode cX3_clear 6 = .ok (.iconst (-1), 1) := by decide +kernel
theorem dX3_clear_7 : decode cX3_clear 7 = .ok (.putfield 23, 3) := by decide +kernel
theorem dX3_clear_10 : decode cX3_clear 10 = .ok (.return_, 1) := by decide +kernel
theorem dX3_write_0 : decode cX3_write 0 = .ok (.aload_n 0, 1) := by decide +kernel
theorem dX3_write_1 : decode cX3_write 1 = .ok (.getfield 19, 3) := by decide +kernel
theorem dX3_write_4 : decode cX3_write 4 = .ok (.bipush 121, 2) := by decide +kernel
theorem dX3_write_6 : decode cX3_write 6 = .ok (.if_icmp .ge 33, 3) := by decide +kernel
theorem dX3_write_9 : decode cX3_write 9 = .ok (.aload_n 0, 1) := by decide +kernel
theorem dX3_write_10 : decode cX3_write 10 = .ok (.getfield 11, 3) := by decide +kernel
theorem dX3_write_13 : decode cX3_write 13 = .ok (.aload_n 0, 1) := by decide +kernel
theorem dX3_write_14 : decode cX3_write 14 = .ok (.getfield 19, 3) := by decide +kernel
theorem dX3_write_17 : decode cX3_write 17 = .ok (.iload_n 1, 1) := by decide +kernel
theorem dX3_write_18 : decode cX3_write 18 = .ok (.castore, 1) := by decide +kernel
theorem dX3_write_19 : decode cX3_write 19 = .ok (.aload_n 0, 1) := by decide +kernel
theorem dX3_write_20 : decode cX3_write 20 = .ok (.getfield 15, 3) := by decide +kernel
theorem dX3_write_23 : decode cX3_write 23 = .ok (.aload_n 0, 1) := by decide +kernel
theorem dX3_write_24 : decode cX3_write 24 = .ok (.getfield 19, 3) := by decide +kernel
theorem dX3_write_27 : decode cX3_write 27 = .ok (.iload_n 2, 1) := by decide +kernel
theorem dX3_write_28 : decode cX3_write 28 = .ok (.iastore, 1) := by decide +kernel
theorem dX3_write_29 : decode cX3_write 29 = .ok (.aload_n 0, 1) := by decide +kernel
theorem dX3_write_30 : decode cX3_write 30 = .ok (.dup, 1) := by decide +kernel
theorem dX3_write_31 : decode cX3_write 31 = .ok (.getfield 19, 3) := by decide +kernel
theorem dX3_write_34 : decode cX3_write 34 = .ok (.iconst 1, 1) := by decide +kernel
theorem dX3_write_35 : decode cX3_write 35 = .ok (.iadd, 1) := by decide +kernel
theorem dX3_write_36 : decode cX3_write 36 = .ok (.putfield 19, 3) := by decide +kernel
theorem dX3_write_39 : decode cX3_write 39 = .ok (.return_, 1) := by decide +kernel
theorem dX3_writeIf_0 : decode cX3_writeIf 0 = .ok (.aload_n 0, 1) := by decide +kernel
theorem dX3_writeIf_1 : decode cX3_writeIf 1 = .ok (.aload_n 0, 1) := by decide +kernel
theorem dX3_writeIf_2 : decode cX3_writeIf 2 = .ok (.getfield 19, 3) := by decide +kernel
theorem dX3_writeIf_5 : decode cX3_writeIf 5 = .ok (.putfield 23, 3) := by decide +kernel
theorem dX3_writeIf_8 : decode cX3_writeIf 8 = .ok (.aload_n 0, 1) := by decide +kernel
theorem dX3_writeIf_9 : decode cX3_writeIf 9 = .ok (.bipush 63, 2) := by decide +kernel
theorem dX3_writeIf_11 : decode cX3_writeIf 11 = .ok (.aload_n 0, 1) := by decide +kernel
theorem dX3_writeIf_12 : decode cX3_writeIf 12 = .ok (.getfield 19, 3) := by decide +kernel
theorem dX3_writeIf_15 : decode cX3_writeIf 15 = .ok (.invokevirtual 32, 3) := by decide +kernel
theorem dX3_writeIf_18 : decode cX3_writeIf 18 = .ok (.return_, 1) := by decide +kernel
theorem dX3_writeEndOfLine_0 : decode cX3_writeEndOfLine 0 = .ok (.aload_n 0, 1) := by decide +kernel
theorem dX3_writeEndOfLine_1 : decode cX3_writeEndOfLine 1 = .ok (.getfield 23, 3) := by decide +kernel
theorem dX3_writeEndOfLine_4 : decode cX3_writeEndOfLine 4 = .ok (.ifCond .lt 25, 3) := by decide +kernel
theorem dX3_writeEndOfLine_7 : decode cX3_writeEndOfLine 7 = .ok (.aload_n 0, 1) := by decide +kernel
theorem dX3_writeEndOfLine_8 : decode cX3_writeEndOfLine 8 = .ok (.getfield 23, 3) := by decide +kernel
theorem dX3_writeEndOfLine_11 : decode cX3_writeEndOfLine 11 = .ok (.bipush 121, 2) := by decide +kernel
theorem dX3_writeEndOfLine_13 : decode cX3_writeEndOfLine 13 = .ok (.if_icmp .ge 16, 3) := by decide +kernel
theorem dX3_writeEndOfLine_16 : decode cX3_writeEndOfLine 16 = .ok (.aload_n 0, 1) := by decide +kernel
theorem dX3_writeEndOfLine_17 : decode cX3_writeEndOfLine 17 = .ok (.getfield 15, 3) := by decide +kernel
theorem dX3_writeEndOfLine_20 : decode cX3_writeEndOfLine 20 = .ok (.aload_n 0, 1) := by decide +kernel
theorem dX3_writeEndOfLine_21 : decode cX3_writeEndOfLine 21 = .ok (.getfield 23, 3) := by decide +kernel
theorem dX3_writeEndOfLine_24 : decode cX3_writeEndOfLine 24 = .ok (.aload_n 0, 1) := by decide +kernel
theorem dX3_writeEndOfLine_25 : decode cX3_writeEndOfLine 25 = .ok (.getfield 19, 3) := by decide +kernel
theorem dX3_writeEndOfLine_28 : decode cX3_writeEndOfLine 28 = .ok (.iastore, 1) := by decide +kernel
theorem dX3_writeEndOfLine_29 : decode cX3_writeEndOfLine 29 = .ok (.aload_n 0, 1) := by decide +kernel
theorem dX3_writeEndOfLine_30 : decode cX3_writeEndOfLine 30 = .ok (.iconst (-1), 1) := by decide +kernel
theorem dX3_writeEndOfLine_31 : decode cX3_writeEndOfLine 31 = .ok (.putfield 23, 3) := by decide +kernel
theorem dX3_writeEndOfLine_34 : decode cX3_writeEndOfLine 34 = .ok (.aload_n 0, 1) := by decide +kernel
theorem dX3_writeEndOfLine_35 : decode cX3_writeEndOfLine 35 = .ok (.bipush 59, 2) := by decide +kernel
theorem dX3_writeEndOfLine_37 : decode cX3_writeEndOfLine 37 = .ok (.iconst 0, 1) := by decide +kernel
theorem dX3_writeEndOfLine_38 : decode cX3_writeEndOfLine 38 = .ok (.invokevirtual 32, 3) := by decide +kernel
theorem dX3_writeEndOfLine_41 : decode cX3_writeEndOfLine 41 = .ok (.return_, 1) := by decide +kernel
theorem dX3_nameOf_0 : decode cX3_nameOf 0 = .ok (.iload_n 0, 1) := by decide +kernel
theorem dX3_nameOf_1 : decode cX3_nameOf 1 = .ok (.tableswitch 79 108 120 #[73, 79, 79, 75, 79, 79, 77, 79, 71, 79, 79, 67, 69], 67) := by decide +kernel
theorem dX3_nameOf_68 : decode cX3_nameOf 68 = .ok (.iconst 0, 1) := by decide +kernel
theorem dX3_nameOf_69 : decode cX3_nameOf 69 = .ok (.ireturn, 1) := by decide +kernel
theorem dX3_nameOf_70 : decode cX3_nameOf 70 = .ok (.iconst 1, 1) := by decide +kernel
theorem dX3_nameOf_71 : decode cX3_nameOf 71 = .ok (.ireturn, 1) := by decide +kernel
theorem dX3_nameOf_72 : decode cX3_nameOf 72 = .ok (.iconst 2, 1) := by decide +kernel
theorem dX3_nameOf_73 : decode cX3_nameOf 73 = .ok (.ireturn, 1) := by decide +kernel
theorem dX3_nameOf_74 : decode cX3_nameOf 74 = .ok (.iconst 3, 1) := by decide +kernel
theorem dX3_nameOf_75 : decode cX3_nameOf 75 = .ok (.ireturn, 1) := by decide +kernel
theorem dX3_nameOf_76 : decode cX3_nameOf 76 = .ok (.iconst 4, 1) := by decide +kernel
theorem dX3_nameOf_77 : decode cX3_nameOf 77 = .ok (.ireturn, 1) := by decide +kernel
theorem dX3_nameOf_78 : decode cX3_nameOf 78 = .ok (.iconst 5, 1) := by decide +kernel
theorem dX3_nameOf_79 : decode cX3_nameOf 79 = .ok (.ireturn, 1) := by decide +kernel
theorem dX3_nameOf_80 : decode cX3_nameOf 80 = .ok (.iconst (-1), 1) := by decide +kernel
theorem dX3_nameOf_81 : decode cX3_nameOf 81 = .ok (.ireturn, 1) := by decide +kernel
theorem dX3_number_0 : decode cX3_number 0 = .ok (.aload_n 0, 1) := by decide +kernel
theorem dX3_number_1 : decode cX3_number 1 = .ok (.getfield 29, 3) := by decide +kernel
theorem dX3_number_4 : decode cX3_number 4 = .ok (.iconst 0, 1) := by decide +kernel
theorem dX3_number_5 : decode cX3_number 5 = .ok (.iload_n 1, 1) := by decide +kernel
theorem dX3_number_6 : decode cX3_number 6 = .ok (.iastore, 1) := by decide +kernel
theorem dX3_number_7 : decode cX3_number 7 = .ok (.aload_n 0, 1) := by decide +kernel
theorem dX3_number_8 : decode cX3_number 8 = .ok (.getfield 29, 3) := by decide +kernel
theorem dX3_number_11 : decode cX3_number 11 = .ok (.iconst 1, 1) := by decide +kernel
theorem dX3_number_12 : decode cX3_number 12 = .ok (.iload_n 2, 1) := by decide +kernel
theorem dX3_number_13 : decode cX3_number 13 = .ok (.iastore, 1) := by decide +kernel
theorem dX3_number_14 : decode cX3_number 14 = .ok (.aload_n 0, 1) := by decide +kernel
theorem dX3_number_15 : decode cX3_number 15 = .ok (.getfield 29, 3) := by decide +kernel
theorem dX3_number_18 : decode cX3_number 18 = .ok (.iconst 2, 1) := by decide +kernel
theorem dX3_number_19 : decode cX3_number 19 = .ok (.iload_n 3, 1) := by decide +kernel
theorem dX3_number_20 : decode cX3_number 20 = .ok (.iastore, 1) := by decide +kernel
theorem dX3_number_21 : decode cX3_number 21 = .ok (.aload_n 0, 1) := by decide +kernel
theorem dX3_number_22 : decode cX3_number 22 = .ok (.getfield 29, 3) := by decide +kernel
theorem dX3_number_25 : decode cX3_number 25 = .ok (.iconst 3, 1) := by decide +kernel
theorem dX3_number_26 : decode cX3_number 26 = .ok (.iload 4, 2) := by decide +kernel
theorem dX3_number_28 : decode cX3_number 28 = .ok (.iastore, 1) := by decide +kernel
theorem dX3_number_29 : decode cX3_number 29 = .ok (.aload_n 0, 1) := by decide +kernel
theorem dX3_number_30 : decode cX3_number 30 = .ok (.getfield 29, 3) := by decide +kernel
theorem dX3_number_33 : decode cX3_number 33 = .ok (.iconst 4, 1) := by decide +kernel
theorem dX3_number_34 : decode cX3_number 34 = .ok (.iload 5, 2) := by decide +kernel
theorem dX3_number_36 : decode cX3_number 36 = .ok (.iastore, 1) := by decide +kernel
theorem dX3_number_37 : decode cX3_number 37 = .ok (.aload_n 0, 1) := by decide +kernel
theorem dX3_number_38 : decode cX3_number 38 = .ok (.getfield 29, 3) := by decide +kernel
theorem dX3_number_41 : decode cX3_number 41 = .ok (.iconst 5, 1) := by decide +kernel
theorem dX3_number_42 : decode cX3_number 42 = .ok (.iload 6, 2) := by decide +kernel
theorem dX3_number_44 : decode cX3_number 44 = .ok (.iastore, 1) := by decide +kernel
theorem dX3_number_45 : decode cX3_number 45 = .ok (.iconst 0, 1) := by decide +kernel
theorem dX3_number_46 : decode cX3_number 46 = .ok (.istore 7, 2) := by decide +kernel
theorem dX3_number_48 : decode cX3_number 48 = .ok (.iconst 0, 1) := by decide +kernel
theorem dX3_number_49 : decode cX3_number 49 = .ok (.istore 8, 2) := by decide +kernel
theorem dX3_number_51 : decode cX3_number 51 = .ok (.iload 8, 2) := by decide +kernel
theorem dX3_number_53 : decode cX3_number 53 = .ok (.aload_n 0, 1) := by decide +kernel
theorem dX3_number_54 : decode cX3_number 54 = .ok (.getfield 19, 3) := by decide +kernel
theorem dX3_number_57 : decode cX3_number 57 = .ok (.if_icmp .ge 320, 3) := by decide +kernel
theorem dX3_number_60 : decode cX3_number 60 = .ok (.iload 8, 2) := by decide +kernel
theorem dX3_number_62 : decode cX3_number 62 = .ok (.bipush 121, 2) := by decide +kernel
theorem dX3_number_64 : decode cX3_number 64 = .ok (.if_icmp .ge 313, 3) := by decide +kernel
theorem dX3_number_67 : decode cX3_number 67 = .ok (.iload 7, 2) := by decide +kernel
theorem dX3_number_69 : decode cX3_number 69 = .ok (.bipush 121, 2) := by decide +kernel
theorem dX3_number_71 : decode cX3_number 71 = .ok (.if_icmp .ge 306, 3) := by decide +kernel
theorem dX3_number_74 : decode cX3_number 74 = .ok (.aload_n 0, 1) := by decide +kernel
theorem dX3_number_75 : decode cX3_number 75 = .ok (.getfield 15, 3) := by decide +kernel
theorem dX3_number_78 : decode cX3_number 78 = .ok (.iload 8, 2) := by decide +kernel
theorem dX3_number_80 : decode cX3_number 80 = .ok (.iaload, 1) := by decide +kernel
theorem dX3_number_81 : decode cX3_number 81 = .ok (.istore 9, 2) := by decide +kernel
theorem dX3_number_83 : decode cX3_number 83 = .ok (.aload_n 0, 1) := by decide +kernel
theorem dX3_number_84 : decode cX3_number 84 = .ok (.getfield 11, 3) := by decide +kernel
theorem dX3_number_87 : decode cX3_number 87 = .ok (.iload 8, 2) := by decide +kernel
theorem dX3_number_89 : decode cX3_number 89 = .ok (.caload, 1) := by decide +kernel
theorem dX3_number_90 : decode cX3_number 90 = .ok (.lookupswitch 236 #[(33, 169), (35, 118), (36, 133), (59, 58), (63, 78), (126, 206)], 58) := by decide +kernel
theorem dX3_number_148 : decode cX3_number 148 = .ok (.iload 7, 2) := by decide +kernel
theorem dX3_number_150 : decode cX3_number 150 = .ok (.iconst 1, 1) := by decide +kernel
theorem dX3_number_151 : decode cX3_number 151 = .ok (.if_icmp .ge 7, 3) := by decide +kernel
theorem dX3_number_154 : decode cX3_number 154 = .ok (.iconst 0, 1) := by decide +kernel
theorem dX3_number_155 : decode cX3_number 155 = .ok (.goto 12, 3) := by decide +kernel
theorem dX3_number_158 : decode cX3_number 158 = .ok (.aload_n 0, 1) := by decide +kernel
theorem dX3_number_159 : decode cX3_number 159 = .ok (.getfield 26, 3) := by decide +kernel
theorem dX3_number_162 : decode cX3_number 162 = .ok (.iload 7, 2) := by decide +kernel
theorem dX3_number_164 : decode cX3_number 164 = .ok (.iconst 1, 1) := by decide +kernel
theorem dX3_number_165 : decode cX3_number 165 = .ok (.isub, 1) := by decide +kernel
theorem dX3_number_166 : decode cX3_number 166 = .ok (.iaload, 1) := by decide +kernel
theorem dX3_number_167 : decode cX3_number 167 = .ok (.ireturn, 1) := by decide +kernel
theorem dX3_number_168 : decode cX3_number 168 = .ok (.iload 7, 2) := by decide +kernel
theorem dX3_number_170 : decode cX3_number 170 = .ok (.iconst 1, 1) := by decide +kernel
theorem dX3_number_171 : decode cX3_number 171 = .ok (.if_icmp .lt 27, 3) := by decide +kernel
theorem dX3_number_174 : decode cX3_number 174 = .ok (.aload_n 0, 1) := by decide +kernel
theorem dX3_number_175 : decode cX3_number 175 = .ok (.getfield 26, 3) := by decide +kernel
theorem dX3_number_178 : decode cX3_number 178 = .ok (.iload 7, 2) := by decide +kernel
theorem dX3_number_180 : decode cX3_number 180 = .ok (.iconst 1, 1) := by decide +kernel
theorem dX3_number_181 : decode cX3_number 181 = .ok (.isub, 1) := by decide +kernel
theorem dX3_number_182 : decode cX3_number 182 = .ok (.iaload, 1) := by decide +kernel
theorem dX3_number_183 : decode cX3_number 183 = .ok (.ifCond .ne 15, 3) := by decide +kernel
theorem dX3_number_186 : decode cX3_number 186 = .ok (.iload 9, 2) := by decide +kernel
theorem dX3_number_188 : decode cX3_number 188 = .ok (.iload 8, 2) := by decide +kernel
theorem dX3_number_190 : decode cX3_number 190 = .ok (.if_icmp .le 8, 3) := by decide +kernel
theorem dX3_number_193 : decode cX3_number 193 = .ok (.iload 9, 2) := by decide +kernel
theorem dX3_number_195 : decode cX3_number 195 = .ok (.goto 5, 3) := by decide +kernel
theorem dX3_number_198 : decode cX3_number 198 = .ok (.iload 8, 2) := by decide +kernel
theorem dX3_number_200 : decode cX3_number 200 = .ok (.istore 8, 2) := by decide +kernel
theorem dX3_number_202 : decode cX3_number 202 = .ok (.iconst 0, 1) := by decide +kernel
theorem dX3_number_203 : decode cX3_number 203 = .ok (.istore 7, 2) := by decide +kernel
theorem dX3_number_205 : decode cX3_number 205 = .ok (.goto 166, 3) := by decide +kernel
theorem dX3_number_208 : decode cX3_number 208 = .ok (.aload_n 0, 1) := by decide +kernel
theorem dX3_number_209 : decode cX3_number 209 = .ok (.getfield 26, 3) := by decide +kernel
theorem dX3_number_212 : decode cX3_number 212 = .ok (.iload 7, 2) := by decide +kernel
theorem dX3_number_214 : decode cX3_number 214 = .ok (.iload 9, 2) := by decide +kernel
theorem dX3_number_216 : decode cX3_number 216 = .ok (.iastore, 1) := by decide +kernel
theorem dX3_number_217 : decode cX3_number 217 = .ok (.iinc 7 1, 3) := by decide +kernel
theorem dX3_number_220 : decode cX3_number 220 = .ok (.goto 151, 3) := by decide +kernel
theorem dX3_number_223 : decode cX3_number 223 = .ok (.aload_n 0, 1) := by decide +kernel
theorem dX3_number_224 : decode cX3_number 224 = .ok (.getfield 26, 3) := by decide +kernel
theorem dX3_number_227 : decode cX3_number 227 = .ok (.iload 7, 2) := by decide +kernel
theorem dX3_number_229 : decode cX3_number 229 = .ok (.iload 9, 2) := by decide +kernel
theorem dX3_number_231 : decode cX3_number 231 = .ok (.ifCond .lt 20, 3) := by decide +kernel
theorem dX3_number_234 : decode cX3_number 234 = .ok (.iload 9, 2) := by decide +kernel
theorem dX3_number_236 : decode cX3_number 236 = .ok (.bipush 6, 2) := by decide +kernel
theorem dX3_number_238 : decode cX3_number 238 = .ok (.if_icmp .ge 13, 3) := by decide +kernel
theorem dX3_number_241 : decode cX3_number 241 = .ok (.aload_n 0, 1) := by decide +kernel
theorem dX3_number_242 : decode cX3_number 242 = .ok (.getfield 29, 3) := by decide +kernel
theorem dX3_number_245 : decode cX3_number 245 = .ok (.iload 9, 2) := by decide +kernel
theorem dX3_number_247 : decode cX3_number 247 = .ok (.iaload, 1) := by decide +kernel
theorem dX3_number_248 : decode cX3_number 248 = .ok (.goto 4, 3) := by decide +kernel
theorem dX3_number_251 : decode cX3_number 251 = .ok (.iconst 0, 1) := by decide +kernel
theorem dX3_number_252 : decode cX3_number 252 = .ok (.iastore, 1) := by decide +kernel
theorem dX3_number_253 : decode cX3_number 253 = .ok (.iinc 7 1, 3) := by decide +kernel
theorem dX3_number_256 : decode cX3_number 256 = .ok (.goto 115, 3) := by decide +kernel
theorem dX3_number_259 : decode cX3_number 259 = .ok (.iload 7, 2) := by decide +kernel
theorem dX3_number_261 : decode cX3_number 261 = .ok (.iconst 1, 1) := by decide +kernel
theorem dX3_number_262 : decode cX3_number 262 = .ok (.invokestatic 36, 3) := by decide +kernel
theorem dX3_number_265 : decode cX3_number 265 = .ok (.istore 7, 2) := by decide +kernel
theorem dX3_number_267 : decode cX3_number 267 = .ok (.aload_n 0, 1) := by decide +kernel
theorem dX3_number_268 : decode cX3_number 268 = .ok (.getfield 26, 3) := by decide +kernel
theorem dX3_number_271 : decode cX3_number 271 = .ok (.iload 7, 2) := by decide +kernel
theorem dX3_number_273 : decode cX3_number 273 = .ok (.iconst 1, 1) := by decide +kernel
theorem dX3_number_274 : decode cX3_number 274 = .ok (.isub, 1) := by decide +kernel
theorem dX3_number_275 : decode cX3_number 275 = .ok (.aload_n 0, 1) := by decide +kernel
theorem dX3_number_276 : decode cX3_number 276 = .ok (.getfield 26, 3) := by decide +kernel
theorem dX3_number_279 : decode cX3_number 279 = .ok (.iload 7, 2) := by decide +kernel
theorem dX3_number_281 : decode cX3_number 281 = .ok (.iconst 1, 1) := by decide +kernel
theorem dX3_number_282 : decode cX3_number 282 = .ok (.isub, 1) := by decide +kernel
theorem dX3_number_283 : decode cX3_number 283 = .ok (.iaload, 1) := by decide +kernel
theorem dX3_number_284 : decode cX3_number 284 = .ok (.ifCond .ne 7, 3) := by decide +kernel
theorem dX3_number_287 : decode cX3_number 287 = .ok (.iconst 1, 1) := by decide +kernel
theorem dX3_number_288 : decode cX3_number 288 = .ok (.goto 4, 3) := by decide +kernel
theorem dX3_number_291 : decode cX3_number 291 = .ok (.iconst 0, 1) := by decide +kernel
theorem dX3_number_292 : decode cX3_number 292 = .ok (.iastore, 1) := by decide +kernel
theorem dX3_number_293 : decode cX3_number 293 = .ok (.goto 78, 3) := by decide +kernel
theorem dX3_number_296 : decode cX3_number 296 = .ok (.iload 7, 2) := by decide +kernel
theorem dX3_number_298 : decode cX3_number 298 = .ok (.iconst 1, 1) := by decide +kernel
theorem dX3_number_299 : decode cX3_number 299 = .ok (.invokestatic 36, 3) := by decide +kernel
theorem dX3_number_302 : decode cX3_number 302 = .ok (.istore 7, 2) := by decide +kernel
theorem dX3_number_304 : decode cX3_number 304 = .ok (.aload_n 0, 1) := by decide +kernel
theorem dX3_number_305 : decode cX3_number 305 = .ok (.getfield 26, 3) := by decide +kernel
theorem dX3_number_308 : decode cX3_number 308 = .ok (.iload 7, 2) := by decide +kernel
theorem dX3_number_310 : decode cX3_number 310 = .ok (.iconst 1, 1) := by decide +kernel
theorem dX3_number_311 : decode cX3_number 311 = .ok (.isub, 1) := by decide +kernel
theorem dX3_number_312 : decode cX3_number 312 = .ok (.aload_n 0, 1) := by decide +kernel
theorem dX3_number_313 : decode cX3_number 313 = .ok (.getfield 26, 3) := by decide +kernel
theorem dX3_number_316 : decode cX3_number 316 = .ok (.iload 7, 2) := by decide +kernel
theorem dX3_number_318 : decode cX3_number 318 = .ok (.iconst 1, 1) := by decide +kernel
theorem dX3_number_319 : decode cX3_number 319 = .ok (.isub, 1) := by decide +kernel
theorem dX3_number_320 : decode cX3_number 320 = .ok (.iaload, 1) := by decide +kernel
theorem dX3_number_321 : decode cX3_number 321 = .ok (.ineg, 1) := by decide +kernel
theorem dX3_number_322 : decode cX3_number 322 = .ok (.iastore, 1) := by decide +kernel
theorem dX3_number_323 : decode cX3_number 323 = .ok (.goto 48, 3) := by decide +kernel
theorem dX3_number_326 : decode cX3_number 326 = .ok (.iload 7, 2) := by decide +kernel
theorem dX3_number_328 : decode cX3_number 328 = .ok (.iconst 1, 1) := by decide +kernel
theorem dX3_number_329 : decode cX3_number 329 = .ok (.isub, 1) := by decide +kernel
theorem dX3_number_330 : decode cX3_number 330 = .ok (.iconst 1, 1) := by decide +kernel
theorem dX3_number_331 : decode cX3_number 331 = .ok (.invokestatic 36, 3) := by decide +kernel
theorem dX3_number_334 : decode cX3_number 334 = .ok (.istore 7, 2) := by decide +kernel
theorem dX3_number_336 : decode cX3_number 336 = .ok (.aload_n 0, 1) := by decide +kernel
theorem dX3_number_337 : decode cX3_number 337 = .ok (.getfield 26, 3) := by decide +kernel
theorem dX3_number_340 : decode cX3_number 340 = .ok (.iload 7, 2) := by decide +kernel
theorem dX3_number_342 : decode cX3_number 342 = .ok (.iconst 1, 1) := by decide +kernel
theorem dX3_number_343 : decode cX3_number 343 = .ok (.isub, 1) := by decide +kernel
theorem dX3_number_344 : decode cX3_number 344 = .ok (.aload_n 0, 1) := by decide +kernel
theorem dX3_number_345 : decode cX3_number 345 = .ok (.getfield 11, 3) := by decide +kernel
theorem dX3_number_348 : decode cX3_number 348 = .ok (.iload 8, 2) := by decide +kernel
theorem dX3_number_350 : decode cX3_number 350 = .ok (.caload, 1) := by decide +kernel
theorem dX3_number_351 : decode cX3_number 351 = .ok (.aload_n 0, 1) := by decide +kernel
theorem dX3_number_352 : decode cX3_number 352 = .ok (.getfield 26, 3) := by decide +kernel
theorem dX3_number_355 : decode cX3_number 355 = .ok (.iload 7, 2) := by decide +kernel
theorem dX3_number_357 : decode cX3_number 357 = .ok (.iconst 1, 1) := by decide +kernel
theorem dX3_number_358 : decode cX3_number 358 = .ok (.isub, 1) := by decide +kernel
theorem dX3_number_359 : decode cX3_number 359 = .ok (.iaload, 1) := by decide +kernel
theorem dX3_number_360 : decode cX3_number 360 = .ok (.aload_n 0, 1) := by decide +kernel
theorem dX3_number_361 : decode cX3_number 361 = .ok (.getfield 26, 3) := by decide +kernel
theorem dX3_number_364 : decode cX3_number 364 = .ok (.iload 7, 2) := by decide +kernel
theorem dX3_number_366 : decode cX3_number 366 = .ok (.iaload, 1) := by decide +kernel
theorem dX3_number_367 : decode cX3_number 367 = .ok (.invokestatic 42, 3) := by decide +kernel
theorem dX3_number_370 : decode cX3_number 370 = .ok (.iastore, 1) := by decide +kernel
theorem dX3_number_371 : decode cX3_number 371 = .ok (.iinc 8 1, 3) := by decide +kernel
theorem dX3_number_374 : decode cX3_number 374 = .ok (.goto (-323), 3) := by decide +kernel
theorem dX3_number_377 : decode cX3_number 377 = .ok (.iconst 0, 1) := by decide +kernel
theorem dX3_number_378 : decode cX3_number 378 = .ok (.ireturn, 1) := by decide +kernel
theorem dX3_joined_0 : decode cX3_joined 0 = .ok (.iload_n 0, 1) := by decide +kernel
theorem dX3_joined_1 : decode cX3_joined 1 = .ok (.lookupswitch 168 #[(38, 97), (42, 152), (43, 144), (45, 148), (47, 156), (60, 111), (61, 122), (62, 133), (124, 83)], 83) := by decide +kernel
theorem dX3_joined_84 : decode cX3_joined 84 = .ok (.iload_n 1, 1) := by decide +kernel
theorem dX3_joined_85 : decode cX3_joined 85 = .ok (.ifCond .ne 7, 3) := by decide +kernel
theorem dX3_joined_88 : decode cX3_joined 88 = .ok (.iload_n 2, 1) := by decide +kernel
theorem dX3_joined_89 : decode cX3_joined 89 = .ok (.ifCond .eq 7, 3) := by decide +kernel
theorem dX3_joined_92 : decode cX3_joined 92 = .ok (.iconst 1, 1) := by decide +kernel
theorem dX3_joined_93 : decode cX3_joined 93 = .ok (.goto 4, 3) := by decide +kernel
theorem dX3_joined_96 : decode cX3_joined 96 = .ok (.iconst 0, 1) := by decide +kernel
theorem dX3_joined_97 : decode cX3_joined 97 = .ok (.ireturn, 1) := by decide +kernel
theorem dX3_joined_98 : decode cX3_joined 98 = .ok (.iload_n 1, 1) := by decide +kernel
theorem dX3_joined_99 : decode cX3_joined 99 = .ok (.ifCond .eq 11, 3) := by decide +kernel
theorem dX3_joined_102 : decode cX3_joined 102 = .ok (.iload_n 2, 1) := by decide +kernel
theorem dX3_joined_103 : decode cX3_joined 103 = .ok (.ifCond .eq 7, 3) := by decide +kernel
theorem dX3_joined_106 : decode cX3_joined 106 = .ok (.iconst 1, 1) := by decide +kernel
theorem dX3_joined_107 : decode cX3_joined 107 = .ok (.goto 4, 3) := by decide +kernel
theorem dX3_joined_110 : decode cX3_joined 110 = .ok (.iconst 0, 1) := by decide +kernel
theorem dX3_joined_111 : decode cX3_joined 111 = .ok (.ireturn, 1) := by decide +kernel
theorem dX3_joined_112 : decode cX3_joined 112 = .ok (.iload_n 1, 1) := by decide +kernel
theorem dX3_joined_113 : decode cX3_joined 113 = .ok (.iload_n 2, 1) := by decide +kernel
theorem dX3_joined_114 : decode cX3_joined 114 = .ok (.if_icmp .ge 7, 3) := by decide +kernel
theorem dX3_joined_117 : decode cX3_joined 117 = .ok (.iconst 1, 1) := by decide +kernel
theorem dX3_joined_118 : decode cX3_joined 118 = .ok (.goto 4, 3) := by decide +kernel
theorem dX3_joined_121 : decode cX3_joined 121 = .ok (.iconst 0, 1) := by decide +kernel
theorem dX3_joined_122 : decode cX3_joined 122 = .ok (.ireturn, 1) := by decide +kernel
theorem dX3_joined_123 : decode cX3_joined 123 = .ok (.iload_n 1, 1) := by decide +kernel
theorem dX3_joined_124 : decode cX3_joined 124 = .ok (.iload_n 2, 1) := by decide +kernel
theorem dX3_joined_125 : decode cX3_joined 125 = .ok (.if_icmp .ne 7, 3) := by decide +kernel
theorem dX3_joined_128 : decode cX3_joined 128 = .ok (.iconst 1, 1) := by decide +kernel
theorem dX3_joined_129 : decode cX3_joined 129 = .ok (.goto 4, 3) := by decide +kernel
theorem dX3_joined_132 : decode cX3_joined 132 = .ok (.iconst 0, 1) := by decide +kernel
theorem dX3_joined_133 : decode cX3_joined 133 = .ok (.ireturn, 1) := by decide +kernel
theorem dX3_joined_134 : decode cX3_joined 134 = .ok (.iload_n 1, 1) := by decide +kernel
theorem dX3_joined_135 : decode cX3_joined 135 = .ok (.iload_n 2, 1) := by decide +kernel
theorem dX3_joined_136 : decode cX3_joined 136 = .ok (.if_icmp .le 7, 3) := by decide +kernel
theorem dX3_joined_139 : decode cX3_joined 139 = .ok (.iconst 1, 1) := by decide +kernel
theorem dX3_joined_140 : decode cX3_joined 140 = .ok (.goto 4, 3) := by decide +kernel
theorem dX3_joined_143 : decode cX3_joined 143 = .ok (.iconst 0, 1) := by decide +kernel
theorem dX3_joined_144 : decode cX3_joined 144 = .ok (.ireturn, 1) := by decide +kernel
theorem dX3_joined_145 : decode cX3_joined 145 = .ok (.iload_n 1, 1) := by decide +kernel
theorem dX3_joined_146 : decode cX3_joined 146 = .ok (.iload_n 2, 1) := by decide +kernel
theorem dX3_joined_147 : decode cX3_joined 147 = .ok (.iadd, 1) := by decide +kernel
theorem dX3_joined_148 : decode cX3_joined 148 = .ok (.ireturn, 1) := by decide +kernel
theorem dX3_joined_149 : decode cX3_joined 149 = .ok (.iload_n 1, 1) := by decide +kernel
theorem dX3_joined_150 : decode cX3_joined 150 = .ok (.iload_n 2, 1) := by decide +kernel
theorem dX3_joined_151 : decode cX3_joined 151 = .ok (.isub, 1) := by decide +kernel
theorem dX3_joined_152 : decode cX3_joined 152 = .ok (.ireturn, 1) := by decide +kernel
theorem dX3_joined_153 : decode cX3_joined 153 = .ok (.iload_n 1, 1) := by decide +kernel
theorem dX3_joined_154 : decode cX3_joined 154 = .ok (.iload_n 2, 1) := by decide +kernel
theorem dX3_joined_155 : decode cX3_joined 155 = .ok (.imul, 1) := by decide +kernel
theorem dX3_joined_156 : decode cX3_joined 156 = .ok (.ireturn, 1) := by decide +kernel
theorem dX3_joined_157 : decode cX3_joined 157 = .ok (.iload_n 2, 1) := by decide +kernel
theorem dX3_joined_158 : decode cX3_joined 158 = .ok (.ifCond .ne 7, 3) := by decide +kernel
theorem dX3_joined_161 : decode cX3_joined 161 = .ok (.iconst 0, 1) := by decide +kernel
theorem dX3_joined_162 : decode cX3_joined 162 = .ok (.goto 6, 3) := by decide +kernel
theorem dX3_joined_165 : decode cX3_joined 165 = .ok (.iload_n 1, 1) := by decide +kernel
theorem dX3_joined_166 : decode cX3_joined 166 = .ok (.iload_n 2, 1) := by decide +kernel
theorem dX3_joined_167 : decode cX3_joined 167 = .ok (.idiv, 1) := by decide +kernel
theorem dX3_joined_168 : decode cX3_joined 168 = .ok (.ireturn, 1) := by decide +kernel
theorem dX3_joined_169 : decode cX3_joined 169 = .ok (.iload_n 2, 1) := by decide +kernel
theorem dX3_joined_170 : decode cX3_joined 170 = .ok (.ifCond .ne 7, 3) := by decide +kernel
theorem dX3_joined_173 : decode cX3_joined 173 = .ok (.iconst 0, 1) := by decide +kernel
theorem dX3_joined_174 : decode cX3_joined 174 = .ok (.goto 6, 3) := by decide +kernel
theorem dX3_joined_177 : decode cX3_joined 177 = .ok (.iload_n 1, 1) := by decide +kernel
theorem dX3_joined_178 : decode cX3_joined 178 = .ok (.iload_n 2, 1) := by decide +kernel
theorem dX3_joined_179 : decode cX3_joined 179 = .ok (.irem, 1) := by decide +kernel
theorem dX3_joined_180 : decode cX3_joined 180 = .ok (.ireturn, 1) := by decide +kernel
theorem dX4_init_0 : decode cX4_init 0 = .ok (.aload_n 0, 1) := by decide +kernel
theorem dX4_init_1 : decode cX4_init 1 = .ok (.invokespecial 3, 3) := by decide +kernel
theorem dX4_init_4 : decode cX4_init 4 = .ok (.aload_n 0, 1) := by decide +kernel
theorem dX4_init_5 : decode cX4_init 5 = .ok (.iconst 0, 1) := by decide +kernel
theorem dX4_init_6 : decode cX4_init 6 = .ok (.putfield 9, 3) := by decide +kernel
theorem dX4_init_9 : decode cX4_init 9 = .ok (.aload_n 0, 1) := by decide +kernel
theorem dX4_init_10 : decode cX4_init 10 = .ok (.bipush 70, 2) := by decide +kernel
theorem dX4_init_12 : decode cX4_init 12 = .ok (.newarray .int, 2) := by decide +kernel
theorem dX4_init_14 : decode cX4_init 14 = .ok (.putfield 15, 3) := by decide +kernel
theorem dX4_init_17 : decode cX4_init 17 = .ok (.aload_n 0, 1) := by decide +kernel
theorem dX4_init_18 : decode cX4_init 18 = .ok (.bipush 70, 2) := by decide +kernel
theorem dX4_init_20 : decode cX4_init 20 = .ok (.newarray .int, 2) := by decide +kernel
theorem dX4_init_22 : decode cX4_init 22 = .ok (.putfield 19, 3) := by decide +kernel
theorem dX4_init_25 : decode cX4_init 25 = .ok (.aload_n 0, 1) := by decide +kernel
theorem dX4_init_26 : decode cX4_init 26 = .ok (.bipush 7, 2) := by decide +kernel
theorem dX4_init_28 : decode cX4_init 28 = .ok (.newarray .int, 2) := by decide +kernel
theorem dX4_init_30 : decode cX4_init 30 = .ok (.putfield 22, 3) := by decide +kernel
theorem dX4_init_33 : decode cX4_init 33 = .ok (.aload_n 0, 1) := by decide +kernel
theorem dX4_init_34 : decode cX4_init 34 = .ok (.iconst 3, 1) := by decide +kernel
theorem dX4_init_35 : decode cX4_init 35 = .ok (.putfield 25, 3) := by decide +kernel
theorem dX4_init_38 : decode cX4_init 38 = .ok (.aload_n 0, 1) := by decide +kernel
theorem dX4_init_39 : decode cX4_init 39 = .ok (.iconst 0, 1) := by decide +kernel
theorem dX4_init_40 : decode cX4_init 40 = .ok (.putfield 28, 3) := by decide +kernel
theorem dX4_init_43 : decode cX4_init 43 = .ok (.aload_n 0, 1) := by decide +kernel
theorem dX4_init_44 : decode cX4_init 44 = .ok (.new 31, 3) := by decide +kernel
theorem dX4_init_47 : decode cX4_init 47 = .ok (.dup, 1) := by decide +kernel
theorem dX4_init_48 : decode cX4_init 48 = .ok (.invokespecial 33, 3) := by decide +kernel
theorem dX4_init_51 : decode cX4_init 51 = .ok (.putfield 34, 3) := by decide +kernel
theorem dX4_init_54 : decode cX4_init 54 = .ok (.aload_n 0, 1) := by decide +kernel
theorem dX4_init_55 : decode cX4_init 55 = .ok (.getfield 19, 3) := by decide +kernel
theorem dX4_init_58 : decode cX4_init 58 = .ok (.iconst 5, 1) := by decide +kernel
theorem dX4_init_59 : decode cX4_init 59 = .ok (.invokestatic 38, 3) := by decide +kernel
theorem dX4_init_62 : decode cX4_init 62 = .ok (.return_, 1) := by decide +kernel
theorem dX4_isOne_0 : decode cX4_isOne 0 = .ok (.iload_n 1, 1) := by decide +kernel
theorem dX4_isOne_1 : decode cX4_isOne 1 = .ok (.ifCond .lt 15, 3) := by decide +kernel
theorem dX4_isOne_4 : decode cX4_isOne 4 = .ok (.iload_n 1, 1) := by decide +kernel
theorem dX4_isOne_5 : decode cX4_isOne 5 = .ok (.aload_n 0, 1) := by decide +kernel
theorem dX4_isOne_6 : decode cX4_isOne 6 = .ok (.getfield 9, 3) := by decide +kernel
theorem dX4_isOne_9 : decode cX4_isOne 9 = .ok (.if_icmp .ge 7, 3) := by decide +kernel
theorem dX4_isOne_12 : decode cX4_isOne 12 = .ok (.iconst 1, 1) := by decide +kernel
theorem dX4_isOne_13 : decode cX4_isOne 13 = .ok (.goto 4, 3) := by decide +kernel
theorem dX4_isOne_16 : decode cX4_isOne 16 = .ok (.iconst 0, 1) := by decide +kernel
theorem dX4_isOne_17 : decode cX4_isOne 17 = .ok (.ireturn, 1) := by decide +kernel
theorem dX4_isPair_0 : decode cX4_isPair 0 = .ok (.iload_n 1, 1) := by decide +kernel
theorem dX4_isPair_1 : decode cX4_isPair 1 = .ok (.ifCond .lt 35, 3) := by decide +kernel
theorem dX4_isPair_4 : decode cX4_isPair 4 = .ok (.iload_n 1, 1) := by decide +kernel
theorem dX4_isPair_5 : decode cX4_isPair 5 = .ok (.bipush 70, 2) := by decide +kernel
theorem dX4_isPair_7 : decode cX4_isPair 7 = .ok (.if_icmp .ge 29, 3) := by decide +kernel
theorem dX4_isPair_10 : decode cX4_isPair 10 = .ok (.aload_n 0, 1) := by decide +kernel
theorem dX4_isPair_11 : decode cX4_isPair 11 = .ok (.iload_n 1, 1) := by decide +kernel
theorem dX4_isPair_12 : decode cX4_isPair 12 = .ok (.bipush 10, 2) := by decide +kernel
theorem dX4_isPair_14 : decode cX4_isPair 14 = .ok (.idiv, 1) := by decide +kernel
theorem dX4_isPair_15 : decode cX4_isPair 15 = .ok (.invokevirtual 44, 3) := by decide +kernel
theorem dX4_isPair_18 : decode cX4_isPair 18 = .ok (.ifCond .eq 18, 3) := by decide +kernel
theorem dX4_isPair_21 : decode cX4_isPair 21 = .ok (.aload_n 0, 1) := by decide +kernel
theorem dX4_isPair_22 : decode cX4_isPair 22 = .ok (.iload_n 1, 1) := by decide +kernel
theorem dX4_isPair_23 : decode cX4_isPair 23 = .ok (.bipush 10, 2) := by decide +kernel
theorem dX4_isPair_25 : decode cX4_isPair 25 = .ok (.irem, 1) := by decide +kernel
theorem dX4_isPair_26 : decode cX4_isPair 26 = .ok (.invokevirtual 44, 3) := by decide +kernel
theorem dX4_isPair_29 : decode cX4_isPair 29 = .ok (.ifCond .eq 7, 3) := by decide +kernel
theorem dX4_isPair_32 : decode cX4_isPair 32 = .ok (.iconst 1, 1) := by decide +kernel
theorem dX4_isPair_33 : decode cX4_isPair 33 = .ok (.goto 4, 3) := by decide +kernel
theorem dX4_isPair_36 : decode cX4_isPair 36 = .ok (.iconst 0, 1) := by decide +kernel
theorem dX4_isPair_37 : decode cX4_isPair 37 = .ok (.ireturn, 1) := by decide +kernel
theorem dX4_worthFor_0 : decode cX4_worthFor 0 = .ok (.iload_n 1, 1) := by decide +kernel
theorem dX4_worthFor_1 : decode cX4_worthFor 1 = .ok (.ifCond .lt 27, 3) := by decide +kernel
theorem dX4_worthFor_4 : decode cX4_worthFor 4 = .ok (.iload_n 1, 1) := by decide +kernel
theorem dX4_worthFor_5 : decode cX4_worthFor 5 = .ok (.aload_n 0, 1) := by decide +kernel
theorem dX4_worthFor_6 : decode cX4_worthFor 6 = .ok (.getfield 9, 3) := by decide +kernel
theorem dX4_worthFor_9 : decode cX4_worthFor 9 = .ok (.if_icmp .ge 19, 3) := by decide +kernel
theorem dX4_worthFor_12 : decode cX4_worthFor 12 = .ok (.iload_n 2, 1) := by decide +kernel
theorem dX4_worthFor_13 : decode cX4_worthFor 13 = .ok (.ifCond .lt 15, 3) := by decide +kernel
theorem dX4_worthFor_16 : decode cX4_worthFor 16 = .ok (.iload_n 2, 1) := by decide +kernel
theorem dX4_worthFor_17 : decode cX4_worthFor 17 = .ok (.aload_n 0, 1) := by decide +kernel
theorem dX4_worthFor_18 : decode cX4_worthFor 18 = .ok (.getfield 9, 3) := by decide +kernel
theorem dX4_worthFor_21 : decode cX4_worthFor 21 = .ok (.if_icmp .ge 7, 3) := by decide +kernel
theorem dX4_worthFor_24 : decode cX4_worthFor 24 = .ok (.iconst 1, 1) := by decide +kernel
theorem dX4_worthFor_25 : decode cX4_worthFor 25 = .ok (.goto 4, 3) := by decide +kernel
theorem dX4_worthFor_28 : decode cX4_worthFor 28 = .ok (.iconst 0, 1) := by decide +kernel
theorem dX4_worthFor_29 : decode cX4_worthFor 29 = .ok (.istore_n 3, 1) := by decide +kernel
