theorem dX0_init_0 : decode cX0_init 0 = .ok (.aload_n 0, 1) := by decide +kernel
theorem dX0_init_1 : decode cX0_init 1 = .ok (.invokespecial 3, 3) := by decide +kernel
theorem dX0_init_4 : decode cX0_init 4 = .ok (.aload_n 0, 1) := by decide +kernel
theorem dX0_init_5 : decode cX0_init 5 = .ok (.bipush 50, 2) := by decide +kernel
theorem dX0_init_7 : decode cX0_init 7 = .ok (.newarray .int, 2) := by decide +kernel
theorem dX0_init_9 : decode cX0_init 9 = .ok (.putfield 11, 3) := by decide +kernel
theorem dX0_init_12 : decode cX0_init 12 = .ok (.aload_n 0, 1) := by decide +kernel
theorem dX0_init_13 : decode cX0_init 13 = .ok (.iconst 0, 1) := by decide +kernel
theorem dX0_init_14 : decode cX0_init 14 = .ok (.putfield 15, 3) := by decide +kernel
theorem dX0_init_17 : decode cX0_init 17 = .ok (.aload_n 0, 1) := by decide +kernel
theorem dX0_init_18 : decode cX0_init 18 = .ok (.bipush 24, 2) := by decide +kernel
theorem dX0_init_20 : decode cX0_init 20 = .ok (.newarray .int, 2) := by decide +kernel
theorem dX0_init_22 : decode cX0_init 22 = .ok (.putfield 19, 3) := by decide +kernel
theorem dX0_init_25 : decode cX0_init 25 = .ok (.aload_n 0, 1) := by decide +kernel
theorem dX0_init_26 : decode cX0_init 26 = .ok (.iconst 0, 1) := by decide +kernel
theorem dX0_init_27 : decode cX0_init 27 = .ok (.putfield 22, 3) := by decide +kernel
theorem dX0_init_30 : decode cX0_init 30 = .ok (.aload_n 0, 1) := by decide +kernel
theorem dX0_init_31 : decode cX0_init 31 = .ok (.iconst 0, 1) := by decide +kernel
theorem dX0_init_32 : decode cX0_init 32 = .ok (.putfield 25, 3) := by decide +kernel
theorem dX0_init_35 : decode cX0_init 35 = .ok (.return_, 1) := by decide +kernel
theorem dX1_init_0 : decode cX1_init 0 = .ok (.aload_n 0, 1) := by decide +kernel
theorem dX1_init_1 : decode cX1_init 1 = .ok (.invokespecial 1, 3) := by decide +kernel
theorem dX1_init_4 : decode cX1_init 4 = .ok (.aload_n 0, 1) := by decide +kernel
theorem dX1_init_5 : decode cX1_init 5 = .ok (.bipush 40, 2) := by decide +kernel
theorem dX1_init_7 : decode cX1_init 7 = .ok (.newarray .int, 2) := by decide +kernel
theorem dX1_init_9 : decode cX1_init 9 = .ok (.putfield 9, 3) := by decide +kernel
theorem dX1_init_12 : decode cX1_init 12 = .ok (.aload_n 0, 1) := by decide +kernel
theorem dX1_init_13 : decode cX1_init 13 = .ok (.bipush 40, 2) := by decide +kernel
theorem dX1_init_15 : decode cX1_init 15 = .ok (.newarray .int, 2) := by decide +kernel
theorem dX1_init_17 : decode cX1_init 17 = .ok (.putfield 13, 3) := by decide +kernel
theorem dX1_init_20 : decode cX1_init 20 = .ok (.aload_n 0, 1) := by decide +kernel
theorem dX1_init_21 : decode cX1_init 21 = .ok (.bipush 40, 2) := by decide +kernel
theorem dX1_init_23 : decode cX1_init 23 = .ok (.newarray .int, 2) := by decide +kernel
theorem dX1_init_25 : decode cX1_init 25 = .ok (.putfield 16, 3) := by decide +kernel
theorem dX1_init_28 : decode cX1_init 28 = .ok (.aload_n 0, 1) := by decide +kernel
theorem dX1_init_29 : decode cX1_init 29 = .ok (.bipush 40, 2) := by decide +kernel
theorem dX1_init_31 : decode cX1_init 31 = .ok (.newarray .int, 2) := by decide +kernel
theorem dX1_init_33 : decode cX1_init 33 = .ok (.putfield 19, 3) := by decide +kernel
theorem dX1_init_36 : decode cX1_init 36 = .ok (.aload_n 0, 1) := by decide +kernel
theorem dX1_init_37 : decode cX1_init 37 = .ok (.iconst 0, 1) := by decide +kernel
theorem dX1_init_38 : decode cX1_init 38 = .ok (.putfield 22, 3) := by decide +kernel
theorem dX1_init_41 : decode cX1_init 41 = .ok (.aload_n 0, 1) := by decide +kernel
theorem dX1_init_42 : decode cX1_init 42 = .ok (.iconst 0, 1) := by decide +kernel
theorem dX1_init_43 : decode cX1_init 43 = .ok (.putfield 26, 3) := by decide +kernel
theorem dX1_init_46 : decode cX1_init 46 = .ok (.return_, 1) := by decide +kernel
theorem dX1_note_0 : decode cX1_note 0 = .ok (.iload_n 3, 1) := by decide +kernel
theorem dX1_note_1 : decode cX1_note 1 = .ok (.iload 4, 2) := by decide +kernel
theorem dX1_note_3 : decode cX1_note 3 = .ok (.if_icmp .ne 4, 3) := by decide +kernel
theorem dX1_note_6 : decode cX1_note 6 = .ok (.return_, 1) := by decide +kernel
theorem dX1_note_7 : decode cX1_note 7 = .ok (.aload_n 0, 1) := by decide +kernel
theorem dX1_note_8 : decode cX1_note 8 = .ok (.getfield 22, 3) := by decide +kernel
theorem dX1_note_11 : decode cX1_note 11 = .ok (.bipush 40, 2) := by decide +kernel
theorem dX1_note_13 : decode cX1_note 13 = .ok (.if_icmp .lt 7, 3) := by decide +kernel
theorem dX1_note_16 : decode cX1_note 16 = .ok (.aload_n 0, 1) := by decide +kernel
theorem dX1_note_17 : decode cX1_note 17 = .ok (.invokevirtual 29, 3) := by decide +kernel
theorem dX1_note_20 : decode cX1_note 20 = .ok (.aload_n 0, 1) := by decide +kernel
theorem dX1_note_21 : decode cX1_note 21 = .ok (.getfield 9, 3) := by decide +kernel
theorem dX1_note_24 : decode cX1_note 24 = .ok (.aload_n 0, 1) := by decide +kernel
theorem dX1_note_25 : decode cX1_note 25 = .ok (.getfield 22, 3) := by decide +kernel
theorem dX1_note_28 : decode cX1_note 28 = .ok (.iload_n 1, 1) := by decide +kernel
theorem dX1_note_29 : decode cX1_note 29 = .ok (.iastore, 1) := by decide +kernel
theorem dX1_note_30 : decode cX1_note 30 = .ok (.aload_n 0, 1) := by decide +kernel
theorem dX1_note_31 : decode cX1_note 31 = .ok (.getfield 13, 3) := by decide +kernel
theorem dX1_note_34 : decode cX1_note 34 = .ok (.aload_n 0, 1) := by decide +kernel
theorem dX1_note_35 : decode cX1_note 35 = .ok (.getfield 22, 3) := by decide +kernel
theorem dX1_note_38 : decode cX1_note 38 = .ok (.iload_n 2, 1) := by decide +kernel
theorem dX1_note_39 : decode cX1_note 39 = .ok (.iastore, 1) := by decide +kernel
theorem dX1_note_40 : decode cX1_note 40 = .ok (.aload_n 0, 1) := by decide +kernel
theorem dX1_note_41 : decode cX1_note 41 = .ok (.getfield 16, 3) := by decide +kernel
theorem dX1_note_44 : decode cX1_note 44 = .ok (.aload_n 0, 1) := by decide +kernel
theorem dX1_note_45 : decode cX1_note 45 = .ok (.getfield 22, 3) := by decide +kernel
theorem dX1_note_48 : decode cX1_note 48 = .ok (.iload_n 3, 1) := by decide +kernel
theorem dX1_note_49 : decode cX1_note 49 = .ok (.iastore, 1) := by decide +kernel
theorem dX1_note_50 : decode cX1_note 50 = .ok (.aload_n 0, 1) := by decide +kernel
theorem dX1_note_51 : decode cX1_note 51 = .ok (.getfield 19, 3) := by decide +kernel
theorem dX1_note_54 : decode cX1_note 54 = .ok (.aload_n 0, 1) := by decide +kernel
theorem dX1_note_55 : decode cX1_note 55 = .ok (.getfield 22, 3) := by decide +kernel
theorem dX1_note_58 : decode cX1_note 58 = .ok (.iload 4, 2) := by decide +kernel
theorem dX1_note_60 : decode cX1_note 60 = .ok (.iastore, 1) := by decide +kernel
theorem dX1_note_61 : decode cX1_note 61 = .ok (.aload_n 0, 1) := by decide +kernel
theorem dX1_note_62 : decode cX1_note 62 = .ok (.dup, 1) := by decide +kernel
theorem dX1_note_63 : decode cX1_note 63 = .ok (.getfield 22, 3) := by decide +kernel
theorem dX1_note_66 : decode cX1_note 66 = .ok (.iconst 1, 1) := by decide +kernel
theorem dX1_note_67 : decode cX1_note 67 = .ok (.iadd, 1) := by decide +kernel
theorem dX1_note_68 : decode cX1_note 68 = .ok (.putfield 22, 3) := by decide +kernel
theorem dX1_note_71 : decode cX1_note 71 = .ok (.aload_n 0, 1) := by decide +kernel
theorem dX1_note_72 : decode cX1_note 72 = .ok (.aload_n 0, 1) := by decide +kernel
theorem dX1_note_73 : decode cX1_note 73 = .ok (.getfield 22, 3) := by decide +kernel
theorem dX1_note_76 : decode cX1_note 76 = .ok (.putfield 26, 3) := by decide +kernel
theorem dX1_note_79 : decode cX1_note 79 = .ok (.return_, 1) := by decide +kernel
theorem dX1_forgetOldest_0 : decode cX1_forgetOldest 0 = .ok (.aload_n 0, 1) := by decide +kernel
theorem dX1_forgetOldest_1 : decode cX1_forgetOldest 1 = .ok (.getfield 9, 3) := by decide +kernel
theorem dX1_forgetOldest_4 : decode cX1_forgetOldest 4 = .ok (.iconst 1, 1) := by decide +kernel
theorem dX1_forgetOldest_5 : decode cX1_forgetOldest 5 = .ok (.aload_n 0, 1) := by decide +kernel
theorem dX1_forgetOldest_6 : decode cX1_forgetOldest 6 = .ok (.getfield 9, 3) := by decide +kernel
theorem dX1_forgetOldest_9 : decode cX1_forgetOldest 9 = .ok (.iconst 0, 1) := by decide +kernel
theorem dX1_forgetOldest_10 : decode cX1_forgetOldest 10 = .ok (.bipush 39, 2) := by decide +kernel
theorem dX1_forgetOldest_12 : decode cX1_forgetOldest 12 = .ok (.invokestatic 32, 3) := by decide +kernel
theorem dX1_forgetOldest_15 : decode cX1_forgetOldest 15 = .ok (.aload_n 0, 1) := by decide +kernel
theorem dX1_forgetOldest_16 : decode cX1_forgetOldest 16 = .ok (.getfield 13, 3) := by decide +kernel
theorem dX1_forgetOldest_19 : decode cX1_forgetOldest 19 = .ok (.iconst 1, 1) := by decide +kernel
theorem dX1_forgetOldest_20 : decode cX1_forgetOldest 20 = .ok (.aload_n 0, 1) := by decide +kernel
theorem dX1_forgetOldest_21 : decode cX1_forgetOldest 21 = .ok (.getfield 13, 3) := by decide +kernel
theorem dX1_forgetOldest_24 : decode cX1_forgetOldest 24 = .ok (.iconst 0, 1) := by decide +kernel
theorem dX1_forgetOldest_25 : decode cX1_forgetOldest 25 = .ok (.bipush 39, 2) := by decide +kernel
theorem dX1_forgetOldest_27 : decode cX1_forgetOldest 27 = .ok (.invokestatic 32, 3) := by decide +kernel
theorem dX1_forgetOldest_30 : decode cX1_forgetOldest 30 = .ok (.aload_n 0, 1) := by decide +kernel
theorem dX1_forgetOldest_31 : decode cX1_forgetOldest 31 = .ok (.getfield 16, 3) := by decide +kernel
theorem dX1_forgetOldest_34 : decode cX1_forgetOldest 34 = .ok (.iconst 1, 1) := by decide +kernel
theorem dX1_forgetOldest_35 : decode cX1_forgetOldest 35 = .ok (.aload_n 0, 1) := by decide +kernel
theorem dX1_forgetOldest_36 : decode cX1_forgetOldest 36 = .ok (.getfield 16, 3) := by decide +kernel
theorem dX1_forgetOldest_39 : decode cX1_forgetOldest 39 = .ok (.iconst 0, 1) := by decide +kernel
theorem dX1_forgetOldest_40 : decode cX1_forgetOldest 40 = .ok (.bipush 39, 2) := by decide +kernel
theorem dX1_forgetOldest_42 : decode cX1_forgetOldest 42 = .ok (.invokestatic 32, 3) := by decide +kernel
theorem dX1_forgetOldest_45 : decode cX1_forgetOldest 45 = .ok (.aload_n 0, 1) := by decide +kernel
theorem dX1_forgetOldest_46 : decode cX1_forgetOldest 46 = .ok (.getfield 19, 3) := by decide +kernel
theorem dX1_forgetOldest_49 : decode cX1_forgetOldest 49 = .ok (.iconst 1, 1) := by decide +kernel
theorem dX1_forgetOldest_50 : decode cX1_forgetOldest 50 = .ok (.aload_n 0, 1) := by decide +kernel
theorem dX1_forgetOldest_51 : decode cX1_forgetOldest 51 = .ok (.getfield 19, 3) := by decide +kernel
theorem dX1_forgetOldest_54 : decode cX1_forgetOldest 54 = .ok (.iconst 0, 1) := by decide +kernel
theorem dX1_forgetOldest_55 : decode cX1_forgetOldest 55 = .ok (.bipush 39, 2) := by decide +kernel
theorem dX1_forgetOldest_57 : decode cX1_forgetOldest 57 = .ok (.invokestatic 32, 3) := by decide +kernel
theorem dX1_forgetOldest_60 : decode cX1_forgetOldest 60 = .ok (.aload_n 0, 1) := by decide +kernel
theorem dX1_forgetOldest_61 : decode cX1_forgetOldest 61 = .ok (.bipush 39, 2) := by decide +kernel
theorem dX1_forgetOldest_63 : decode cX1_forgetOldest 63 = .ok (.putfield 22, 3) := by decide +kernel
theorem dX1_forgetOldest_66 : decode cX1_forgetOldest 66 = .ok (.return_, 1) := by decide +kernel
theorem dX2_init_0 : decode cX2_init 0 = .ok (.aload_n 0, 1) := by decide +kernel
theorem dX2_init_1 : decode cX2_init 1 = .ok (.invokespecial 3, 3) := by decide +kernel
theorem dX2_init_4 : decode cX2_init 4 = .ok (.aload_n 0, 1) := by decide +kernel
theorem dX2_init_5 : decode cX2_init 5 = .ok (.bipush 7, 2) := by decide +kernel
theorem dX2_init_7 : decode cX2_init 7 = .ok (.newarray .int, 2) := by decide +kernel
theorem dX2_init_9 : decode cX2_init 9 = .ok (.putfield 9, 3) := by decide +kernel
theorem dX2_init_12 : decode cX2_init 12 = .ok (.aload_n 0, 1) := by decide +kernel
theorem dX2_init_13 : decode cX2_init 13 = .ok (.bipush 7, 2) := by decide +kernel
theorem dX2_init_15 : decode cX2_init 15 = .ok (.newarray .int, 2) := by decide +kernel
theorem dX2_init_17 : decode cX2_init 17 = .ok (.putfield 15, 3) := by decide +kernel
theorem dX2_init_20 : decode cX2_init 20 = .ok (.aload_n 0, 1) := by decide +kernel
theorem dX2_init_21 : decode cX2_init 21 = .ok (.bipush 7, 2) := by decide +kernel
theorem dX2_init_23 : decode cX2_init 23 = .ok (.newarray .int, 2) := by decide +kernel
theorem dX2_init_25 : decode cX2_init 25 = .ok (.putfield 18, 3) := by decide +kernel
theorem dX2_init_28 : decode cX2_init 28 = .ok (.aload_n 0, 1) := by decide +kernel
theorem dX2_init_29 : decode cX2_init 29 = .ok (.bipush 7, 2) := by decide +kernel
theorem dX2_init_31 : decode cX2_init 31 = .ok (.newarray .int, 2) := by decide +kernel
theorem dX2_init_33 : decode cX2_init 33 = .ok (.putfield 21, 3) := by decide +kernel
theorem dX2_init_36 : decode cX2_init 36 = .ok (.aload_n 0, 1) := by decide +kernel
theorem dX2_init_37 : decode cX2_init 37 = .ok (.iconst 0, 1) := by decide +kernel
theorem dX2_init_38 : decode cX2_init 38 = .ok (.putfield 24, 3) := by decide +kernel
theorem dX2_init_41 : decode cX2_init 41 = .ok (.aload_n 0, 1) := by decide +kernel
theorem dX2_init_42 : decode cX2_init 42 = .ok (.iconst (-1), 1) := by decide +kernel
theorem dX2_init_43 : decode cX2_init 43 = .ok (.putfield 28, 3) := by decide +kernel
theorem dX2_init_46 : decode cX2_init 46 = .ok (.aload_n 0, 1) := by decide +kernel
theorem dX2_init_47 : decode cX2_init 47 = .ok (.iconst (-1), 1) := by decide +kernel
theorem dX2_init_48 : decode cX2_init 48 = .ok (.putfield 31, 3) := by decide +kernel
theorem dX2_init_51 : decode cX2_init 51 = .ok (.aload_n 0, 1) := by decide +kernel
theorem dX2_init_52 : decode cX2_init 52 = .ok (.iconst 0, 1) := by decide +kernel
theorem dX2_init_53 : decode cX2_init 53 = .ok (.putfield 34, 3) := by decide +kernel
theorem dX2_init_56 : decode cX2_init 56 = .ok (.aload_n 0, 1) := by decide +kernel
theorem dX2_init_57 : decode cX2_init 57 = .ok (.iconst (-1), 1) := by decide +kernel
theorem dX2_init_58 : decode cX2_init 58 = .ok (.putfield 38, 3) := by decide +kernel
theorem dX2_init_61 : decode cX2_init 61 = .ok (.aload_n 0, 1) := by decide +kernel
theorem dX2_init_62 : decode cX2_init 62 = .ok (.iconst (-1), 1) := by decide +kernel
theorem dX2_init_63 : decode cX2_init 63 = .ok (.putfield 41, 3) := by decide +kernel
theorem dX2_init_66 : decode cX2_init 66 = .ok (.aload_n 0, 1) := by decide +kernel
theorem dX2_init_67 : decode cX2_init 67 = .ok (.iconst 0, 1) := by decide +kernel
theorem dX2_init_68 : decode cX2_init 68 = .ok (.putfield 44, 3) := by decide +kernel
theorem dX2_init_71 : decode cX2_init 71 = .ok (.aload_n 0, 1) := by decide +kernel
theorem dX2_init_72 : decode cX2_init 72 = .ok (.getfield 15, 3) := by decide +kernel
theorem dX2_init_75 : decode cX2_init 75 = .ok (.iconst (-1), 1) := by decide +kernel
theorem dX2_init_76 : decode cX2_init 76 = .ok (.invokestatic 47, 3) := by decide +kernel
theorem dX2_init_79 : decode cX2_init 79 = .ok (.aload_n 0, 1) := by decide +kernel
theorem dX2_init_80 : decode cX2_init 80 = .ok (.getfield 18, 3) := by decide +kernel
theorem dX2_init_83 : decode cX2_init 83 = .ok (.iconst (-1), 1) := by decide +kernel
theorem dX2_init_84 : decode cX2_init 84 = .ok (.invokestatic 47, 3) := by decide +kernel
theorem dX2_init_87 : decode cX2_init 87 = .ok (.return_, 1) := by decide +kernel
theorem dX2_hasBegun_0 : decode cX2_hasBegun 0 = .ok (.aload_n 0, 1) := by decide +kernel
theorem dX2_hasBegun_1 : decode cX2_hasBegun 1 = .ok (.getfield 24, 3) := by decide +kernel
theorem dX2_hasBegun_4 : decode cX2_hasBegun 4 = .ok (.ifCond .le 7, 3) := by decide +kernel
theorem dX2_hasBegun_7 : decode cX2_hasBegun 7 = .ok (.iconst 1, 1) := by decide +kernel
theorem dX2_hasBegun_8 : decode cX2_hasBegun 8 = .ok (.goto 4, 3) := by decide +kernel
theorem dX2_hasBegun_11 : decode cX2_hasBegun 11 = .ok (.iconst 0, 1) := by decide +kernel
theorem dX2_hasBegun_12 : decode cX2_hasBegun 12 = .ok (.ireturn, 1) := by decide +kernel
theorem dX2_hasEnded_0 : decode cX2_hasEnded 0 = .ok (.aload_n 0, 1) := by decide +kernel
theorem dX2_hasEnded_1 : decode cX2_hasEnded 1 = .ok (.invokevirtual 53, 3) := by decide +kernel
theorem dX2_hasEnded_4 : decode cX2_hasEnded 4 = .ok (.ifCond .eq 18, 3) := by decide +kernel
theorem dX2_hasEnded_7 : decode cX2_hasEnded 7 = .ok (.aload_n 0, 1) := by decide +kernel
theorem dX2_hasEnded_8 : decode cX2_hasEnded 8 = .ok (.getfield 24, 3) := by decide +kernel
theorem dX2_hasEnded_11 : decode cX2_hasEnded 11 = .ok (.aload_n 1, 1) := by decide +kernel
theorem dX2_hasEnded_12 : decode cX2_hasEnded 12 = .ok (.getfield 57, 3) := by decide +kernel
theorem dX2_hasEnded_15 : decode cX2_hasEnded 15 = .ok (.if_icmp .lt 7, 3) := by decide +kernel
theorem dX2_hasEnded_18 : decode cX2_hasEnded 18 = .ok (.iconst 1, 1) := by decide +kernel
theorem dX2_hasEnded_19 : decode cX2_hasEnded 19 = .ok (.goto 4, 3) := by decide +kernel
theorem dX2_hasEnded_22 : decode cX2_hasEnded 22 = .ok (.iconst 0, 1) := by decide +kernel
theorem dX2_hasEnded_23 : decode cX2_hasEnded 23 = .ok (.ireturn, 1) := by decide +kernel
theorem dX2_wrapAll_0 : decode cX2_wrapAll 0 = .ok (.aload_n 0, 1) := by decide +kernel
theorem dX2_wrapAll_1 : decode cX2_wrapAll 1 = .ok (.getfield 15, 3) := by decide +kernel
theorem dX2_wrapAll_4 : decode cX2_wrapAll 4 = .ok (.iconst (-1), 1) := by decide +kernel
theorem dX2_wrapAll_5 : decode cX2_wrapAll 5 = .ok (.invokestatic 47, 3) := by decide +kernel
theorem dX2_wrapAll_8 : decode cX2_wrapAll 8 = .ok (.aload_n 0, 1) := by decide +kernel
theorem dX2_wrapAll_9 : decode cX2_wrapAll 9 = .ok (.getfield 18, 3) := by decide +kernel
theorem dX2_wrapAll_12 : decode cX2_wrapAll 12 = .ok (.iconst (-1), 1) := by decide +kernel
theorem dX2_wrapAll_13 : decode cX2_wrapAll 13 = .ok (.invokestatic 47, 3) := by decide +kernel
theorem dX2_wrapAll_16 : decode cX2_wrapAll 16 = .ok (.aload_n 0, 1) := by decide +kernel
theorem dX2_wrapAll_17 : decode cX2_wrapAll 17 = .ok (.getfield 21, 3) := by decide +kernel
theorem dX2_wrapAll_20 : decode cX2_wrapAll 20 = .ok (.iconst 0, 1) := by decide +kernel
theorem dX2_wrapAll_21 : decode cX2_wrapAll 21 = .ok (.invokestatic 47, 3) := by decide +kernel
theorem dX2_wrapAll_24 : decode cX2_wrapAll 24 = .ok (.aload_n 0, 1) := by decide +kernel
theorem dX2_wrapAll_25 : decode cX2_wrapAll 25 = .ok (.iconst 0, 1) := by decide +kernel
theorem dX2_wrapAll_26 : decode cX2_wrapAll 26 = .ok (.putfield 24, 3) := by decide +kernel
theorem dX2_wrapAll_29 : decode cX2_wrapAll 29 = .ok (.aload_n 0, 1) := by decide +kernel
theorem dX2_wrapAll_30 : decode cX2_wrapAll 30 = .ok (.iconst (-1), 1) := by decide +kernel
theorem dX2_wrapAll_31 : decode cX2_wrapAll 31 = .ok (.putfield 28, 3) := by decide +kernel
theorem dX2_wrapAll_34 : decode cX2_wrapAll 34 = .ok (.aload_n 0, 1) := by decide +kernel
theorem dX2_wrapAll_35 : decode cX2_wrapAll 35 = .ok (.iconst (-1), 1) := by decide +kernel
theorem dX2_wrapAll_36 : decode cX2_wrapAll 36 = .ok (.putfield 31, 3) := by decide +kernel
theorem dX2_wrapAll_39 : decode cX2_wrapAll 39 = .ok (.aload_n 0, 1) := by decide +kernel
theorem dX2_wrapAll_40 : decode cX2_wrapAll 40 = .ok (.iconst 0, 1) := by decide +kernel
theorem dX2_wrapAll_41 : decode cX2_wrapAll 41 = .ok (.putfield 34, 3) := by decide +kernel
theorem dX2_wrapAll_44 : decode cX2_wrapAll 44 = .ok (.return_, 1) := by decide +kernel
theorem dX2_become_0 : decode cX2_become 0 = .ok (.aload_n 1, 1) := by decide +kernel
theorem dX2_become_1 : decode cX2_become 1 = .ok (.getfield 9, 3) := by decide +kernel
theorem dX2_become_4 : decode cX2_become 4 = .ok (.iconst 0, 1) := by decide +kernel
theorem dX2_become_5 : decode cX2_become 5 = .ok (.aload_n 0, 1) := by decide +kernel
theorem dX2_become_6 : decode cX2_become 6 = .ok (.getfield 9, 3) := by decide +kernel
theorem dX2_become_9 : decode cX2_become 9 = .ok (.iconst 0, 1) := by decide +kernel
theorem dX2_become_10 : decode cX2_become 10 = .ok (.bipush 7, 2) := by decide +kernel
theorem dX2_become_12 : decode cX2_become 12 = .ok (.invokestatic 62, 3) := by decide +kernel
theorem dX2_become_15 : decode cX2_become 15 = .ok (.aload_n 1, 1) := by decide +kernel
theorem dX2_become_16 : decode cX2_become 16 = .ok (.getfield 15, 3) := by decide +kernel
theorem dX2_become_19 : decode cX2_become 19 = .ok (.iconst 0, 1) := by decide +kernel
theorem dX2_become_20 : decode cX2_become 20 = .ok (.aload_n 0, 1) := by decide +kernel
theorem dX2_become_21 : decode cX2_become 21 = .ok (.getfield 15, 3) := by decide +kernel
theorem dX2_become_24 : decode cX2_become 24 = .ok (.iconst 0, 1) := by decide +kernel
theorem dX2_become_25 : decode cX2_become 25 = .ok (.bipush 7, 2) := by decide +kernel
theorem dX2_become_27 : decode cX2_become 27 = .ok (.invokestatic 62, 3) := by decide +kernel
theorem dX2_become_30 : decode cX2_become 30 = .ok (.aload_n 1, 1) := by decide +kernel
theorem dX2_become_31 : decode cX2_become 31 = .ok (.getfield 18, 3) := by decide +kernel
theorem dX2_become_34 : decode cX2_become 34 = .ok (.iconst 0, 1) := by decide +kernel
theorem dX2_become_35 : decode cX2_become 35 = .ok (.aload_n 0, 1) := by decide +kernel
theorem dX2_become_36 : decode cX2_become 36 = .ok (.getfield 18, 3) := by decide +kernel
theorem dX2_become_39 : decode cX2_become 39 = .ok (.iconst 0, 1) := by decide +kernel
theorem dX2_become_40 : decode cX2_become 40 = .ok (.bipush 7, 2) := by decide +kernel
theorem dX2_become_42 : decode cX2_become 42 = .ok (.invokestatic 62, 3) := by decide +kernel
theorem dX2_become_45 : decode cX2_become 45 = .ok (.aload_n 1, 1) := by decide +kernel
theorem dX2_become_46 : decode cX2_become 46 = .ok (.getfield 21, 3) := by decide +kernel
theorem dX2_become_49 : decode cX2_become 49 = .ok (.iconst 0, 1) := by decide +kernel
theorem dX2_become_50 : decode cX2_become 50 = .ok (.aload_n 0, 1) := by decide +kernel
theorem dX2_become_51 : decode cX2_become 51 = .ok (.getfield 21, 3) := by decide +kernel
theorem dX2_become_54 : decode cX2_become 54 = .ok (.iconst 0, 1) := by decide +kernel
theorem dX2_become_55 : decode cX2_become 55 = .ok (.bipush 7, 2) := by decide +kernel
theorem dX2_become_57 : decode cX2_become 57 = .ok (.invokestatic 62, 3) := by decide +kernel
theorem dX2_become_60 : decode cX2_become 60 = .ok (.aload_n 0, 1) := by decide +kernel
theorem dX2_become_61 : decode cX2_become 61 = .ok (.aload_n 1, 1) := by decide +kernel
theorem dX2_become_62 : decode cX2_become 62 = .ok (.getfield 24, 3) := by decide +kernel
theorem dX2_become_65 : decode cX2_become 65 = .ok (.putfield 24, 3) := by decide +kernel
theorem dX2_become_68 : decode cX2_become 68 = .ok (.aload_n 0, 1) := by decide +kernel
theorem dX2_become_69 : decode cX2_become 69 = .ok (.aload_n 1, 1) := by decide +kernel
theorem dX2_become_70 : decode cX2_become 70 = .ok (.getfield 28, 3) := by decide +kernel
theorem dX2_become_73 : decode cX2_become 73 = .ok (.putfield 28, 3) := by decide +kernel
theorem dX2_become_76 : decode cX2_become 76 = .ok (.aload_n 0, 1) := by decide +kernel
theorem dX2_become_77 : decode cX2_become 77 = .ok (.aload_n 1, 1) := by decide +kernel
theorem dX2_become_78 : decode cX2_become 78 = .ok (.getfield 31, 3) := by decide +kernel
theorem dX2_become_81 : decode cX2_become 81 = .ok (.putfield 31, 3) := by decide +kernel
theorem dX2_become_84 : decode cX2_become 84 = .ok (.aload_n 0, 1) := by decide +kernel
theorem dX2_become_85 : decode cX2_become 85 = .ok (.aload_n 1, 1) := by decide +kernel
theorem dX2_become_86 : decode cX2_become 86 = .ok (.getfield 34, 3) := by decide +kernel
theorem dX2_become_89 : decode cX2_become 89 = .ok (.putfield 34, 3) := by decide +kernel
theorem dX2_become_92 : decode cX2_become 92 = .ok (.aload_n 0, 1) := by decide +kernel
theorem dX2_become_93 : decode cX2_become 93 = .ok (.aload_n 1, 1) := by decide +kernel
theorem dX2_become_94 : decode cX2_become 94 = .ok (.getfield 38, 3) := by decide +kernel
theorem dX2_become_97 : decode cX2_become 97 = .ok (.putfield 38, 3) := by decide +kernel
theorem dX2_become_100 : decode cX2_become 100 = .ok (.aload_n 0, 1) := by decide +kernel
theorem dX2_become_101 : decode cX2_become 101 = .ok (.aload_n 1, 1) := by decide +kernel
theorem dX2_become_102 : decode cX2_become 102 = .ok (.getfield 41, 3) := by decide +kernel
theorem dX2_become_105 : decode cX2_become 105 = .ok (.putfield 41, 3) := by decide +kernel
theorem dX2_become_108 : decode cX2_become 108 = .ok (.aload_n 0, 1) := by decide +kernel
theorem dX2_become_109 : decode cX2_become 109 = .ok (.aload_n 1, 1) := by decide +kernel
theorem dX2_become_110 : decode cX2_become 110 = .ok (.getfield 44, 3) := by decide +kernel
theorem dX2_become_113 : decode cX2_become 113 = .ok (.putfield 44, 3) := by decide +kernel
theorem dX2_become_116 : decode cX2_become 116 = .ok (.return_, 1) := by decide +kernel
theorem dX2_beginBy_0 : decode cX2_beginBy 0 = .ok (.aload_n 1, 1) := by decide +kernel
theorem dX2_beginBy_1 : decode cX2_beginBy 1 = .ok (.iconst 0, 1) := by decide +kernel
theorem dX2_beginBy_2 : decode cX2_beginBy 2 = .ok (.aload_n 0, 1) := by decide +kernel
theorem dX2_beginBy_3 : decode cX2_beginBy 3 = .ok (.getfield 9, 3) := by decide +kernel
theorem dX2_beginBy_6 : decode cX2_beginBy 6 = .ok (.iconst 0, 1) := by decide +kernel
theorem dX2_beginBy_7 : decode cX2_beginBy 7 = .ok (.bipush 7, 2) := by decide +kernel
theorem dX2_beginBy_9 : decode cX2_beginBy 9 = .ok (.invokestatic 62, 3) := by decide +kernel
theorem dX2_beginBy_12 : decode cX2_beginBy 12 = .ok (.aload_n 0, 1) := by decide +kernel
theorem dX2_beginBy_13 : decode cX2_beginBy 13 = .ok (.invokevirtual 68, 3) := by decide +kernel
theorem dX2_beginBy_16 : decode cX2_beginBy 16 = .ok (.aload_n 0, 1) := by decide +kernel
theorem dX2_beginBy_17 : decode cX2_beginBy 17 = .ok (.iconst 0, 1) := by decide +kernel
theorem dX2_beginBy_18 : decode cX2_beginBy 18 = .ok (.putfield 44, 3) := by decide +kernel
theorem dX2_beginBy_21 : decode cX2_beginBy 21 = .ok (.return_, 1) := by decide +kernel
theorem dX2_changePlaces_0 : decode cX2_changePlaces 0 = .ok (.aload_n 0, 1) := by decide +kernel
theorem dX2_changePlaces_1 : decode cX2_changePlaces 1 = .ok (.getfield 9, 3) := by decide +kernel
theorem dX2_changePlaces_4 : decode cX2_changePlaces 4 = .ok (.iload_n 1, 1) := by decide +kernel
theorem dX2_changePlaces_5 : decode cX2_changePlaces 5 = .ok (.iaload, 1) := by decide +kernel
theorem dX2_changePlaces_6 : decode cX2_changePlaces 6 = .ok (.istore_n 3, 1) := by decide +kernel
theorem dX2_changePlaces_7 : decode cX2_changePlaces 7 = .ok (.aload_n 0, 1) := by decide +kernel
theorem dX2_changePlaces_8 : decode cX2_changePlaces 8 = .ok (.getfield 9, 3) := by decide +kernel
theorem dX2_changePlaces_11 : decode cX2_changePlaces 11 = .ok (.iload_n 1, 1) := by decide +kernel
theorem dX2_changePlaces_12 : decode cX2_changePlaces 12 = .ok (.aload_n 0, 1) := by decide +kernel
theorem dX2_changePlaces_13 : decode cX2_changePlaces 13 = .ok (.getfield 9, 3) := by decide +kernel
theorem dX2_changePlaces_16 : decode cX2_changePlaces 16 = .ok (.iload_n 2, 1) := by decide +kernel
theorem dX2_changePlaces_17 : decode cX2_changePlaces 17 = .ok (.iaload, 1) := by decide +kernel
theorem dX2_changePlaces_18 : decode cX2_changePlaces 18 = .ok (.iastore, 1) := by decide +kernel
theorem dX2_changePlaces_19 : decode cX2_changePlaces 19 = .ok (.aload_n 0, 1) := by decide +kernel
theorem dX2_changePlaces_20 : decode cX2_changePlaces 20 = .ok (.getfield 9, 3) := by decide +kernel
theorem dX2_changePlaces_23 : decode cX2_changePlaces 23 = .ok (.iload_n 2, 1) := by decide +kernel
theorem dX2_changePlaces_24 : decode cX2_changePlaces 24 = .ok (.iload_n 3, 1) := by decide +kernel
theorem dX2_changePlaces_25 : decode cX2_changePlaces 25 = .ok (.iastore, 1) := by decide +kernel
theorem dX2_changePlaces_26 : decode cX2_changePlaces 26 = .ok (.return_, 1) := by decide +kernel
theorem dX2_whoseTurn_0 : decode cX2_whoseTurn 0 = .ok (.aload_n 0, 1) := by decide +kernel
theorem dX2_whoseTurn_1 : decode cX2_whoseTurn 1 = .ok (.getfield 28, 3) := by decide +kernel
theorem dX2_whoseTurn_4 : decode cX2_whoseTurn 4 = .ok (.iconst (-1), 1) := by decide +kernel
theorem dX2_whoseTurn_5 : decode cX2_whoseTurn 5 = .ok (.if_icmp .eq 8, 3) := by decide +kernel
theorem dX2_whoseTurn_8 : decode cX2_whoseTurn 8 = .ok (.aload_n 0, 1) := by decide +kernel
theorem dX2_whoseTurn_9 : decode cX2_whoseTurn 9 = .ok (.getfield 28, 3) := by decide +kernel
theorem dX2_whoseTurn_12 : decode cX2_whoseTurn 12 = .ok (.ireturn, 1) := by decide +kernel
theorem dX2_whoseTurn_13 : decode cX2_whoseTurn 13 = .ok (.aload_n 0, 1) := by decide +kernel
theorem dX2_whoseTurn_14 : decode cX2_whoseTurn 14 = .ok (.getfield 24, 3) := by decide +kernel
theorem dX2_whoseTurn_17 : decode cX2_whoseTurn 17 = .ok (.aload_n 1, 1) := by decide +kernel
theorem dX2_whoseTurn_18 : decode cX2_whoseTurn 18 = .ok (.getfield 57, 3) := by decide +kernel
theorem dX2_whoseTurn_21 : decode cX2_whoseTurn 21 = .ok (.if_icmp .ge 24, 3) := by decide +kernel
theorem dX2_whoseTurn_24 : decode cX2_whoseTurn 24 = .ok (.aload_n 0, 1) := by decide +kernel
theorem dX2_whoseTurn_25 : decode cX2_whoseTurn 25 = .ok (.getfield 24, 3) := by decide +kernel
theorem dX2_whoseTurn_28 : decode cX2_whoseTurn 28 = .ok (.bipush 7, 2) := by decide +kernel
theorem dX2_whoseTurn_30 : decode cX2_whoseTurn 30 = .ok (.if_icmp .ge 15, 3) := by decide +kernel
theorem dX2_whoseTurn_33 : decode cX2_whoseTurn 33 = .ok (.aload_n 0, 1) := by decide +kernel
theorem dX2_whoseTurn_34 : decode cX2_whoseTurn 34 = .ok (.getfield 9, 3) := by decide +kernel
theorem dX2_whoseTurn_37 : decode cX2_whoseTurn 37 = .ok (.aload_n 0, 1) := by decide +kernel
theorem dX2_whoseTurn_38 : decode cX2_whoseTurn 38 = .ok (.getfield 24, 3) := by decide +kernel
theorem dX2_whoseTurn_41 : decode cX2_whoseTurn 41 = .ok (.iaload, 1) := by decide +kernel
theorem dX2_whoseTurn_42 : decode cX2_whoseTurn 42 = .ok (.goto 5, 3) := by decide +kernel
theorem dX2_whoseTurn_45 : decode cX2_whoseTurn 45 = .ok (.bipush (-2), 2) := by decide +kernel
theorem dX2_whoseTurn_47 : decode cX2_whoseTurn 47 = .ok (.ireturn, 1) := by decide +kernel
theorem dX2_isSafe_0 : decode cX2_isSafe 0 = .ok (.aload_n 0, 1) := by decide +kernel
theorem dX2_isSafe_1 : decode cX2_isSafe 1 = .ok (.getfield 21, 3) := by decide +kernel
theorem dX2_isSafe_4 : decode cX2_isSafe 4 = .ok (.iload_n 1, 1) := by decide +kernel
theorem dX2_isSafe_5 : decode cX2_isSafe 5 = .ok (.iaload, 1) := by decide +kernel
theorem dX2_isSafe_6 : decode cX2_isSafe 6 = .ok (.aload_n 2, 1) := by decide +kernel
theorem dX2_isSafe_7 : decode cX2_isSafe 7 = .ok (.getfield 71, 3) := by decide +kernel
theorem dX2_isSafe_10 : decode cX2_isSafe 10 = .ok (.if_icmp .lt 7, 3) := by decide +kernel
theorem dX2_isSafe_13 : decode cX2_isSafe 13 = .ok (.iconst 1, 1) := by decide +kernel
theorem dX2_isSafe_14 : decode cX2_isSafe 14 = .ok (.goto 4, 3) := by decide +kernel
theorem dX2_isSafe_17 : decode cX2_isSafe 17 = .ok (.iconst 0, 1) := by decide +kernel
theorem dX2_isSafe_18 : decode cX2_isSafe 18 = .ok (.ireturn, 1) := by decide +kernel
theorem dX2_countSafe_0 : decode cX2_countSafe 0 = .ok (.iconst 0, 1) := by decide +kernel
theorem dX2_countSafe_1 : decode cX2_countSafe 1 = .ok (.istore_n 2, 1) := by decide +kernel
theorem dX2_countSafe_2 : decode cX2_countSafe 2 = .ok (.iconst 0, 1) := by decide +kernel
theorem dX2_countSafe_3 : decode cX2_countSafe 3 = .ok (.istore_n 3, 1) := by decide +kernel
theorem dX2_countSafe_4 : decode cX2_countSafe 4 = .ok (.iload_n 3, 1) := by decide +kernel
theorem dX2_countSafe_5 : decode cX2_countSafe 5 = .ok (.aload_n 1, 1) := by decide +kernel
theorem dX2_countSafe_6 : decode cX2_countSafe 6 = .ok (.getfield 57, 3) := by decide +kernel
theorem dX2_countSafe_9 : decode cX2_countSafe 9 = .ok (.if_icmp .ge 21, 3) := by decide +kernel
theorem dX2_countSafe_12 : decode cX2_countSafe 12 = .ok (.aload_n 0, 1) := by decide +kernel
theorem dX2_countSafe_13 : decode cX2_countSafe 13 = .ok (.iload_n 3, 1) := by decide +kernel
theorem dX2_countSafe_14 : decode cX2_countSafe 14 = .ok (.aload_n 1, 1) := by decide +kernel
theorem dX2_countSafe_15 : decode cX2_countSafe 15 = .ok (.invokevirtual 74, 3) := by decide +kernel
theorem dX2_countSafe_18 : decode cX2_countSafe 18 = .ok (.ifCond .eq 6, 3) := by decide +kernel
theorem dX2_countSafe_21 : decode cX2_countSafe 21 = .ok (.iinc 2 1, 3) := by decide +kernel
theorem dX2_countSafe_24 : decode cX2_countSafe 24 = .ok (.iinc 3 1, 3) := by decide +kernel
theorem dX2_countSafe_27 : decode cX2_countSafe 27 = .ok (.goto (-23), 3) := by decide +kernel
theorem dX2_countSafe_30 : decode cX2_countSafe 30 = .ok (.iload_n 2, 1) := by decide +kernel
theorem dX2_countSafe_31 : decode cX2_countSafe 31 = .ok (.ireturn, 1) := by decide +kernel
theorem dX2_mayRob_0 : decode cX2_mayRob 0 = .ok (.iload_n 1, 1) := by decide +kernel
theorem dX2_mayRob_1 : decode cX2_mayRob 1 = .ok (.ifCond .lt 32, 3) := by decide +kernel
theorem dX2_mayRob_4 : decode cX2_mayRob 4 = .ok (.iload_n 1, 1) := by decide +kernel
theorem dX2_mayRob_5 : decode cX2_mayRob 5 = .ok (.aload_n 0, 1) := by decide +kernel
theorem dX2_mayRob_6 : decode cX2_mayRob 6 = .ok (.getfield 24, 3) := by decide +kernel
theorem dX2_mayRob_9 : decode cX2_mayRob 9 = .ok (.if_icmp .ge 24, 3) := by decide +kernel
theorem dX2_mayRob_12 : decode cX2_mayRob 12 = .ok (.iload_n 1, 1) := by decide +kernel
theorem dX2_mayRob_13 : decode cX2_mayRob 13 = .ok (.aload_n 0, 1) := by decide +kernel
theorem dX2_mayRob_14 : decode cX2_mayRob 14 = .ok (.getfield 31, 3) := by decide +kernel
theorem dX2_mayRob_17 : decode cX2_mayRob 17 = .ok (.if_icmp .eq 16, 3) := by decide +kernel
theorem dX2_mayRob_20 : decode cX2_mayRob 20 = .ok (.aload_n 0, 1) := by decide +kernel
theorem dX2_mayRob_21 : decode cX2_mayRob 21 = .ok (.iload_n 1, 1) := by decide +kernel
theorem dX2_mayRob_22 : decode cX2_mayRob 22 = .ok (.aload_n 2, 1) := by decide +kernel
theorem dX2_mayRob_23 : decode cX2_mayRob 23 = .ok (.invokevirtual 74, 3) := by decide +kernel
theorem dX2_mayRob_26 : decode cX2_mayRob 26 = .ok (.ifCond .ne 7, 3) := by decide +kernel
theorem dX2_mayRob_29 : decode cX2_mayRob 29 = .ok (.iconst 1, 1) := by decide +kernel
theorem dX2_mayRob_30 : decode cX2_mayRob 30 = .ok (.goto 4, 3) := by decide +kernel
theorem dX2_mayRob_33 : decode cX2_mayRob 33 = .ok (.iconst 0, 1) := by decide +kernel
theorem dX2_mayRob_34 : decode cX2_mayRob 34 = .ok (.ireturn, 1) := by decide +kernel
theorem dX2_unwrap_0 : decode cX2_unwrap 0 = .ok (.aload_n 0, 1) := by decide +kernel
theorem dX2_unwrap_1 : decode cX2_unwrap 1 = .ok (.getfield 24, 3) := by decide +kernel
theorem dX2_unwrap_4 : decode cX2_unwrap 4 = .ok (.bipush 7, 2) := by decide +kernel
theorem dX2_unwrap_6 : decode cX2_unwrap 6 = .ok (.if_icmp .lt 6, 3) := by decide +kernel
theorem dX2_unwrap_9 : decode cX2_unwrap 9 = .ok (.bipush (-5), 2) := by decide +kernel
theorem dX2_unwrap_11 : decode cX2_unwrap 11 = .ok (.ireturn, 1) := by decide +kernel
theorem dX2_unwrap_12 : decode cX2_unwrap 12 = .ok (.aload_n 0, 1) := by decide +kernel
theorem dX2_unwrap_13 : decode cX2_unwrap 13 = .ok (.getfield 24, 3) := by decide +kernel
theorem dX2_unwrap_16 : decode cX2_unwrap 16 = .ok (.istore_n 2, 1) := by decide +kernel
theorem dX2_unwrap_17 : decode cX2_unwrap 17 = .ok (.aload_n 0, 1) := by decide +kernel
theorem dX2_unwrap_18 : decode cX2_unwrap 18 = .ok (.dup, 1) := by decide +kernel
theorem dX2_unwrap_19 : decode cX2_unwrap 19 = .ok (.getfield 24, 3) := by decide +kernel
theorem dX2_unwrap_22 : decode cX2_unwrap 22 = .ok (.iconst 1, 1) := by decide +kernel
theorem dX2_unwrap_23 : decode cX2_unwrap 23 = .ok (.iadd, 1) := by decide +kernel
theorem dX2_unwrap_24 : decode cX2_unwrap 24 = .ok (.putfield 24, 3) := by decide +kernel
theorem dX2_unwrap_27 : decode cX2_unwrap 27 = .ok (.aload_n 0, 1) := by decide +kernel
theorem dX2_unwrap_28 : decode cX2_unwrap 28 = .ok (.iconst (-1), 1) := by decide +kernel
theorem dX2_unwrap_29 : decode cX2_unwrap 29 = .ok (.putfield 28, 3) := by decide +kernel
theorem dX2_unwrap_32 : decode cX2_unwrap 32 = .ok (.aload_n 0, 1) := by decide +kernel
theorem dX2_unwrap_33 : decode cX2_unwrap 33 = .ok (.iconst (-1), 1) := by decide +kernel
theorem dX2_unwrap_34 : decode cX2_unwrap 34 = .ok (.putfield 31, 3) := by decide +kernel
theorem dX2_unwrap_37 : decode cX2_unwrap 37 = .ok (.aload_n 0, 1) := by decide +kernel
theorem dX2_unwrap_38 : decode cX2_unwrap 38 = .ok (.iload_n 1, 1) := by decide +kernel
theorem dX2_unwrap_39 : decode cX2_unwrap 39 = .ok (.iload_n 2, 1) := by decide +kernel
theorem dX2_unwrap_40 : decode cX2_unwrap 40 = .ok (.invokevirtual 78, 3) := by decide +kernel
theorem dX2_unwrap_43 : decode cX2_unwrap 43 = .ok (.iload_n 2, 1) := by decide +kernel
theorem dX2_unwrap_44 : decode cX2_unwrap 44 = .ok (.ireturn, 1) := by decide +kernel
theorem dX2_rob_0 : decode cX2_rob 0 = .ok (.aload_n 0, 1) := by decide +kernel
theorem dX2_rob_1 : decode cX2_rob 1 = .ok (.getfield 18, 3) := by decide +kernel
theorem dX2_rob_4 : decode cX2_rob 4 = .ok (.iload_n 2, 1) := by decide +kernel
theorem dX2_rob_5 : decode cX2_rob 5 = .ok (.iaload, 1) := by decide +kernel
theorem dX2_rob_6 : decode cX2_rob 6 = .ok (.istore_n 3, 1) := by decide +kernel
theorem dX2_rob_7 : decode cX2_rob 7 = .ok (.iload_n 3, 1) := by decide +kernel
theorem dX2_rob_8 : decode cX2_rob 8 = .ok (.ifCond .ge 6, 3) := by decide +kernel
theorem dX2_rob_11 : decode cX2_rob 11 = .ok (.bipush (-2), 2) := by decide +kernel
theorem dX2_rob_13 : decode cX2_rob 13 = .ok (.ireturn, 1) := by decide +kernel
theorem dX2_rob_14 : decode cX2_rob 14 = .ok (.aload_n 0, 1) := by decide +kernel
theorem dX2_rob_15 : decode cX2_rob 15 = .ok (.getfield 15, 3) := by decide +kernel
theorem dX2_rob_18 : decode cX2_rob 18 = .ok (.iload_n 3, 1) := by decide +kernel
theorem dX2_rob_19 : decode cX2_rob 19 = .ok (.iconst (-1), 1) := by decide +kernel
theorem dX2_rob_20 : decode cX2_rob 20 = .ok (.iastore, 1) := by decide +kernel
theorem dX2_rob_21 : decode cX2_rob 21 = .ok (.aload_n 0, 1) := by decide +kernel
theorem dX2_rob_22 : decode cX2_rob 22 = .ok (.getfield 21, 3) := by decide +kernel
theorem dX2_rob_25 : decode cX2_rob 25 = .ok (.iload_n 2, 1) := by decide +kernel
theorem dX2_rob_26 : decode cX2_rob 26 = .ok (.dup2, 1) := by decide +kernel
theorem dX2_rob_27 : decode cX2_rob 27 = .ok (.iaload, 1) := by decide +kernel
theorem dX2_rob_28 : decode cX2_rob 28 = .ok (.iconst 1, 1) := by decide +kernel
theorem dX2_rob_29 : decode cX2_rob 29 = .ok (.iadd, 1) := by decide +kernel
theorem dX2_rob_30 : decode cX2_rob 30 = .ok (.iastore, 1) := by decide +kernel
theorem dX2_rob_31 : decode cX2_rob 31 = .ok (.aload_n 0, 1) := by decide +kernel
theorem dX2_rob_32 : decode cX2_rob 32 = .ok (.iload_n 3, 1) := by decide +kernel
theorem dX2_rob_33 : decode cX2_rob 33 = .ok (.putfield 28, 3) := by decide +kernel
theorem dX2_rob_36 : decode cX2_rob 36 = .ok (.aload_n 0, 1) := by decide +kernel
theorem dX2_rob_37 : decode cX2_rob 37 = .ok (.iload_n 2, 1) := by decide +kernel
theorem dX2_rob_38 : decode cX2_rob 38 = .ok (.putfield 31, 3) := by decide +kernel
theorem dX2_rob_41 : decode cX2_rob 41 = .ok (.aload_n 0, 1) := by decide +kernel
theorem dX2_rob_42 : decode cX2_rob 42 = .ok (.iload_n 1, 1) := by decide +kernel
theorem dX2_rob_43 : decode cX2_rob 43 = .ok (.iload_n 2, 1) := by decide +kernel
theorem dX2_rob_44 : decode cX2_rob 44 = .ok (.invokevirtual 78, 3) := by decide +kernel
theorem dX2_rob_47 : decode cX2_rob 47 = .ok (.iload_n 3, 1) := by decide +kernel
theorem dX2_rob_48 : decode cX2_rob 48 = .ok (.ireturn, 1) := by decide +kernel
theorem dX2_give_0 : decode cX2_give 0 = .ok (.aload_n 0, 1) := by decide +kernel
theorem dX2_give_1 : decode cX2_give 1 = .ok (.getfield 15, 3) := by decide +kernel
theorem dX2_give_4 : decode cX2_give 4 = .ok (.iload_n 1, 1) := by decide +kernel
theorem dX2_give_5 : decode cX2_give 5 = .ok (.iload_n 2, 1) := by decide +kernel
theorem dX2_give_6 : decode cX2_give 6 = .ok (.iastore, 1) := by decide +kernel
theorem dX2_give_7 : decode cX2_give 7 = .ok (.aload_n 0, 1) := by decide +kernel
theorem dX2_give_8 : decode cX2_give 8 = .ok (.getfield 18, 3) := by decide +kernel
theorem dX2_give_11 : decode cX2_give 11 = .ok (.iload_n 2, 1) := by decide +kernel
theorem dX2_give_12 : decode cX2_give 12 = .ok (.iload_n 1, 1) := by decide +kernel
theorem dX2_give_13 : decode cX2_give 13 = .ok (.iastore, 1) := by decide +kernel
theorem dX2_give_14 : decode cX2_give 14 = .ok (.aload_n 0, 1) := by decide +kernel
theorem dX2_give_15 : decode cX2_give 15 = .ok (.iload_n 1, 1) := by decide +kernel
theorem dX2_give_16 : decode cX2_give 16 = .ok (.putfield 38, 3) := by decide +kernel
theorem dX2_give_19 : decode cX2_give 19 = .ok (.aload_n 0, 1) := by decide +kernel
theorem dX2_give_20 : decode cX2_give 20 = .ok (.iload_n 2, 1) := by decide +kernel
theorem dX2_give_21 : decode cX2_give 21 = .ok (.putfield 41, 3) := by decide +kernel
theorem dX2_give_24 : decode cX2_give 24 = .ok (.aload_n 0, 1) := by decide +kernel
theorem dX2_give_25 : decode cX2_give 25 = .ok (.dup, 1) := by decide +kernel
theorem dX2_give_26 : decode cX2_give 26 = .ok (.getfield 44, 3) := by decide +kernel
theorem dX2_give_29 : decode cX2_give 29 = .ok (.iconst 1, 1) := by decide +kernel
theorem dX2_give_30 : decode cX2_give 30 = .ok (.iadd, 1) := by decide +kernel
theorem dX2_give_31 : decode cX2_give 31 = .ok (.putfield 44, 3) := by decide +kernel
theorem dX2_give_34 : decode cX2_give 34 = .ok (.return_, 1) := by decide +kernel
theorem dX2_playTill_0 : decode cX2_playTill 0 = .ok (.iconst 0, 1) := by decide +kernel
theorem dX2_playTill_1 : decode cX2_playTill 1 = .ok (.istore_n 3, 1) := by decide +kernel
theorem dX2_playTill_2 : decode cX2_playTill 2 = .ok (.aload_n 0, 1) := by decide +kernel
theorem dX2_playTill_3 : decode cX2_playTill 3 = .ok (.aload_n 2, 1) := by decide +kernel
theorem dX2_playTill_4 : decode cX2_playTill 4 = .ok (.invokevirtual 82, 3) := by decide +kernel
theorem dX2_playTill_7 : decode cX2_playTill 7 = .ok (.istore 4, 2) := by decide +kernel
theorem dX2_playTill_9 : decode cX2_playTill 9 = .ok (.iload_n 3, 1) := by decide +kernel
theorem dX2_playTill_10 : decode cX2_playTill 10 = .ok (.bipush 100, 2) := by decide +kernel
theorem dX2_playTill_12 : decode cX2_playTill 12 = .ok (.if_icmp .ge 104, 3) := by decide +kernel
theorem dX2_playTill_15 : decode cX2_playTill 15 = .ok (.iload 4, 2) := by decide +kernel
theorem dX2_playTill_17 : decode cX2_playTill 17 = .ok (.ifCond .lt 99, 3) := by decide +kernel
theorem dX2_playTill_20 : decode cX2_playTill 20 = .ok (.aload_n 0, 1) := by decide +kernel
theorem dX2_playTill_21 : decode cX2_playTill 21 = .ok (.getfield 24, 3) := by decide +kernel
theorem dX2_playTill_24 : decode cX2_playTill 24 = .ok (.iload_n 1, 1) := by decide +kernel
theorem dX2_playTill_25 : decode cX2_playTill 25 = .ok (.if_icmp .ge 91, 3) := by decide +kernel
theorem dX2_playTill_28 : decode cX2_playTill 28 = .ok (.aload_n 2, 1) := by decide +kernel
theorem dX2_playTill_29 : decode cX2_playTill 29 = .ok (.getfield 86, 3) := by decide +kernel
theorem dX2_playTill_32 : decode cX2_playTill 32 = .ok (.iload 4, 2) := by decide +kernel
theorem dX2_playTill_34 : decode cX2_playTill 34 = .ok (.iaload, 1) := by decide +kernel
theorem dX2_playTill_35 : decode cX2_playTill 35 = .ok (.istore 5, 2) := by decide +kernel
theorem dX2_playTill_37 : decode cX2_playTill 37 = .ok (.iload 5, 2) := by decide +kernel
theorem dX2_playTill_39 : decode cX2_playTill 39 = .ok (.iconst 2, 1) := by decide +kernel
theorem dX2_playTill_40 : decode cX2_playTill 40 = .ok (.if_icmp .ne 13, 3) := by decide +kernel
theorem dX2_playTill_43 : decode cX2_playTill 43 = .ok (.aload_n 0, 1) := by decide +kernel
theorem dX2_playTill_44 : decode cX2_playTill 44 = .ok (.iload 4, 2) := by decide +kernel
theorem dX2_playTill_46 : decode cX2_playTill 46 = .ok (.aload_n 2, 1) := by decide +kernel
theorem dX2_playTill_47 : decode cX2_playTill 47 = .ok (.invokevirtual 89, 3) := by decide +kernel
theorem dX2_playTill_50 : decode cX2_playTill 50 = .ok (.goto 26, 3) := by decide +kernel
theorem dX2_playTill_53 : decode cX2_playTill 53 = .ok (.iload 5, 2) := by decide +kernel
theorem dX2_playTill_55 : decode cX2_playTill 55 = .ok (.iconst 1, 1) := by decide +kernel
theorem dX2_playTill_56 : decode cX2_playTill 56 = .ok (.if_icmp .ne 13, 3) := by decide +kernel
theorem dX2_playTill_59 : decode cX2_playTill 59 = .ok (.aload_n 0, 1) := by decide +kernel
theorem dX2_playTill_60 : decode cX2_playTill 60 = .ok (.iload 4, 2) := by decide +kernel
theorem dX2_playTill_62 : decode cX2_playTill 62 = .ok (.aload_n 2, 1) := by decide +kernel
theorem dX2_playTill_63 : decode cX2_playTill 63 = .ok (.invokevirtual 93, 3) := by decide +kernel
theorem dX2_playTill_66 : decode cX2_playTill 66 = .ok (.goto 10, 3) := by decide +kernel
theorem dX2_playTill_69 : decode cX2_playTill 69 = .ok (.aload_n 0, 1) := by decide +kernel
theorem dX2_playTill_70 : decode cX2_playTill 70 = .ok (.iload 4, 2) := by decide +kernel
theorem dX2_playTill_72 : decode cX2_playTill 72 = .ok (.aload_n 2, 1) := by decide +kernel
theorem dX2_playTill_73 : decode cX2_playTill 73 = .ok (.invokevirtual 96, 3) := by decide +kernel
theorem dX2_playTill_76 : decode cX2_playTill 76 = .ok (.istore 6, 2) := by decide +kernel
theorem dX2_playTill_78 : decode cX2_playTill 78 = .ok (.iload 6, 2) := by decide +kernel
theorem dX2_playTill_80 : decode cX2_playTill 80 = .ok (.iconst (-1), 1) := by decide +kernel
theorem dX2_playTill_81 : decode cX2_playTill 81 = .ok (.if_icmp .ne 13, 3) := by decide +kernel
theorem dX2_playTill_84 : decode cX2_playTill 84 = .ok (.aload_n 0, 1) := by decide +kernel
theorem dX2_playTill_85 : decode cX2_playTill 85 = .ok (.iload 4, 2) := by decide +kernel
theorem dX2_playTill_87 : decode cX2_playTill 87 = .ok (.invokevirtual 99, 3) := by decide +kernel
theorem dX2_playTill_90 : decode cX2_playTill 90 = .ok (.pop, 1) := by decide +kernel
theorem dX2_playTill_91 : decode cX2_playTill 91 = .ok (.goto 12, 3) := by decide +kernel
theorem dX2_playTill_94 : decode cX2_playTill 94 = .ok (.aload_n 0, 1) := by decide +kernel
theorem dX2_playTill_95 : decode cX2_playTill 95 = .ok (.iload 4, 2) := by decide +kernel
theorem dX2_playTill_97 : decode cX2_playTill 97 = .ok (.iload 6, 2) := by decide +kernel
theorem dX2_playTill_99 : decode cX2_playTill 99 = .ok (.invokevirtual 103, 3) := by decide +kernel
theorem dX2_playTill_102 : decode cX2_playTill 102 = .ok (.pop, 1) := by decide +kernel
theorem dX2_playTill_103 : decode cX2_playTill 103 = .ok (.iinc 3 1, 3) := by decide +kernel
theorem dX2_playTill_106 : decode cX2_playTill 106 = .ok (.aload_n 0, 1) := by decide +kernel
theorem dX2_playTill_107 : decode cX2_playTill 107 = .ok (.aload_n 2, 1) := by decide +kernel
theorem dX2_playTill_108 : decode cX2_playTill 108 = .ok (.invokevirtual 82, 3) := by decide +kernel
theorem dX2_playTill_111 : decode cX2_playTill 111 = .ok (.istore 4, 2) := by decide +kernel
theorem dX2_playTill_113 : decode cX2_playTill 113 = .ok (.goto (-104), 3) := by decide +kernel
theorem dX2_playTill_116 : decode cX2_playTill 116 = .ok (.iload_n 3, 1) := by decide +kernel
theorem dX2_playTill_117 : decode cX2_playTill 117 = .ok (.ireturn, 1) := by decide +kernel
theorem dX2_guess_0 : decode cX2_guess 0 = .ok (.aload_n 2, 1) := by decide +kernel
theorem dX2_guess_1 : decode cX2_guess 1 = .ok (.getfield 57, 3) := by decide +kernel
theorem dX2_guess_4 : decode cX2_guess 4 = .ok (.aload_n 0, 1) := by decide +kernel
theorem dX2_guess_5 : decode cX2_guess 5 = .ok (.getfield 24, 3) := by decide +kernel
theorem dX2_guess_8 : decode cX2_guess 8 = .ok (.isub, 1) := by decide +kernel
theorem dX2_guess_9 : decode cX2_guess 9 = .ok (.istore_n 3, 1) := by decide +kernel
theorem dX2_guess_10 : decode cX2_guess 10 = .ok (.iconst 0, 1) := by decide +kernel
theorem dX2_guess_11 : decode cX2_guess 11 = .ok (.istore 4, 2) := by decide +kernel
theorem dX2_guess_13 : decode cX2_guess 13 = .ok (.aload_n 0, 1) := by decide +kernel
theorem dX2_guess_14 : decode cX2_guess 14 = .ok (.getfield 24, 3) := by decide +kernel
theorem dX2_guess_17 : decode cX2_guess 17 = .ok (.istore 5, 2) := by decide +kernel
theorem dX2_guess_19 : decode cX2_guess 19 = .ok (.iload 5, 2) := by decide +kernel
theorem dX2_guess_21 : decode cX2_guess 21 = .ok (.aload_n 2, 1) := by decide +kernel
theorem dX2_guess_22 : decode cX2_guess 22 = .ok (.getfield 57, 3) := by decide +kernel
theorem dX2_guess_25 : decode cX2_guess 25 = .ok (.if_icmp .ge 21, 3) := by decide +kernel
theorem dX2_guess_28 : decode cX2_guess 28 = .ok (.iload 4, 2) := by decide +kernel
theorem dX2_guess_30 : decode cX2_guess 30 = .ok (.aload_n 2, 1) := by decide +kernel
theorem dX2_guess_31 : decode cX2_guess 31 = .ok (.iload_n 1, 1) := by decide +kernel
theorem dX2_guess_32 : decode cX2_guess 32 = .ok (.iload 5, 2) := by decide +kernel
theorem dX2_guess_34 : decode cX2_guess 34 = .ok (.invokevirtual 107, 3) := by decide +kernel
theorem dX2_guess_37 : decode cX2_guess 37 = .ok (.iadd, 1) := by decide +kernel
theorem dX2_guess_38 : decode cX2_guess 38 = .ok (.istore 4, 2) := by decide +kernel
theorem dX2_guess_40 : decode cX2_guess 40 = .ok (.iinc 5 1, 3) := by decide +kernel
theorem dX2_guess_43 : decode cX2_guess 43 = .ok (.goto (-24), 3) := by decide +kernel
theorem dX2_guess_46 : decode cX2_guess 46 = .ok (.iload_n 3, 1) := by decide +kernel
theorem dX2_guess_47 : decode cX2_guess 47 = .ok (.ifCond .gt 7, 3) := by decide +kernel
theorem dX2_guess_50 : decode cX2_guess 50 = .ok (.iconst 0, 1) := by decide +kernel
theorem dX2_guess_51 : decode cX2_guess 51 = .ok (.goto 7, 3) := by decide +kernel
theorem dX2_guess_54 : decode cX2_guess 54 = .ok (.iload 4, 2) := by decide +kernel
theorem dX2_guess_56 : decode cX2_guess 56 = .ok (.iload_n 3, 1) := by decide +kernel
theorem dX2_guess_57 : decode cX2_guess 57 = .ok (.idiv, 1) := by decide +kernel
theorem dX2_guess_58 : decode cX2_guess 58 = .ok (.ireturn, 1) := by decide +kernel
theorem dX2_ofMostWorth_0 : decode cX2_ofMostWorth 0 = .ok (.aload_n 0, 1) := by decide +kernel
theorem dX2_ofMostWorth_1 : decode cX2_ofMostWorth 1 = .ok (.iload_n 1, 1) := by decide +kernel
theorem dX2_ofMostWorth_2 : decode cX2_ofMostWorth 2 = .ok (.aload_n 2, 1) := by decide +kernel
theorem dX2_ofMostWorth_3 : decode cX2_ofMostWorth 3 = .ok (.invokevirtual 110, 3) := by decide +kernel
theorem dX2_ofMostWorth_6 : decode cX2_ofMostWorth 6 = .ok (.istore_n 3, 1) := by decide +kernel
theorem dX2_ofMostWorth_7 : decode cX2_ofMostWorth 7 = .ok (.iconst (-1), 1) := by decide +kernel
theorem dX2_ofMostWorth_8 : decode cX2_ofMostWorth 8 = .ok (.istore 4, 2) := by decide +kernel
theorem dX2_ofMostWorth_10 : decode cX2_ofMostWorth 10 = .ok (.iconst 0, 1) := by decide +kernel
theorem dX2_ofMostWorth_11 : decode cX2_ofMostWorth 11 = .ok (.istore 5, 2) := by decide +kernel
theorem dX2_ofMostWorth_13 : decode cX2_ofMostWorth 13 = .ok (.iload 5, 2) := by decide +kernel
theorem dX2_ofMostWorth_15 : decode cX2_ofMostWorth 15 = .ok (.aload_n 0, 1) := by decide +kernel
theorem dX2_ofMostWorth_16 : decode cX2_ofMostWorth 16 = .ok (.getfield 24, 3) := by decide +kernel
theorem dX2_ofMostWorth_19 : decode cX2_ofMostWorth 19 = .ok (.if_icmp .ge 42, 3) := by decide +kernel
theorem dX2_ofMostWorth_22 : decode cX2_ofMostWorth 22 = .ok (.aload_n 0, 1) := by decide +kernel
theorem dX2_ofMostWorth_23 : decode cX2_ofMostWorth 23 = .ok (.iload 5, 2) := by decide +kernel
theorem dX2_ofMostWorth_25 : decode cX2_ofMostWorth 25 = .ok (.aload_n 2, 1) := by decide +kernel
theorem dX2_ofMostWorth_26 : decode cX2_ofMostWorth 26 = .ok (.invokevirtual 113, 3) := by decide +kernel
theorem dX2_ofMostWorth_29 : decode cX2_ofMostWorth 29 = .ok (.ifCond .eq 26, 3) := by decide +kernel
theorem dX2_ofMostWorth_32 : decode cX2_ofMostWorth 32 = .ok (.aload_n 2, 1) := by decide +kernel
theorem dX2_ofMostWorth_33 : decode cX2_ofMostWorth 33 = .ok (.iload_n 1, 1) := by decide +kernel
theorem dX2_ofMostWorth_34 : decode cX2_ofMostWorth 34 = .ok (.iload 5, 2) := by decide +kernel
theorem dX2_ofMostWorth_36 : decode cX2_ofMostWorth 36 = .ok (.invokevirtual 107, 3) := by decide +kernel
theorem dX2_ofMostWorth_39 : decode cX2_ofMostWorth 39 = .ok (.iload_n 3, 1) := by decide +kernel
theorem dX2_ofMostWorth_40 : decode cX2_ofMostWorth 40 = .ok (.if_icmp .le 15, 3) := by decide +kernel
theorem dX2_ofMostWorth_43 : decode cX2_ofMostWorth 43 = .ok (.aload_n 2, 1) := by decide +kernel
theorem dX2_ofMostWorth_44 : decode cX2_ofMostWorth 44 = .ok (.iload_n 1, 1) := by decide +kernel
theorem dX2_ofMostWorth_45 : decode cX2_ofMostWorth 45 = .ok (.iload 5, 2) := by decide +kernel
theorem dX2_ofMostWorth_47 : decode cX2_ofMostWorth 47 = .ok (.invokevirtual 107, 3) := by decide +kernel
theorem dX2_ofMostWorth_50 : decode cX2_ofMostWorth 50 = .ok (.istore_n 3, 1) := by decide +kernel
theorem dX2_ofMostWorth_51 : decode cX2_ofMostWorth 51 = .ok (.iload 5, 2) := by decide +kernel
theorem dX2_ofMostWorth_53 : decode cX2_ofMostWorth 53 = .ok (.istore 4, 2) := by decide +kernel
theorem dX2_ofMostWorth_55 : decode cX2_ofMostWorth 55 = .ok (.iinc 5 1, 3) := by decide +kernel
theorem dX2_ofMostWorth_58 : decode cX2_ofMostWorth 58 = .ok (.goto (-45), 3) := by decide +kernel
theorem dX2_ofMostWorth_61 : decode cX2_ofMostWorth 61 = .ok (.iload 4, 2) := by decide +kernel
theorem dX2_ofMostWorth_63 : decode cX2_ofMostWorth 63 = .ok (.ireturn, 1) := by decide +kernel
theorem dX2_fromWhomItLikesLeast_0 : decode cX2_fromWhomItLikesLeast 0 = .ok (.aload_n 0, 1) := by decide +kernel
theorem dX2_fromWhomItLikesLeast_1 : decode cX2_fromWhomItLikesLeast 1 = .ok (.iload_n 1, 1) := by decide +kernel
theorem dX2_fromWhomItLikesLeast_2 : decode cX2_fromWhomItLikesLeast 2 = .ok (.aload_n 2, 1) := by decide +kernel
theorem dX2_fromWhomItLikesLeast_3 : decode cX2_fromWhomItLikesLeast 3 = .ok (.invokevirtual 110, 3) := by decide +kernel
theorem dX2_fromWhomItLikesLeast_6 : decode cX2_fromWhomItLikesLeast 6 = .ok (.istore_n 3, 1) := by decide +kernel
theorem dX2_fromWhomItLikesLeast_7 : decode cX2_fromWhomItLikesLeast 7 = .ok (.bipush 10, 2) := by decide +kernel
theorem dX2_fromWhomItLikesLeast_9 : decode cX2_fromWhomItLikesLeast 9 = .ok (.istore 4, 2) := by decide +kernel
theorem dX2_fromWhomItLikesLeast_11 : decode cX2_fromWhomItLikesLeast 11 = .ok (.iconst (-1), 1) := by decide +kernel
theorem dX2_fromWhomItLikesLeast_12 : decode cX2_fromWhomItLikesLeast 12 = .ok (.istore 5, 2) := by decide +kernel
theorem dX2_fromWhomItLikesLeast_14 : decode cX2_fromWhomItLikesLeast 14 = .ok (.iconst 0, 1) := by decide +kernel
theorem dX2_fromWhomItLikesLeast_15 : decode cX2_fromWhomItLikesLeast 15 = .ok (.istore 6, 2) := by decide +kernel
theorem dX2_fromWhomItLikesLeast_17 : decode cX2_fromWhomItLikesLeast 17 = .ok (.iload 6, 2) := by decide +kernel
theorem dX2_fromWhomItLikesLeast_19 : decode cX2_fromWhomItLikesLeast 19 = .ok (.aload_n 0, 1) := by decide +kernel
theorem dX2_fromWhomItLikesLeast_20 : decode cX2_fromWhomItLikesLeast 20 = .ok (.getfield 24, 3) := by decide +kernel
theorem dX2_fromWhomItLikesLeast_23 : decode cX2_fromWhomItLikesLeast 23 = .ok (.if_icmp .ge 59, 3) := by decide +kernel
theorem dX2_fromWhomItLikesLeast_26 : decode cX2_fromWhomItLikesLeast 26 = .ok (.aload_n 2, 1) := by decide +kernel
theorem dX2_fromWhomItLikesLeast_27 : decode cX2_fromWhomItLikesLeast 27 = .ok (.iload_n 1, 1) := by decide +kernel
theorem dX2_fromWhomItLikesLeast_28 : decode cX2_fromWhomItLikesLeast 28 = .ok (.aload_n 0, 1) := by decide +kernel
theorem dX2_fromWhomItLikesLeast_29 : decode cX2_fromWhomItLikesLeast 29 = .ok (.getfield 18, 3) := by decide +kernel
theorem dX2_fromWhomItLikesLeast_32 : decode cX2_fromWhomItLikesLeast 32 = .ok (.iload 6, 2) := by decide +kernel
theorem dX2_fromWhomItLikesLeast_34 : decode cX2_fromWhomItLikesLeast 34 = .ok (.iaload, 1) := by decide +kernel
theorem dX2_fromWhomItLikesLeast_35 : decode cX2_fromWhomItLikesLeast 35 = .ok (.invokevirtual 116, 3) := by decide +kernel
theorem dX2_fromWhomItLikesLeast_38 : decode cX2_fromWhomItLikesLeast 38 = .ok (.istore 7, 2) := by decide +kernel
theorem dX2_fromWhomItLikesLeast_40 : decode cX2_fromWhomItLikesLeast 40 = .ok (.aload_n 0, 1) := by decide +kernel
theorem dX2_fromWhomItLikesLeast_41 : decode cX2_fromWhomItLikesLeast 41 = .ok (.iload 6, 2) := by decide +kernel
theorem dX2_fromWhomItLikesLeast_43 : decode cX2_fromWhomItLikesLeast 43 = .ok (.aload_n 2, 1) := by decide +kernel
theorem dX2_fromWhomItLikesLeast_44 : decode cX2_fromWhomItLikesLeast 44 = .ok (.invokevirtual 113, 3) := by decide +kernel
theorem dX2_fromWhomItLikesLeast_47 : decode cX2_fromWhomItLikesLeast 47 = .ok (.ifCond .eq 29, 3) := by decide +kernel
theorem dX2_fromWhomItLikesLeast_50 : decode cX2_fromWhomItLikesLeast 50 = .ok (.aload_n 2, 1) := by decide +kernel
theorem dX2_fromWhomItLikesLeast_51 : decode cX2_fromWhomItLikesLeast 51 = .ok (.iload_n 1, 1) := by decide +kernel
theorem dX2_fromWhomItLikesLeast_52 : decode cX2_fromWhomItLikesLeast 52 = .ok (.iload 6, 2) := by decide +kernel
theorem dX2_fromWhomItLikesLeast_54 : decode cX2_fromWhomItLikesLeast 54 = .ok (.invokevirtual 107, 3) := by decide +kernel
theorem dX2_fromWhomItLikesLeast_57 : decode cX2_fromWhomItLikesLeast 57 = .ok (.iload_n 3, 1) := by decide +kernel
theorem dX2_fromWhomItLikesLeast_58 : decode cX2_fromWhomItLikesLeast 58 = .ok (.if_icmp .le 18, 3) := by decide +kernel
theorem dX2_fromWhomItLikesLeast_61 : decode cX2_fromWhomItLikesLeast 61 = .ok (.iload 7, 2) := by decide +kernel
theorem dX2_fromWhomItLikesLeast_63 : decode cX2_fromWhomItLikesLeast 63 = .ok (.iload 4, 2) := by decide +kernel
theorem dX2_fromWhomItLikesLeast_65 : decode cX2_fromWhomItLikesLeast 65 = .ok (.if_icmp .ge 11, 3) := by decide +kernel
theorem dX2_fromWhomItLikesLeast_68 : decode cX2_fromWhomItLikesLeast 68 = .ok (.iload 7, 2) := by decide +kernel
theorem dX2_fromWhomItLikesLeast_70 : decode cX2_fromWhomItLikesLeast 70 = .ok (.istore 4, 2) := by decide +kernel
theorem dX2_fromWhomItLikesLeast_72 : decode cX2_fromWhomItLikesLeast 72 = .ok (.iload 6, 2) := by decide +kernel
theorem dX2_fromWhomItLikesLeast_74 : decode cX2_fromWhomItLikesLeast 74 = .ok (.istore 5, 2) := by decide +kernel
theorem dX2_fromWhomItLikesLeast_76 : decode cX2_fromWhomItLikesLeast 76 = .ok (.iinc 6 1, 3) := by decide +kernel
theorem dX2_fromWhomItLikesLeast_79 : decode cX2_fromWhomItLikesLeast 79 = .ok (.goto (-62), 3) := by decide +kernel
theorem dX2_fromWhomItLikesLeast_82 : decode cX2_fromWhomItLikesLeast 82 = .ok (.iload 5, 2) := by decide +kernel
theorem dX2_fromWhomItLikesLeast_84 : decode cX2_fromWhomItLikesLeast 84 = .ok (.ireturn, 1) := by decide +kernel
theorem dX2_byTheLaw_0 : decode cX2_byTheLaw 0 = .ok (.aload_n 2, 1) := by decide +kernel
theorem dX2_byTheLaw_1 : decode cX2_byTheLaw 1 = .ok (.getfield 57, 3) := by decide +kernel
theorem dX2_byTheLaw_4 : decode cX2_byTheLaw 4 = .ok (.aload_n 0, 1) := by decide +kernel
theorem dX2_byTheLaw_5 : decode cX2_byTheLaw 5 = .ok (.getfield 24, 3) := by decide +kernel
theorem dX2_byTheLaw_8 : decode cX2_byTheLaw 8 = .ok (.isub, 1) := by decide +kernel
theorem dX2_byTheLaw_9 : decode cX2_byTheLaw 9 = .ok (.istore_n 3, 1) := by decide +kernel
theorem dX2_byTheLaw_10 : decode cX2_byTheLaw 10 = .ok (.aload_n 2, 1) := by decide +kernel
theorem dX2_byTheLaw_11 : decode cX2_byTheLaw 11 = .ok (.getfield 119, 3) := by decide +kernel
theorem dX2_byTheLaw_14 : decode cX2_byTheLaw 14 = .ok (.aload_n 0, 1) := by decide +kernel
theorem dX2_byTheLaw_15 : decode cX2_byTheLaw 15 = .ok (.iload_n 1, 1) := by decide +kernel
theorem dX2_byTheLaw_16 : decode cX2_byTheLaw 16 = .ok (.aload_n 2, 1) := by decide +kernel
theorem dX2_byTheLaw_17 : decode cX2_byTheLaw 17 = .ok (.invokevirtual 110, 3) := by decide +kernel
theorem dX2_byTheLaw_20 : decode cX2_byTheLaw 20 = .ok (.iconst 0, 1) := by decide +kernel
theorem dX2_byTheLaw_21 : decode cX2_byTheLaw 21 = .ok (.iconst 0, 1) := by decide +kernel
theorem dX2_byTheLaw_22 : decode cX2_byTheLaw 22 = .ok (.iconst 0, 1) := by decide +kernel
theorem dX2_byTheLaw_23 : decode cX2_byTheLaw 23 = .ok (.iconst 1, 1) := by decide +kernel
theorem dX2_byTheLaw_24 : decode cX2_byTheLaw 24 = .ok (.iload_n 3, 1) := by decide +kernel
theorem dX2_byTheLaw_25 : decode cX2_byTheLaw 25 = .ok (.invokevirtual 123, 3) := by decide +kernel
theorem dX2_byTheLaw_28 : decode cX2_byTheLaw 28 = .ok (.istore 4, 2) := by decide +kernel
theorem dX2_byTheLaw_30 : decode cX2_byTheLaw 30 = .ok (.iconst (-1), 1) := by decide +kernel
theorem dX2_byTheLaw_31 : decode cX2_byTheLaw 31 = .ok (.istore 5, 2) := by decide +kernel
theorem dX2_byTheLaw_33 : decode cX2_byTheLaw 33 = .ok (.iconst 0, 1) := by decide +kernel
theorem dX2_byTheLaw_34 : decode cX2_byTheLaw 34 = .ok (.istore 6, 2) := by decide +kernel
theorem dX2_byTheLaw_36 : decode cX2_byTheLaw 36 = .ok (.iload 6, 2) := by decide +kernel
theorem dX2_byTheLaw_38 : decode cX2_byTheLaw 38 = .ok (.aload_n 0, 1) := by decide +kernel
theorem dX2_byTheLaw_39 : decode cX2_byTheLaw 39 = .ok (.getfield 24, 3) := by decide +kernel
theorem dX2_byTheLaw_42 : decode cX2_byTheLaw 42 = .ok (.if_icmp .ge 83, 3) := by decide +kernel
theorem dX2_byTheLaw_45 : decode cX2_byTheLaw 45 = .ok (.aload_n 0, 1) := by decide +kernel
theorem dX2_byTheLaw_46 : decode cX2_byTheLaw 46 = .ok (.iload 6, 2) := by decide +kernel
theorem dX2_byTheLaw_48 : decode cX2_byTheLaw 48 = .ok (.aload_n 2, 1) := by decide +kernel
theorem dX2_byTheLaw_49 : decode cX2_byTheLaw 49 = .ok (.invokevirtual 113, 3) := by decide +kernel
theorem dX2_byTheLaw_52 : decode cX2_byTheLaw 52 = .ok (.ifCond .eq 67, 3) := by decide +kernel
theorem dX2_byTheLaw_55 : decode cX2_byTheLaw 55 = .ok (.aload_n 0, 1) := by decide +kernel
theorem dX2_byTheLaw_56 : decode cX2_byTheLaw 56 = .ok (.getfield 18, 3) := by decide +kernel
theorem dX2_byTheLaw_59 : decode cX2_byTheLaw 59 = .ok (.iload 6, 2) := by decide +kernel
theorem dX2_byTheLaw_61 : decode cX2_byTheLaw 61 = .ok (.iaload, 1) := by decide +kernel
theorem dX2_byTheLaw_62 : decode cX2_byTheLaw 62 = .ok (.istore 7, 2) := by decide +kernel
theorem dX2_byTheLaw_64 : decode cX2_byTheLaw 64 = .ok (.aload_n 2, 1) := by decide +kernel
theorem dX2_byTheLaw_65 : decode cX2_byTheLaw 65 = .ok (.getfield 119, 3) := by decide +kernel
theorem dX2_byTheLaw_68 : decode cX2_byTheLaw 68 = .ok (.aload_n 2, 1) := by decide +kernel
theorem dX2_byTheLaw_69 : decode cX2_byTheLaw 69 = .ok (.iload_n 1, 1) := by decide +kernel
theorem dX2_byTheLaw_70 : decode cX2_byTheLaw 70 = .ok (.iload 6, 2) := by decide +kernel
theorem dX2_byTheLaw_72 : decode cX2_byTheLaw 72 = .ok (.invokevirtual 107, 3) := by decide +kernel
theorem dX2_byTheLaw_75 : decode cX2_byTheLaw 75 = .ok (.aload_n 2, 1) := by decide +kernel
theorem dX2_byTheLaw_76 : decode cX2_byTheLaw 76 = .ok (.iload 7, 2) := by decide +kernel
theorem dX2_byTheLaw_78 : decode cX2_byTheLaw 78 = .ok (.iload 6, 2) := by decide +kernel
theorem dX2_byTheLaw_80 : decode cX2_byTheLaw 80 = .ok (.invokevirtual 107, 3) := by decide +kernel
theorem dX2_byTheLaw_83 : decode cX2_byTheLaw 83 = .ok (.aload_n 0, 1) := by decide +kernel
theorem dX2_byTheLaw_84 : decode cX2_byTheLaw 84 = .ok (.getfield 21, 3) := by decide +kernel
theorem dX2_byTheLaw_87 : decode cX2_byTheLaw 87 = .ok (.iload 6, 2) := by decide +kernel
theorem dX2_byTheLaw_89 : decode cX2_byTheLaw 89 = .ok (.iaload, 1) := by decide +kernel
theorem dX2_byTheLaw_90 : decode cX2_byTheLaw 90 = .ok (.aload_n 2, 1) := by decide +kernel
theorem dX2_byTheLaw_91 : decode cX2_byTheLaw 91 = .ok (.iload_n 1, 1) := by decide +kernel
theorem dX2_byTheLaw_92 : decode cX2_byTheLaw 92 = .ok (.iload 7, 2) := by decide +kernel
theorem dX2_byTheLaw_94 : decode cX2_byTheLaw 94 = .ok (.invokevirtual 116, 3) := by decide +kernel
theorem dX2_byTheLaw_97 : decode cX2_byTheLaw 97 = .ok (.iconst 0, 1) := by decide +kernel
theorem dX2_byTheLaw_98 : decode cX2_byTheLaw 98 = .ok (.iload_n 3, 1) := by decide +kernel
theorem dX2_byTheLaw_99 : decode cX2_byTheLaw 99 = .ok (.invokevirtual 123, 3) := by decide +kernel
theorem dX2_byTheLaw_102 : decode cX2_byTheLaw 102 = .ok (.istore 8, 2) := by decide +kernel
theorem dX2_byTheLaw_104 : decode cX2_byTheLaw 104 = .ok (.iload 8, 2) := by decide +kernel
theorem dX2_byTheLaw_106 : decode cX2_byTheLaw 106 = .ok (.iload 4, 2) := by decide +kernel
theorem dX2_byTheLaw_108 : decode cX2_byTheLaw 108 = .ok (.if_icmp .le 11, 3) := by decide +kernel
theorem dX2_byTheLaw_111 : decode cX2_byTheLaw 111 = .ok (.iload 8, 2) := by decide +kernel
theorem dX2_byTheLaw_113 : decode cX2_byTheLaw 113 = .ok (.istore 4, 2) := by decide +kernel
theorem dX2_byTheLaw_115 : decode cX2_byTheLaw 115 = .ok (.iload 6, 2) := by decide +kernel
theorem dX2_byTheLaw_117 : decode cX2_byTheLaw 117 = .ok (.istore 5, 2) := by decide +kernel
theorem dX2_byTheLaw_119 : decode cX2_byTheLaw 119 = .ok (.iinc 6 1, 3) := by decide +kernel
theorem dX2_byTheLaw_122 : decode cX2_byTheLaw 122 = .ok (.goto (-86), 3) := by decide +kernel
theorem dX2_byTheLaw_125 : decode cX2_byTheLaw 125 = .ok (.iload 5, 2) := by decide +kernel
theorem dX2_byTheLaw_127 : decode cX2_byTheLaw 127 = .ok (.ireturn, 1) := by decide +kernel
theorem dX2_closeByLaw_0 : decode cX2_closeByLaw 0 = .ok (.aload_n 1, 1) := by decide +kernel
theorem dX2_closeByLaw_1 : decode cX2_closeByLaw 1 = .ok (.getfield 129, 3) := by decide +kernel
theorem dX2_closeByLaw_4 : decode cX2_closeByLaw 4 = .ok (.iconst 1, 1) := by decide +kernel
theorem dX2_closeByLaw_5 : decode cX2_closeByLaw 5 = .ok (.if_icmp .ne 16, 3) := by decide +kernel
theorem dX2_closeByLaw_8 : decode cX2_closeByLaw 8 = .ok (.aload_n 0, 1) := by decide +kernel
theorem dX2_closeByLaw_9 : decode cX2_closeByLaw 9 = .ok (.aload_n 1, 1) := by decide +kernel
theorem dX2_closeByLaw_10 : decode cX2_closeByLaw 10 = .ok (.invokevirtual 132, 3) := by decide +kernel
theorem dX2_closeByLaw_13 : decode cX2_closeByLaw 13 = .ok (.ifCond .eq 8, 3) := by decide +kernel
theorem dX2_closeByLaw_16 : decode cX2_closeByLaw 16 = .ok (.aload_n 0, 1) := by decide +kernel
theorem dX2_closeByLaw_17 : decode cX2_closeByLaw 17 = .ok (.aload_n 1, 1) := by decide +kernel
theorem dX2_closeByLaw_18 : decode cX2_closeByLaw 18 = .ok (.invokevirtual 136, 3) := by decide +kernel
theorem dX2_closeByLaw_21 : decode cX2_closeByLaw 21 = .ok (.return_, 1) := by decide +kernel
theorem dX2_chooseOnceMore_0 : decode cX2_chooseOnceMore 0 = .ok (.aload_n 0, 1) := by decide +kernel
theorem dX2_chooseOnceMore_1 : decode cX2_chooseOnceMore 1 = .ok (.iconst 1, 1) := by decide +kernel
theorem dX2_chooseOnceMore_2 : decode cX2_chooseOnceMore 2 = .ok (.putfield 34, 3) := by decide +kernel
theorem dX2_chooseOnceMore_5 : decode cX2_chooseOnceMore 5 = .ok (.aload_n 0, 1) := by decide +kernel
theorem dX2_chooseOnceMore_6 : decode cX2_chooseOnceMore 6 = .ok (.getfield 9, 3) := by decide +kernel
theorem dX2_chooseOnceMore_9 : decode cX2_chooseOnceMore 9 = .ok (.iconst 0, 1) := by decide +kernel
theorem dX2_chooseOnceMore_10 : decode cX2_chooseOnceMore 10 = .ok (.iaload, 1) := by decide +kernel
theorem dX2_chooseOnceMore_11 : decode cX2_chooseOnceMore 11 = .ok (.istore_n 2, 1) := by decide +kernel
theorem dX2_chooseOnceMore_12 : decode cX2_chooseOnceMore 12 = .ok (.aload_n 0, 1) := by decide +kernel
theorem dX2_chooseOnceMore_13 : decode cX2_chooseOnceMore 13 = .ok (.getfield 15, 3) := by decide +kernel
theorem dX2_chooseOnceMore_16 : decode cX2_chooseOnceMore 16 = .ok (.iload_n 2, 1) := by decide +kernel
theorem dX2_chooseOnceMore_17 : decode cX2_chooseOnceMore 17 = .ok (.iaload, 1) := by decide +kernel
theorem dX2_chooseOnceMore_18 : decode cX2_chooseOnceMore 18 = .ok (.istore_n 3, 1) := by decide +kernel
theorem dX2_chooseOnceMore_19 : decode cX2_chooseOnceMore 19 = .ok (.aload_n 1, 1) := by decide +kernel
