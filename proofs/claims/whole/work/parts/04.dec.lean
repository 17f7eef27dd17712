theorem dX4_worthFor_30 : decode cX4_worthFor 30 = .ok (.iload_n 3, 1) := by decide +kernel
theorem dX4_worthFor_31 : decode cX4_worthFor 31 = .ok (.ifCond .eq 17, 3) := by decide +kernel
theorem dX4_worthFor_34 : decode cX4_worthFor 34 = .ok (.aload_n 0, 1) := by decide +kernel
theorem dX4_worthFor_35 : decode cX4_worthFor 35 = .ok (.getfield 15, 3) := by decide +kernel
theorem dX4_worthFor_38 : decode cX4_worthFor 38 = .ok (.bipush 10, 2) := by decide +kernel
theorem dX4_worthFor_40 : decode cX4_worthFor 40 = .ok (.iload_n 1, 1) := by decide +kernel
theorem dX4_worthFor_41 : decode cX4_worthFor 41 = .ok (.imul, 1) := by decide +kernel
theorem dX4_worthFor_42 : decode cX4_worthFor 42 = .ok (.iload_n 2, 1) := by decide +kernel
theorem dX4_worthFor_43 : decode cX4_worthFor 43 = .ok (.iadd, 1) := by decide +kernel
theorem dX4_worthFor_44 : decode cX4_worthFor 44 = .ok (.iaload, 1) := by decide +kernel
theorem dX4_worthFor_45 : decode cX4_worthFor 45 = .ok (.goto 4, 3) := by decide +kernel
theorem dX4_worthFor_48 : decode cX4_worthFor 48 = .ok (.iconst 0, 1) := by decide +kernel
theorem dX4_worthFor_49 : decode cX4_worthFor 49 = .ok (.ireturn, 1) := by decide +kernel
theorem dX4_likeFor_0 : decode cX4_likeFor 0 = .ok (.iload_n 1, 1) := by decide +kernel
theorem dX4_likeFor_1 : decode cX4_likeFor 1 = .ok (.ifCond .lt 27, 3) := by decide +kernel
theorem dX4_likeFor_4 : decode cX4_likeFor 4 = .ok (.iload_n 1, 1) := by decide +kernel
theorem dX4_likeFor_5 : decode cX4_likeFor 5 = .ok (.aload_n 0, 1) := by decide +kernel
theorem dX4_likeFor_6 : decode cX4_likeFor 6 = .ok (.getfield 9, 3) := by decide +kernel
theorem dX4_likeFor_9 : decode cX4_likeFor 9 = .ok (.if_icmp .ge 19, 3) := by decide +kernel
theorem dX4_likeFor_12 : decode cX4_likeFor 12 = .ok (.iload_n 2, 1) := by decide +kernel
theorem dX4_likeFor_13 : decode cX4_likeFor 13 = .ok (.ifCond .lt 15, 3) := by decide +kernel
theorem dX4_likeFor_16 : decode cX4_likeFor 16 = .ok (.iload_n 2, 1) := by decide +kernel
theorem dX4_likeFor_17 : decode cX4_likeFor 17 = .ok (.aload_n 0, 1) := by decide +kernel
theorem dX4_likeFor_18 : decode cX4_likeFor 18 = .ok (.getfield 9, 3) := by decide +kernel
theorem dX4_likeFor_21 : decode cX4_likeFor 21 = .ok (.if_icmp .ge 7, 3) := by decide +kernel
theorem dX4_likeFor_24 : decode cX4_likeFor 24 = .ok (.iconst 1, 1) := by decide +kernel
theorem dX4_likeFor_25 : decode cX4_likeFor 25 = .ok (.goto 4, 3) := by decide +kernel
theorem dX4_likeFor_28 : decode cX4_likeFor 28 = .ok (.iconst 0, 1) := by decide +kernel
theorem dX4_likeFor_29 : decode cX4_likeFor 29 = .ok (.istore_n 3, 1) := by decide +kernel
theorem dX4_likeFor_30 : decode cX4_likeFor 30 = .ok (.iload_n 3, 1) := by decide +kernel
theorem dX4_likeFor_31 : decode cX4_likeFor 31 = .ok (.ifCond .eq 17, 3) := by decide +kernel
theorem dX4_likeFor_34 : decode cX4_likeFor 34 = .ok (.aload_n 0, 1) := by decide +kernel
theorem dX4_likeFor_35 : decode cX4_likeFor 35 = .ok (.getfield 19, 3) := by decide +kernel
theorem dX4_likeFor_38 : decode cX4_likeFor 38 = .ok (.bipush 10, 2) := by decide +kernel
theorem dX4_likeFor_40 : decode cX4_likeFor 40 = .ok (.iload_n 1, 1) := by decide +kernel
theorem dX4_likeFor_41 : decode cX4_likeFor 41 = .ok (.imul, 1) := by decide +kernel
theorem dX4_likeFor_42 : decode cX4_likeFor 42 = .ok (.iload_n 2, 1) := by decide +kernel
theorem dX4_likeFor_43 : decode cX4_likeFor 43 = .ok (.iadd, 1) := by decide +kernel
theorem dX4_likeFor_44 : decode cX4_likeFor 44 = .ok (.iaload, 1) := by decide +kernel
theorem dX4_likeFor_45 : decode cX4_likeFor 45 = .ok (.goto 4, 3) := by decide +kernel
theorem dX4_likeFor_48 : decode cX4_likeFor 48 = .ok (.iconst 0, 1) := by decide +kernel
theorem dX4_likeFor_49 : decode cX4_likeFor 49 = .ok (.ireturn, 1) := by decide +kernel
theorem dX4_knows_0 : decode cX4_knows 0 = .ok (.iload_n 2, 1) := by decide +kernel
theorem dX4_knows_1 : decode cX4_knows 1 = .ok (.tableswitch 82 0 4 #[35, 41, 66, 72, 72], 35) := by decide +kernel
theorem dX4_knows_36 : decode cX4_knows 36 = .ok (.aload_n 0, 1) := by decide +kernel
theorem dX4_knows_37 : decode cX4_knows 37 = .ok (.iload_n 1, 1) := by decide +kernel
theorem dX4_knows_38 : decode cX4_knows 38 = .ok (.invokevirtual 48, 3) := by decide +kernel
theorem dX4_knows_41 : decode cX4_knows 41 = .ok (.ireturn, 1) := by decide +kernel
theorem dX4_knows_42 : decode cX4_knows 42 = .ok (.aload_n 0, 1) := by decide +kernel
theorem dX4_knows_43 : decode cX4_knows 43 = .ok (.iload_n 1, 1) := by decide +kernel
theorem dX4_knows_44 : decode cX4_knows 44 = .ok (.invokevirtual 48, 3) := by decide +kernel
theorem dX4_knows_47 : decode cX4_knows 47 = .ok (.ifCond .eq 18, 3) := by decide +kernel
theorem dX4_knows_50 : decode cX4_knows 50 = .ok (.iload_n 1, 1) := by decide +kernel
theorem dX4_knows_51 : decode cX4_knows 51 = .ok (.bipush 10, 2) := by decide +kernel
theorem dX4_knows_53 : decode cX4_knows 53 = .ok (.idiv, 1) := by decide +kernel
theorem dX4_knows_54 : decode cX4_knows 54 = .ok (.iload_n 1, 1) := by decide +kernel
theorem dX4_knows_55 : decode cX4_knows 55 = .ok (.bipush 10, 2) := by decide +kernel
theorem dX4_knows_57 : decode cX4_knows 57 = .ok (.irem, 1) := by decide +kernel
theorem dX4_knows_58 : decode cX4_knows 58 = .ok (.if_icmp .eq 7, 3) := by decide +kernel
theorem dX4_knows_61 : decode cX4_knows 61 = .ok (.iconst 1, 1) := by decide +kernel
theorem dX4_knows_62 : decode cX4_knows 62 = .ok (.goto 4, 3) := by decide +kernel
theorem dX4_knows_65 : decode cX4_knows 65 = .ok (.iconst 0, 1) := by decide +kernel
theorem dX4_knows_66 : decode cX4_knows 66 = .ok (.ireturn, 1) := by decide +kernel
theorem dX4_knows_67 : decode cX4_knows 67 = .ok (.aload_n 0, 1) := by decide +kernel
theorem dX4_knows_68 : decode cX4_knows 68 = .ok (.iload_n 1, 1) := by decide +kernel
theorem dX4_knows_69 : decode cX4_knows 69 = .ok (.invokevirtual 44, 3) := by decide +kernel
theorem dX4_knows_72 : decode cX4_knows 72 = .ok (.ireturn, 1) := by decide +kernel
theorem dX4_knows_73 : decode cX4_knows 73 = .ok (.iload_n 1, 1) := by decide +kernel
theorem dX4_knows_74 : decode cX4_knows 74 = .ok (.ifCond .ne 7, 3) := by decide +kernel
theorem dX4_knows_77 : decode cX4_knows 77 = .ok (.iconst 1, 1) := by decide +kernel
theorem dX4_knows_78 : decode cX4_knows 78 = .ok (.goto 4, 3) := by decide +kernel
theorem dX4_knows_81 : decode cX4_knows 81 = .ok (.iconst 0, 1) := by decide +kernel
theorem dX4_knows_82 : decode cX4_knows 82 = .ok (.ireturn, 1) := by decide +kernel
theorem dX4_knows_83 : decode cX4_knows 83 = .ok (.iconst 0, 1) := by decide +kernel
theorem dX4_knows_84 : decode cX4_knows 84 = .ok (.ireturn, 1) := by decide +kernel
theorem dX4_allows_0 : decode cX4_allows 0 = .ok (.iload_n 0, 1) := by decide +kernel
theorem dX4_allows_1 : decode cX4_allows 1 = .ok (.tableswitch 113 0 4 #[35, 51, 67, 82, 98], 35) := by decide +kernel
theorem dX4_allows_36 : decode cX4_allows 36 = .ok (.iload_n 1, 1) := by decide +kernel
theorem dX4_allows_37 : decode cX4_allows 37 = .ok (.ifCond .lt 13, 3) := by decide +kernel
theorem dX4_allows_40 : decode cX4_allows 40 = .ok (.iload_n 1, 1) := by decide +kernel
theorem dX4_allows_41 : decode cX4_allows 41 = .ok (.bipush 99, 2) := by decide +kernel
theorem dX4_allows_43 : decode cX4_allows 43 = .ok (.if_icmp .gt 7, 3) := by decide +kernel
theorem dX4_allows_46 : decode cX4_allows 46 = .ok (.iconst 1, 1) := by decide +kernel
theorem dX4_allows_47 : decode cX4_allows 47 = .ok (.goto 4, 3) := by decide +kernel
theorem dX4_allows_50 : decode cX4_allows 50 = .ok (.iconst 0, 1) := by decide +kernel
theorem dX4_allows_51 : decode cX4_allows 51 = .ok (.ireturn, 1) := by decide +kernel
theorem dX4_allows_52 : decode cX4_allows 52 = .ok (.iload_n 1, 1) := by decide +kernel
theorem dX4_allows_53 : decode cX4_allows 53 = .ok (.ifCond .lt 13, 3) := by decide +kernel
theorem dX4_allows_56 : decode cX4_allows 56 = .ok (.iload_n 1, 1) := by decide +kernel
theorem dX4_allows_57 : decode cX4_allows 57 = .ok (.bipush 9, 2) := by decide +kernel
theorem dX4_allows_59 : decode cX4_allows 59 = .ok (.if_icmp .gt 7, 3) := by decide +kernel
theorem dX4_allows_62 : decode cX4_allows 62 = .ok (.iconst 1, 1) := by decide +kernel
theorem dX4_allows_63 : decode cX4_allows 63 = .ok (.goto 4, 3) := by decide +kernel
theorem dX4_allows_66 : decode cX4_allows 66 = .ok (.iconst 0, 1) := by decide +kernel
theorem dX4_allows_67 : decode cX4_allows 67 = .ok (.ireturn, 1) := by decide +kernel
theorem dX4_allows_68 : decode cX4_allows 68 = .ok (.iload_n 1, 1) := by decide +kernel
theorem dX4_allows_69 : decode cX4_allows 69 = .ok (.ifCond .lt 12, 3) := by decide +kernel
theorem dX4_allows_72 : decode cX4_allows 72 = .ok (.iload_n 1, 1) := by decide +kernel
theorem dX4_allows_73 : decode cX4_allows 73 = .ok (.iconst 2, 1) := by decide +kernel
theorem dX4_allows_74 : decode cX4_allows 74 = .ok (.if_icmp .gt 7, 3) := by decide +kernel
theorem dX4_allows_77 : decode cX4_allows 77 = .ok (.iconst 1, 1) := by decide +kernel
theorem dX4_allows_78 : decode cX4_allows 78 = .ok (.goto 4, 3) := by decide +kernel
theorem dX4_allows_81 : decode cX4_allows 81 = .ok (.iconst 0, 1) := by decide +kernel
theorem dX4_allows_82 : decode cX4_allows 82 = .ok (.ireturn, 1) := by decide +kernel
theorem dX4_allows_83 : decode cX4_allows 83 = .ok (.iload_n 1, 1) := by decide +kernel
theorem dX4_allows_84 : decode cX4_allows 84 = .ok (.iconst 1, 1) := by decide +kernel
theorem dX4_allows_85 : decode cX4_allows 85 = .ok (.if_icmp .lt 12, 3) := by decide +kernel
theorem dX4_allows_88 : decode cX4_allows 88 = .ok (.iload_n 1, 1) := by decide +kernel
theorem dX4_allows_89 : decode cX4_allows 89 = .ok (.iconst 3, 1) := by decide +kernel
theorem dX4_allows_90 : decode cX4_allows 90 = .ok (.if_icmp .gt 7, 3) := by decide +kernel
theorem dX4_allows_93 : decode cX4_allows 93 = .ok (.iconst 1, 1) := by decide +kernel
theorem dX4_allows_94 : decode cX4_allows 94 = .ok (.goto 4, 3) := by decide +kernel
theorem dX4_allows_97 : decode cX4_allows 97 = .ok (.iconst 0, 1) := by decide +kernel
theorem dX4_allows_98 : decode cX4_allows 98 = .ok (.ireturn, 1) := by decide +kernel
theorem dX4_allows_99 : decode cX4_allows 99 = .ok (.iload_n 1, 1) := by decide +kernel
theorem dX4_allows_100 : decode cX4_allows 100 = .ok (.ifCond .eq 8, 3) := by decide +kernel
theorem dX4_allows_103 : decode cX4_allows 103 = .ok (.iload_n 1, 1) := by decide +kernel
theorem dX4_allows_104 : decode cX4_allows 104 = .ok (.iconst 1, 1) := by decide +kernel
theorem dX4_allows_105 : decode cX4_allows 105 = .ok (.if_icmp .ne 7, 3) := by decide +kernel
theorem dX4_allows_108 : decode cX4_allows 108 = .ok (.iconst 1, 1) := by decide +kernel
theorem dX4_allows_109 : decode cX4_allows 109 = .ok (.goto 4, 3) := by decide +kernel
theorem dX4_allows_112 : decode cX4_allows 112 = .ok (.iconst 0, 1) := by decide +kernel
theorem dX4_allows_113 : decode cX4_allows 113 = .ok (.ireturn, 1) := by decide +kernel
theorem dX4_allows_114 : decode cX4_allows 114 = .ok (.iconst 0, 1) := by decide +kernel
theorem dX4_allows_115 : decode cX4_allows 115 = .ok (.ireturn, 1) := by decide +kernel
theorem dX4_value_0 : decode cX4_value 0 = .ok (.aload_n 0, 1) := by decide +kernel
theorem dX4_value_1 : decode cX4_value 1 = .ok (.iload_n 1, 1) := by decide +kernel
theorem dX4_value_2 : decode cX4_value 2 = .ok (.iload_n 2, 1) := by decide +kernel
theorem dX4_value_3 : decode cX4_value 3 = .ok (.invokevirtual 51, 3) := by decide +kernel
theorem dX4_value_6 : decode cX4_value 6 = .ok (.ifCond .ne 5, 3) := by decide +kernel
theorem dX4_value_9 : decode cX4_value 9 = .ok (.iconst (-1), 1) := by decide +kernel
theorem dX4_value_10 : decode cX4_value 10 = .ok (.ireturn, 1) := by decide +kernel
theorem dX4_value_11 : decode cX4_value 11 = .ok (.iload_n 2, 1) := by decide +kernel
theorem dX4_value_12 : decode cX4_value 12 = .ok (.tableswitch 58 0 3 #[32, 39, 46, 53], 32) := by decide +kernel
theorem dX4_value_44 : decode cX4_value 44 = .ok (.aload_n 0, 1) := by decide +kernel
theorem dX4_value_45 : decode cX4_value 45 = .ok (.getfield 15, 3) := by decide +kernel
theorem dX4_value_48 : decode cX4_value 48 = .ok (.iload_n 1, 1) := by decide +kernel
theorem dX4_value_49 : decode cX4_value 49 = .ok (.iaload, 1) := by decide +kernel
theorem dX4_value_50 : decode cX4_value 50 = .ok (.ireturn, 1) := by decide +kernel
theorem dX4_value_51 : decode cX4_value 51 = .ok (.aload_n 0, 1) := by decide +kernel
theorem dX4_value_52 : decode cX4_value 52 = .ok (.getfield 19, 3) := by decide +kernel
theorem dX4_value_55 : decode cX4_value 55 = .ok (.iload_n 1, 1) := by decide +kernel
theorem dX4_value_56 : decode cX4_value 56 = .ok (.iaload, 1) := by decide +kernel
theorem dX4_value_57 : decode cX4_value 57 = .ok (.ireturn, 1) := by decide +kernel
theorem dX4_value_58 : decode cX4_value 58 = .ok (.aload_n 0, 1) := by decide +kernel
theorem dX4_value_59 : decode cX4_value 59 = .ok (.getfield 22, 3) := by decide +kernel
theorem dX4_value_62 : decode cX4_value 62 = .ok (.iload_n 1, 1) := by decide +kernel
theorem dX4_value_63 : decode cX4_value 63 = .ok (.iaload, 1) := by decide +kernel
theorem dX4_value_64 : decode cX4_value 64 = .ok (.ireturn, 1) := by decide +kernel
theorem dX4_value_65 : decode cX4_value 65 = .ok (.aload_n 0, 1) := by decide +kernel
theorem dX4_value_66 : decode cX4_value 66 = .ok (.getfield 25, 3) := by decide +kernel
theorem dX4_value_69 : decode cX4_value 69 = .ok (.ireturn, 1) := by decide +kernel
theorem dX4_value_70 : decode cX4_value 70 = .ok (.aload_n 0, 1) := by decide +kernel
theorem dX4_value_71 : decode cX4_value 71 = .ok (.getfield 28, 3) := by decide +kernel
theorem dX4_value_74 : decode cX4_value 74 = .ok (.ireturn, 1) := by decide +kernel
theorem dX4_become_0 : decode cX4_become 0 = .ok (.aload_n 0, 1) := by decide +kernel
theorem dX4_become_1 : decode cX4_become 1 = .ok (.iload_n 1, 1) := by decide +kernel
theorem dX4_become_2 : decode cX4_become 2 = .ok (.iload_n 2, 1) := by decide +kernel
theorem dX4_become_3 : decode cX4_become 3 = .ok (.invokevirtual 51, 3) := by decide +kernel
theorem dX4_become_6 : decode cX4_become 6 = .ok (.ifCond .ne 4, 3) := by decide +kernel
theorem dX4_become_9 : decode cX4_become 9 = .ok (.return_, 1) := by decide +kernel
theorem dX4_become_10 : decode cX4_become 10 = .ok (.iload_n 2, 1) := by decide +kernel
theorem dX4_become_11 : decode cX4_become 11 = .ok (.tableswitch 67 0 3 #[29, 39, 49, 59], 29) := by decide +kernel
theorem dX4_become_40 : decode cX4_become 40 = .ok (.aload_n 0, 1) := by decide +kernel
theorem dX4_become_41 : decode cX4_become 41 = .ok (.getfield 15, 3) := by decide +kernel
theorem dX4_become_44 : decode cX4_become 44 = .ok (.iload_n 1, 1) := by decide +kernel
theorem dX4_become_45 : decode cX4_become 45 = .ok (.iload_n 3, 1) := by decide +kernel
theorem dX4_become_46 : decode cX4_become 46 = .ok (.iastore, 1) := by decide +kernel
theorem dX4_become_47 : decode cX4_become 47 = .ok (.goto 36, 3) := by decide +kernel
theorem dX4_become_50 : decode cX4_become 50 = .ok (.aload_n 0, 1) := by decide +kernel
theorem dX4_become_51 : decode cX4_become 51 = .ok (.getfield 19, 3) := by decide +kernel
theorem dX4_become_54 : decode cX4_become 54 = .ok (.iload_n 1, 1) := by decide +kernel
theorem dX4_become_55 : decode cX4_become 55 = .ok (.iload_n 3, 1) := by decide +kernel
theorem dX4_become_56 : decode cX4_become 56 = .ok (.iastore, 1) := by decide +kernel
theorem dX4_become_57 : decode cX4_become 57 = .ok (.goto 26, 3) := by decide +kernel
theorem dX4_become_60 : decode cX4_become 60 = .ok (.aload_n 0, 1) := by decide +kernel
theorem dX4_become_61 : decode cX4_become 61 = .ok (.getfield 22, 3) := by decide +kernel
theorem dX4_become_64 : decode cX4_become 64 = .ok (.iload_n 1, 1) := by decide +kernel
theorem dX4_become_65 : decode cX4_become 65 = .ok (.iload_n 3, 1) := by decide +kernel
theorem dX4_become_66 : decode cX4_become 66 = .ok (.iastore, 1) := by decide +kernel
theorem dX4_become_67 : decode cX4_become 67 = .ok (.goto 16, 3) := by decide +kernel
theorem dX4_become_70 : decode cX4_become 70 = .ok (.aload_n 0, 1) := by decide +kernel
theorem dX4_become_71 : decode cX4_become 71 = .ok (.iload_n 3, 1) := by decide +kernel
theorem dX4_become_72 : decode cX4_become 72 = .ok (.putfield 25, 3) := by decide +kernel
theorem dX4_become_75 : decode cX4_become 75 = .ok (.goto 8, 3) := by decide +kernel
theorem dX4_become_78 : decode cX4_become 78 = .ok (.aload_n 0, 1) := by decide +kernel
theorem dX4_become_79 : decode cX4_become 79 = .ok (.iload_n 3, 1) := by decide +kernel
theorem dX4_become_80 : decode cX4_become 80 = .ok (.putfield 28, 3) := by decide +kernel
theorem dX4_become_83 : decode cX4_become 83 = .ok (.return_, 1) := by decide +kernel
theorem dX5_init_0 : decode cX5_init 0 = .ok (.aload_n 0, 1) := by decide +kernel
theorem dX5_init_1 : decode cX5_init 1 = .ok (.invokespecial 3, 3) := by decide +kernel
theorem dX5_init_4 : decode cX5_init 4 = .ok (.aload_n 0, 1) := by decide +kernel
theorem dX5_init_5 : decode cX5_init 5 = .ok (.bipush 6, 2) := by decide +kernel
theorem dX5_init_7 : decode cX5_init 7 = .ok (.newarray .int, 2) := by decide +kernel
theorem dX5_init_9 : decode cX5_init 9 = .ok (.putfield 11, 3) := by decide +kernel
theorem dX5_init_12 : decode cX5_init 12 = .ok (.aload_n 0, 1) := by decide +kernel
theorem dX5_init_13 : decode cX5_init 13 = .ok (.bipush 6, 2) := by decide +kernel
theorem dX5_init_15 : decode cX5_init 15 = .ok (.newarray .int, 2) := by decide +kernel
theorem dX5_init_17 : decode cX5_init 17 = .ok (.putfield 15, 3) := by decide +kernel
theorem dX5_init_20 : decode cX5_init 20 = .ok (.aload_n 0, 1) := by decide +kernel
theorem dX5_init_21 : decode cX5_init 21 = .ok (.bipush 6, 2) := by decide +kernel
theorem dX5_init_23 : decode cX5_init 23 = .ok (.bipush 60, 2) := by decide +kernel
theorem dX5_init_25 : decode cX5_init 25 = .ok (.multianewarray 18 2, 4) := by decide +kernel
theorem dX5_init_29 : decode cX5_init 29 = .ok (.putfield 20, 3) := by decide +kernel
theorem dX5_init_32 : decode cX5_init 32 = .ok (.aload_n 0, 1) := by decide +kernel
theorem dX5_init_33 : decode cX5_init 33 = .ok (.getfield 11, 3) := by decide +kernel
theorem dX5_init_36 : decode cX5_init 36 = .ok (.bipush (-2), 2) := by decide +kernel
theorem dX5_init_38 : decode cX5_init 38 = .ok (.invokestatic 23, 3) := by decide +kernel
theorem dX5_init_41 : decode cX5_init 41 = .ok (.return_, 1) := by decide +kernel
theorem dX5_isShelf_0 : decode cX5_isShelf 0 = .ok (.iload_n 1, 1) := by decide +kernel
theorem dX5_isShelf_1 : decode cX5_isShelf 1 = .ok (.ifCond .lt 13, 3) := by decide +kernel
theorem dX5_isShelf_4 : decode cX5_isShelf 4 = .ok (.iload_n 1, 1) := by decide +kernel
theorem dX5_isShelf_5 : decode cX5_isShelf 5 = .ok (.bipush 6, 2) := by decide +kernel
theorem dX5_isShelf_7 : decode cX5_isShelf 7 = .ok (.if_icmp .ge 7, 3) := by decide +kernel
theorem dX5_isShelf_10 : decode cX5_isShelf 10 = .ok (.iconst 1, 1) := by decide +kernel
theorem dX5_isShelf_11 : decode cX5_isShelf 11 = .ok (.goto 4, 3) := by decide +kernel
theorem dX5_isShelf_14 : decode cX5_isShelf 14 = .ok (.iconst 0, 1) := by decide +kernel
theorem dX5_isShelf_15 : decode cX5_isShelf 15 = .ok (.ireturn, 1) := by decide +kernel
theorem dX5_isEmpty_0 : decode cX5_isEmpty 0 = .ok (.aload_n 0, 1) := by decide +kernel
theorem dX5_isEmpty_1 : decode cX5_isEmpty 1 = .ok (.getfield 11, 3) := by decide +kernel
theorem dX5_isEmpty_4 : decode cX5_isEmpty 4 = .ok (.iload_n 1, 1) := by decide +kernel
theorem dX5_isEmpty_5 : decode cX5_isEmpty 5 = .ok (.iaload, 1) := by decide +kernel
theorem dX5_isEmpty_6 : decode cX5_isEmpty 6 = .ok (.bipush (-2), 2) := by decide +kernel
theorem dX5_isEmpty_8 : decode cX5_isEmpty 8 = .ok (.if_icmp .ne 7, 3) := by decide +kernel
theorem dX5_isEmpty_11 : decode cX5_isEmpty 11 = .ok (.iconst 1, 1) := by decide +kernel
theorem dX5_isEmpty_12 : decode cX5_isEmpty 12 = .ok (.goto 4, 3) := by decide +kernel
theorem dX5_isEmpty_15 : decode cX5_isEmpty 15 = .ok (.iconst 0, 1) := by decide +kernel
theorem dX5_isEmpty_16 : decode cX5_isEmpty 16 = .ok (.ireturn, 1) := by decide +kernel
theorem dX5_isRow_0 : decode cX5_isRow 0 = .ok (.aload_n 0, 1) := by decide +kernel
theorem dX5_isRow_1 : decode cX5_isRow 1 = .ok (.getfield 11, 3) := by decide +kernel
theorem dX5_isRow_4 : decode cX5_isRow 4 = .ok (.iload_n 1, 1) := by decide +kernel
theorem dX5_isRow_5 : decode cX5_isRow 5 = .ok (.iaload, 1) := by decide +kernel
theorem dX5_isRow_6 : decode cX5_isRow 6 = .ok (.ifCond .lt 7, 3) := by decide +kernel
theorem dX5_isRow_9 : decode cX5_isRow 9 = .ok (.iconst 1, 1) := by decide +kernel
theorem dX5_isRow_10 : decode cX5_isRow 10 = .ok (.goto 4, 3) := by decide +kernel
theorem dX5_isRow_13 : decode cX5_isRow 13 = .ok (.iconst 0, 1) := by decide +kernel
theorem dX5_isRow_14 : decode cX5_isRow 14 = .ok (.ireturn, 1) := by decide +kernel
theorem dX5_holdBody_0 : decode cX5_holdBody 0 = .ok (.aload_n 0, 1) := by decide +kernel
theorem dX5_holdBody_1 : decode cX5_holdBody 1 = .ok (.getfield 11, 3) := by decide +kernel
theorem dX5_holdBody_4 : decode cX5_holdBody 4 = .ok (.iload_n 1, 1) := by decide +kernel
theorem dX5_holdBody_5 : decode cX5_holdBody 5 = .ok (.iload_n 2, 1) := by decide +kernel
theorem dX5_holdBody_6 : decode cX5_holdBody 6 = .ok (.ifCond .ge 8, 3) := by decide +kernel
theorem dX5_holdBody_9 : decode cX5_holdBody 9 = .ok (.bipush (-2), 2) := by decide +kernel
theorem dX5_holdBody_11 : decode cX5_holdBody 11 = .ok (.goto 4, 3) := by decide +kernel
theorem dX5_holdBody_14 : decode cX5_holdBody 14 = .ok (.iconst (-1), 1) := by decide +kernel
theorem dX5_holdBody_15 : decode cX5_holdBody 15 = .ok (.iastore, 1) := by decide +kernel
theorem dX5_holdBody_16 : decode cX5_holdBody 16 = .ok (.aload_n 0, 1) := by decide +kernel
theorem dX5_holdBody_17 : decode cX5_holdBody 17 = .ok (.getfield 15, 3) := by decide +kernel
theorem dX5_holdBody_20 : decode cX5_holdBody 20 = .ok (.iload_n 1, 1) := by decide +kernel
theorem dX5_holdBody_21 : decode cX5_holdBody 21 = .ok (.iload_n 2, 1) := by decide +kernel
theorem dX5_holdBody_22 : decode cX5_holdBody 22 = .ok (.iastore, 1) := by decide +kernel
theorem dX5_holdBody_23 : decode cX5_holdBody 23 = .ok (.return_, 1) := by decide +kernel
theorem dX5_holdRow_0 : decode cX5_holdRow 0 = .ok (.aload_n 0, 1) := by decide +kernel
theorem dX5_holdRow_1 : decode cX5_holdRow 1 = .ok (.getfield 11, 3) := by decide +kernel
theorem dX5_holdRow_4 : decode cX5_holdRow 4 = .ok (.iload_n 1, 1) := by decide +kernel
theorem dX5_holdRow_5 : decode cX5_holdRow 5 = .ok (.iload_n 2, 1) := by decide +kernel
theorem dX5_holdRow_6 : decode cX5_holdRow 6 = .ok (.iastore, 1) := by decide +kernel
theorem dX5_holdRow_7 : decode cX5_holdRow 7 = .ok (.aload_n 0, 1) := by decide +kernel
theorem dX5_holdRow_8 : decode cX5_holdRow 8 = .ok (.getfield 15, 3) := by decide +kernel
theorem dX5_holdRow_11 : decode cX5_holdRow 11 = .ok (.iload_n 1, 1) := by decide +kernel
theorem dX5_holdRow_12 : decode cX5_holdRow 12 = .ok (.iload_n 3, 1) := by decide +kernel
theorem dX5_holdRow_13 : decode cX5_holdRow 13 = .ok (.iastore, 1) := by decide +kernel
theorem dX5_holdRow_14 : decode cX5_holdRow 14 = .ok (.aload_n 0, 1) := by decide +kernel
theorem dX5_holdRow_15 : decode cX5_holdRow 15 = .ok (.getfield 20, 3) := by decide +kernel
theorem dX5_holdRow_18 : decode cX5_holdRow 18 = .ok (.iload_n 1, 1) := by decide +kernel
theorem dX5_holdRow_19 : decode cX5_holdRow 19 = .ok (.aaload, 1) := by decide +kernel
theorem dX5_holdRow_20 : decode cX5_holdRow 20 = .ok (.lconst 0, 1) := by decide +kernel
theorem dX5_holdRow_21 : decode cX5_holdRow 21 = .ok (.invokestatic 29, 3) := by decide +kernel
theorem dX5_holdRow_24 : decode cX5_holdRow 24 = .ok (.return_, 1) := by decide +kernel
theorem dX5_refusalOfBytes_0 : decode cX5_refusalOfBytes 0 = .ok (.aload_n 0, 1) := by decide +kernel
theorem dX5_refusalOfBytes_1 : decode cX5_refusalOfBytes 1 = .ok (.iload_n 1, 1) := by decide +kernel
theorem dX5_refusalOfBytes_2 : decode cX5_refusalOfBytes 2 = .ok (.invokevirtual 32, 3) := by decide +kernel
theorem dX5_refusalOfBytes_5 : decode cX5_refusalOfBytes 5 = .ok (.ifCond .ne 5, 3) := by decide +kernel
theorem dX5_refusalOfBytes_8 : decode cX5_refusalOfBytes 8 = .ok (.iconst (-1), 1) := by decide +kernel
theorem dX5_refusalOfBytes_9 : decode cX5_refusalOfBytes 9 = .ok (.ireturn, 1) := by decide +kernel
theorem dX5_refusalOfBytes_10 : decode cX5_refusalOfBytes 10 = .ok (.aload_n 0, 1) := by decide +kernel
theorem dX5_refusalOfBytes_11 : decode cX5_refusalOfBytes 11 = .ok (.iload_n 1, 1) := by decide +kernel
theorem dX5_refusalOfBytes_12 : decode cX5_refusalOfBytes 12 = .ok (.invokevirtual 36, 3) := by decide +kernel
theorem dX5_refusalOfBytes_15 : decode cX5_refusalOfBytes 15 = .ok (.ifCond .eq 6, 3) := by decide +kernel
theorem dX5_refusalOfBytes_18 : decode cX5_refusalOfBytes 18 = .ok (.bipush (-11), 2) := by decide +kernel
theorem dX5_refusalOfBytes_20 : decode cX5_refusalOfBytes 20 = .ok (.ireturn, 1) := by decide +kernel
theorem dX5_refusalOfBytes_21 : decode cX5_refusalOfBytes 21 = .ok (.aload_n 0, 1) := by decide +kernel
theorem dX5_refusalOfBytes_22 : decode cX5_refusalOfBytes 22 = .ok (.getfield 11, 3) := by decide +kernel
theorem dX5_refusalOfBytes_25 : decode cX5_refusalOfBytes 25 = .ok (.iload_n 1, 1) := by decide +kernel
theorem dX5_refusalOfBytes_26 : decode cX5_refusalOfBytes 26 = .ok (.iaload, 1) := by decide +kernel
theorem dX5_refusalOfBytes_27 : decode cX5_refusalOfBytes 27 = .ok (.ifCond .ne 7, 3) := by decide +kernel
theorem dX5_refusalOfBytes_30 : decode cX5_refusalOfBytes 30 = .ok (.iconst 0, 1) := by decide +kernel
theorem dX5_refusalOfBytes_31 : decode cX5_refusalOfBytes 31 = .ok (.goto 5, 3) := by decide +kernel
theorem dX5_refusalOfBytes_34 : decode cX5_refusalOfBytes 34 = .ok (.bipush (-12), 2) := by decide +kernel
theorem dX5_refusalOfBytes_36 : decode cX5_refusalOfBytes 36 = .ok (.ireturn, 1) := by decide +kernel
theorem dX5_refusalOfElement_0 : decode cX5_refusalOfElement 0 = .ok (.aload_n 0, 1) := by decide +kernel
theorem dX5_refusalOfElement_1 : decode cX5_refusalOfElement 1 = .ok (.iload_n 1, 1) := by decide +kernel
theorem dX5_refusalOfElement_2 : decode cX5_refusalOfElement 2 = .ok (.invokevirtual 32, 3) := by decide +kernel
theorem dX5_refusalOfElement_5 : decode cX5_refusalOfElement 5 = .ok (.ifCond .ne 5, 3) := by decide +kernel
theorem dX5_refusalOfElement_8 : decode cX5_refusalOfElement 8 = .ok (.iconst (-1), 1) := by decide +kernel
theorem dX5_refusalOfElement_9 : decode cX5_refusalOfElement 9 = .ok (.ireturn, 1) := by decide +kernel
theorem dX5_refusalOfElement_10 : decode cX5_refusalOfElement 10 = .ok (.aload_n 0, 1) := by decide +kernel
theorem dX5_refusalOfElement_11 : decode cX5_refusalOfElement 11 = .ok (.iload_n 1, 1) := by decide +kernel
theorem dX5_refusalOfElement_12 : decode cX5_refusalOfElement 12 = .ok (.invokevirtual 36, 3) := by decide +kernel
theorem dX5_refusalOfElement_15 : decode cX5_refusalOfElement 15 = .ok (.ifCond .eq 6, 3) := by decide +kernel
theorem dX5_refusalOfElement_18 : decode cX5_refusalOfElement 18 = .ok (.bipush (-11), 2) := by decide +kernel
theorem dX5_refusalOfElement_20 : decode cX5_refusalOfElement 20 = .ok (.ireturn, 1) := by decide +kernel
theorem dX5_refusalOfElement_21 : decode cX5_refusalOfElement 21 = .ok (.aload_n 0, 1) := by decide +kernel
theorem dX5_refusalOfElement_22 : decode cX5_refusalOfElement 22 = .ok (.iload_n 1, 1) := by decide +kernel
theorem dX5_refusalOfElement_23 : decode cX5_refusalOfElement 23 = .ok (.invokevirtual 39, 3) := by decide +kernel
theorem dX5_refusalOfElement_26 : decode cX5_refusalOfElement 26 = .ok (.ifCond .ne 6, 3) := by decide +kernel
theorem dX5_refusalOfElement_29 : decode cX5_refusalOfElement 29 = .ok (.bipush (-12), 2) := by decide +kernel
theorem dX5_refusalOfElement_31 : decode cX5_refusalOfElement 31 = .ok (.ireturn, 1) := by decide +kernel
theorem dX5_refusalOfElement_32 : decode cX5_refusalOfElement 32 = .ok (.iload_n 2, 1) := by decide +kernel
theorem dX5_refusalOfElement_33 : decode cX5_refusalOfElement 33 = .ok (.ifCond .lt 17, 3) := by decide +kernel
theorem dX5_refusalOfElement_36 : decode cX5_refusalOfElement 36 = .ok (.iload_n 2, 1) := by decide +kernel
theorem dX5_refusalOfElement_37 : decode cX5_refusalOfElement 37 = .ok (.aload_n 0, 1) := by decide +kernel
theorem dX5_refusalOfElement_38 : decode cX5_refusalOfElement 38 = .ok (.getfield 15, 3) := by decide +kernel
theorem dX5_refusalOfElement_41 : decode cX5_refusalOfElement 41 = .ok (.iload_n 1, 1) := by decide +kernel
theorem dX5_refusalOfElement_42 : decode cX5_refusalOfElement 42 = .ok (.iaload, 1) := by decide +kernel
theorem dX5_refusalOfElement_43 : decode cX5_refusalOfElement 43 = .ok (.if_icmp .ge 7, 3) := by decide +kernel
theorem dX5_refusalOfElement_46 : decode cX5_refusalOfElement 46 = .ok (.iconst 0, 1) := by decide +kernel
theorem dX5_refusalOfElement_47 : decode cX5_refusalOfElement 47 = .ok (.goto 5, 3) := by decide +kernel
theorem dX5_refusalOfElement_50 : decode cX5_refusalOfElement 50 = .ok (.bipush (-13), 2) := by decide +kernel
theorem dX5_refusalOfElement_52 : decode cX5_refusalOfElement 52 = .ok (.ireturn, 1) := by decide +kernel
theorem dX5_reaches_0 : decode cX5_reaches 0 = .ok (.iload_n 2, 1) := by decide +kernel
theorem dX5_reaches_1 : decode cX5_reaches 1 = .ok (.ifCond .lt 33, 3) := by decide +kernel
theorem dX5_reaches_4 : decode cX5_reaches 4 = .ok (.iload_n 3, 1) := by decide +kernel
theorem dX5_reaches_5 : decode cX5_reaches 5 = .ok (.ifCond .lt 29, 3) := by decide +kernel
theorem dX5_reaches_8 : decode cX5_reaches 8 = .ok (.iload_n 2, 1) := by decide +kernel
theorem dX5_reaches_9 : decode cX5_reaches 9 = .ok (.aload_n 0, 1) := by decide +kernel
theorem dX5_reaches_10 : decode cX5_reaches 10 = .ok (.getfield 15, 3) := by decide +kernel
theorem dX5_reaches_13 : decode cX5_reaches 13 = .ok (.iload_n 1, 1) := by decide +kernel
theorem dX5_reaches_14 : decode cX5_reaches 14 = .ok (.iaload, 1) := by decide +kernel
theorem dX5_reaches_15 : decode cX5_reaches 15 = .ok (.if_icmp .gt 19, 3) := by decide +kernel
theorem dX5_reaches_18 : decode cX5_reaches 18 = .ok (.iload_n 3, 1) := by decide +kernel
theorem dX5_reaches_19 : decode cX5_reaches 19 = .ok (.aload_n 0, 1) := by decide +kernel
theorem dX5_reaches_20 : decode cX5_reaches 20 = .ok (.getfield 15, 3) := by decide +kernel
theorem dX5_reaches_23 : decode cX5_reaches 23 = .ok (.iload_n 1, 1) := by decide +kernel
theorem dX5_reaches_24 : decode cX5_reaches 24 = .ok (.iaload, 1) := by decide +kernel
theorem dX5_reaches_25 : decode cX5_reaches 25 = .ok (.iload_n 2, 1) := by decide +kernel
theorem dX5_reaches_26 : decode cX5_reaches 26 = .ok (.isub, 1) := by decide +kernel
theorem dX5_reaches_27 : decode cX5_reaches 27 = .ok (.if_icmp .gt 7, 3) := by decide +kernel
theorem dX5_reaches_30 : decode cX5_reaches 30 = .ok (.iconst 1, 1) := by decide +kernel
theorem dX5_reaches_31 : decode cX5_reaches 31 = .ok (.goto 4, 3) := by decide +kernel
theorem dX5_reaches_34 : decode cX5_reaches 34 = .ok (.iconst 0, 1) := by decide +kernel
theorem dX5_reaches_35 : decode cX5_reaches 35 = .ok (.ireturn, 1) := by decide +kernel
theorem dX5_lowestBits_0 : decode cX5_lowestBits 0 = .ok (.iload_n 0, 1) := by decide +kernel
theorem dX5_lowestBits_1 : decode cX5_lowestBits 1 = .ok (.tableswitch 61 0 4 #[35, 40, 45, 61, 49], 35) := by decide +kernel
theorem dX5_lowestBits_36 : decode cX5_lowestBits 36 = .ok (.lload_n 1, 1) := by decide +kernel
theorem dX5_lowestBits_37 : decode cX5_lowestBits 37 = .ok (.l2i, 1) := by decide +kernel
theorem dX5_lowestBits_38 : decode cX5_lowestBits 38 = .ok (.i2b, 1) := by decide +kernel
theorem dX5_lowestBits_39 : decode cX5_lowestBits 39 = .ok (.i2l, 1) := by decide +kernel
theorem dX5_lowestBits_40 : decode cX5_lowestBits 40 = .ok (.lreturn, 1) := by decide +kernel
theorem dX5_lowestBits_41 : decode cX5_lowestBits 41 = .ok (.lload_n 1, 1) := by decide +kernel
theorem dX5_lowestBits_42 : decode cX5_lowestBits 42 = .ok (.l2i, 1) := by decide +kernel
theorem dX5_lowestBits_43 : decode cX5_lowestBits 43 = .ok (.i2s, 1) := by decide +kernel
theorem dX5_lowestBits_44 : decode cX5_lowestBits 44 = .ok (.i2l, 1) := by decide +kernel
theorem dX5_lowestBits_45 : decode cX5_lowestBits 45 = .ok (.lreturn, 1) := by decide +kernel
theorem dX5_lowestBits_46 : decode cX5_lowestBits 46 = .ok (.lload_n 1, 1) := by decide +kernel
theorem dX5_lowestBits_47 : decode cX5_lowestBits 47 = .ok (.l2i, 1) := by decide +kernel
theorem dX5_lowestBits_48 : decode cX5_lowestBits 48 = .ok (.i2l, 1) := by decide +kernel
theorem dX5_lowestBits_49 : decode cX5_lowestBits 49 = .ok (.lreturn, 1) := by decide +kernel
theorem dX5_lowestBits_50 : decode cX5_lowestBits 50 = .ok (.lload_n 1, 1) := by decide +kernel
theorem dX5_lowestBits_51 : decode cX5_lowestBits 51 = .ok (.lconst 0, 1) := by decide +kernel
theorem dX5_lowestBits_52 : decode cX5_lowestBits 52 = .ok (.lcmp, 1) := by decide +kernel
theorem dX5_lowestBits_53 : decode cX5_lowestBits 53 = .ok (.ifCond .eq 7, 3) := by decide +kernel
theorem dX5_lowestBits_56 : decode cX5_lowestBits 56 = .ok (.lconst 1, 1) := by decide +kernel
theorem dX5_lowestBits_57 : decode cX5_lowestBits 57 = .ok (.goto 4, 3) := by decide +kernel
theorem dX5_lowestBits_60 : decode cX5_lowestBits 60 = .ok (.lconst 0, 1) := by decide +kernel
theorem dX5_lowestBits_61 : decode cX5_lowestBits 61 = .ok (.lreturn, 1) := by decide +kernel
theorem dX5_lowestBits_62 : decode cX5_lowestBits 62 = .ok (.lload_n 1, 1) := by decide +kernel
theorem dX5_lowestBits_63 : decode cX5_lowestBits 63 = .ok (.lreturn, 1) := by decide +kernel
theorem dX6_init_0 : decode cX6_init 0 = .ok (.aload_n 0, 1) := by decide +kernel
theorem dX6_init_1 : decode cX6_init 1 = .ok (.invokespecial 3, 3) := by decide +kernel
theorem dX6_init_4 : decode cX6_init 4 = .ok (.aload_n 0, 1) := by decide +kernel
theorem dX6_init_5 : decode cX6_init 5 = .ok (.bipush 120, 2) := by decide +kernel
theorem dX6_init_7 : decode cX6_init 7 = .ok (.newarray .char, 2) := by decide +kernel
theorem dX6_init_9 : decode cX6_init 9 = .ok (.putfield 9, 3) := by decide +kernel
theorem dX6_init_12 : decode cX6_init 12 = .ok (.aload_n 0, 1) := by decide +kernel
theorem dX6_init_13 : decode cX6_init 13 = .ok (.iconst 0, 1) := by decide +kernel
theorem dX6_init_14 : decode cX6_init 14 = .ok (.putfield 15, 3) := by decide +kernel
theorem dX6_init_17 : decode cX6_init 17 = .ok (.aload_n 0, 1) := by decide +kernel
theorem dX6_init_18 : decode cX6_init 18 = .ok (.iconst 0, 1) := by decide +kernel
theorem dX6_init_19 : decode cX6_init 19 = .ok (.putfield 19, 3) := by decide +kernel
theorem dX6_init_22 : decode cX6_init 22 = .ok (.aload_n 0, 1) := by decide +kernel
theorem dX6_init_23 : decode cX6_init 23 = .ok (.iconst (-1), 1) := by decide +kernel
theorem dX6_init_24 : decode cX6_init 24 = .ok (.putfield 22, 3) := by decide +kernel
theorem dX6_init_27 : decode cX6_init 27 = .ok (.aload_n 0, 1) := by decide +kernel
theorem dX6_init_28 : decode cX6_init 28 = .ok (.new 25, 3) := by decide +kernel
theorem dX6_init_31 : decode cX6_init 31 = .ok (.dup, 1) := by decide +kernel
theorem dX6_init_32 : decode cX6_init 32 = .ok (.invokespecial 27, 3) := by decide +kernel
theorem dX6_init_35 : decode cX6_init 35 = .ok (.putfield 28, 3) := by decide +kernel
theorem dX6_init_38 : decode cX6_init 38 = .ok (.return_, 1) := by decide +kernel
theorem dX6_append_0 : decode cX6_append 0 = .ok (.aload_n 0, 1) := by decide +kernel
theorem dX6_append_1 : decode cX6_append 1 = .ok (.getfield 15, 3) := by decide +kernel
theorem dX6_append_4 : decode cX6_append 4 = .ok (.bipush 120, 2) := by decide +kernel
theorem dX6_append_6 : decode cX6_append 6 = .ok (.if_icmp .lt 5, 3) := by decide +kernel
theorem dX6_append_9 : decode cX6_append 9 = .ok (.iconst 0, 1) := by decide +kernel
theorem dX6_append_10 : decode cX6_append 10 = .ok (.ireturn, 1) := by decide +kernel
theorem dX6_append_11 : decode cX6_append 11 = .ok (.aload_n 0, 1) := by decide +kernel
theorem dX6_append_12 : decode cX6_append 12 = .ok (.getfield 9, 3) := by decide +kernel
theorem dX6_append_15 : decode cX6_append 15 = .ok (.aload_n 0, 1) := by decide +kernel
theorem dX6_append_16 : decode cX6_append 16 = .ok (.getfield 15, 3) := by decide +kernel
theorem dX6_append_19 : decode cX6_append 19 = .ok (.iload_n 1, 1) := by decide +kernel
theorem dX6_append_20 : decode cX6_append 20 = .ok (.i2c, 1) := by decide +kernel
theorem dX6_append_21 : decode cX6_append 21 = .ok (.castore, 1) := by decide +kernel
theorem dX6_append_22 : decode cX6_append 22 = .ok (.aload_n 0, 1) := by decide +kernel
theorem dX6_append_23 : decode cX6_append 23 = .ok (.dup, 1) := by decide +kernel
theorem dX6_append_24 : decode cX6_append 24 = .ok (.getfield 15, 3) := by decide +kernel
theorem dX6_append_27 : decode cX6_append 27 = .ok (.iconst 1, 1) := by decide +kernel
theorem dX6_append_28 : decode cX6_append 28 = .ok (.iadd, 1) := by decide +kernel
theorem dX6_append_29 : decode cX6_append 29 = .ok (.putfield 15, 3) := by decide +kernel
theorem dX6_append_32 : decode cX6_append 32 = .ok (.iconst 1, 1) := by decide +kernel
theorem dX6_append_33 : decode cX6_append 33 = .ok (.ireturn, 1) := by decide +kernel
theorem dX6_read_0 : decode cX6_read 0 = .ok (.aload_n 0, 1) := by decide +kernel
theorem dX6_read_1 : decode cX6_read 1 = .ok (.iconst 0, 1) := by decide +kernel
theorem dX6_read_2 : decode cX6_read 2 = .ok (.putfield 19, 3) := by decide +kernel
theorem dX6_read_5 : decode cX6_read 5 = .ok (.aload_n 0, 1) := by decide +kernel
theorem dX6_read_6 : decode cX6_read 6 = .ok (.iconst (-1), 1) := by decide +kernel
theorem dX6_read_7 : decode cX6_read 7 = .ok (.putfield 22, 3) := by decide +kernel
theorem dX6_read_10 : decode cX6_read 10 = .ok (.aload_n 0, 1) := by decide +kernel
theorem dX6_read_11 : decode cX6_read 11 = .ok (.getfield 28, 3) := by decide +kernel
theorem dX6_read_14 : decode cX6_read 14 = .ok (.invokevirtual 32, 3) := by decide +kernel
theorem dX6_read_17 : decode cX6_read 17 = .ok (.aload_n 0, 1) := by decide +kernel
theorem dX6_read_18 : decode cX6_read 18 = .ok (.invokevirtual 35, 3) := by decide +kernel
theorem dX6_read_21 : decode cX6_read 21 = .ok (.iconst 0, 1) := by decide +kernel
theorem dX6_read_22 : decode cX6_read 22 = .ok (.istore_n 1, 1) := by decide +kernel
theorem dX6_read_23 : decode cX6_read 23 = .ok (.iload_n 1, 1) := by decide +kernel
theorem dX6_read_24 : decode cX6_read 24 = .ok (.bipush 120, 2) := by decide +kernel
theorem dX6_read_26 : decode cX6_read 26 = .ok (.if_icmp .ge 22, 3) := by decide +kernel
theorem dX6_read_29 : decode cX6_read 29 = .ok (.aload_n 0, 1) := by decide +kernel
theorem dX6_read_30 : decode cX6_read 30 = .ok (.bipush 59, 2) := by decide +kernel
theorem dX6_read_32 : decode cX6_read 32 = .ok (.invokevirtual 38, 3) := by decide +kernel
theorem dX6_read_35 : decode cX6_read 35 = .ok (.ifCond .eq 13, 3) := by decide +kernel
theorem dX6_read_38 : decode cX6_read 38 = .ok (.aload_n 0, 1) := by decide +kernel
theorem dX6_read_39 : decode cX6_read 39 = .ok (.invokevirtual 35, 3) := by decide +kernel
theorem dX6_read_42 : decode cX6_read 42 = .ok (.iinc 1 1, 3) := by decide +kernel
theorem dX6_read_45 : decode cX6_read 45 = .ok (.goto (-22), 3) := by decide +kernel
theorem dX6_read_48 : decode cX6_read 48 = .ok (.aload_n 0, 1) := by decide +kernel
theorem dX6_read_49 : decode cX6_read 49 = .ok (.getfield 19, 3) := by decide +kernel
theorem dX6_read_52 : decode cX6_read 52 = .ok (.aload_n 0, 1) := by decide +kernel
theorem dX6_read_53 : decode cX6_read 53 = .ok (.getfield 15, 3) := by decide +kernel
theorem dX6_read_56 : decode cX6_read 56 = .ok (.if_icmp .ge 7, 3) := by decide +kernel
theorem dX6_read_59 : decode cX6_read 59 = .ok (.aload_n 0, 1) := by decide +kernel
theorem dX6_read_60 : decode cX6_read 60 = .ok (.invokevirtual 42, 3) := by decide +kernel
theorem dX6_read_63 : decode cX6_read 63 = .ok (.aload_n 0, 1) := by decide +kernel
theorem dX6_read_64 : decode cX6_read 64 = .ok (.iconst 0, 1) := by decide +kernel
theorem dX6_read_65 : decode cX6_read 65 = .ok (.putfield 15, 3) := by decide +kernel
theorem dX6_read_68 : decode cX6_read 68 = .ok (.aload_n 0, 1) := by decide +kernel
theorem dX6_read_69 : decode cX6_read 69 = .ok (.getfield 22, 3) := by decide +kernel
theorem dX6_read_72 : decode cX6_read 72 = .ok (.ireturn, 1) := by decide +kernel
theorem dX6_draftFor_0 : decode cX6_draftFor 0 = .ok (.aload_n 0, 1) := by decide +kernel
theorem dX6_draftFor_1 : decode cX6_draftFor 1 = .ok (.getfield 28, 3) := by decide +kernel
theorem dX6_draftFor_4 : decode cX6_draftFor 4 = .ok (.astore_n 2, 1) := by decide +kernel
theorem dX6_draftFor_5 : decode cX6_draftFor 5 = .ok (.aload_n 0, 1) := by decide +kernel
theorem dX6_draftFor_6 : decode cX6_draftFor 6 = .ok (.aload_n 1, 1) := by decide +kernel
theorem dX6_draftFor_7 : decode cX6_draftFor 7 = .ok (.putfield 28, 3) := by decide +kernel
theorem dX6_draftFor_10 : decode cX6_draftFor 10 = .ok (.aload_n 2, 1) := by decide +kernel
theorem dX6_draftFor_11 : decode cX6_draftFor 11 = .ok (.areturn, 1) := by decide +kernel
theorem dX6_ahead_0 : decode cX6_ahead 0 = .ok (.aload_n 0, 1) := by decide +kernel
theorem dX6_ahead_1 : decode cX6_ahead 1 = .ok (.getfield 22, 3) := by decide +kernel
theorem dX6_ahead_4 : decode cX6_ahead 4 = .ok (.iconst (-1), 1) := by decide +kernel
theorem dX6_ahead_5 : decode cX6_ahead 5 = .ok (.if_icmp .ne 35, 3) := by decide +kernel
theorem dX6_ahead_8 : decode cX6_ahead 8 = .ok (.aload_n 0, 1) := by decide +kernel
theorem dX6_ahead_9 : decode cX6_ahead 9 = .ok (.getfield 19, 3) := by decide +kernel
theorem dX6_ahead_12 : decode cX6_ahead 12 = .ok (.aload_n 0, 1) := by decide +kernel
theorem dX6_ahead_13 : decode cX6_ahead 13 = .ok (.getfield 15, 3) := by decide +kernel
theorem dX6_ahead_16 : decode cX6_ahead 16 = .ok (.if_icmp .ge 24, 3) := by decide +kernel
theorem dX6_ahead_19 : decode cX6_ahead 19 = .ok (.aload_n 0, 1) := by decide +kernel
theorem dX6_ahead_20 : decode cX6_ahead 20 = .ok (.getfield 19, 3) := by decide +kernel
theorem dX6_ahead_23 : decode cX6_ahead 23 = .ok (.bipush 120, 2) := by decide +kernel
theorem dX6_ahead_25 : decode cX6_ahead 25 = .ok (.if_icmp .ge 15, 3) := by decide +kernel
theorem dX6_ahead_28 : decode cX6_ahead 28 = .ok (.aload_n 0, 1) := by decide +kernel
theorem dX6_ahead_29 : decode cX6_ahead 29 = .ok (.getfield 9, 3) := by decide +kernel
theorem dX6_ahead_32 : decode cX6_ahead 32 = .ok (.aload_n 0, 1) := by decide +kernel
theorem dX6_ahead_33 : decode cX6_ahead 33 = .ok (.getfield 19, 3) := by decide +kernel
theorem dX6_ahead_36 : decode cX6_ahead 36 = .ok (.caload, 1) := by decide +kernel
theorem dX6_ahead_37 : decode cX6_ahead 37 = .ok (.goto 4, 3) := by decide +kernel
theorem dX6_ahead_40 : decode cX6_ahead 40 = .ok (.iconst (-1), 1) := by decide +kernel
theorem dX6_ahead_41 : decode cX6_ahead 41 = .ok (.ireturn, 1) := by decide +kernel
theorem dX6_comes_0 : decode cX6_comes 0 = .ok (.aload_n 0, 1) := by decide +kernel
theorem dX6_comes_1 : decode cX6_comes 1 = .ok (.invokevirtual 45, 3) := by decide +kernel
theorem dX6_comes_4 : decode cX6_comes 4 = .ok (.iload_n 1, 1) := by decide +kernel
theorem dX6_comes_5 : decode cX6_comes 5 = .ok (.if_icmp .ne 7, 3) := by decide +kernel
theorem dX6_comes_8 : decode cX6_comes 8 = .ok (.iconst 1, 1) := by decide +kernel
theorem dX6_comes_9 : decode cX6_comes 9 = .ok (.goto 4, 3) := by decide +kernel
theorem dX6_comes_12 : decode cX6_comes 12 = .ok (.iconst 0, 1) := by decide +kernel
theorem dX6_comes_13 : decode cX6_comes 13 = .ok (.istore_n 2, 1) := by decide +kernel
theorem dX6_comes_14 : decode cX6_comes 14 = .ok (.iload_n 2, 1) := by decide +kernel
theorem dX6_comes_15 : decode cX6_comes 15 = .ok (.ifCond .eq 13, 3) := by decide +kernel
theorem dX6_comes_18 : decode cX6_comes 18 = .ok (.aload_n 0, 1) := by decide +kernel
theorem dX6_comes_19 : decode cX6_comes 19 = .ok (.dup, 1) := by decide +kernel
theorem dX6_comes_20 : decode cX6_comes 20 = .ok (.getfield 19, 3) := by decide +kernel
theorem dX6_comes_23 : decode cX6_comes 23 = .ok (.iconst 1, 1) := by decide +kernel
theorem dX6_comes_24 : decode cX6_comes 24 = .ok (.iadd, 1) := by decide +kernel
theorem dX6_comes_25 : decode cX6_comes 25 = .ok (.putfield 19, 3) := by decide +kernel
theorem dX6_comes_28 : decode cX6_comes 28 = .ok (.iload_n 2, 1) := by decide +kernel
theorem dX6_comes_29 : decode cX6_comes 29 = .ok (.ireturn, 1) := by decide +kernel
theorem dX6_fail_0 : decode cX6_fail 0 = .ok (.aload_n 0, 1) := by decide +kernel
theorem dX6_fail_1 : decode cX6_fail 1 = .ok (.getfield 22, 3) := by decide +kernel
theorem dX6_fail_4 : decode cX6_fail 4 = .ok (.iconst (-1), 1) := by decide +kernel
theorem dX6_fail_5 : decode cX6_fail 5 = .ok (.if_icmp .ne 11, 3) := by decide +kernel
theorem dX6_fail_8 : decode cX6_fail 8 = .ok (.aload_n 0, 1) := by decide +kernel
theorem dX6_fail_9 : decode cX6_fail 9 = .ok (.aload_n 0, 1) := by decide +kernel
theorem dX6_fail_10 : decode cX6_fail 10 = .ok (.getfield 19, 3) := by decide +kernel
theorem dX6_fail_13 : decode cX6_fail 13 = .ok (.putfield 22, 3) := by decide +kernel
theorem dX6_fail_16 : decode cX6_fail 16 = .ok (.return_, 1) := by decide +kernel
theorem dX6_write_0 : decode cX6_write 0 = .ok (.aload_n 0, 1) := by decide +kernel
theorem dX6_write_1 : decode cX6_write 1 = .ok (.getfield 28, 3) := by decide +kernel
theorem dX6_write_4 : decode cX6_write 4 = .ok (.iload_n 1, 1) := by decide +kernel
theorem dX6_write_5 : decode cX6_write 5 = .ok (.iconst 0, 1) := by decide +kernel
theorem dX6_write_6 : decode cX6_write 6 = .ok (.invokevirtual 49, 3) := by decide +kernel
theorem dX6_write_9 : decode cX6_write 9 = .ok (.return_, 1) := by decide +kernel
theorem dX6_line_0 : decode cX6_line 0 = .ok (.aload_n 0, 1) := by decide +kernel
theorem dX6_line_1 : decode cX6_line 1 = .ok (.iconst 0, 1) := by decide +kernel
theorem dX6_line_2 : decode cX6_line 2 = .ok (.invokevirtual 53, 3) := by decide +kernel
theorem dX6_line_5 : decode cX6_line 5 = .ok (.aload_n 0, 1) := by decide +kernel
theorem dX6_line_6 : decode cX6_line 6 = .ok (.bipush 63, 2) := by decide +kernel
theorem dX6_line_8 : decode cX6_line 8 = .ok (.invokevirtual 38, 3) := by decide +kernel
theorem dX6_line_11 : decode cX6_line 11 = .ok (.ifCond .eq 15, 3) := by decide +kernel
theorem dX6_line_14 : decode cX6_line 14 = .ok (.aload_n 0, 1) := by decide +kernel
theorem dX6_line_15 : decode cX6_line 15 = .ok (.getfield 28, 3) := by decide +kernel
theorem dX6_line_18 : decode cX6_line 18 = .ok (.invokevirtual 57, 3) := by decide +kernel
theorem dX6_line_21 : decode cX6_line 21 = .ok (.aload_n 0, 1) := by decide +kernel
theorem dX6_line_22 : decode cX6_line 22 = .ok (.iconst 0, 1) := by decide +kernel
theorem dX6_line_23 : decode cX6_line 23 = .ok (.invokevirtual 53, 3) := by decide +kernel
theorem dX6_line_26 : decode cX6_line 26 = .ok (.aload_n 0, 1) := by decide +kernel
theorem dX6_line_27 : decode cX6_line 27 = .ok (.getfield 28, 3) := by decide +kernel
theorem dX6_line_30 : decode cX6_line 30 = .ok (.invokevirtual 60, 3) := by decide +kernel
theorem dX6_line_33 : decode cX6_line 33 = .ok (.return_, 1) := by decide +kernel
theorem dX6_either_0 : decode cX6_either 0 = .ok (.aload_n 0, 1) := by decide +kernel
theorem dX6_either_1 : decode cX6_either 1 = .ok (.iload_n 1, 1) := by decide +kernel
theorem dX6_either_2 : decode cX6_either 2 = .ok (.invokevirtual 63, 3) := by decide +kernel
theorem dX6_either_5 : decode cX6_either 5 = .ok (.iconst 0, 1) := by decide +kernel
theorem dX6_either_6 : decode cX6_either 6 = .ok (.istore_n 2, 1) := by decide +kernel
theorem dX6_either_7 : decode cX6_either 7 = .ok (.iload_n 2, 1) := by decide +kernel
theorem dX6_either_8 : decode cX6_either 8 = .ok (.bipush 120, 2) := by decide +kernel
theorem dX6_either_10 : decode cX6_either 10 = .ok (.if_icmp .ge 29, 3) := by decide +kernel
theorem dX6_either_13 : decode cX6_either 13 = .ok (.aload_n 0, 1) := by decide +kernel
theorem dX6_either_14 : decode cX6_either 14 = .ok (.bipush 124, 2) := by decide +kernel
theorem dX6_either_16 : decode cX6_either 16 = .ok (.invokevirtual 38, 3) := by decide +kernel
theorem dX6_either_19 : decode cX6_either 19 = .ok (.ifCond .eq 20, 3) := by decide +kernel
theorem dX6_either_22 : decode cX6_either 22 = .ok (.aload_n 0, 1) := by decide +kernel
theorem dX6_either_23 : decode cX6_either 23 = .ok (.iload_n 1, 1) := by decide +kernel
theorem dX6_either_24 : decode cX6_either 24 = .ok (.invokevirtual 63, 3) := by decide +kernel
theorem dX6_either_27 : decode cX6_either 27 = .ok (.aload_n 0, 1) := by decide +kernel
theorem dX6_either_28 : decode cX6_either 28 = .ok (.bipush 124, 2) := by decide +kernel
theorem dX6_either_30 : decode cX6_either 30 = .ok (.invokevirtual 66, 3) := by decide +kernel
theorem dX6_either_33 : decode cX6_either 33 = .ok (.iinc 2 1, 3) := by decide +kernel
theorem dX6_either_36 : decode cX6_either 36 = .ok (.goto (-29), 3) := by decide +kernel
theorem dX6_either_39 : decode cX6_either 39 = .ok (.return_, 1) := by decide +kernel
theorem dX6_both_0 : decode cX6_both 0 = .ok (.aload_n 0, 1) := by decide +kernel
theorem dX6_both_1 : decode cX6_both 1 = .ok (.iload_n 1, 1) := by decide +kernel
theorem dX6_both_2 : decode cX6_both 2 = .ok (.invokevirtual 69, 3) := by decide +kernel
theorem dX6_both_5 : decode cX6_both 5 = .ok (.iconst 0, 1) := by decide +kernel
theorem dX6_both_6 : decode cX6_both 6 = .ok (.istore_n 2, 1) := by decide +kernel
theorem dX6_both_7 : decode cX6_both 7 = .ok (.iload_n 2, 1) := by decide +kernel
theorem dX6_both_8 : decode cX6_both 8 = .ok (.bipush 120, 2) := by decide +kernel
theorem dX6_both_10 : decode cX6_both 10 = .ok (.if_icmp .ge 29, 3) := by decide +kernel
theorem dX6_both_13 : decode cX6_both 13 = .ok (.aload_n 0, 1) := by decide +kernel
theorem dX6_both_14 : decode cX6_both 14 = .ok (.bipush 38, 2) := by decide +kernel
theorem dX6_both_16 : decode cX6_both 16 = .ok (.invokevirtual 38, 3) := by decide +kernel
theorem dX6_both_19 : decode cX6_both 19 = .ok (.ifCond .eq 20, 3) := by decide +kernel
theorem dX6_both_22 : decode cX6_both 22 = .ok (.aload_n 0, 1) := by decide +kernel
theorem dX6_both_23 : decode cX6_both 23 = .ok (.iload_n 1, 1) := by decide +kernel
theorem dX6_both_24 : decode cX6_both 24 = .ok (.invokevirtual 69, 3) := by decide +kernel
theorem dX6_both_27 : decode cX6_both 27 = .ok (.aload_n 0, 1) := by decide +kernel
theorem dX6_both_28 : decode cX6_both 28 = .ok (.bipush 38, 2) := by decide +kernel
theorem dX6_both_30 : decode cX6_both 30 = .ok (.invokevirtual 66, 3) := by decide +kernel
theorem dX6_both_33 : decode cX6_both 33 = .ok (.iinc 2 1, 3) := by decide +kernel
theorem dX6_both_36 : decode cX6_both 36 = .ok (.goto (-29), 3) := by decide +kernel
theorem dX6_both_39 : decode cX6_both 39 = .ok (.return_, 1) := by decide +kernel
theorem dX6_compared_0 : decode cX6_compared 0 = .ok (.aload_n 0, 1) := by decide +kernel
theorem dX6_compared_1 : decode cX6_compared 1 = .ok (.iload_n 1, 1) := by decide +kernel
theorem dX6_compared_2 : decode cX6_compared 2 = .ok (.invokevirtual 72, 3) := by decide +kernel
theorem dX6_compared_5 : decode cX6_compared 5 = .ok (.aload_n 0, 1) := by decide +kernel
theorem dX6_compared_6 : decode cX6_compared 6 = .ok (.invokevirtual 45, 3) := by decide +kernel
theorem dX6_compared_9 : decode cX6_compared 9 = .ok (.istore_n 2, 1) := by decide +kernel
theorem dX6_compared_10 : decode cX6_compared 10 = .ok (.iload_n 2, 1) := by decide +kernel
theorem dX6_compared_11 : decode cX6_compared 11 = .ok (.bipush 60, 2) := by decide +kernel
theorem dX6_compared_13 : decode cX6_compared 13 = .ok (.if_icmp .eq 15, 3) := by decide +kernel
theorem dX6_compared_16 : decode cX6_compared 16 = .ok (.iload_n 2, 1) := by decide +kernel
theorem dX6_compared_17 : decode cX6_compared 17 = .ok (.bipush 61, 2) := by decide +kernel
theorem dX6_compared_19 : decode cX6_compared 19 = .ok (.if_icmp .eq 9, 3) := by decide +kernel
theorem dX6_compared_22 : decode cX6_compared 22 = .ok (.iload_n 2, 1) := by decide +kernel
theorem dX6_compared_23 : decode cX6_compared 23 = .ok (.bipush 62, 2) := by decide +kernel
theorem dX6_compared_25 : decode cX6_compared 25 = .ok (.if_icmp .ne 24, 3) := by decide +kernel
theorem dX6_compared_28 : decode cX6_compared 28 = .ok (.aload_n 0, 1) := by decide +kernel
theorem dX6_compared_29 : decode cX6_compared 29 = .ok (.dup, 1) := by decide +kernel
theorem dX6_compared_30 : decode cX6_compared 30 = .ok (.getfield 19, 3) := by decide +kernel
theorem dX6_compared_33 : decode cX6_compared 33 = .ok (.iconst 1, 1) := by decide +kernel
theorem dX6_compared_34 : decode cX6_compared 34 = .ok (.iadd, 1) := by decide +kernel
theorem dX6_compared_35 : decode cX6_compared 35 = .ok (.putfield 19, 3) := by decide +kernel
theorem dX6_compared_38 : decode cX6_compared 38 = .ok (.aload_n 0, 1) := by decide +kernel
theorem dX6_compared_39 : decode cX6_compared 39 = .ok (.iload_n 1, 1) := by decide +kernel
theorem dX6_compared_40 : decode cX6_compared 40 = .ok (.invokevirtual 72, 3) := by decide +kernel
theorem dX6_compared_43 : decode cX6_compared 43 = .ok (.aload_n 0, 1) := by decide +kernel
theorem dX6_compared_44 : decode cX6_compared 44 = .ok (.iload_n 2, 1) := by decide +kernel
theorem dX6_compared_45 : decode cX6_compared 45 = .ok (.i2c, 1) := by decide +kernel
theorem dX6_compared_46 : decode cX6_compared 46 = .ok (.invokevirtual 66, 3) := by decide +kernel
theorem dX6_compared_49 : decode cX6_compared 49 = .ok (.return_, 1) := by decide +kernel
theorem dX6_sum_0 : decode cX6_sum 0 = .ok (.aload_n 0, 1) := by decide +kernel
theorem dX6_sum_1 : decode cX6_sum 1 = .ok (.iload_n 1, 1) := by decide +kernel
theorem dX6_sum_2 : decode cX6_sum 2 = .ok (.invokevirtual 75, 3) := by decide +kernel
theorem dX6_sum_5 : decode cX6_sum 5 = .ok (.aload_n 0, 1) := by decide +kernel
theorem dX6_sum_6 : decode cX6_sum 6 = .ok (.invokevirtual 45, 3) := by decide +kernel
theorem dX6_sum_9 : decode cX6_sum 9 = .ok (.istore_n 2, 1) := by decide +kernel
theorem dX6_sum_10 : decode cX6_sum 10 = .ok (.iconst 0, 1) := by decide +kernel
theorem dX6_sum_11 : decode cX6_sum 11 = .ok (.istore_n 3, 1) := by decide +kernel
theorem dX6_sum_12 : decode cX6_sum 12 = .ok (.iload_n 3, 1) := by decide +kernel
theorem dX6_sum_13 : decode cX6_sum 13 = .ok (.bipush 120, 2) := by decide +kernel
theorem dX6_sum_15 : decode cX6_sum 15 = .ok (.if_icmp .ge 47, 3) := by decide +kernel
theorem dX6_sum_18 : decode cX6_sum 18 = .ok (.iload_n 2, 1) := by decide +kernel
theorem dX6_sum_19 : decode cX6_sum 19 = .ok (.bipush 43, 2) := by decide +kernel
theorem dX6_sum_21 : decode cX6_sum 21 = .ok (.if_icmp .eq 9, 3) := by decide +kernel
theorem dX6_sum_24 : decode cX6_sum 24 = .ok (.iload_n 2, 1) := by decide +kernel
theorem dX6_sum_25 : decode cX6_sum 25 = .ok (.bipush 45, 2) := by decide +kernel
theorem dX6_sum_27 : decode cX6_sum 27 = .ok (.if_icmp .ne 35, 3) := by decide +kernel
theorem dX6_sum_30 : decode cX6_sum 30 = .ok (.aload_n 0, 1) := by decide +kernel
theorem dX6_sum_31 : decode cX6_sum 31 = .ok (.dup, 1) := by decide +kernel
theorem dX6_sum_32 : decode cX6_sum 32 = .ok (.getfield 19, 3) := by decide +kernel
theorem dX6_sum_35 : decode cX6_sum 35 = .ok (.iconst 1, 1) := by decide +kernel
theorem dX6_sum_36 : decode cX6_sum 36 = .ok (.iadd, 1) := by decide +kernel
theorem dX6_sum_37 : decode cX6_sum 37 = .ok (.putfield 19, 3) := by decide +kernel
theorem dX6_sum_40 : decode cX6_sum 40 = .ok (.aload_n 0, 1) := by decide +kernel
theorem dX6_sum_41 : decode cX6_sum 41 = .ok (.iload_n 1, 1) := by decide +kernel
theorem dX6_sum_42 : decode cX6_sum 42 = .ok (.invokevirtual 75, 3) := by decide +kernel
theorem dX6_sum_45 : decode cX6_sum 45 = .ok (.aload_n 0, 1) := by decide +kernel
theorem dX6_sum_46 : decode cX6_sum 46 = .ok (.iload_n 2, 1) := by decide +kernel
theorem dX6_sum_47 : decode cX6_sum 47 = .ok (.i2c, 1) := by decide +kernel
theorem dX6_sum_48 : decode cX6_sum 48 = .ok (.invokevirtual 66, 3) := by decide +kernel
theorem dX6_sum_51 : decode cX6_sum 51 = .ok (.aload_n 0, 1) := by decide +kernel
theorem dX6_sum_52 : decode cX6_sum 52 = .ok (.invokevirtual 45, 3) := by decide +kernel
theorem dX6_sum_55 : decode cX6_sum 55 = .ok (.istore_n 2, 1) := by decide +kernel
theorem dX6_sum_56 : decode cX6_sum 56 = .ok (.iinc 3 1, 3) := by decide +kernel
theorem dX6_sum_59 : decode cX6_sum 59 = .ok (.goto (-47), 3) := by decide +kernel
theorem dX6_sum_62 : decode cX6_sum 62 = .ok (.return_, 1) := by decide +kernel
theorem dX6_product_0 : decode cX6_product 0 = .ok (.aload_n 0, 1) := by decide +kernel
theorem dX6_product_1 : decode cX6_product 1 = .ok (.iload_n 1, 1) := by decide +kernel
theorem dX6_product_2 : decode cX6_product 2 = .ok (.invokevirtual 78, 3) := by decide +kernel
theorem dX6_product_5 : decode cX6_product 5 = .ok (.aload_n 0, 1) := by decide +kernel
theorem dX6_product_6 : decode cX6_product 6 = .ok (.invokevirtual 45, 3) := by decide +kernel
theorem dX6_product_9 : decode cX6_product 9 = .ok (.istore_n 2, 1) := by decide +kernel
theorem dX6_product_10 : decode cX6_product 10 = .ok (.iconst 0, 1) := by decide +kernel
theorem dX6_product_11 : decode cX6_product 11 = .ok (.istore_n 3, 1) := by decide +kernel
theorem dX6_product_12 : decode cX6_product 12 = .ok (.iload_n 3, 1) := by decide +kernel
theorem dX6_product_13 : decode cX6_product 13 = .ok (.bipush 120, 2) := by decide +kernel
theorem dX6_product_15 : decode cX6_product 15 = .ok (.if_icmp .ge 53, 3) := by decide +kernel
theorem dX6_product_18 : decode cX6_product 18 = .ok (.iload_n 2, 1) := by decide +kernel
theorem dX6_product_19 : decode cX6_product 19 = .ok (.bipush 42, 2) := by decide +kernel
theorem dX6_product_21 : decode cX6_product 21 = .ok (.if_icmp .eq 15, 3) := by decide +kernel
theorem dX6_product_24 : decode cX6_product 24 = .ok (.iload_n 2, 1) := by decide +kernel
theorem dX6_product_25 : decode cX6_product 25 = .ok (.bipush 47, 2) := by decide +kernel
theorem dX6_product_27 : decode cX6_product 27 = .ok (.if_icmp .eq 9, 3) := by decide +kernel
theorem dX6_product_30 : decode cX6_product 30 = .ok (.iload_n 2, 1) := by decide +kernel
theorem dX6_product_31 : decode cX6_product 31 = .ok (.bipush 37, 2) := by decide +kernel
theorem dX6_product_33 : decode cX6_product 33 = .ok (.if_icmp .ne 35, 3) := by decide +kernel
theorem dX6_product_36 : decode cX6_product 36 = .ok (.aload_n 0, 1) := by decide +kernel
theorem dX6_product_37 : decode cX6_product 37 = .ok (.dup, 1) := by decide +kernel
theorem dX6_product_38 : decode cX6_product 38 = .ok (.getfield 19, 3) := by decide +kernel
theorem dX6_product_41 : decode cX6_product 41 = .ok (.iconst 1, 1) := by decide +kernel
theorem dX6_product_42 : decode cX6_product 42 = .ok (.iadd, 1) := by decide +kernel
theorem dX6_product_43 : decode cX6_product 43 = .ok (.putfield 19, 3) := by decide +kernel
theorem dX6_product_46 : decode cX6_product 46 = .ok (.aload_n 0, 1) := by decide +kernel
theorem dX6_product_47 : decode cX6_product 47 = .ok (.iload_n 1, 1) := by decide +kernel
theorem dX6_product_48 : decode cX6_product 48 = .ok (.invokevirtual 78, 3) := by decide +kernel
theorem dX6_product_51 : decode cX6_product 51 = .ok (.aload_n 0, 1) := by decide +kernel
theorem dX6_product_52 : decode cX6_product 52 = .ok (.iload_n 2, 1) := by decide +kernel
theorem dX6_product_53 : decode cX6_product 53 = .ok (.i2c, 1) := by decide +kernel
theorem dX6_product_54 : decode cX6_product 54 = .ok (.invokevirtual 66, 3) := by decide +kernel
theorem dX6_product_57 : decode cX6_product 57 = .ok (.aload_n 0, 1) := by decide +kernel
theorem dX6_product_58 : decode cX6_product 58 = .ok (.invokevirtual 45, 3) := by decide +kernel
theorem dX6_product_61 : decode cX6_product 61 = .ok (.istore_n 2, 1) := by decide +kernel
theorem dX6_product_62 : decode cX6_product 62 = .ok (.iinc 3 1, 3) := by decide +kernel
theorem dX6_product_65 : decode cX6_product 65 = .ok (.goto (-53), 3) := by decide +kernel
theorem dX6_product_68 : decode cX6_product 68 = .ok (.return_, 1) := by decide +kernel
theorem dX6_operand_0 : decode cX6_operand 0 = .ok (.aload_n 0, 1) := by decide +kernel
theorem dX6_operand_1 : decode cX6_operand 1 = .ok (.invokevirtual 45, 3) := by decide +kernel
theorem dX6_operand_4 : decode cX6_operand 4 = .ok (.istore_n 2, 1) := by decide +kernel
theorem dX6_operand_5 : decode cX6_operand 5 = .ok (.iload_n 2, 1) := by decide +kernel
theorem dX6_operand_6 : decode cX6_operand 6 = .ok (.invokestatic 81, 3) := by decide +kernel
theorem dX6_operand_9 : decode cX6_operand 9 = .ok (.ifCond .eq 10, 3) := by decide +kernel
theorem dX6_operand_12 : decode cX6_operand 12 = .ok (.aload_n 0, 1) := by decide +kernel
theorem dX6_operand_13 : decode cX6_operand 13 = .ok (.invokevirtual 85, 3) := by decide +kernel
theorem dX6_operand_16 : decode cX6_operand 16 = .ok (.goto 142, 3) := by decide +kernel
theorem dX6_operand_19 : decode cX6_operand 19 = .ok (.iload_n 2, 1) := by decide +kernel
theorem dX6_operand_20 : decode cX6_operand 20 = .ok (.invokestatic 88, 3) := by decide +kernel
theorem dX6_operand_23 : decode cX6_operand 23 = .ok (.iconst (-1), 1) := by decide +kernel
theorem dX6_operand_24 : decode cX6_operand 24 = .ok (.if_icmp .eq 29, 3) := by decide +kernel
theorem dX6_operand_27 : decode cX6_operand 27 = .ok (.aload_n 0, 1) := by decide +kernel
theorem dX6_operand_28 : decode cX6_operand 28 = .ok (.dup, 1) := by decide +kernel
theorem dX6_operand_29 : decode cX6_operand 29 = .ok (.getfield 19, 3) := by decide +kernel
theorem dX6_operand_32 : decode cX6_operand 32 = .ok (.iconst 1, 1) := by decide +kernel
theorem dX6_operand_33 : decode cX6_operand 33 = .ok (.iadd, 1) := by decide +kernel
theorem dX6_operand_34 : decode cX6_operand 34 = .ok (.putfield 19, 3) := by decide +kernel
theorem dX6_operand_37 : decode cX6_operand 37 = .ok (.aload_n 0, 1) := by decide +kernel
theorem dX6_operand_38 : decode cX6_operand 38 = .ok (.getfield 28, 3) := by decide +kernel
theorem dX6_operand_41 : decode cX6_operand 41 = .ok (.bipush 36, 2) := by decide +kernel
theorem dX6_operand_43 : decode cX6_operand 43 = .ok (.iload_n 2, 1) := by decide +kernel
theorem dX6_operand_44 : decode cX6_operand 44 = .ok (.invokestatic 88, 3) := by decide +kernel
theorem dX6_operand_47 : decode cX6_operand 47 = .ok (.invokevirtual 49, 3) := by decide +kernel
theorem dX6_operand_50 : decode cX6_operand 50 = .ok (.goto 108, 3) := by decide +kernel
theorem dX6_operand_53 : decode cX6_operand 53 = .ok (.iload_n 1, 1) := by decide +kernel
theorem dX6_operand_54 : decode cX6_operand 54 = .ok (.bipush 6, 2) := by decide +kernel
theorem dX6_operand_56 : decode cX6_operand 56 = .ok (.if_icmp .lt 10, 3) := by decide +kernel
theorem dX6_operand_59 : decode cX6_operand 59 = .ok (.aload_n 0, 1) := by decide +kernel
theorem dX6_operand_60 : decode cX6_operand 60 = .ok (.invokevirtual 42, 3) := by decide +kernel
theorem dX6_operand_63 : decode cX6_operand 63 = .ok (.goto 95, 3) := by decide +kernel
theorem dX6_operand_66 : decode cX6_operand 66 = .ok (.iload_n 2, 1) := by decide +kernel
theorem dX6_operand_67 : decode cX6_operand 67 = .ok (.bipush 33, 2) := by decide +kernel
theorem dX6_operand_69 : decode cX6_operand 69 = .ok (.if_icmp .eq 9, 3) := by decide +kernel
theorem dX6_operand_72 : decode cX6_operand 72 = .ok (.iload_n 2, 1) := by decide +kernel
theorem dX6_operand_73 : decode cX6_operand 73 = .ok (.bipush 45, 2) := by decide +kernel
theorem dX6_operand_75 : decode cX6_operand 75 = .ok (.if_icmp .ne 40, 3) := by decide +kernel
theorem dX6_operand_78 : decode cX6_operand 78 = .ok (.aload_n 0, 1) := by decide +kernel
theorem dX6_operand_79 : decode cX6_operand 79 = .ok (.dup, 1) := by decide +kernel
theorem dX6_operand_80 : decode cX6_operand 80 = .ok (.getfield 19, 3) := by decide +kernel
theorem dX6_operand_83 : decode cX6_operand 83 = .ok (.iconst 1, 1) := by decide +kernel
theorem dX6_operand_84 : decode cX6_operand 84 = .ok (.iadd, 1) := by decide +kernel
theorem dX6_operand_85 : decode cX6_operand 85 = .ok (.putfield 19, 3) := by decide +kernel
theorem dX6_operand_88 : decode cX6_operand 88 = .ok (.aload_n 0, 1) := by decide +kernel
theorem dX6_operand_89 : decode cX6_operand 89 = .ok (.iload_n 1, 1) := by decide +kernel
theorem dX6_operand_90 : decode cX6_operand 90 = .ok (.iconst 1, 1) := by decide +kernel
theorem dX6_operand_91 : decode cX6_operand 91 = .ok (.iadd, 1) := by decide +kernel
theorem dX6_operand_92 : decode cX6_operand 92 = .ok (.invokevirtual 78, 3) := by decide +kernel
theorem dX6_operand_95 : decode cX6_operand 95 = .ok (.aload_n 0, 1) := by decide +kernel
theorem dX6_operand_96 : decode cX6_operand 96 = .ok (.iload_n 2, 1) := by decide +kernel
theorem dX6_operand_97 : decode cX6_operand 97 = .ok (.bipush 45, 2) := by decide +kernel
theorem dX6_operand_99 : decode cX6_operand 99 = .ok (.if_icmp .ne 8, 3) := by decide +kernel
theorem dX6_operand_102 : decode cX6_operand 102 = .ok (.bipush 126, 2) := by decide +kernel
theorem dX6_operand_104 : decode cX6_operand 104 = .ok (.goto 5, 3) := by decide +kernel
theorem dX6_operand_107 : decode cX6_operand 107 = .ok (.bipush 33, 2) := by decide +kernel
theorem dX6_operand_109 : decode cX6_operand 109 = .ok (.invokevirtual 66, 3) := by decide +kernel
theorem dX6_operand_112 : decode cX6_operand 112 = .ok (.goto 46, 3) := by decide +kernel
theorem dX6_operand_115 : decode cX6_operand 115 = .ok (.iload_n 2, 1) := by decide +kernel
theorem dX6_operand_116 : decode cX6_operand 116 = .ok (.bipush 40, 2) := by decide +kernel
theorem dX6_operand_118 : decode cX6_operand 118 = .ok (.if_icmp .ne 36, 3) := by decide +kernel
theorem dX6_operand_121 : decode cX6_operand 121 = .ok (.aload_n 0, 1) := by decide +kernel
theorem dX6_operand_122 : decode cX6_operand 122 = .ok (.dup, 1) := by decide +kernel
theorem dX6_operand_123 : decode cX6_operand 123 = .ok (.getfield 19, 3) := by decide +kernel
theorem dX6_operand_126 : decode cX6_operand 126 = .ok (.iconst 1, 1) := by decide +kernel
theorem dX6_operand_127 : decode cX6_operand 127 = .ok (.iadd, 1) := by decide +kernel
theorem dX6_operand_128 : decode cX6_operand 128 = .ok (.putfield 19, 3) := by decide +kernel
theorem dX6_operand_131 : decode cX6_operand 131 = .ok (.aload_n 0, 1) := by decide +kernel
theorem dX6_operand_132 : decode cX6_operand 132 = .ok (.iload_n 1, 1) := by decide +kernel
theorem dX6_operand_133 : decode cX6_operand 133 = .ok (.iconst 1, 1) := by decide +kernel
theorem dX6_operand_134 : decode cX6_operand 134 = .ok (.iadd, 1) := by decide +kernel
theorem dX6_operand_135 : decode cX6_operand 135 = .ok (.invokevirtual 53, 3) := by decide +kernel
theorem dX6_operand_138 : decode cX6_operand 138 = .ok (.aload_n 0, 1) := by decide +kernel
theorem dX6_operand_139 : decode cX6_operand 139 = .ok (.bipush 41, 2) := by decide +kernel
theorem dX6_operand_141 : decode cX6_operand 141 = .ok (.invokevirtual 38, 3) := by decide +kernel
theorem dX6_operand_144 : decode cX6_operand 144 = .ok (.ifCond .ne 14, 3) := by decide +kernel
theorem dX6_operand_147 : decode cX6_operand 147 = .ok (.aload_n 0, 1) := by decide +kernel
theorem dX6_operand_148 : decode cX6_operand 148 = .ok (.invokevirtual 42, 3) := by decide +kernel
theorem dX6_operand_151 : decode cX6_operand 151 = .ok (.goto 7, 3) := by decide +kernel
theorem dX6_operand_154 : decode cX6_operand 154 = .ok (.aload_n 0, 1) := by decide +kernel
theorem dX6_operand_155 : decode cX6_operand 155 = .ok (.invokevirtual 42, 3) := by decide +kernel
theorem dX6_operand_158 : decode cX6_operand 158 = .ok (.return_, 1) := by decide +kernel
theorem dX6_number_0 : decode cX6_number 0 = .ok (.iconst 0, 1) := by decide +kernel
theorem dX6_number_1 : decode cX6_number 1 = .ok (.istore_n 1, 1) := by decide +kernel
theorem dX6_number_2 : decode cX6_number 2 = .ok (.iconst 0, 1) := by decide +kernel
theorem dX6_number_3 : decode cX6_number 3 = .ok (.istore_n 2, 1) := by decide +kernel
theorem dX6_number_4 : decode cX6_number 4 = .ok (.iload_n 2, 1) := by decide +kernel
theorem dX6_number_5 : decode cX6_number 5 = .ok (.iconst 4, 1) := by decide +kernel
theorem dX6_number_6 : decode cX6_number 6 = .ok (.if_icmp .ge 42, 3) := by decide +kernel
theorem dX6_number_9 : decode cX6_number 9 = .ok (.aload_n 0, 1) := by decide +kernel
theorem dX6_number_10 : decode cX6_number 10 = .ok (.invokevirtual 45, 3) := by decide +kernel
theorem dX6_number_13 : decode cX6_number 13 = .ok (.invokestatic 81, 3) := by decide +kernel
theorem dX6_number_16 : decode cX6_number 16 = .ok (.ifCond .eq 32, 3) := by decide +kernel
theorem dX6_number_19 : decode cX6_number 19 = .ok (.bipush 10, 2) := by decide +kernel
theorem dX6_number_21 : decode cX6_number 21 = .ok (.iload_n 1, 1) := by decide +kernel
theorem dX6_number_22 : decode cX6_number 22 = .ok (.imul, 1) := by decide +kernel
theorem dX6_number_23 : decode cX6_number 23 = .ok (.aload_n 0, 1) := by decide +kernel
theorem dX6_number_24 : decode cX6_number 24 = .ok (.invokevirtual 45, 3) := by decide +kernel
theorem dX6_number_27 : decode cX6_number 27 = .ok (.bipush 48, 2) := by decide +kernel
theorem dX6_number_29 : decode cX6_number 29 = .ok (.isub, 1) := by decide +kernel
theorem dX6_number_30 : decode cX6_number 30 = .ok (.iadd, 1) := by decide +kernel
theorem dX6_number_31 : decode cX6_number 31 = .ok (.istore_n 1, 1) := by decide +kernel
theorem dX6_number_32 : decode cX6_number 32 = .ok (.aload_n 0, 1) := by decide +kernel
theorem dX6_number_33 : decode cX6_number 33 = .ok (.dup, 1) := by decide +kernel
theorem dX6_number_34 : decode cX6_number 34 = .ok (.getfield 19, 3) := by decide +kernel
theorem dX6_number_37 : decode cX6_number 37 = .ok (.iconst 1, 1) := by decide +kernel
theorem dX6_number_38 : decode cX6_number 38 = .ok (.iadd, 1) := by decide +kernel
theorem dX6_number_39 : decode cX6_number 39 = .ok (.putfield 19, 3) := by decide +kernel
theorem dX6_number_42 : decode cX6_number 42 = .ok (.iinc 2 1, 3) := by decide +kernel
theorem dX6_number_45 : decode cX6_number 45 = .ok (.goto (-41), 3) := by decide +kernel
theorem dX6_number_48 : decode cX6_number 48 = .ok (.aload_n 0, 1) := by decide +kernel
theorem dX6_number_49 : decode cX6_number 49 = .ok (.getfield 28, 3) := by decide +kernel
theorem dX6_number_52 : decode cX6_number 52 = .ok (.bipush 35, 2) := by decide +kernel
theorem dX6_number_54 : decode cX6_number 54 = .ok (.iload_n 1, 1) := by decide +kernel
theorem dX6_number_55 : decode cX6_number 55 = .ok (.invokevirtual 49, 3) := by decide +kernel
theorem dX6_number_58 : decode cX6_number 58 = .ok (.return_, 1) := by decide +kernel
theorem dX6_isDigit_0 : decode cX6_isDigit 0 = .ok (.iload_n 0, 1) := by decide +kernel
theorem dX6_isDigit_1 : decode cX6_isDigit 1 = .ok (.bipush 48, 2) := by decide +kernel
theorem dX6_isDigit_3 : decode cX6_isDigit 3 = .ok (.if_icmp .lt 13, 3) := by decide +kernel
theorem dX6_isDigit_6 : decode cX6_isDigit 6 = .ok (.iload_n 0, 1) := by decide +kernel
theorem dX6_isDigit_7 : decode cX6_isDigit 7 = .ok (.bipush 57, 2) := by decide +kernel
theorem dX6_isDigit_9 : decode cX6_isDigit 9 = .ok (.if_icmp .gt 7, 3) := by decide +kernel
theorem dX6_isDigit_12 : decode cX6_isDigit 12 = .ok (.iconst 1, 1) := by decide +kernel
theorem dX6_isDigit_13 : decode cX6_isDigit 13 = .ok (.goto 4, 3) := by decide +kernel
theorem dX6_isDigit_16 : decode cX6_isDigit 16 = .ok (.iconst 0, 1) := by decide +kernel
theorem dX6_isDigit_17 : decode cX6_isDigit 17 = .ok (.ireturn, 1) := by decide +kernel
theorem dX7_init_0 : decode cX7_init 0 = .ok (.aload_n 0, 1) := by decide +kernel
theorem dX7_init_1 : decode cX7_init 1 = .ok (.invokespecial 3, 3) := by decide +kernel
theorem dX7_init_4 : decode cX7_init 4 = .ok (.aload_n 0, 1) := by decide +kernel
theorem dX7_init_5 : decode cX7_init 5 = .ok (.bipush 10, 2) := by decide +kernel
theorem dX7_init_7 : decode cX7_init 7 = .ok (.anewarray 11, 3) := by decide +kernel
theorem dX7_init_10 : decode cX7_init 10 = .ok (.putfield 13, 3) := by decide +kernel
theorem dX7_init_13 : decode cX7_init 13 = .ok (.aload_n 0, 1) := by decide +kernel
theorem dX7_init_14 : decode cX7_init 14 = .ok (.bipush 10, 2) := by decide +kernel
theorem dX7_init_16 : decode cX7_init 16 = .ok (.bipush 8, 2) := by decide +kernel
theorem dX7_init_18 : decode cX7_init 18 = .ok (.multianewarray 17 2, 4) := by decide +kernel
theorem dX7_init_22 : decode cX7_init 22 = .ok (.putfield 19, 3) := by decide +kernel
theorem dX7_init_25 : decode cX7_init 25 = .ok (.aload_n 0, 1) := by decide +kernel
theorem dX7_init_26 : decode cX7_init 26 = .ok (.sipush 128, 3) := by decide +kernel
theorem dX7_init_29 : decode cX7_init 29 = .ok (.newarray .int, 2) := by decide +kernel
theorem dX7_init_31 : decode cX7_init 31 = .ok (.putfield 22, 3) := by decide +kernel
theorem dX7_init_34 : decode cX7_init 34 = .ok (.aload_n 0, 1) := by decide +kernel
theorem dX7_init_35 : decode cX7_init 35 = .ok (.bipush 7, 2) := by decide +kernel
theorem dX7_init_37 : decode cX7_init 37 = .ok (.newarray .int, 2) := by decide +kernel
theorem dX7_init_39 : decode cX7_init 39 = .ok (.putfield 26, 3) := by decide +kernel
theorem dX7_init_42 : decode cX7_init 42 = .ok (.aload_n 0, 1) := by decide +kernel
theorem dX7_init_43 : decode cX7_init 43 = .ok (.bipush 7, 2) := by decide +kernel
theorem dX7_init_45 : decode cX7_init 45 = .ok (.newarray .int, 2) := by decide +kernel
theorem dX7_init_47 : decode cX7_init 47 = .ok (.putfield 29, 3) := by decide +kernel
theorem dX7_init_50 : decode cX7_init 50 = .ok (.aload_n 0, 1) := by decide +kernel
theorem dX7_init_51 : decode cX7_init 51 = .ok (.bipush 7, 2) := by decide +kernel
theorem dX7_init_53 : decode cX7_init 53 = .ok (.newarray .int, 2) := by decide +kernel
theorem dX7_init_55 : decode cX7_init 55 = .ok (.putfield 32, 3) := by decide +kernel
theorem dX7_init_58 : decode cX7_init 58 = .ok (.aload_n 0, 1) := by decide +kernel
theorem dX7_init_59 : decode cX7_init 59 = .ok (.aconst_null, 1) := by decide +kernel
theorem dX7_init_60 : decode cX7_init 60 = .ok (.putfield 35, 3) := by decide +kernel
theorem dX7_init_63 : decode cX7_init 63 = .ok (.aload_n 0, 1) := by decide +kernel
theorem dX7_init_64 : decode cX7_init 64 = .ok (.iconst 0, 1) := by decide +kernel
theorem dX7_init_65 : decode cX7_init 65 = .ok (.putfield 39, 3) := by decide +kernel
theorem dX7_init_68 : decode cX7_init 68 = .ok (.aload_n 0, 1) := by decide +kernel
theorem dX7_init_69 : decode cX7_init 69 = .ok (.aload_n 1, 1) := by decide +kernel
theorem dX7_init_70 : decode cX7_init 70 = .ok (.putfield 43, 3) := by decide +kernel
theorem dX7_init_73 : decode cX7_init 73 = .ok (.iconst 0, 1) := by decide +kernel
theorem dX7_init_74 : decode cX7_init 74 = .ok (.istore_n 2, 1) := by decide +kernel
theorem dX7_init_75 : decode cX7_init 75 = .ok (.iload_n 2, 1) := by decide +kernel
theorem dX7_init_76 : decode cX7_init 76 = .ok (.bipush 10, 2) := by decide +kernel
theorem dX7_init_78 : decode cX7_init 78 = .ok (.if_icmp .ge 22, 3) := by decide +kernel
theorem dX7_init_81 : decode cX7_init 81 = .ok (.aload_n 0, 1) := by decide +kernel
theorem dX7_init_82 : decode cX7_init 82 = .ok (.getfield 13, 3) := by decide +kernel
theorem dX7_init_85 : decode cX7_init 85 = .ok (.iload_n 2, 1) := by decide +kernel
theorem dX7_init_86 : decode cX7_init 86 = .ok (.new 11, 3) := by decide +kernel
theorem dX7_init_89 : decode cX7_init 89 = .ok (.dup, 1) := by decide +kernel
theorem dX7_init_90 : decode cX7_init 90 = .ok (.invokespecial 47, 3) := by decide +kernel
theorem dX7_init_93 : decode cX7_init 93 = .ok (.aastore, 1) := by decide +kernel
theorem dX7_init_94 : decode cX7_init 94 = .ok (.iinc 2 1, 3) := by decide +kernel
theorem dX7_init_97 : decode cX7_init 97 = .ok (.goto (-22), 3) := by decide +kernel
theorem dX7_init_100 : decode cX7_init 100 = .ok (.return_, 1) := by decide +kernel
theorem dX7_eveningBy_0 : decode cX7_eveningBy 0 = .ok (.aload_n 0, 1) := by decide +kernel
theorem dX7_eveningBy_1 : decode cX7_eveningBy 1 = .ok (.getfield 13, 3) := by decide +kernel
theorem dX7_eveningBy_4 : decode cX7_eveningBy 4 = .ok (.iconst 0, 1) := by decide +kernel
theorem dX7_eveningBy_5 : decode cX7_eveningBy 5 = .ok (.aaload, 1) := by decide +kernel
theorem dX7_eveningBy_6 : decode cX7_eveningBy 6 = .ok (.astore_n 2, 1) := by decide +kernel
theorem dX7_eveningBy_7 : decode cX7_eveningBy 7 = .ok (.aload_n 2, 1) := by decide +kernel
theorem dX7_eveningBy_8 : decode cX7_eveningBy 8 = .ok (.aload_n 1, 1) := by decide +kernel
theorem dX7_eveningBy_9 : decode cX7_eveningBy 9 = .ok (.invokevirtual 48, 3) := by decide +kernel
theorem dX7_eveningBy_12 : decode cX7_eveningBy 12 = .ok (.aload_n 2, 1) := by decide +kernel
theorem dX7_eveningBy_13 : decode cX7_eveningBy 13 = .ok (.aload_n 0, 1) := by decide +kernel
theorem dX7_eveningBy_14 : decode cX7_eveningBy 14 = .ok (.getfield 43, 3) := by decide +kernel
theorem dX7_eveningBy_17 : decode cX7_eveningBy 17 = .ok (.getfield 52, 3) := by decide +kernel
theorem dX7_eveningBy_20 : decode cX7_eveningBy 20 = .ok (.aload_n 0, 1) := by decide +kernel
theorem dX7_eveningBy_21 : decode cX7_eveningBy 21 = .ok (.getfield 43, 3) := by decide +kernel
theorem dX7_eveningBy_24 : decode cX7_eveningBy 24 = .ok (.invokevirtual 57, 3) := by decide +kernel
theorem dX7_eveningBy_27 : decode cX7_eveningBy 27 = .ok (.pop, 1) := by decide +kernel
theorem dX7_eveningBy_28 : decode cX7_eveningBy 28 = .ok (.aload_n 2, 1) := by decide +kernel
theorem dX7_eveningBy_29 : decode cX7_eveningBy 29 = .ok (.aload_n 0, 1) := by decide +kernel
theorem dX7_eveningBy_30 : decode cX7_eveningBy 30 = .ok (.getfield 43, 3) := by decide +kernel
theorem dX7_eveningBy_33 : decode cX7_eveningBy 33 = .ok (.invokevirtual 61, 3) := by decide +kernel
theorem dX7_eveningBy_36 : decode cX7_eveningBy 36 = .ok (.aload_n 2, 1) := by decide +kernel
theorem dX7_eveningBy_37 : decode cX7_eveningBy 37 = .ok (.areturn, 1) := by decide +kernel
theorem dX7_eachForItself_0 : decode cX7_eachForItself 0 = .ok (.aload_n 0, 1) := by decide +kernel
theorem dX7_eachForItself_1 : decode cX7_eachForItself 1 = .ok (.getfield 13, 3) := by decide +kernel
theorem dX7_eachForItself_4 : decode cX7_eachForItself 4 = .ok (.iconst 0, 1) := by decide +kernel
theorem dX7_eachForItself_5 : decode cX7_eachForItself 5 = .ok (.aaload, 1) := by decide +kernel
theorem dX7_eachForItself_6 : decode cX7_eachForItself 6 = .ok (.aload_n 1, 1) := by decide +kernel
theorem dX7_eachForItself_7 : decode cX7_eachForItself 7 = .ok (.invokevirtual 48, 3) := by decide +kernel
theorem dX7_eachForItself_10 : decode cX7_eachForItself 10 = .ok (.aload_n 0, 1) := by decide +kernel
theorem dX7_eachForItself_11 : decode cX7_eachForItself 11 = .ok (.iconst 0, 1) := by decide +kernel
theorem dX7_eachForItself_12 : decode cX7_eachForItself 12 = .ok (.invokevirtual 65, 3) := by decide +kernel
theorem dX7_eachForItself_15 : decode cX7_eachForItself 15 = .ok (.aload_n 0, 1) := by decide +kernel
theorem dX7_eachForItself_16 : decode cX7_eachForItself 16 = .ok (.getfield 19, 3) := by decide +kernel
theorem dX7_eachForItself_19 : decode cX7_eachForItself 19 = .ok (.iconst 0, 1) := by decide +kernel
theorem dX7_eachForItself_20 : decode cX7_eachForItself 20 = .ok (.aaload, 1) := by decide +kernel
theorem dX7_eachForItself_21 : decode cX7_eachForItself 21 = .ok (.iload_n 2, 1) := by decide +kernel
theorem dX7_eachForItself_22 : decode cX7_eachForItself 22 = .ok (.iconst (-1), 1) := by decide +kernel
theorem dX7_eachForItself_23 : decode cX7_eachForItself 23 = .ok (.if_icmp .ne 8, 3) := by decide +kernel
theorem dX7_eachForItself_26 : decode cX7_eachForItself 26 = .ok (.bipush 7, 2) := by decide +kernel
theorem dX7_eachForItself_28 : decode cX7_eachForItself 28 = .ok (.goto 4, 3) := by decide +kernel
theorem dX7_eachForItself_31 : decode cX7_eachForItself 31 = .ok (.iload_n 2, 1) := by decide +kernel
theorem dX7_eachForItself_32 : decode cX7_eachForItself 32 = .ok (.iaload, 1) := by decide +kernel
theorem dX7_eachForItself_33 : decode cX7_eachForItself 33 = .ok (.ireturn, 1) := by decide +kernel
theorem dX7_lookAhead_0 : decode cX7_lookAhead 0 = .ok (.aload_n 0, 1) := by decide +kernel
theorem dX7_lookAhead_1 : decode cX7_lookAhead 1 = .ok (.getfield 13, 3) := by decide +kernel
theorem dX7_lookAhead_4 : decode cX7_lookAhead 4 = .ok (.iload_n 1, 1) := by decide +kernel
theorem dX7_lookAhead_5 : decode cX7_lookAhead 5 = .ok (.aaload, 1) := by decide +kernel
theorem dX7_lookAhead_6 : decode cX7_lookAhead 6 = .ok (.astore_n 2, 1) := by decide +kernel
theorem dX7_lookAhead_7 : decode cX7_lookAhead 7 = .ok (.aload_n 2, 1) := by decide +kernel
theorem dX7_lookAhead_8 : decode cX7_lookAhead 8 = .ok (.aload_n 0, 1) := by decide +kernel
theorem dX7_lookAhead_9 : decode cX7_lookAhead 9 = .ok (.getfield 43, 3) := by decide +kernel
theorem dX7_lookAhead_12 : decode cX7_lookAhead 12 = .ok (.invokevirtual 69, 3) := by decide +kernel
theorem dX7_lookAhead_15 : decode cX7_lookAhead 15 = .ok (.istore_n 3, 1) := by decide +kernel
theorem dX7_lookAhead_16 : decode cX7_lookAhead 16 = .ok (.iload_n 3, 1) := by decide +kernel
theorem dX7_lookAhead_17 : decode cX7_lookAhead 17 = .ok (.ifCond .lt 11, 3) := by decide +kernel
theorem dX7_lookAhead_20 : decode cX7_lookAhead 20 = .ok (.iload_n 1, 1) := by decide +kernel
theorem dX7_lookAhead_21 : decode cX7_lookAhead 21 = .ok (.iconst 1, 1) := by decide +kernel
theorem dX7_lookAhead_22 : decode cX7_lookAhead 22 = .ok (.iadd, 1) := by decide +kernel
theorem dX7_lookAhead_23 : decode cX7_lookAhead 23 = .ok (.bipush 10, 2) := by decide +kernel
theorem dX7_lookAhead_25 : decode cX7_lookAhead 25 = .ok (.if_icmp .lt 34, 3) := by decide +kernel
theorem dX7_lookAhead_28 : decode cX7_lookAhead 28 = .ok (.aload_n 2, 1) := by decide +kernel
theorem dX7_lookAhead_29 : decode cX7_lookAhead 29 = .ok (.getfield 73, 3) := by decide +kernel
theorem dX7_lookAhead_32 : decode cX7_lookAhead 32 = .ok (.iconst 0, 1) := by decide +kernel
theorem dX7_lookAhead_33 : decode cX7_lookAhead 33 = .ok (.aload_n 0, 1) := by decide +kernel
theorem dX7_lookAhead_34 : decode cX7_lookAhead 34 = .ok (.getfield 19, 3) := by decide +kernel
theorem dX7_lookAhead_37 : decode cX7_lookAhead 37 = .ok (.iload_n 1, 1) := by decide +kernel
theorem dX7_lookAhead_38 : decode cX7_lookAhead 38 = .ok (.aaload, 1) := by decide +kernel
theorem dX7_lookAhead_39 : decode cX7_lookAhead 39 = .ok (.iconst 0, 1) := by decide +kernel
theorem dX7_lookAhead_40 : decode cX7_lookAhead 40 = .ok (.bipush 7, 2) := by decide +kernel
theorem dX7_lookAhead_42 : decode cX7_lookAhead 42 = .ok (.invokestatic 76, 3) := by decide +kernel
theorem dX7_lookAhead_45 : decode cX7_lookAhead 45 = .ok (.aload_n 0, 1) := by decide +kernel
theorem dX7_lookAhead_46 : decode cX7_lookAhead 46 = .ok (.getfield 19, 3) := by decide +kernel
theorem dX7_lookAhead_49 : decode cX7_lookAhead 49 = .ok (.iload_n 1, 1) := by decide +kernel
theorem dX7_lookAhead_50 : decode cX7_lookAhead 50 = .ok (.aaload, 1) := by decide +kernel
theorem dX7_lookAhead_51 : decode cX7_lookAhead 51 = .ok (.bipush 7, 2) := by decide +kernel
theorem dX7_lookAhead_53 : decode cX7_lookAhead 53 = .ok (.aload_n 2, 1) := by decide +kernel
theorem dX7_lookAhead_54 : decode cX7_lookAhead 54 = .ok (.getfield 82, 3) := by decide +kernel
theorem dX7_lookAhead_57 : decode cX7_lookAhead 57 = .ok (.iastore, 1) := by decide +kernel
theorem dX7_lookAhead_58 : decode cX7_lookAhead 58 = .ok (.return_, 1) := by decide +kernel
theorem dX7_lookAhead_59 : decode cX7_lookAhead 59 = .ok (.aload_n 0, 1) := by decide +kernel
theorem dX7_lookAhead_60 : decode cX7_lookAhead 60 = .ok (.getfield 13, 3) := by decide +kernel
theorem dX7_lookAhead_63 : decode cX7_lookAhead 63 = .ok (.iload_n 1, 1) := by decide +kernel
theorem dX7_lookAhead_64 : decode cX7_lookAhead 64 = .ok (.iconst 1, 1) := by decide +kernel
theorem dX7_lookAhead_65 : decode cX7_lookAhead 65 = .ok (.iadd, 1) := by decide +kernel
theorem dX7_lookAhead_66 : decode cX7_lookAhead 66 = .ok (.aaload, 1) := by decide +kernel
theorem dX7_lookAhead_67 : decode cX7_lookAhead 67 = .ok (.astore 4, 2) := by decide +kernel
theorem dX7_lookAhead_69 : decode cX7_lookAhead 69 = .ok (.aload 4, 2) := by decide +kernel
theorem dX7_lookAhead_71 : decode cX7_lookAhead 71 = .ok (.aload_n 2, 1) := by decide +kernel
theorem dX7_lookAhead_72 : decode cX7_lookAhead 72 = .ok (.invokevirtual 85, 3) := by decide +kernel
theorem dX7_lookAhead_75 : decode cX7_lookAhead 75 = .ok (.aload 4, 2) := by decide +kernel
theorem dX7_lookAhead_77 : decode cX7_lookAhead 77 = .ok (.iload_n 3, 1) := by decide +kernel
theorem dX7_lookAhead_78 : decode cX7_lookAhead 78 = .ok (.invokevirtual 89, 3) := by decide +kernel
theorem dX7_lookAhead_81 : decode cX7_lookAhead 81 = .ok (.pop, 1) := by decide +kernel
theorem dX7_lookAhead_82 : decode cX7_lookAhead 82 = .ok (.aload_n 0, 1) := by decide +kernel
theorem dX7_lookAhead_83 : decode cX7_lookAhead 83 = .ok (.iload_n 1, 1) := by decide +kernel
theorem dX7_lookAhead_84 : decode cX7_lookAhead 84 = .ok (.iconst 1, 1) := by decide +kernel
theorem dX7_lookAhead_85 : decode cX7_lookAhead 85 = .ok (.iadd, 1) := by decide +kernel
theorem dX7_lookAhead_86 : decode cX7_lookAhead 86 = .ok (.invokevirtual 65, 3) := by decide +kernel
theorem dX7_lookAhead_89 : decode cX7_lookAhead 89 = .ok (.aload_n 0, 1) := by decide +kernel
theorem dX7_lookAhead_90 : decode cX7_lookAhead 90 = .ok (.iload_n 1, 1) := by decide +kernel
theorem dX7_lookAhead_91 : decode cX7_lookAhead 91 = .ok (.invokevirtual 93, 3) := by decide +kernel
theorem dX7_lookAhead_94 : decode cX7_lookAhead 94 = .ok (.iconst 0, 1) := by decide +kernel
theorem dX7_lookAhead_95 : decode cX7_lookAhead 95 = .ok (.istore 5, 2) := by decide +kernel
theorem dX7_lookAhead_97 : decode cX7_lookAhead 97 = .ok (.iload 5, 2) := by decide +kernel
theorem dX7_lookAhead_99 : decode cX7_lookAhead 99 = .ok (.aload_n 2, 1) := by decide +kernel
theorem dX7_lookAhead_100 : decode cX7_lookAhead 100 = .ok (.getfield 96, 3) := by decide +kernel
theorem dX7_lookAhead_103 : decode cX7_lookAhead 103 = .ok (.if_icmp .ge 66, 3) := by decide +kernel
theorem dX7_lookAhead_106 : decode cX7_lookAhead 106 = .ok (.aload_n 2, 1) := by decide +kernel
theorem dX7_lookAhead_107 : decode cX7_lookAhead 107 = .ok (.iload 5, 2) := by decide +kernel
theorem dX7_lookAhead_109 : decode cX7_lookAhead 109 = .ok (.aload_n 0, 1) := by decide +kernel
theorem dX7_lookAhead_110 : decode cX7_lookAhead 110 = .ok (.getfield 43, 3) := by decide +kernel
theorem dX7_lookAhead_113 : decode cX7_lookAhead 113 = .ok (.invokevirtual 99, 3) := by decide +kernel
theorem dX7_lookAhead_116 : decode cX7_lookAhead 116 = .ok (.ifCond .eq 47, 3) := by decide +kernel
theorem dX7_lookAhead_119 : decode cX7_lookAhead 119 = .ok (.aload 4, 2) := by decide +kernel
theorem dX7_lookAhead_121 : decode cX7_lookAhead 121 = .ok (.aload_n 2, 1) := by decide +kernel
theorem dX7_lookAhead_122 : decode cX7_lookAhead 122 = .ok (.invokevirtual 85, 3) := by decide +kernel
theorem dX7_lookAhead_125 : decode cX7_lookAhead 125 = .ok (.aload 4, 2) := by decide +kernel
theorem dX7_lookAhead_127 : decode cX7_lookAhead 127 = .ok (.iload_n 3, 1) := by decide +kernel
theorem dX7_lookAhead_128 : decode cX7_lookAhead 128 = .ok (.iload 5, 2) := by decide +kernel
theorem dX7_lookAhead_130 : decode cX7_lookAhead 130 = .ok (.invokevirtual 103, 3) := by decide +kernel
theorem dX7_lookAhead_133 : decode cX7_lookAhead 133 = .ok (.pop, 1) := by decide +kernel
theorem dX7_lookAhead_134 : decode cX7_lookAhead 134 = .ok (.aload_n 0, 1) := by decide +kernel
theorem dX7_lookAhead_135 : decode cX7_lookAhead 135 = .ok (.iload_n 1, 1) := by decide +kernel
theorem dX7_lookAhead_136 : decode cX7_lookAhead 136 = .ok (.iconst 1, 1) := by decide +kernel
theorem dX7_lookAhead_137 : decode cX7_lookAhead 137 = .ok (.iadd, 1) := by decide +kernel
theorem dX7_lookAhead_138 : decode cX7_lookAhead 138 = .ok (.invokevirtual 65, 3) := by decide +kernel
theorem dX7_lookAhead_141 : decode cX7_lookAhead 141 = .ok (.aload_n 0, 1) := by decide +kernel
theorem dX7_lookAhead_142 : decode cX7_lookAhead 142 = .ok (.iload_n 1, 1) := by decide +kernel
theorem dX7_lookAhead_143 : decode cX7_lookAhead 143 = .ok (.iconst 1, 1) := by decide +kernel
theorem dX7_lookAhead_144 : decode cX7_lookAhead 144 = .ok (.iadd, 1) := by decide +kernel
theorem dX7_lookAhead_145 : decode cX7_lookAhead 145 = .ok (.iload_n 3, 1) := by decide +kernel
theorem dX7_lookAhead_146 : decode cX7_lookAhead 146 = .ok (.invokevirtual 107, 3) := by decide +kernel
theorem dX7_lookAhead_149 : decode cX7_lookAhead 149 = .ok (.aload_n 0, 1) := by decide +kernel
theorem dX7_lookAhead_150 : decode cX7_lookAhead 150 = .ok (.iload_n 1, 1) := by decide +kernel
theorem dX7_lookAhead_151 : decode cX7_lookAhead 151 = .ok (.iload_n 3, 1) := by decide +kernel
theorem dX7_lookAhead_152 : decode cX7_lookAhead 152 = .ok (.invokevirtual 107, 3) := by decide +kernel
theorem dX7_lookAhead_155 : decode cX7_lookAhead 155 = .ok (.if_icmp .le 8, 3) := by decide +kernel
theorem dX7_lookAhead_158 : decode cX7_lookAhead 158 = .ok (.aload_n 0, 1) := by decide +kernel
theorem dX7_lookAhead_159 : decode cX7_lookAhead 159 = .ok (.iload_n 1, 1) := by decide +kernel
theorem dX7_lookAhead_160 : decode cX7_lookAhead 160 = .ok (.invokevirtual 93, 3) := by decide +kernel
theorem dX7_lookAhead_163 : decode cX7_lookAhead 163 = .ok (.iinc 5 1, 3) := by decide +kernel
theorem dX7_lookAhead_166 : decode cX7_lookAhead 166 = .ok (.goto (-69), 3) := by decide +kernel
theorem dX7_lookAhead_169 : decode cX7_lookAhead 169 = .ok (.return_, 1) := by decide +kernel
theorem dX7_worthAtEnd_0 : decode cX7_worthAtEnd 0 = .ok (.aload_n 0, 1) := by decide +kernel
theorem dX7_worthAtEnd_1 : decode cX7_worthAtEnd 1 = .ok (.getfield 43, 3) := by decide +kernel
theorem dX7_worthAtEnd_4 : decode cX7_worthAtEnd 4 = .ok (.iload_n 2, 1) := by decide +kernel
theorem dX7_worthAtEnd_5 : decode cX7_worthAtEnd 5 = .ok (.aload_n 0, 1) := by decide +kernel
theorem dX7_worthAtEnd_6 : decode cX7_worthAtEnd 6 = .ok (.getfield 19, 3) := by decide +kernel
theorem dX7_worthAtEnd_9 : decode cX7_worthAtEnd 9 = .ok (.iload_n 1, 1) := by decide +kernel
theorem dX7_worthAtEnd_10 : decode cX7_worthAtEnd 10 = .ok (.aaload, 1) := by decide +kernel
theorem dX7_worthAtEnd_11 : decode cX7_worthAtEnd 11 = .ok (.iload_n 2, 1) := by decide +kernel
theorem dX7_worthAtEnd_12 : decode cX7_worthAtEnd 12 = .ok (.iaload, 1) := by decide +kernel
theorem dX7_worthAtEnd_13 : decode cX7_worthAtEnd 13 = .ok (.invokevirtual 110, 3) := by decide +kernel
theorem dX7_worthAtEnd_16 : decode cX7_worthAtEnd 16 = .ok (.ireturn, 1) := by decide +kernel
theorem dX7_comeTo_0 : decode cX7_comeTo 0 = .ok (.aload_n 0, 1) := by decide +kernel
theorem dX7_comeTo_1 : decode cX7_comeTo 1 = .ok (.getfield 19, 3) := by decide +kernel
theorem dX7_comeTo_4 : decode cX7_comeTo 4 = .ok (.iload_n 1, 1) := by decide +kernel
theorem dX7_comeTo_5 : decode cX7_comeTo 5 = .ok (.iconst 1, 1) := by decide +kernel
theorem dX7_comeTo_6 : decode cX7_comeTo 6 = .ok (.iadd, 1) := by decide +kernel
theorem dX7_comeTo_7 : decode cX7_comeTo 7 = .ok (.aaload, 1) := by decide +kernel
theorem dX7_comeTo_8 : decode cX7_comeTo 8 = .ok (.iconst 0, 1) := by decide +kernel
theorem dX7_comeTo_9 : decode cX7_comeTo 9 = .ok (.aload_n 0, 1) := by decide +kernel
theorem dX7_comeTo_10 : decode cX7_comeTo 10 = .ok (.getfield 19, 3) := by decide +kernel
theorem dX7_comeTo_13 : decode cX7_comeTo 13 = .ok (.iload_n 1, 1) := by decide +kernel
theorem dX7_comeTo_14 : decode cX7_comeTo 14 = .ok (.aaload, 1) := by decide +kernel
theorem dX7_comeTo_15 : decode cX7_comeTo 15 = .ok (.iconst 0, 1) := by decide +kernel
theorem dX7_comeTo_16 : decode cX7_comeTo 16 = .ok (.bipush 8, 2) := by decide +kernel
theorem dX7_comeTo_18 : decode cX7_comeTo 18 = .ok (.invokestatic 76, 3) := by decide +kernel
theorem dX7_comeTo_21 : decode cX7_comeTo 21 = .ok (.return_, 1) := by decide +kernel
theorem dX7_bestParting_0 : decode cX7_bestParting 0 = .ok (.aload_n 0, 1) := by decide +kernel
theorem dX7_bestParting_1 : decode cX7_bestParting 1 = .ok (.invokevirtual 113, 3) := by decide +kernel
theorem dX7_bestParting_4 : decode cX7_bestParting 4 = .ok (.iload_n 1, 1) := by decide +kernel
theorem dX7_bestParting_5 : decode cX7_bestParting 5 = .ok (.iconst (-1), 1) := by decide +kernel
theorem dX7_bestParting_6 : decode cX7_bestParting 6 = .ok (.if_icmp .ne 10, 3) := by decide +kernel
theorem dX7_bestParting_9 : decode cX7_bestParting 9 = .ok (.aload_n 0, 1) := by decide +kernel
theorem dX7_bestParting_10 : decode cX7_bestParting 10 = .ok (.getfield 22, 3) := by decide +kernel
theorem dX7_bestParting_13 : decode cX7_bestParting 13 = .ok (.iconst 0, 1) := by decide +kernel
theorem dX7_bestParting_14 : decode cX7_bestParting 14 = .ok (.iaload, 1) := by decide +kernel
theorem dX7_bestParting_15 : decode cX7_bestParting 15 = .ok (.ireturn, 1) := by decide +kernel
theorem dX7_bestParting_16 : decode cX7_bestParting 16 = .ok (.iconst 0, 1) := by decide +kernel
theorem dX7_bestParting_17 : decode cX7_bestParting 17 = .ok (.istore_n 2, 1) := by decide +kernel
theorem dX7_bestParting_18 : decode cX7_bestParting 18 = .ok (.iconst (-1), 1) := by decide +kernel
theorem dX7_bestParting_19 : decode cX7_bestParting 19 = .ok (.istore_n 3, 1) := by decide +kernel
theorem dX7_bestParting_20 : decode cX7_bestParting 20 = .ok (.iconst 0, 1) := by decide +kernel
theorem dX7_bestParting_21 : decode cX7_bestParting 21 = .ok (.istore 4, 2) := by decide +kernel
theorem dX7_bestParting_23 : decode cX7_bestParting 23 = .ok (.iload 4, 2) := by decide +kernel
theorem dX7_bestParting_25 : decode cX7_bestParting 25 = .ok (.iload_n 1, 1) := by decide +kernel
theorem dX7_bestParting_26 : decode cX7_bestParting 26 = .ok (.if_icmp .gt 40, 3) := by decide +kernel
theorem dX7_bestParting_29 : decode cX7_bestParting 29 = .ok (.iload 4, 2) := by decide +kernel
theorem dX7_bestParting_31 : decode cX7_bestParting 31 = .ok (.aload_n 0, 1) := by decide +kernel
theorem dX7_bestParting_32 : decode cX7_bestParting 32 = .ok (.getfield 43, 3) := by decide +kernel
theorem dX7_bestParting_35 : decode cX7_bestParting 35 = .ok (.getfield 52, 3) := by decide +kernel
theorem dX7_bestParting_38 : decode cX7_bestParting 38 = .ok (.if_icmp .ge 28, 3) := by decide +kernel
theorem dX7_bestParting_41 : decode cX7_bestParting 41 = .ok (.aload_n 0, 1) := by decide +kernel
theorem dX7_bestParting_42 : decode cX7_bestParting 42 = .ok (.iload 4, 2) := by decide +kernel
theorem dX7_bestParting_44 : decode cX7_bestParting 44 = .ok (.iload_n 2, 1) := by decide +kernel
theorem dX7_bestParting_45 : decode cX7_bestParting 45 = .ok (.invokevirtual 116, 3) := by decide +kernel
theorem dX7_bestParting_48 : decode cX7_bestParting 48 = .ok (.istore_n 3, 1) := by decide +kernel
theorem dX7_bestParting_49 : decode cX7_bestParting 49 = .ok (.iload_n 3, 1) := by decide +kernel
theorem dX7_bestParting_50 : decode cX7_bestParting 50 = .ok (.iconst (-1), 1) := by decide +kernel
theorem dX7_bestParting_51 : decode cX7_bestParting 51 = .ok (.if_icmp .eq 9, 3) := by decide +kernel
theorem dX7_bestParting_54 : decode cX7_bestParting 54 = .ok (.iload_n 2, 1) := by decide +kernel
theorem dX7_bestParting_55 : decode cX7_bestParting 55 = .ok (.iconst 1, 1) := by decide +kernel
theorem dX7_bestParting_56 : decode cX7_bestParting 56 = .ok (.iload_n 3, 1) := by decide +kernel
theorem dX7_bestParting_57 : decode cX7_bestParting 57 = .ok (.ishl, 1) := by decide +kernel
theorem dX7_bestParting_58 : decode cX7_bestParting 58 = .ok (.ior, 1) := by decide +kernel
theorem dX7_bestParting_59 : decode cX7_bestParting 59 = .ok (.istore_n 2, 1) := by decide +kernel
theorem dX7_bestParting_60 : decode cX7_bestParting 60 = .ok (.iinc 4 1, 3) := by decide +kernel
theorem dX7_bestParting_63 : decode cX7_bestParting 63 = .ok (.goto (-40), 3) := by decide +kernel
theorem dX7_bestParting_66 : decode cX7_bestParting 66 = .ok (.iload_n 3, 1) := by decide +kernel
theorem dX7_bestParting_67 : decode cX7_bestParting 67 = .ok (.ireturn, 1) := by decide +kernel
theorem dX7_fillMostBehind_0 : decode cX7_fillMostBehind 0 = .ok (.iconst 1, 1) := by decide +kernel
theorem dX7_fillMostBehind_1 : decode cX7_fillMostBehind 1 = .ok (.aload_n 0, 1) := by decide +kernel
theorem dX7_fillMostBehind_2 : decode cX7_fillMostBehind 2 = .ok (.getfield 43, 3) := by decide +kernel
theorem dX7_fillMostBehind_5 : decode cX7_fillMostBehind 5 = .ok (.getfield 52, 3) := by decide +kernel
theorem dX7_fillMostBehind_8 : decode cX7_fillMostBehind 8 = .ok (.ishl, 1) := by decide +kernel
theorem dX7_fillMostBehind_9 : decode cX7_fillMostBehind 9 = .ok (.iconst 1, 1) := by decide +kernel
theorem dX7_fillMostBehind_10 : decode cX7_fillMostBehind 10 = .ok (.isub, 1) := by decide +kernel
theorem dX7_fillMostBehind_11 : decode cX7_fillMostBehind 11 = .ok (.istore_n 1, 1) := by decide +kernel
theorem dX7_fillMostBehind_12 : decode cX7_fillMostBehind 12 = .ok (.aload_n 0, 1) := by decide +kernel
theorem dX7_fillMostBehind_13 : decode cX7_fillMostBehind 13 = .ok (.getfield 22, 3) := by decide +kernel
theorem dX7_fillMostBehind_16 : decode cX7_fillMostBehind 16 = .ok (.iload_n 1, 1) := by decide +kernel
theorem dX7_fillMostBehind_17 : decode cX7_fillMostBehind 17 = .ok (.iconst 0, 1) := by decide +kernel
theorem dX7_fillMostBehind_18 : decode cX7_fillMostBehind 18 = .ok (.iastore, 1) := by decide +kernel
theorem dX7_fillMostBehind_19 : decode cX7_fillMostBehind 19 = .ok (.iload_n 1, 1) := by decide +kernel
theorem dX7_fillMostBehind_20 : decode cX7_fillMostBehind 20 = .ok (.iconst 1, 1) := by decide +kernel
theorem dX7_fillMostBehind_21 : decode cX7_fillMostBehind 21 = .ok (.isub, 1) := by decide +kernel
theorem dX7_fillMostBehind_22 : decode cX7_fillMostBehind 22 = .ok (.istore_n 2, 1) := by decide +kernel
theorem dX7_fillMostBehind_23 : decode cX7_fillMostBehind 23 = .ok (.iload_n 2, 1) := by decide +kernel
theorem dX7_fillMostBehind_24 : decode cX7_fillMostBehind 24 = .ok (.ifCond .lt 70, 3) := by decide +kernel
theorem dX7_fillMostBehind_27 : decode cX7_fillMostBehind 27 = .ok (.iload_n 2, 1) := by decide +kernel
theorem dX7_fillMostBehind_28 : decode cX7_fillMostBehind 28 = .ok (.invokestatic 119, 3) := by decide +kernel
theorem dX7_fillMostBehind_31 : decode cX7_fillMostBehind 31 = .ok (.istore_n 3, 1) := by decide +kernel
theorem dX7_fillMostBehind_32 : decode cX7_fillMostBehind 32 = .ok (.iconst 0, 1) := by decide +kernel
theorem dX7_fillMostBehind_33 : decode cX7_fillMostBehind 33 = .ok (.istore 4, 2) := by decide +kernel
theorem dX7_fillMostBehind_35 : decode cX7_fillMostBehind 35 = .ok (.iconst 0, 1) := by decide +kernel
theorem dX7_fillMostBehind_36 : decode cX7_fillMostBehind 36 = .ok (.istore 5, 2) := by decide +kernel
theorem dX7_fillMostBehind_38 : decode cX7_fillMostBehind 38 = .ok (.iload 5, 2) := by decide +kernel
theorem dX7_fillMostBehind_40 : decode cX7_fillMostBehind 40 = .ok (.aload_n 0, 1) := by decide +kernel
theorem dX7_fillMostBehind_41 : decode cX7_fillMostBehind 41 = .ok (.getfield 43, 3) := by decide +kernel
theorem dX7_fillMostBehind_44 : decode cX7_fillMostBehind 44 = .ok (.getfield 52, 3) := by decide +kernel
theorem dX7_fillMostBehind_47 : decode cX7_fillMostBehind 47 = .ok (.if_icmp .ge 33, 3) := by decide +kernel
theorem dX7_fillMostBehind_50 : decode cX7_fillMostBehind 50 = .ok (.iload_n 2, 1) := by decide +kernel
theorem dX7_fillMostBehind_51 : decode cX7_fillMostBehind 51 = .ok (.iload 5, 2) := by decide +kernel
theorem dX7_fillMostBehind_53 : decode cX7_fillMostBehind 53 = .ok (.ishr, 1) := by decide +kernel
theorem dX7_fillMostBehind_54 : decode cX7_fillMostBehind 54 = .ok (.iconst 1, 1) := by decide +kernel
theorem dX7_fillMostBehind_55 : decode cX7_fillMostBehind 55 = .ok (.iand, 1) := by decide +kernel
theorem dX7_fillMostBehind_56 : decode cX7_fillMostBehind 56 = .ok (.ifCond .ne 18, 3) := by decide +kernel
theorem dX7_fillMostBehind_59 : decode cX7_fillMostBehind 59 = .ok (.iload 4, 2) := by decide +kernel
theorem dX7_fillMostBehind_61 : decode cX7_fillMostBehind 61 = .ok (.aload_n 0, 1) := by decide +kernel
theorem dX7_fillMostBehind_62 : decode cX7_fillMostBehind 62 = .ok (.iload_n 3, 1) := by decide +kernel
theorem dX7_fillMostBehind_63 : decode cX7_fillMostBehind 63 = .ok (.iload 5, 2) := by decide +kernel
theorem dX7_fillMostBehind_65 : decode cX7_fillMostBehind 65 = .ok (.iload_n 2, 1) := by decide +kernel
theorem dX7_fillMostBehind_66 : decode cX7_fillMostBehind 66 = .ok (.invokevirtual 124, 3) := by decide +kernel
theorem dX7_fillMostBehind_69 : decode cX7_fillMostBehind 69 = .ok (.invokestatic 128, 3) := by decide +kernel
theorem dX7_fillMostBehind_72 : decode cX7_fillMostBehind 72 = .ok (.istore 4, 2) := by decide +kernel
theorem dX7_fillMostBehind_74 : decode cX7_fillMostBehind 74 = .ok (.iinc 5 1, 3) := by decide +kernel
theorem dX7_fillMostBehind_77 : decode cX7_fillMostBehind 77 = .ok (.goto (-39), 3) := by decide +kernel
theorem dX7_fillMostBehind_80 : decode cX7_fillMostBehind 80 = .ok (.aload_n 0, 1) := by decide +kernel
theorem dX7_fillMostBehind_81 : decode cX7_fillMostBehind 81 = .ok (.getfield 22, 3) := by decide +kernel
theorem dX7_fillMostBehind_84 : decode cX7_fillMostBehind 84 = .ok (.iload_n 2, 1) := by decide +kernel
theorem dX7_fillMostBehind_85 : decode cX7_fillMostBehind 85 = .ok (.iload 4, 2) := by decide +kernel
theorem dX7_fillMostBehind_87 : decode cX7_fillMostBehind 87 = .ok (.iastore, 1) := by decide +kernel
theorem dX7_fillMostBehind_88 : decode cX7_fillMostBehind 88 = .ok (.iinc 2 (-1), 3) := by decide +kernel
theorem dX7_fillMostBehind_91 : decode cX7_fillMostBehind 91 = .ok (.goto (-68), 3) := by decide +kernel
theorem dX7_fillMostBehind_94 : decode cX7_fillMostBehind 94 = .ok (.return_, 1) := by decide +kernel
theorem dX7_worthWithAllBehind_0 : decode cX7_worthWithAllBehind 0 = .ok (.aload_n 0, 1) := by decide +kernel
theorem dX7_worthWithAllBehind_1 : decode cX7_worthWithAllBehind 1 = .ok (.getfield 43, 3) := by decide +kernel
theorem dX7_worthWithAllBehind_4 : decode cX7_worthWithAllBehind 4 = .ok (.iload_n 1, 1) := by decide +kernel
theorem dX7_worthWithAllBehind_5 : decode cX7_worthWithAllBehind 5 = .ok (.iload_n 2, 1) := by decide +kernel
theorem dX7_worthWithAllBehind_6 : decode cX7_worthWithAllBehind 6 = .ok (.invokevirtual 110, 3) := by decide +kernel
theorem dX7_worthWithAllBehind_9 : decode cX7_worthWithAllBehind 9 = .ok (.aload_n 0, 1) := by decide +kernel
theorem dX7_worthWithAllBehind_10 : decode cX7_worthWithAllBehind 10 = .ok (.getfield 22, 3) := by decide +kernel
theorem dX7_worthWithAllBehind_13 : decode cX7_worthWithAllBehind 13 = .ok (.iload_n 3, 1) := by decide +kernel
theorem dX7_worthWithAllBehind_14 : decode cX7_worthWithAllBehind 14 = .ok (.iconst 1, 1) := by decide +kernel
theorem dX7_worthWithAllBehind_15 : decode cX7_worthWithAllBehind 15 = .ok (.iload_n 2, 1) := by decide +kernel
theorem dX7_worthWithAllBehind_16 : decode cX7_worthWithAllBehind 16 = .ok (.ishl, 1) := by decide +kernel
theorem dX7_worthWithAllBehind_17 : decode cX7_worthWithAllBehind 17 = .ok (.ior, 1) := by decide +kernel
theorem dX7_worthWithAllBehind_18 : decode cX7_worthWithAllBehind 18 = .ok (.iaload, 1) := by decide +kernel
theorem dX7_worthWithAllBehind_19 : decode cX7_worthWithAllBehind 19 = .ok (.iadd, 1) := by decide +kernel
theorem dX7_worthWithAllBehind_20 : decode cX7_worthWithAllBehind 20 = .ok (.ireturn, 1) := by decide +kernel
theorem dX7_firstBest_0 : decode cX7_firstBest 0 = .ok (.iconst 0, 1) := by decide +kernel
theorem dX7_firstBest_1 : decode cX7_firstBest 1 = .ok (.istore_n 3, 1) := by decide +kernel
theorem dX7_firstBest_2 : decode cX7_firstBest 2 = .ok (.iload_n 3, 1) := by decide +kernel
theorem dX7_firstBest_3 : decode cX7_firstBest 3 = .ok (.aload_n 0, 1) := by decide +kernel
theorem dX7_firstBest_4 : decode cX7_firstBest 4 = .ok (.getfield 43, 3) := by decide +kernel
theorem dX7_firstBest_7 : decode cX7_firstBest 7 = .ok (.getfield 52, 3) := by decide +kernel
theorem dX7_firstBest_10 : decode cX7_firstBest 10 = .ok (.if_icmp .ge 35, 3) := by decide +kernel
theorem dX7_firstBest_13 : decode cX7_firstBest 13 = .ok (.iload_n 2, 1) := by decide +kernel
theorem dX7_firstBest_14 : decode cX7_firstBest 14 = .ok (.iload_n 3, 1) := by decide +kernel
theorem dX7_firstBest_15 : decode cX7_firstBest 15 = .ok (.ishr, 1) := by decide +kernel
theorem dX7_firstBest_16 : decode cX7_firstBest 16 = .ok (.iconst 1, 1) := by decide +kernel
theorem dX7_firstBest_17 : decode cX7_firstBest 17 = .ok (.iand, 1) := by decide +kernel
theorem dX7_firstBest_18 : decode cX7_firstBest 18 = .ok (.ifCond .ne 21, 3) := by decide +kernel
theorem dX7_firstBest_21 : decode cX7_firstBest 21 = .ok (.aload_n 0, 1) := by decide +kernel
theorem dX7_firstBest_22 : decode cX7_firstBest 22 = .ok (.iload_n 1, 1) := by decide +kernel
theorem dX7_firstBest_23 : decode cX7_firstBest 23 = .ok (.iload_n 3, 1) := by decide +kernel
theorem dX7_firstBest_24 : decode cX7_firstBest 24 = .ok (.iload_n 2, 1) := by decide +kernel
theorem dX7_firstBest_25 : decode cX7_firstBest 25 = .ok (.invokevirtual 124, 3) := by decide +kernel
theorem dX7_firstBest_28 : decode cX7_firstBest 28 = .ok (.aload_n 0, 1) := by decide +kernel
theorem dX7_firstBest_29 : decode cX7_firstBest 29 = .ok (.getfield 22, 3) := by decide +kernel
theorem dX7_firstBest_32 : decode cX7_firstBest 32 = .ok (.iload_n 2, 1) := by decide +kernel
theorem dX7_firstBest_33 : decode cX7_firstBest 33 = .ok (.iaload, 1) := by decide +kernel
theorem dX7_firstBest_34 : decode cX7_firstBest 34 = .ok (.if_icmp .ne 5, 3) := by decide +kernel
theorem dX7_firstBest_37 : decode cX7_firstBest 37 = .ok (.iload_n 3, 1) := by decide +kernel
theorem dX7_firstBest_38 : decode cX7_firstBest 38 = .ok (.ireturn, 1) := by decide +kernel
theorem dX7_firstBest_39 : decode cX7_firstBest 39 = .ok (.iinc 3 1, 3) := by decide +kernel
theorem dX7_firstBest_42 : decode cX7_firstBest 42 = .ok (.goto (-40), 3) := by decide +kernel
theorem dX7_firstBest_45 : decode cX7_firstBest 45 = .ok (.iconst (-1), 1) := by decide +kernel
theorem dX7_firstBest_46 : decode cX7_firstBest 46 = .ok (.ireturn, 1) := by decide +kernel
theorem dX7_pairsWhoWouldChange_0 : decode cX7_pairsWhoWouldChange 0 = .ok (.aload_n 0, 1) := by decide +kernel
theorem dX7_pairsWhoWouldChange_1 : decode cX7_pairsWhoWouldChange 1 = .ok (.aload_n 1, 1) := by decide +kernel
theorem dX7_pairsWhoWouldChange_2 : decode cX7_pairsWhoWouldChange 2 = .ok (.invokevirtual 133, 3) := by decide +kernel
theorem dX7_pairsWhoWouldChange_5 : decode cX7_pairsWhoWouldChange 5 = .ok (.astore_n 2, 1) := by decide +kernel
theorem dX7_pairsWhoWouldChange_6 : decode cX7_pairsWhoWouldChange 6 = .ok (.iconst 0, 1) := by decide +kernel
theorem dX7_pairsWhoWouldChange_7 : decode cX7_pairsWhoWouldChange 7 = .ok (.istore_n 3, 1) := by decide +kernel
theorem dX7_pairsWhoWouldChange_8 : decode cX7_pairsWhoWouldChange 8 = .ok (.iconst 0, 1) := by decide +kernel
theorem dX7_pairsWhoWouldChange_9 : decode cX7_pairsWhoWouldChange 9 = .ok (.istore 4, 2) := by decide +kernel
theorem dX7_pairsWhoWouldChange_11 : decode cX7_pairsWhoWouldChange 11 = .ok (.iload 4, 2) := by decide +kernel
theorem dX7_pairsWhoWouldChange_13 : decode cX7_pairsWhoWouldChange 13 = .ok (.aload_n 0, 1) := by decide +kernel
theorem dX7_pairsWhoWouldChange_14 : decode cX7_pairsWhoWouldChange 14 = .ok (.getfield 43, 3) := by decide +kernel
theorem dX7_pairsWhoWouldChange_17 : decode cX7_pairsWhoWouldChange 17 = .ok (.getfield 52, 3) := by decide +kernel
theorem dX7_pairsWhoWouldChange_20 : decode cX7_pairsWhoWouldChange 20 = .ok (.if_icmp .ge 60, 3) := by decide +kernel
theorem dX7_pairsWhoWouldChange_23 : decode cX7_pairsWhoWouldChange 23 = .ok (.iload 4, 2) := by decide +kernel
theorem dX7_pairsWhoWouldChange_25 : decode cX7_pairsWhoWouldChange 25 = .ok (.iconst 1, 1) := by decide +kernel
theorem dX7_pairsWhoWouldChange_26 : decode cX7_pairsWhoWouldChange 26 = .ok (.iadd, 1) := by decide +kernel
theorem dX7_pairsWhoWouldChange_27 : decode cX7_pairsWhoWouldChange 27 = .ok (.istore 5, 2) := by decide +kernel
theorem dX7_pairsWhoWouldChange_29 : decode cX7_pairsWhoWouldChange 29 = .ok (.iload 5, 2) := by decide +kernel
theorem dX7_pairsWhoWouldChange_31 : decode cX7_pairsWhoWouldChange 31 = .ok (.aload_n 0, 1) := by decide +kernel
theorem dX7_pairsWhoWouldChange_32 : decode cX7_pairsWhoWouldChange 32 = .ok (.getfield 43, 3) := by decide +kernel
theorem dX7_pairsWhoWouldChange_35 : decode cX7_pairsWhoWouldChange 35 = .ok (.getfield 52, 3) := by decide +kernel
theorem dX7_pairsWhoWouldChange_38 : decode cX7_pairsWhoWouldChange 38 = .ok (.if_icmp .ge 36, 3) := by decide +kernel
theorem dX7_pairsWhoWouldChange_41 : decode cX7_pairsWhoWouldChange 41 = .ok (.aload_n 0, 1) := by decide +kernel
theorem dX7_pairsWhoWouldChange_42 : decode cX7_pairsWhoWouldChange 42 = .ok (.aload_n 2, 1) := by decide +kernel
theorem dX7_pairsWhoWouldChange_43 : decode cX7_pairsWhoWouldChange 43 = .ok (.iload 4, 2) := by decide +kernel
theorem dX7_pairsWhoWouldChange_45 : decode cX7_pairsWhoWouldChange 45 = .ok (.iload 5, 2) := by decide +kernel
theorem dX7_pairsWhoWouldChange_47 : decode cX7_pairsWhoWouldChange 47 = .ok (.invokevirtual 137, 3) := by decide +kernel
theorem dX7_pairsWhoWouldChange_50 : decode cX7_pairsWhoWouldChange 50 = .ok (.ifCond .eq 18, 3) := by decide +kernel
theorem dX7_pairsWhoWouldChange_53 : decode cX7_pairsWhoWouldChange 53 = .ok (.aload_n 0, 1) := by decide +kernel
theorem dX7_pairsWhoWouldChange_54 : decode cX7_pairsWhoWouldChange 54 = .ok (.aload_n 2, 1) := by decide +kernel
theorem dX7_pairsWhoWouldChange_55 : decode cX7_pairsWhoWouldChange 55 = .ok (.iload 5, 2) := by decide +kernel
theorem dX7_pairsWhoWouldChange_57 : decode cX7_pairsWhoWouldChange 57 = .ok (.iload 4, 2) := by decide +kernel
theorem dX7_pairsWhoWouldChange_59 : decode cX7_pairsWhoWouldChange 59 = .ok (.invokevirtual 137, 3) := by decide +kernel
theorem dX7_pairsWhoWouldChange_62 : decode cX7_pairsWhoWouldChange 62 = .ok (.ifCond .eq 6, 3) := by decide +kernel
theorem dX7_pairsWhoWouldChange_65 : decode cX7_pairsWhoWouldChange 65 = .ok (.iinc 3 1, 3) := by decide +kernel
theorem dX7_pairsWhoWouldChange_68 : decode cX7_pairsWhoWouldChange 68 = .ok (.iinc 5 1, 3) := by decide +kernel
theorem dX7_pairsWhoWouldChange_71 : decode cX7_pairsWhoWouldChange 71 = .ok (.goto (-42), 3) := by decide +kernel
theorem dX7_pairsWhoWouldChange_74 : decode cX7_pairsWhoWouldChange 74 = .ok (.iinc 4 1, 3) := by decide +kernel
theorem dX7_pairsWhoWouldChange_77 : decode cX7_pairsWhoWouldChange 77 = .ok (.goto (-66), 3) := by decide +kernel
theorem dX7_pairsWhoWouldChange_80 : decode cX7_pairsWhoWouldChange 80 = .ok (.iload_n 3, 1) := by decide +kernel
theorem dX7_pairsWhoWouldChange_81 : decode cX7_pairsWhoWouldChange 81 = .ok (.ireturn, 1) := by decide +kernel
theorem dX7_envies_0 : decode cX7_envies 0 = .ok (.aload_n 0, 1) := by decide +kernel
theorem dX7_envies_1 : decode cX7_envies 1 = .ok (.getfield 43, 3) := by decide +kernel
theorem dX7_envies_4 : decode cX7_envies 4 = .ok (.iload_n 2, 1) := by decide +kernel
theorem dX7_envies_5 : decode cX7_envies 5 = .ok (.aload_n 1, 1) := by decide +kernel
theorem dX7_envies_6 : decode cX7_envies 6 = .ok (.getfield 73, 3) := by decide +kernel
theorem dX7_envies_9 : decode cX7_envies 9 = .ok (.iload_n 3, 1) := by decide +kernel
theorem dX7_envies_10 : decode cX7_envies 10 = .ok (.iaload, 1) := by decide +kernel
theorem dX7_envies_11 : decode cX7_envies 11 = .ok (.invokevirtual 110, 3) := by decide +kernel
theorem dX7_envies_14 : decode cX7_envies 14 = .ok (.aload_n 0, 1) := by decide +kernel
theorem dX7_envies_15 : decode cX7_envies 15 = .ok (.getfield 43, 3) := by decide +kernel
theorem dX7_envies_18 : decode cX7_envies 18 = .ok (.iload_n 2, 1) := by decide +kernel
theorem dX7_envies_19 : decode cX7_envies 19 = .ok (.aload_n 1, 1) := by decide +kernel
theorem dX7_envies_20 : decode cX7_envies 20 = .ok (.getfield 73, 3) := by decide +kernel
theorem dX7_envies_23 : decode cX7_envies 23 = .ok (.iload_n 2, 1) := by decide +kernel
theorem dX7_envies_24 : decode cX7_envies 24 = .ok (.iaload, 1) := by decide +kernel
theorem dX7_envies_25 : decode cX7_envies 25 = .ok (.invokevirtual 110, 3) := by decide +kernel
theorem dX7_envies_28 : decode cX7_envies 28 = .ok (.if_icmp .le 7, 3) := by decide +kernel
theorem dX7_envies_31 : decode cX7_envies 31 = .ok (.iconst 1, 1) := by decide +kernel
theorem dX7_envies_32 : decode cX7_envies 32 = .ok (.goto 4, 3) := by decide +kernel
theorem dX7_envies_35 : decode cX7_envies 35 = .ok (.iconst 0, 1) := by decide +kernel
theorem dX7_envies_36 : decode cX7_envies 36 = .ok (.ireturn, 1) := by decide +kernel
theorem dX7_leastFace_0 : decode cX7_leastFace 0 = .ok (.iconst 0, 1) := by decide +kernel
theorem dX7_leastFace_1 : decode cX7_leastFace 1 = .ok (.istore_n 3, 1) := by decide +kernel
theorem dX7_leastFace_2 : decode cX7_leastFace 2 = .ok (.iload_n 3, 1) := by decide +kernel
theorem dX7_leastFace_3 : decode cX7_leastFace 3 = .ok (.aload_n 0, 1) := by decide +kernel
theorem dX7_leastFace_4 : decode cX7_leastFace 4 = .ok (.getfield 43, 3) := by decide +kernel
theorem dX7_leastFace_7 : decode cX7_leastFace 7 = .ok (.getfield 52, 3) := by decide +kernel
theorem dX7_leastFace_10 : decode cX7_leastFace 10 = .ok (.if_icmp .ge 29, 3) := by decide +kernel
theorem dX7_leastFace_13 : decode cX7_leastFace 13 = .ok (.aload_n 0, 1) := by decide +kernel
theorem dX7_leastFace_14 : decode cX7_leastFace 14 = .ok (.getfield 26, 3) := by decide +kernel
theorem dX7_leastFace_17 : decode cX7_leastFace 17 = .ok (.iload_n 3, 1) := by decide +kernel
theorem dX7_leastFace_18 : decode cX7_leastFace 18 = .ok (.aload_n 0, 1) := by decide +kernel
theorem dX7_leastFace_19 : decode cX7_leastFace 19 = .ok (.getfield 43, 3) := by decide +kernel
theorem dX7_leastFace_22 : decode cX7_leastFace 22 = .ok (.getfield 141, 3) := by decide +kernel
theorem dX7_leastFace_25 : decode cX7_leastFace 25 = .ok (.bipush 10, 2) := by decide +kernel
theorem dX7_leastFace_27 : decode cX7_leastFace 27 = .ok (.iload_n 3, 1) := by decide +kernel
theorem dX7_leastFace_28 : decode cX7_leastFace 28 = .ok (.imul, 1) := by decide +kernel
theorem dX7_leastFace_29 : decode cX7_leastFace 29 = .ok (.iload_n 2, 1) := by decide +kernel
theorem dX7_leastFace_30 : decode cX7_leastFace 30 = .ok (.iadd, 1) := by decide +kernel
theorem dX7_leastFace_31 : decode cX7_leastFace 31 = .ok (.iaload, 1) := by decide +kernel
theorem dX7_leastFace_32 : decode cX7_leastFace 32 = .ok (.iastore, 1) := by decide +kernel
theorem dX7_leastFace_33 : decode cX7_leastFace 33 = .ok (.iinc 3 1, 3) := by decide +kernel
theorem dX7_leastFace_36 : decode cX7_leastFace 36 = .ok (.goto (-34), 3) := by decide +kernel
theorem dX7_leastFace_39 : decode cX7_leastFace 39 = .ok (.bipush (-2), 2) := by decide +kernel
theorem dX7_leastFace_41 : decode cX7_leastFace 41 = .ok (.istore_n 3, 1) := by decide +kernel
theorem dX7_leastFace_42 : decode cX7_leastFace 42 = .ok (.iconst 0, 1) := by decide +kernel
theorem dX7_leastFace_43 : decode cX7_leastFace 43 = .ok (.istore 4, 2) := by decide +kernel
theorem dX7_leastFace_45 : decode cX7_leastFace 45 = .ok (.iload 4, 2) := by decide +kernel
theorem dX7_leastFace_47 : decode cX7_leastFace 47 = .ok (.bipush 99, 2) := by decide +kernel
theorem dX7_leastFace_49 : decode cX7_leastFace 49 = .ok (.if_icmp .gt 38, 3) := by decide +kernel
theorem dX7_leastFace_52 : decode cX7_leastFace 52 = .ok (.iload_n 3, 1) := by decide +kernel
theorem dX7_leastFace_53 : decode cX7_leastFace 53 = .ok (.bipush (-2), 2) := by decide +kernel
theorem dX7_leastFace_55 : decode cX7_leastFace 55 = .ok (.if_icmp .ne 32, 3) := by decide +kernel
theorem dX7_leastFace_58 : decode cX7_leastFace 58 = .ok (.aload_n 0, 1) := by decide +kernel
theorem dX7_leastFace_59 : decode cX7_leastFace 59 = .ok (.iload_n 2, 1) := by decide +kernel
theorem dX7_leastFace_60 : decode cX7_leastFace 60 = .ok (.iload 4, 2) := by decide +kernel
theorem dX7_leastFace_62 : decode cX7_leastFace 62 = .ok (.invokevirtual 144, 3) := by decide +kernel
theorem dX7_leastFace_65 : decode cX7_leastFace 65 = .ok (.aload_n 0, 1) := by decide +kernel
theorem dX7_leastFace_66 : decode cX7_leastFace 66 = .ok (.aload_n 1, 1) := by decide +kernel
theorem dX7_leastFace_67 : decode cX7_leastFace 67 = .ok (.invokevirtual 133, 3) := by decide +kernel
theorem dX7_leastFace_70 : decode cX7_leastFace 70 = .ok (.getfield 148, 3) := by decide +kernel
theorem dX7_leastFace_73 : decode cX7_leastFace 73 = .ok (.iload_n 2, 1) := by decide +kernel
theorem dX7_leastFace_74 : decode cX7_leastFace 74 = .ok (.iaload, 1) := by decide +kernel
theorem dX7_leastFace_75 : decode cX7_leastFace 75 = .ok (.ifCond .ne 6, 3) := by decide +kernel
theorem dX7_leastFace_78 : decode cX7_leastFace 78 = .ok (.iload 4, 2) := by decide +kernel
theorem dX7_leastFace_80 : decode cX7_leastFace 80 = .ok (.istore_n 3, 1) := by decide +kernel
theorem dX7_leastFace_81 : decode cX7_leastFace 81 = .ok (.iinc 4 1, 3) := by decide +kernel
theorem dX7_leastFace_84 : decode cX7_leastFace 84 = .ok (.goto (-39), 3) := by decide +kernel
theorem dX7_leastFace_87 : decode cX7_leastFace 87 = .ok (.aload_n 0, 1) := by decide +kernel
theorem dX7_leastFace_88 : decode cX7_leastFace 88 = .ok (.iload_n 2, 1) := by decide +kernel
theorem dX7_leastFace_89 : decode cX7_leastFace 89 = .ok (.iconst 0, 1) := by decide +kernel
theorem dX7_leastFace_90 : decode cX7_leastFace 90 = .ok (.invokevirtual 144, 3) := by decide +kernel
theorem dX7_leastFace_93 : decode cX7_leastFace 93 = .ok (.iload_n 3, 1) := by decide +kernel
theorem dX7_leastFace_94 : decode cX7_leastFace 94 = .ok (.ireturn, 1) := by decide +kernel
theorem dX7_lessen_0 : decode cX7_lessen 0 = .ok (.iconst 0, 1) := by decide +kernel
theorem dX7_lessen_1 : decode cX7_lessen 1 = .ok (.istore_n 3, 1) := by decide +kernel
theorem dX7_lessen_2 : decode cX7_lessen 2 = .ok (.iload_n 3, 1) := by decide +kernel
theorem dX7_lessen_3 : decode cX7_lessen 3 = .ok (.aload_n 0, 1) := by decide +kernel
theorem dX7_lessen_4 : decode cX7_lessen 4 = .ok (.getfield 43, 3) := by decide +kernel
theorem dX7_lessen_7 : decode cX7_lessen 7 = .ok (.getfield 52, 3) := by decide +kernel
theorem dX7_lessen_10 : decode cX7_lessen 10 = .ok (.if_icmp .ge 35, 3) := by decide +kernel
theorem dX7_lessen_13 : decode cX7_lessen 13 = .ok (.aload_n 0, 1) := by decide +kernel
theorem dX7_lessen_14 : decode cX7_lessen 14 = .ok (.getfield 43, 3) := by decide +kernel
theorem dX7_lessen_17 : decode cX7_lessen 17 = .ok (.getfield 141, 3) := by decide +kernel
theorem dX7_lessen_20 : decode cX7_lessen 20 = .ok (.bipush 10, 2) := by decide +kernel
theorem dX7_lessen_22 : decode cX7_lessen 22 = .ok (.iload_n 3, 1) := by decide +kernel
theorem dX7_lessen_23 : decode cX7_lessen 23 = .ok (.imul, 1) := by decide +kernel
theorem dX7_lessen_24 : decode cX7_lessen 24 = .ok (.iload_n 1, 1) := by decide +kernel
theorem dX7_lessen_25 : decode cX7_lessen 25 = .ok (.iadd, 1) := by decide +kernel
theorem dX7_lessen_26 : decode cX7_lessen 26 = .ok (.aload_n 0, 1) := by decide +kernel
theorem dX7_lessen_27 : decode cX7_lessen 27 = .ok (.getfield 26, 3) := by decide +kernel
theorem dX7_lessen_30 : decode cX7_lessen 30 = .ok (.iload_n 3, 1) := by decide +kernel
theorem dX7_lessen_31 : decode cX7_lessen 31 = .ok (.iaload, 1) := by decide +kernel
theorem dX7_lessen_32 : decode cX7_lessen 32 = .ok (.iload_n 2, 1) := by decide +kernel
theorem dX7_lessen_33 : decode cX7_lessen 33 = .ok (.isub, 1) := by decide +kernel
theorem dX7_lessen_34 : decode cX7_lessen 34 = .ok (.iconst 0, 1) := by decide +kernel
theorem dX7_lessen_35 : decode cX7_lessen 35 = .ok (.invokestatic 128, 3) := by decide +kernel
theorem dX7_lessen_38 : decode cX7_lessen 38 = .ok (.iastore, 1) := by decide +kernel
theorem dX7_lessen_39 : decode cX7_lessen 39 = .ok (.iinc 3 1, 3) := by decide +kernel
theorem dX7_lessen_42 : decode cX7_lessen 42 = .ok (.goto (-40), 3) := by decide +kernel
theorem dX7_lessen_45 : decode cX7_lessen 45 = .ok (.return_, 1) := by decide +kernel
theorem dX7_drawNumbers_0 : decode cX7_drawNumbers 0 = .ok (.aload_n 0, 1) := by decide +kernel
theorem dX7_drawNumbers_1 : decode cX7_drawNumbers 1 = .ok (.getfield 32, 3) := by decide +kernel
theorem dX7_drawNumbers_4 : decode cX7_drawNumbers 4 = .ok (.iconst 0, 1) := by decide +kernel
theorem dX7_drawNumbers_5 : decode cX7_drawNumbers 5 = .ok (.invokestatic 151, 3) := by decide +kernel
theorem dX7_drawNumbers_8 : decode cX7_drawNumbers 8 = .ok (.iload_n 2, 1) := by decide +kernel
theorem dX7_drawNumbers_9 : decode cX7_drawNumbers 9 = .ok (.istore 4, 2) := by decide +kernel
theorem dX7_drawNumbers_11 : decode cX7_drawNumbers 11 = .ok (.iconst 0, 1) := by decide +kernel
theorem dX7_drawNumbers_12 : decode cX7_drawNumbers 12 = .ok (.istore 5, 2) := by decide +kernel
theorem dX7_drawNumbers_14 : decode cX7_drawNumbers 14 = .ok (.iload 5, 2) := by decide +kernel
theorem dX7_drawNumbers_16 : decode cX7_drawNumbers 16 = .ok (.iload_n 3, 1) := by decide +kernel
theorem dX7_drawNumbers_17 : decode cX7_drawNumbers 17 = .ok (.if_icmp .ge 166, 3) := by decide +kernel
theorem dX7_drawNumbers_20 : decode cX7_drawNumbers 20 = .ok (.aload_n 1, 1) := by decide +kernel
theorem dX7_drawNumbers_21 : decode cX7_drawNumbers 21 = .ok (.iconst 0, 1) := by decide +kernel
theorem dX7_drawNumbers_22 : decode cX7_drawNumbers 22 = .ok (.aload_n 0, 1) := by decide +kernel
theorem dX7_drawNumbers_23 : decode cX7_drawNumbers 23 = .ok (.getfield 29, 3) := by decide +kernel
theorem dX7_drawNumbers_26 : decode cX7_drawNumbers 26 = .ok (.iconst 0, 1) := by decide +kernel
theorem dX7_drawNumbers_27 : decode cX7_drawNumbers 27 = .ok (.bipush 7, 2) := by decide +kernel
theorem dX7_drawNumbers_29 : decode cX7_drawNumbers 29 = .ok (.invokestatic 76, 3) := by decide +kernel
theorem dX7_drawNumbers_32 : decode cX7_drawNumbers 32 = .ok (.aload_n 0, 1) := by decide +kernel
theorem dX7_drawNumbers_33 : decode cX7_drawNumbers 33 = .ok (.getfield 43, 3) := by decide +kernel
theorem dX7_drawNumbers_36 : decode cX7_drawNumbers 36 = .ok (.getfield 52, 3) := by decide +kernel
theorem dX7_drawNumbers_39 : decode cX7_drawNumbers 39 = .ok (.iconst 1, 1) := by decide +kernel
theorem dX7_drawNumbers_40 : decode cX7_drawNumbers 40 = .ok (.isub, 1) := by decide +kernel
theorem dX7_drawNumbers_41 : decode cX7_drawNumbers 41 = .ok (.istore 6, 2) := by decide +kernel
theorem dX7_drawNumbers_43 : decode cX7_drawNumbers 43 = .ok (.iload 6, 2) := by decide +kernel
theorem dX7_drawNumbers_45 : decode cX7_drawNumbers 45 = .ok (.iconst 1, 1) := by decide +kernel
theorem dX7_drawNumbers_46 : decode cX7_drawNumbers 46 = .ok (.if_icmp .lt 64, 3) := by decide +kernel
theorem dX7_drawNumbers_49 : decode cX7_drawNumbers 49 = .ok (.iload 4, 2) := by decide +kernel
theorem dX7_drawNumbers_51 : decode cX7_drawNumbers 51 = .ok (.ldc 157, 2) := by decide +kernel
theorem dX7_drawNumbers_53 : decode cX7_drawNumbers 53 = .ok (.imul, 1) := by decide +kernel
theorem dX7_drawNumbers_54 : decode cX7_drawNumbers 54 = .ok (.sipush 12345, 3) := by decide +kernel
theorem dX7_drawNumbers_57 : decode cX7_drawNumbers 57 = .ok (.iadd, 1) := by decide +kernel
theorem dX7_drawNumbers_58 : decode cX7_drawNumbers 58 = .ok (.istore 4, 2) := by decide +kernel
theorem dX7_drawNumbers_60 : decode cX7_drawNumbers 60 = .ok (.iload 4, 2) := by decide +kernel
theorem dX7_drawNumbers_62 : decode cX7_drawNumbers 62 = .ok (.bipush 8, 2) := by decide +kernel
theorem dX7_drawNumbers_64 : decode cX7_drawNumbers 64 = .ok (.iushr, 1) := by decide +kernel
theorem dX7_drawNumbers_65 : decode cX7_drawNumbers 65 = .ok (.iload 6, 2) := by decide +kernel
theorem dX7_drawNumbers_67 : decode cX7_drawNumbers 67 = .ok (.iconst 1, 1) := by decide +kernel
theorem dX7_drawNumbers_68 : decode cX7_drawNumbers 68 = .ok (.iadd, 1) := by decide +kernel
theorem dX7_drawNumbers_69 : decode cX7_drawNumbers 69 = .ok (.irem, 1) := by decide +kernel
theorem dX7_drawNumbers_70 : decode cX7_drawNumbers 70 = .ok (.istore 7, 2) := by decide +kernel
theorem dX7_drawNumbers_72 : decode cX7_drawNumbers 72 = .ok (.aload_n 0, 1) := by decide +kernel
theorem dX7_drawNumbers_73 : decode cX7_drawNumbers 73 = .ok (.getfield 29, 3) := by decide +kernel
theorem dX7_drawNumbers_76 : decode cX7_drawNumbers 76 = .ok (.iload 6, 2) := by decide +kernel
theorem dX7_drawNumbers_78 : decode cX7_drawNumbers 78 = .ok (.iaload, 1) := by decide +kernel
theorem dX7_drawNumbers_79 : decode cX7_drawNumbers 79 = .ok (.istore 8, 2) := by decide +kernel
theorem dX7_drawNumbers_81 : decode cX7_drawNumbers 81 = .ok (.aload_n 0, 1) := by decide +kernel
theorem dX7_drawNumbers_82 : decode cX7_drawNumbers 82 = .ok (.getfield 29, 3) := by decide +kernel
theorem dX7_drawNumbers_85 : decode cX7_drawNumbers 85 = .ok (.iload 6, 2) := by decide +kernel
theorem dX7_drawNumbers_87 : decode cX7_drawNumbers 87 = .ok (.aload_n 0, 1) := by decide +kernel
theorem dX7_drawNumbers_88 : decode cX7_drawNumbers 88 = .ok (.getfield 29, 3) := by decide +kernel
theorem dX7_drawNumbers_91 : decode cX7_drawNumbers 91 = .ok (.iload 7, 2) := by decide +kernel
theorem dX7_drawNumbers_93 : decode cX7_drawNumbers 93 = .ok (.iaload, 1) := by decide +kernel
theorem dX7_drawNumbers_94 : decode cX7_drawNumbers 94 = .ok (.iastore, 1) := by decide +kernel
theorem dX7_drawNumbers_95 : decode cX7_drawNumbers 95 = .ok (.aload_n 0, 1) := by decide +kernel
theorem dX7_drawNumbers_96 : decode cX7_drawNumbers 96 = .ok (.getfield 29, 3) := by decide +kernel
theorem dX7_drawNumbers_99 : decode cX7_drawNumbers 99 = .ok (.iload 7, 2) := by decide +kernel
theorem dX7_drawNumbers_101 : decode cX7_drawNumbers 101 = .ok (.iload 8, 2) := by decide +kernel
theorem dX7_drawNumbers_103 : decode cX7_drawNumbers 103 = .ok (.iastore, 1) := by decide +kernel
theorem dX7_drawNumbers_104 : decode cX7_drawNumbers 104 = .ok (.iinc 6 (-1), 3) := by decide +kernel
theorem dX7_drawNumbers_107 : decode cX7_drawNumbers 107 = .ok (.goto (-64), 3) := by decide +kernel
theorem dX7_drawNumbers_110 : decode cX7_drawNumbers 110 = .ok (.aload_n 0, 1) := by decide +kernel
theorem dX7_drawNumbers_111 : decode cX7_drawNumbers 111 = .ok (.aload_n 0, 1) := by decide +kernel
theorem dX7_drawNumbers_112 : decode cX7_drawNumbers 112 = .ok (.getfield 29, 3) := by decide +kernel
theorem dX7_drawNumbers_115 : decode cX7_drawNumbers 115 = .ok (.invokevirtual 133, 3) := by decide +kernel
theorem dX7_drawNumbers_118 : decode cX7_drawNumbers 118 = .ok (.astore 6, 2) := by decide +kernel
theorem dX7_drawNumbers_120 : decode cX7_drawNumbers 120 = .ok (.iconst 0, 1) := by decide +kernel
theorem dX7_drawNumbers_121 : decode cX7_drawNumbers 121 = .ok (.istore 7, 2) := by decide +kernel
theorem dX7_drawNumbers_123 : decode cX7_drawNumbers 123 = .ok (.iload 7, 2) := by decide +kernel
theorem dX7_drawNumbers_125 : decode cX7_drawNumbers 125 = .ok (.aload_n 0, 1) := by decide +kernel
theorem dX7_drawNumbers_126 : decode cX7_drawNumbers 126 = .ok (.getfield 43, 3) := by decide +kernel
theorem dX7_drawNumbers_129 : decode cX7_drawNumbers 129 = .ok (.getfield 52, 3) := by decide +kernel
theorem dX7_drawNumbers_132 : decode cX7_drawNumbers 132 = .ok (.if_icmp .ge 45, 3) := by decide +kernel
theorem dX7_drawNumbers_135 : decode cX7_drawNumbers 135 = .ok (.aload_n 0, 1) := by decide +kernel
theorem dX7_drawNumbers_136 : decode cX7_drawNumbers 136 = .ok (.getfield 29, 3) := by decide +kernel
theorem dX7_drawNumbers_139 : decode cX7_drawNumbers 139 = .ok (.iload 7, 2) := by decide +kernel
theorem dX7_drawNumbers_141 : decode cX7_drawNumbers 141 = .ok (.iaload, 1) := by decide +kernel
theorem dX7_drawNumbers_142 : decode cX7_drawNumbers 142 = .ok (.istore 8, 2) := by decide +kernel
theorem dX7_drawNumbers_144 : decode cX7_drawNumbers 144 = .ok (.aload_n 0, 1) := by decide +kernel
theorem dX7_drawNumbers_145 : decode cX7_drawNumbers 145 = .ok (.getfield 32, 3) := by decide +kernel
theorem dX7_drawNumbers_148 : decode cX7_drawNumbers 148 = .ok (.iload 7, 2) := by decide +kernel
theorem dX7_drawNumbers_150 : decode cX7_drawNumbers 150 = .ok (.dup2, 1) := by decide +kernel
theorem dX7_drawNumbers_151 : decode cX7_drawNumbers 151 = .ok (.iaload, 1) := by decide +kernel
theorem dX7_drawNumbers_152 : decode cX7_drawNumbers 152 = .ok (.aload_n 0, 1) := by decide +kernel
theorem dX7_drawNumbers_153 : decode cX7_drawNumbers 153 = .ok (.getfield 43, 3) := by decide +kernel
theorem dX7_drawNumbers_156 : decode cX7_drawNumbers 156 = .ok (.iload 8, 2) := by decide +kernel
theorem dX7_drawNumbers_158 : decode cX7_drawNumbers 158 = .ok (.aload 6, 2) := by decide +kernel
theorem dX7_drawNumbers_160 : decode cX7_drawNumbers 160 = .ok (.getfield 73, 3) := by decide +kernel
theorem dX7_drawNumbers_163 : decode cX7_drawNumbers 163 = .ok (.iload 8, 2) := by decide +kernel
theorem dX7_drawNumbers_165 : decode cX7_drawNumbers 165 = .ok (.iaload, 1) := by decide +kernel
theorem dX7_drawNumbers_166 : decode cX7_drawNumbers 166 = .ok (.invokevirtual 110, 3) := by decide +kernel
theorem dX7_drawNumbers_169 : decode cX7_drawNumbers 169 = .ok (.iadd, 1) := by decide +kernel
theorem dX7_drawNumbers_170 : decode cX7_drawNumbers 170 = .ok (.iastore, 1) := by decide +kernel
theorem dX7_drawNumbers_171 : decode cX7_drawNumbers 171 = .ok (.iinc 7 1, 3) := by decide +kernel
theorem dX7_drawNumbers_174 : decode cX7_drawNumbers 174 = .ok (.goto (-51), 3) := by decide +kernel
theorem dX7_drawNumbers_177 : decode cX7_drawNumbers 177 = .ok (.iinc 5 1, 3) := by decide +kernel
theorem dX7_drawNumbers_180 : decode cX7_drawNumbers 180 = .ok (.goto (-166), 3) := by decide +kernel
theorem dX7_drawNumbers_183 : decode cX7_drawNumbers 183 = .ok (.return_, 1) := by decide +kernel
theorem dX7_unlike_0 : decode cX7_unlike 0 = .ok (.aload_n 0, 1) := by decide +kernel
theorem dX7_unlike_1 : decode cX7_unlike 1 = .ok (.getfield 32, 3) := by decide +kernel
theorem dX7_unlike_4 : decode cX7_unlike 4 = .ok (.iconst 0, 1) := by decide +kernel
theorem dX7_unlike_5 : decode cX7_unlike 5 = .ok (.iaload, 1) := by decide +kernel
theorem dX7_unlike_6 : decode cX7_unlike 6 = .ok (.istore_n 1, 1) := by decide +kernel
theorem dX7_unlike_7 : decode cX7_unlike 7 = .ok (.aload_n 0, 1) := by decide +kernel
theorem dX7_unlike_8 : decode cX7_unlike 8 = .ok (.getfield 32, 3) := by decide +kernel
theorem dX7_unlike_11 : decode cX7_unlike 11 = .ok (.iconst 0, 1) := by decide +kernel
theorem dX7_unlike_12 : decode cX7_unlike 12 = .ok (.iaload, 1) := by decide +kernel
theorem dX7_unlike_13 : decode cX7_unlike 13 = .ok (.istore_n 2, 1) := by decide +kernel
theorem dX7_unlike_14 : decode cX7_unlike 14 = .ok (.iconst 1, 1) := by decide +kernel
theorem dX7_unlike_15 : decode cX7_unlike 15 = .ok (.istore_n 3, 1) := by decide +kernel
theorem dX7_unlike_16 : decode cX7_unlike 16 = .ok (.iload_n 3, 1) := by decide +kernel
theorem dX7_unlike_17 : decode cX7_unlike 17 = .ok (.aload_n 0, 1) := by decide +kernel
theorem dX7_unlike_18 : decode cX7_unlike 18 = .ok (.getfield 43, 3) := by decide +kernel
theorem dX7_unlike_21 : decode cX7_unlike 21 = .ok (.getfield 52, 3) := by decide +kernel
theorem dX7_unlike_24 : decode cX7_unlike 24 = .ok (.if_icmp .ge 31, 3) := by decide +kernel
theorem dX7_unlike_27 : decode cX7_unlike 27 = .ok (.iload_n 1, 1) := by decide +kernel
theorem dX7_unlike_28 : decode cX7_unlike 28 = .ok (.aload_n 0, 1) := by decide +kernel
theorem dX7_unlike_29 : decode cX7_unlike 29 = .ok (.getfield 32, 3) := by decide +kernel
theorem dX7_unlike_32 : decode cX7_unlike 32 = .ok (.iload_n 3, 1) := by decide +kernel
theorem dX7_unlike_33 : decode cX7_unlike 33 = .ok (.iaload, 1) := by decide +kernel
theorem dX7_unlike_34 : decode cX7_unlike 34 = .ok (.invokestatic 128, 3) := by decide +kernel
theorem dX7_unlike_37 : decode cX7_unlike 37 = .ok (.istore_n 1, 1) := by decide +kernel
theorem dX7_unlike_38 : decode cX7_unlike 38 = .ok (.iload_n 2, 1) := by decide +kernel
theorem dX7_unlike_39 : decode cX7_unlike 39 = .ok (.aload_n 0, 1) := by decide +kernel
theorem dX7_unlike_40 : decode cX7_unlike 40 = .ok (.getfield 32, 3) := by decide +kernel
theorem dX7_unlike_43 : decode cX7_unlike 43 = .ok (.iload_n 3, 1) := by decide +kernel
theorem dX7_unlike_44 : decode cX7_unlike 44 = .ok (.iaload, 1) := by decide +kernel
theorem dX7_unlike_45 : decode cX7_unlike 45 = .ok (.invokestatic 158, 3) := by decide +kernel
theorem dX7_unlike_48 : decode cX7_unlike 48 = .ok (.istore_n 2, 1) := by decide +kernel
theorem dX7_unlike_49 : decode cX7_unlike 49 = .ok (.iinc 3 1, 3) := by decide +kernel
theorem dX7_unlike_52 : decode cX7_unlike 52 = .ok (.goto (-36), 3) := by decide +kernel
theorem dX7_unlike_55 : decode cX7_unlike 55 = .ok (.iload_n 1, 1) := by decide +kernel
theorem dX7_unlike_56 : decode cX7_unlike 56 = .ok (.iload_n 2, 1) := by decide +kernel
theorem dX7_unlike_57 : decode cX7_unlike 57 = .ok (.isub, 1) := by decide +kernel
theorem dX7_unlike_58 : decode cX7_unlike 58 = .ok (.ireturn, 1) := by decide +kernel
theorem dX7_hear_0 : decode cX7_hear 0 = .ok (.aload_n 0, 1) := by decide +kernel
theorem dX7_hear_1 : decode cX7_hear 1 = .ok (.aload_n 1, 1) := by decide +kernel
theorem dX7_hear_2 : decode cX7_hear 2 = .ok (.putfield 35, 3) := by decide +kernel
theorem dX7_hear_5 : decode cX7_hear 5 = .ok (.aload_n 0, 1) := by decide +kernel
theorem dX7_hear_6 : decode cX7_hear 6 = .ok (.iload_n 2, 1) := by decide +kernel
theorem dX7_hear_7 : decode cX7_hear 7 = .ok (.putfield 39, 3) := by decide +kernel
theorem dX7_hear_10 : decode cX7_hear 10 = .ok (.return_, 1) := by decide +kernel
theorem dX7_firstUnlikeTold_0 : decode cX7_firstUnlikeTold 0 = .ok (.iconst 0, 1) := by decide +kernel
theorem dX7_firstUnlikeTold_1 : decode cX7_firstUnlikeTold 1 = .ok (.istore_n 2, 1) := by decide +kernel
theorem dX7_firstUnlikeTold_2 : decode cX7_firstUnlikeTold 2 = .ok (.iload_n 2, 1) := by decide +kernel
theorem dX7_firstUnlikeTold_3 : decode cX7_firstUnlikeTold 3 = .ok (.aload_n 0, 1) := by decide +kernel
theorem dX7_firstUnlikeTold_4 : decode cX7_firstUnlikeTold 4 = .ok (.getfield 43, 3) := by decide +kernel
theorem dX7_firstUnlikeTold_7 : decode cX7_firstUnlikeTold 7 = .ok (.getfield 52, 3) := by decide +kernel
theorem dX7_firstUnlikeTold_10 : decode cX7_firstUnlikeTold 10 = .ok (.if_icmp .ge 52, 3) := by decide +kernel
theorem dX7_firstUnlikeTold_13 : decode cX7_firstUnlikeTold 13 = .ok (.aload_n 0, 1) := by decide +kernel
theorem dX7_firstUnlikeTold_14 : decode cX7_firstUnlikeTold 14 = .ok (.getfield 35, 3) := by decide +kernel
theorem dX7_firstUnlikeTold_17 : decode cX7_firstUnlikeTold 17 = .ok (.ifnull 45, 3) := by decide +kernel
theorem dX7_firstUnlikeTold_20 : decode cX7_firstUnlikeTold 20 = .ok (.iload_n 2, 1) := by decide +kernel
theorem dX7_firstUnlikeTold_21 : decode cX7_firstUnlikeTold 21 = .ok (.aload_n 0, 1) := by decide +kernel
theorem dX7_firstUnlikeTold_22 : decode cX7_firstUnlikeTold 22 = .ok (.getfield 39, 3) := by decide +kernel
theorem dX7_firstUnlikeTold_25 : decode cX7_firstUnlikeTold 25 = .ok (.if_icmp .ge 37, 3) := by decide +kernel
theorem dX7_firstUnlikeTold_28 : decode cX7_firstUnlikeTold 28 = .ok (.iload_n 2, 1) := by decide +kernel
theorem dX7_firstUnlikeTold_29 : decode cX7_firstUnlikeTold 29 = .ok (.aload_n 0, 1) := by decide +kernel
theorem dX7_firstUnlikeTold_30 : decode cX7_firstUnlikeTold 30 = .ok (.getfield 35, 3) := by decide +kernel
theorem dX7_firstUnlikeTold_33 : decode cX7_firstUnlikeTold 33 = .ok (.arraylength, 1) := by decide +kernel
theorem dX7_firstUnlikeTold_34 : decode cX7_firstUnlikeTold 34 = .ok (.if_icmp .ge 28, 3) := by decide +kernel
theorem dX7_firstUnlikeTold_37 : decode cX7_firstUnlikeTold 37 = .ok (.aload_n 0, 1) := by decide +kernel
theorem dX7_firstUnlikeTold_38 : decode cX7_firstUnlikeTold 38 = .ok (.getfield 35, 3) := by decide +kernel
theorem dX7_firstUnlikeTold_41 : decode cX7_firstUnlikeTold 41 = .ok (.iload_n 2, 1) := by decide +kernel
theorem dX7_firstUnlikeTold_42 : decode cX7_firstUnlikeTold 42 = .ok (.laload, 1) := by decide +kernel
theorem dX7_firstUnlikeTold_43 : decode cX7_firstUnlikeTold 43 = .ok (.aload_n 1, 1) := by decide +kernel
theorem dX7_firstUnlikeTold_44 : decode cX7_firstUnlikeTold 44 = .ok (.getfield 73, 3) := by decide +kernel
theorem dX7_firstUnlikeTold_47 : decode cX7_firstUnlikeTold 47 = .ok (.iload_n 2, 1) := by decide +kernel
theorem dX7_firstUnlikeTold_48 : decode cX7_firstUnlikeTold 48 = .ok (.iaload, 1) := by decide +kernel
theorem dX7_firstUnlikeTold_49 : decode cX7_firstUnlikeTold 49 = .ok (.i2l, 1) := by decide +kernel
theorem dX7_firstUnlikeTold_50 : decode cX7_firstUnlikeTold 50 = .ok (.lcmp, 1) := by decide +kernel
theorem dX7_firstUnlikeTold_51 : decode cX7_firstUnlikeTold 51 = .ok (.ifCond .eq 5, 3) := by decide +kernel
theorem dX7_firstUnlikeTold_54 : decode cX7_firstUnlikeTold 54 = .ok (.iload_n 2, 1) := by decide +kernel
theorem dX7_firstUnlikeTold_55 : decode cX7_firstUnlikeTold 55 = .ok (.ireturn, 1) := by decide +kernel
theorem dX7_firstUnlikeTold_56 : decode cX7_firstUnlikeTold 56 = .ok (.iinc 2 1, 3) := by decide +kernel
theorem dX7_firstUnlikeTold_59 : decode cX7_firstUnlikeTold 59 = .ok (.goto (-57), 3) := by decide +kernel
theorem dX7_firstUnlikeTold_62 : decode cX7_firstUnlikeTold 62 = .ok (.bipush (-2), 2) := by decide +kernel
theorem dX7_firstUnlikeTold_64 : decode cX7_firstUnlikeTold 64 = .ok (.ireturn, 1) := by decide +kernel
theorem dX7_lotsAsTold_0 : decode cX7_lotsAsTold 0 = .ok (.aload_n 0, 1) := by decide +kernel
theorem dX7_lotsAsTold_1 : decode cX7_lotsAsTold 1 = .ok (.getfield 13, 3) := by decide +kernel
theorem dX7_lotsAsTold_4 : decode cX7_lotsAsTold 4 = .ok (.iconst 0, 1) := by decide +kernel
theorem dX7_lotsAsTold_5 : decode cX7_lotsAsTold 5 = .ok (.aaload, 1) := by decide +kernel
theorem dX7_lotsAsTold_6 : decode cX7_lotsAsTold 6 = .ok (.invokevirtual 161, 3) := by decide +kernel
theorem dX7_lotsAsTold_9 : decode cX7_lotsAsTold 9 = .ok (.aload_n 0, 1) := by decide +kernel
theorem dX7_lotsAsTold_10 : decode cX7_lotsAsTold 10 = .ok (.iconst 0, 1) := by decide +kernel
theorem dX7_lotsAsTold_11 : decode cX7_lotsAsTold 11 = .ok (.iconst 0, 1) := by decide +kernel
theorem dX7_lotsAsTold_12 : decode cX7_lotsAsTold 12 = .ok (.invokevirtual 164, 3) := by decide +kernel
theorem dX7_lotsAsTold_15 : decode cX7_lotsAsTold 15 = .ok (.ireturn, 1) := by decide +kernel
theorem dX7_lotsBehind_0 : decode cX7_lotsBehind 0 = .ok (.aload_n 0, 1) := by decide +kernel
theorem dX7_lotsBehind_1 : decode cX7_lotsBehind 1 = .ok (.getfield 13, 3) := by decide +kernel
theorem dX7_lotsBehind_4 : decode cX7_lotsBehind 4 = .ok (.iload_n 1, 1) := by decide +kernel
theorem dX7_lotsBehind_5 : decode cX7_lotsBehind 5 = .ok (.aaload, 1) := by decide +kernel
theorem dX7_lotsBehind_6 : decode cX7_lotsBehind 6 = .ok (.astore_n 3, 1) := by decide +kernel
theorem dX7_lotsBehind_7 : decode cX7_lotsBehind 7 = .ok (.iload_n 1, 1) := by decide +kernel
theorem dX7_lotsBehind_8 : decode cX7_lotsBehind 8 = .ok (.aload_n 0, 1) := by decide +kernel
theorem dX7_lotsBehind_9 : decode cX7_lotsBehind 9 = .ok (.getfield 43, 3) := by decide +kernel
theorem dX7_lotsBehind_12 : decode cX7_lotsBehind 12 = .ok (.getfield 52, 3) := by decide +kernel
theorem dX7_lotsBehind_15 : decode cX7_lotsBehind 15 = .ok (.if_icmp .ge 11, 3) := by decide +kernel
theorem dX7_lotsBehind_18 : decode cX7_lotsBehind 18 = .ok (.iload_n 1, 1) := by decide +kernel
theorem dX7_lotsBehind_19 : decode cX7_lotsBehind 19 = .ok (.iconst 1, 1) := by decide +kernel
theorem dX7_lotsBehind_20 : decode cX7_lotsBehind 20 = .ok (.iadd, 1) := by decide +kernel
theorem dX7_lotsBehind_21 : decode cX7_lotsBehind 21 = .ok (.bipush 10, 2) := by decide +kernel
theorem dX7_lotsBehind_23 : decode cX7_lotsBehind 23 = .ok (.if_icmp .lt 27, 3) := by decide +kernel
theorem dX7_lotsBehind_26 : decode cX7_lotsBehind 26 = .ok (.aload_n 3, 1) := by decide +kernel
theorem dX7_lotsBehind_27 : decode cX7_lotsBehind 27 = .ok (.aload_n 0, 1) := by decide +kernel
theorem dX7_lotsBehind_28 : decode cX7_lotsBehind 28 = .ok (.getfield 43, 3) := by decide +kernel
theorem dX7_lotsBehind_31 : decode cX7_lotsBehind 31 = .ok (.invokevirtual 61, 3) := by decide +kernel
theorem dX7_lotsBehind_34 : decode cX7_lotsBehind 34 = .ok (.aload_n 0, 1) := by decide +kernel
theorem dX7_lotsBehind_35 : decode cX7_lotsBehind 35 = .ok (.aload_n 3, 1) := by decide +kernel
theorem dX7_lotsBehind_36 : decode cX7_lotsBehind 36 = .ok (.invokevirtual 167, 3) := by decide +kernel
theorem dX7_lotsBehind_39 : decode cX7_lotsBehind 39 = .ok (.bipush (-2), 2) := by decide +kernel
theorem dX7_lotsBehind_41 : decode cX7_lotsBehind 41 = .ok (.if_icmp .ne 7, 3) := by decide +kernel
theorem dX7_lotsBehind_44 : decode cX7_lotsBehind 44 = .ok (.iconst 1, 1) := by decide +kernel
theorem dX7_lotsBehind_45 : decode cX7_lotsBehind 45 = .ok (.goto 4, 3) := by decide +kernel
theorem dX7_lotsBehind_48 : decode cX7_lotsBehind 48 = .ok (.iconst 0, 1) := by decide +kernel
theorem dX7_lotsBehind_49 : decode cX7_lotsBehind 49 = .ok (.ireturn, 1) := by decide +kernel
theorem dX7_lotsBehind_50 : decode cX7_lotsBehind 50 = .ok (.aload_n 0, 1) := by decide +kernel
theorem dX7_lotsBehind_51 : decode cX7_lotsBehind 51 = .ok (.getfield 13, 3) := by decide +kernel
theorem dX7_lotsBehind_54 : decode cX7_lotsBehind 54 = .ok (.iload_n 1, 1) := by decide +kernel
theorem dX7_lotsBehind_55 : decode cX7_lotsBehind 55 = .ok (.iconst 1, 1) := by decide +kernel
theorem dX7_lotsBehind_56 : decode cX7_lotsBehind 56 = .ok (.iadd, 1) := by decide +kernel
theorem dX7_lotsBehind_57 : decode cX7_lotsBehind 57 = .ok (.aaload, 1) := by decide +kernel
theorem dX7_lotsBehind_58 : decode cX7_lotsBehind 58 = .ok (.astore 4, 2) := by decide +kernel
theorem dX7_lotsBehind_60 : decode cX7_lotsBehind 60 = .ok (.iconst 0, 1) := by decide +kernel
theorem dX7_lotsBehind_61 : decode cX7_lotsBehind 61 = .ok (.istore 5, 2) := by decide +kernel
theorem dX7_lotsBehind_63 : decode cX7_lotsBehind 63 = .ok (.iconst 0, 1) := by decide +kernel
theorem dX7_lotsBehind_64 : decode cX7_lotsBehind 64 = .ok (.istore 6, 2) := by decide +kernel
theorem dX7_lotsBehind_66 : decode cX7_lotsBehind 66 = .ok (.iload 6, 2) := by decide +kernel
theorem dX7_lotsBehind_68 : decode cX7_lotsBehind 68 = .ok (.aload_n 0, 1) := by decide +kernel
theorem dX7_lotsBehind_69 : decode cX7_lotsBehind 69 = .ok (.getfield 43, 3) := by decide +kernel
theorem dX7_lotsBehind_72 : decode cX7_lotsBehind 72 = .ok (.getfield 52, 3) := by decide +kernel
theorem dX7_lotsBehind_75 : decode cX7_lotsBehind 75 = .ok (.if_icmp .ge 64, 3) := by decide +kernel
theorem dX7_lotsBehind_78 : decode cX7_lotsBehind 78 = .ok (.iload_n 2, 1) := by decide +kernel
theorem dX7_lotsBehind_79 : decode cX7_lotsBehind 79 = .ok (.iload 6, 2) := by decide +kernel
theorem dX7_lotsBehind_81 : decode cX7_lotsBehind 81 = .ok (.ishr, 1) := by decide +kernel
theorem dX7_lotsBehind_82 : decode cX7_lotsBehind 82 = .ok (.iconst 1, 1) := by decide +kernel
theorem dX7_lotsBehind_83 : decode cX7_lotsBehind 83 = .ok (.iand, 1) := by decide +kernel
theorem dX7_lotsBehind_84 : decode cX7_lotsBehind 84 = .ok (.ifCond .ne 49, 3) := by decide +kernel
theorem dX7_lotsBehind_87 : decode cX7_lotsBehind 87 = .ok (.aload 4, 2) := by decide +kernel
theorem dX7_lotsBehind_89 : decode cX7_lotsBehind 89 = .ok (.aload_n 3, 1) := by decide +kernel
theorem dX7_lotsBehind_90 : decode cX7_lotsBehind 90 = .ok (.invokevirtual 85, 3) := by decide +kernel
theorem dX7_lotsBehind_93 : decode cX7_lotsBehind 93 = .ok (.aload 4, 2) := by decide +kernel
theorem dX7_lotsBehind_95 : decode cX7_lotsBehind 95 = .ok (.getfield 171, 3) := by decide +kernel
theorem dX7_lotsBehind_98 : decode cX7_lotsBehind 98 = .ok (.iload_n 1, 1) := by decide +kernel
theorem dX7_lotsBehind_99 : decode cX7_lotsBehind 99 = .ok (.iload 6, 2) := by decide +kernel
theorem dX7_lotsBehind_101 : decode cX7_lotsBehind 101 = .ok (.iastore, 1) := by decide +kernel
theorem dX7_lotsBehind_102 : decode cX7_lotsBehind 102 = .ok (.aload 4, 2) := by decide +kernel
theorem dX7_lotsBehind_104 : decode cX7_lotsBehind 104 = .ok (.iload_n 1, 1) := by decide +kernel
theorem dX7_lotsBehind_105 : decode cX7_lotsBehind 105 = .ok (.iconst 1, 1) := by decide +kernel
theorem dX7_lotsBehind_106 : decode cX7_lotsBehind 106 = .ok (.iadd, 1) := by decide +kernel
theorem dX7_lotsBehind_107 : decode cX7_lotsBehind 107 = .ok (.aload_n 0, 1) := by decide +kernel
theorem dX7_lotsBehind_108 : decode cX7_lotsBehind 108 = .ok (.getfield 43, 3) := by decide +kernel
theorem dX7_lotsBehind_111 : decode cX7_lotsBehind 111 = .ok (.invokevirtual 57, 3) := by decide +kernel
theorem dX7_lotsBehind_114 : decode cX7_lotsBehind 114 = .ok (.pop, 1) := by decide +kernel
theorem dX7_lotsBehind_115 : decode cX7_lotsBehind 115 = .ok (.iload 5, 2) := by decide +kernel
theorem dX7_lotsBehind_117 : decode cX7_lotsBehind 117 = .ok (.aload_n 0, 1) := by decide +kernel
theorem dX7_lotsBehind_118 : decode cX7_lotsBehind 118 = .ok (.iload_n 1, 1) := by decide +kernel
theorem dX7_lotsBehind_119 : decode cX7_lotsBehind 119 = .ok (.iconst 1, 1) := by decide +kernel
theorem dX7_lotsBehind_120 : decode cX7_lotsBehind 120 = .ok (.iadd, 1) := by decide +kernel
theorem dX7_lotsBehind_121 : decode cX7_lotsBehind 121 = .ok (.iload_n 2, 1) := by decide +kernel
theorem dX7_lotsBehind_122 : decode cX7_lotsBehind 122 = .ok (.iconst 1, 1) := by decide +kernel
theorem dX7_lotsBehind_123 : decode cX7_lotsBehind 123 = .ok (.iload 6, 2) := by decide +kernel
theorem dX7_lotsBehind_125 : decode cX7_lotsBehind 125 = .ok (.ishl, 1) := by decide +kernel
theorem dX7_lotsBehind_126 : decode cX7_lotsBehind 126 = .ok (.ior, 1) := by decide +kernel
theorem dX7_lotsBehind_127 : decode cX7_lotsBehind 127 = .ok (.invokevirtual 164, 3) := by decide +kernel
theorem dX7_lotsBehind_130 : decode cX7_lotsBehind 130 = .ok (.iadd, 1) := by decide +kernel
theorem dX7_lotsBehind_131 : decode cX7_lotsBehind 131 = .ok (.istore 5, 2) := by decide +kernel
theorem dX7_lotsBehind_133 : decode cX7_lotsBehind 133 = .ok (.iinc 6 1, 3) := by decide +kernel
theorem dX7_lotsBehind_136 : decode cX7_lotsBehind 136 = .ok (.goto (-70), 3) := by decide +kernel
theorem dX7_lotsBehind_139 : decode cX7_lotsBehind 139 = .ok (.iload 5, 2) := by decide +kernel
theorem dX7_lotsBehind_141 : decode cX7_lotsBehind 141 = .ok (.ireturn, 1) := by decide +kernel
theorem dX8_init_0 : decode cX8_init 0 = .ok (.aload_n 0, 1) := by decide +kernel
theorem dX8_init_1 : decode cX8_init 1 = .ok (.invokespecial 1, 3) := by decide +kernel
theorem dX8_init_4 : decode cX8_init 4 = .ok (.aload_n 0, 1) := by decide +kernel
theorem dX8_init_5 : decode cX8_init 5 = .ok (.new 7, 3) := by decide +kernel
theorem dX8_init_8 : decode cX8_init 8 = .ok (.dup, 1) := by decide +kernel
theorem dX8_init_9 : decode cX8_init 9 = .ok (.invokespecial 9, 3) := by decide +kernel
theorem dX8_init_12 : decode cX8_init 12 = .ok (.putfield 10, 3) := by decide +kernel
theorem dX8_init_15 : decode cX8_init 15 = .ok (.aload_n 0, 1) := by decide +kernel
theorem dX8_init_16 : decode cX8_init 16 = .ok (.new 16, 3) := by decide +kernel
theorem dX8_init_19 : decode cX8_init 19 = .ok (.dup, 1) := by decide +kernel
theorem dX8_init_20 : decode cX8_init 20 = .ok (.invokespecial 18, 3) := by decide +kernel
theorem dX8_init_23 : decode cX8_init 23 = .ok (.putfield 19, 3) := by decide +kernel
theorem dX8_init_26 : decode cX8_init 26 = .ok (.aload_n 0, 1) := by decide +kernel
theorem dX8_init_27 : decode cX8_init 27 = .ok (.new 23, 3) := by decide +kernel
theorem dX8_init_30 : decode cX8_init 30 = .ok (.dup, 1) := by decide +kernel
theorem dX8_init_31 : decode cX8_init 31 = .ok (.invokespecial 25, 3) := by decide +kernel
theorem dX8_init_34 : decode cX8_init 34 = .ok (.putfield 26, 3) := by decide +kernel
theorem dX8_init_37 : decode cX8_init 37 = .ok (.aload_n 0, 1) := by decide +kernel
theorem dX8_init_38 : decode cX8_init 38 = .ok (.new 30, 3) := by decide +kernel
theorem dX8_init_41 : decode cX8_init 41 = .ok (.dup, 1) := by decide +kernel
theorem dX8_init_42 : decode cX8_init 42 = .ok (.invokespecial 32, 3) := by decide +kernel
theorem dX8_init_45 : decode cX8_init 45 = .ok (.putfield 33, 3) := by decide +kernel
theorem dX8_init_48 : decode cX8_init 48 = .ok (.aload_n 0, 1) := by decide +kernel
theorem dX8_init_49 : decode cX8_init 49 = .ok (.new 30, 3) := by decide +kernel
theorem dX8_init_52 : decode cX8_init 52 = .ok (.dup, 1) := by decide +kernel
theorem dX8_init_53 : decode cX8_init 53 = .ok (.invokespecial 32, 3) := by decide +kernel
theorem dX8_init_56 : decode cX8_init 56 = .ok (.putfield 37, 3) := by decide +kernel
theorem dX8_init_59 : decode cX8_init 59 = .ok (.aload_n 0, 1) := by decide +kernel
theorem dX8_init_60 : decode cX8_init 60 = .ok (.new 40, 3) := by decide +kernel
theorem dX8_init_63 : decode cX8_init 63 = .ok (.dup, 1) := by decide +kernel
theorem dX8_init_64 : decode cX8_init 64 = .ok (.aload_n 0, 1) := by decide +kernel
theorem dX8_init_65 : decode cX8_init 65 = .ok (.getfield 10, 3) := by decide +kernel
theorem dX8_init_68 : decode cX8_init 68 = .ok (.invokespecial 42, 3) := by decide +kernel
theorem dX8_init_71 : decode cX8_init 71 = .ok (.putfield 45, 3) := by decide +kernel
theorem dX8_init_74 : decode cX8_init 74 = .ok (.aload_n 0, 1) := by decide +kernel
theorem dX8_init_75 : decode cX8_init 75 = .ok (.new 49, 3) := by decide +kernel
theorem dX8_init_78 : decode cX8_init 78 = .ok (.dup, 1) := by decide +kernel
theorem dX8_init_79 : decode cX8_init 79 = .ok (.invokespecial 51, 3) := by decide +kernel
theorem dX8_init_82 : decode cX8_init 82 = .ok (.putfield 52, 3) := by decide +kernel
theorem dX8_init_85 : decode cX8_init 85 = .ok (.aload_n 0, 1) := by decide +kernel
theorem dX8_init_86 : decode cX8_init 86 = .ok (.new 56, 3) := by decide +kernel
theorem dX8_init_89 : decode cX8_init 89 = .ok (.dup, 1) := by decide +kernel
theorem dX8_init_90 : decode cX8_init 90 = .ok (.invokespecial 58, 3) := by decide +kernel
theorem dX8_init_93 : decode cX8_init 93 = .ok (.putfield 59, 3) := by decide +kernel
theorem dX8_init_96 : decode cX8_init 96 = .ok (.aload_n 0, 1) := by decide +kernel
theorem dX8_init_97 : decode cX8_init 97 = .ok (.iconst (-1), 1) := by decide +kernel
theorem dX8_init_98 : decode cX8_init 98 = .ok (.putfield 63, 3) := by decide +kernel
theorem dX8_init_101 : decode cX8_init 101 = .ok (.return_, 1) := by decide +kernel
theorem dX8_person_0 : decode cX8_person 0 = .ok (.iload_n 1, 1) := by decide +kernel
theorem dX8_person_1 : decode cX8_person 1 = .ok (.ifCond .lt 8, 3) := by decide +kernel
theorem dX8_person_4 : decode cX8_person 4 = .ok (.iload_n 1, 1) := by decide +kernel
theorem dX8_person_5 : decode cX8_person 5 = .ok (.iconst 2, 1) := by decide +kernel
theorem dX8_person_6 : decode cX8_person 6 = .ok (.if_icmp .le 5, 3) := by decide +kernel
theorem dX8_person_9 : decode cX8_person 9 = .ok (.iconst (-1), 1) := by decide +kernel
theorem dX8_person_10 : decode cX8_person 10 = .ok (.ireturn, 1) := by decide +kernel
theorem dX8_person_11 : decode cX8_person 11 = .ok (.aload_n 0, 1) := by decide +kernel
theorem dX8_person_12 : decode cX8_person 12 = .ok (.getfield 33, 3) := by decide +kernel
theorem dX8_person_15 : decode cX8_person 15 = .ok (.invokevirtual 67, 3) := by decide +kernel
theorem dX8_person_18 : decode cX8_person 18 = .ok (.ifCond .eq 6, 3) := by decide +kernel
theorem dX8_person_21 : decode cX8_person 21 = .ok (.bipush (-5), 2) := by decide +kernel
theorem dX8_person_23 : decode cX8_person 23 = .ok (.ireturn, 1) := by decide +kernel
theorem dX8_person_24 : decode cX8_person 24 = .ok (.aload_n 0, 1) := by decide +kernel
theorem dX8_person_25 : decode cX8_person 25 = .ok (.getfield 10, 3) := by decide +kernel
theorem dX8_person_28 : decode cX8_person 28 = .ok (.getfield 71, 3) := by decide +kernel
theorem dX8_person_31 : decode cX8_person 31 = .ok (.bipush 7, 2) := by decide +kernel
theorem dX8_person_33 : decode cX8_person 33 = .ok (.if_icmp .lt 8, 3) := by decide +kernel
theorem dX8_person_36 : decode cX8_person 36 = .ok (.bipush (-3), 2) := by decide +kernel
theorem dX8_person_38 : decode cX8_person 38 = .ok (.goto 8, 3) := by decide +kernel
theorem dX8_person_41 : decode cX8_person 41 = .ok (.aload_n 0, 1) := by decide +kernel
theorem dX8_person_42 : decode cX8_person 42 = .ok (.iload_n 1, 1) := by decide +kernel
theorem dX8_person_43 : decode cX8_person 43 = .ok (.invokevirtual 74, 3) := by decide +kernel
theorem dX8_person_46 : decode cX8_person 46 = .ok (.ireturn, 1) := by decide +kernel
theorem dX8_people_0 : decode cX8_people 0 = .ok (.aload_n 0, 1) := by decide +kernel
theorem dX8_people_1 : decode cX8_people 1 = .ok (.getfield 59, 3) := by decide +kernel
theorem dX8_people_4 : decode cX8_people 4 = .ok (.iload_n 1, 1) := by decide +kernel
theorem dX8_people_5 : decode cX8_people 5 = .ok (.invokevirtual 78, 3) := by decide +kernel
theorem dX8_people_8 : decode cX8_people 8 = .ok (.ifCond .eq 14, 3) := by decide +kernel
theorem dX8_people_11 : decode cX8_people 11 = .ok (.iload_n 3, 1) := by decide +kernel
theorem dX8_people_12 : decode cX8_people 12 = .ok (.iconst 1, 1) := by decide +kernel
theorem dX8_people_13 : decode cX8_people 13 = .ok (.if_icmp .lt 9, 3) := by decide +kernel
theorem dX8_people_16 : decode cX8_people 16 = .ok (.iload_n 3, 1) := by decide +kernel
theorem dX8_people_17 : decode cX8_people 17 = .ok (.bipush 7, 2) := by decide +kernel
theorem dX8_people_19 : decode cX8_people 19 = .ok (.if_icmp .le 5, 3) := by decide +kernel
theorem dX8_people_22 : decode cX8_people 22 = .ok (.iconst (-1), 1) := by decide +kernel
theorem dX8_people_23 : decode cX8_people 23 = .ok (.ireturn, 1) := by decide +kernel
theorem dX8_people_24 : decode cX8_people 24 = .ok (.aload_n 0, 1) := by decide +kernel
theorem dX8_people_25 : decode cX8_people 25 = .ok (.getfield 59, 3) := by decide +kernel
theorem dX8_people_28 : decode cX8_people 28 = .ok (.iload_n 1, 1) := by decide +kernel
theorem dX8_people_29 : decode cX8_people 29 = .ok (.invokevirtual 82, 3) := by decide +kernel
theorem dX8_people_32 : decode cX8_people 32 = .ok (.istore 4, 2) := by decide +kernel
theorem dX8_people_34 : decode cX8_people 34 = .ok (.iload 4, 2) := by decide +kernel
theorem dX8_people_36 : decode cX8_people 36 = .ok (.bipush (-12), 2) := by decide +kernel
theorem dX8_people_38 : decode cX8_people 38 = .ok (.if_icmp .ne 6, 3) := by decide +kernel
theorem dX8_people_41 : decode cX8_people 41 = .ok (.bipush (-12), 2) := by decide +kernel
theorem dX8_people_43 : decode cX8_people 43 = .ok (.ireturn, 1) := by decide +kernel
theorem dX8_people_44 : decode cX8_people 44 = .ok (.aload_n 0, 1) := by decide +kernel
theorem dX8_people_45 : decode cX8_people 45 = .ok (.getfield 33, 3) := by decide +kernel
theorem dX8_people_48 : decode cX8_people 48 = .ok (.invokevirtual 67, 3) := by decide +kernel
theorem dX8_people_51 : decode cX8_people 51 = .ok (.ifCond .eq 6, 3) := by decide +kernel
theorem dX8_people_54 : decode cX8_people 54 = .ok (.bipush (-5), 2) := by decide +kernel
theorem dX8_people_56 : decode cX8_people 56 = .ok (.ireturn, 1) := by decide +kernel
theorem dX8_people_57 : decode cX8_people 57 = .ok (.iconst 0, 1) := by decide +kernel
theorem dX8_people_58 : decode cX8_people 58 = .ok (.istore 5, 2) := by decide +kernel
theorem dX8_people_60 : decode cX8_people 60 = .ok (.iload 4, 2) := by decide +kernel
theorem dX8_people_62 : decode cX8_people 62 = .ok (.ifCond .ne 49, 3) := by decide +kernel
