theorem dX2_chooseOnceMore_20 : decode cX2_chooseOnceMore 20 = .ok (.iload_n 2, 1) := by decide +kernel
theorem dX2_chooseOnceMore_21 : decode cX2_chooseOnceMore 21 = .ok (.iload_n 3, 1) := by decide +kernel
theorem dX2_chooseOnceMore_22 : decode cX2_chooseOnceMore 22 = .ok (.invokevirtual 107, 3) := by decide +kernel
theorem dX2_chooseOnceMore_25 : decode cX2_chooseOnceMore 25 = .ok (.istore 4, 2) := by decide +kernel
theorem dX2_chooseOnceMore_27 : decode cX2_chooseOnceMore 27 = .ok (.iconst (-1), 1) := by decide +kernel
theorem dX2_chooseOnceMore_28 : decode cX2_chooseOnceMore 28 = .ok (.istore 5, 2) := by decide +kernel
theorem dX2_chooseOnceMore_30 : decode cX2_chooseOnceMore 30 = .ok (.iconst 0, 1) := by decide +kernel
theorem dX2_chooseOnceMore_31 : decode cX2_chooseOnceMore 31 = .ok (.istore 6, 2) := by decide +kernel
theorem dX2_chooseOnceMore_33 : decode cX2_chooseOnceMore 33 = .ok (.iload 6, 2) := by decide +kernel
theorem dX2_chooseOnceMore_35 : decode cX2_chooseOnceMore 35 = .ok (.aload_n 0, 1) := by decide +kernel
theorem dX2_chooseOnceMore_36 : decode cX2_chooseOnceMore 36 = .ok (.getfield 24, 3) := by decide +kernel
theorem dX2_chooseOnceMore_39 : decode cX2_chooseOnceMore 39 = .ok (.if_icmp .ge 44, 3) := by decide +kernel
theorem dX2_chooseOnceMore_42 : decode cX2_chooseOnceMore 42 = .ok (.aload_n 0, 1) := by decide +kernel
theorem dX2_chooseOnceMore_43 : decode cX2_chooseOnceMore 43 = .ok (.iload 6, 2) := by decide +kernel
theorem dX2_chooseOnceMore_45 : decode cX2_chooseOnceMore 45 = .ok (.aload_n 1, 1) := by decide +kernel
theorem dX2_chooseOnceMore_46 : decode cX2_chooseOnceMore 46 = .ok (.invokevirtual 74, 3) := by decide +kernel
theorem dX2_chooseOnceMore_49 : decode cX2_chooseOnceMore 49 = .ok (.ifCond .ne 28, 3) := by decide +kernel
theorem dX2_chooseOnceMore_52 : decode cX2_chooseOnceMore 52 = .ok (.aload_n 1, 1) := by decide +kernel
theorem dX2_chooseOnceMore_53 : decode cX2_chooseOnceMore 53 = .ok (.iload_n 2, 1) := by decide +kernel
theorem dX2_chooseOnceMore_54 : decode cX2_chooseOnceMore 54 = .ok (.iload 6, 2) := by decide +kernel
theorem dX2_chooseOnceMore_56 : decode cX2_chooseOnceMore 56 = .ok (.invokevirtual 107, 3) := by decide +kernel
theorem dX2_chooseOnceMore_59 : decode cX2_chooseOnceMore 59 = .ok (.iload 4, 2) := by decide +kernel
theorem dX2_chooseOnceMore_61 : decode cX2_chooseOnceMore 61 = .ok (.if_icmp .le 16, 3) := by decide +kernel
theorem dX2_chooseOnceMore_64 : decode cX2_chooseOnceMore 64 = .ok (.aload_n 1, 1) := by decide +kernel
theorem dX2_chooseOnceMore_65 : decode cX2_chooseOnceMore 65 = .ok (.iload_n 2, 1) := by decide +kernel
theorem dX2_chooseOnceMore_66 : decode cX2_chooseOnceMore 66 = .ok (.iload 6, 2) := by decide +kernel
theorem dX2_chooseOnceMore_68 : decode cX2_chooseOnceMore 68 = .ok (.invokevirtual 107, 3) := by decide +kernel
theorem dX2_chooseOnceMore_71 : decode cX2_chooseOnceMore 71 = .ok (.istore 4, 2) := by decide +kernel
theorem dX2_chooseOnceMore_73 : decode cX2_chooseOnceMore 73 = .ok (.iload 6, 2) := by decide +kernel
theorem dX2_chooseOnceMore_75 : decode cX2_chooseOnceMore 75 = .ok (.istore 5, 2) := by decide +kernel
theorem dX2_chooseOnceMore_77 : decode cX2_chooseOnceMore 77 = .ok (.iinc 6 1, 3) := by decide +kernel
theorem dX2_chooseOnceMore_80 : decode cX2_chooseOnceMore 80 = .ok (.goto (-47), 3) := by decide +kernel
theorem dX2_chooseOnceMore_83 : decode cX2_chooseOnceMore 83 = .ok (.iload 5, 2) := by decide +kernel
theorem dX2_chooseOnceMore_85 : decode cX2_chooseOnceMore 85 = .ok (.iconst (-1), 1) := by decide +kernel
theorem dX2_chooseOnceMore_86 : decode cX2_chooseOnceMore 86 = .ok (.if_icmp .eq 15, 3) := by decide +kernel
theorem dX2_chooseOnceMore_89 : decode cX2_chooseOnceMore 89 = .ok (.iload_n 3, 1) := by decide +kernel
theorem dX2_chooseOnceMore_90 : decode cX2_chooseOnceMore 90 = .ok (.ifCond .lt 11, 3) := by decide +kernel
theorem dX2_chooseOnceMore_93 : decode cX2_chooseOnceMore 93 = .ok (.aload_n 0, 1) := by decide +kernel
theorem dX2_chooseOnceMore_94 : decode cX2_chooseOnceMore 94 = .ok (.iload_n 2, 1) := by decide +kernel
theorem dX2_chooseOnceMore_95 : decode cX2_chooseOnceMore 95 = .ok (.iload_n 3, 1) := by decide +kernel
theorem dX2_chooseOnceMore_96 : decode cX2_chooseOnceMore 96 = .ok (.iload 5, 2) := by decide +kernel
theorem dX2_chooseOnceMore_98 : decode cX2_chooseOnceMore 98 = .ok (.invokevirtual 140, 3) := by decide +kernel
theorem dX2_chooseOnceMore_101 : decode cX2_chooseOnceMore 101 = .ok (.return_, 1) := by decide +kernel
theorem dX2_exchange_0 : decode cX2_exchange 0 = .ok (.aload_n 0, 1) := by decide +kernel
theorem dX2_exchange_1 : decode cX2_exchange 1 = .ok (.getfield 18, 3) := by decide +kernel
theorem dX2_exchange_4 : decode cX2_exchange 4 = .ok (.iload_n 3, 1) := by decide +kernel
theorem dX2_exchange_5 : decode cX2_exchange 5 = .ok (.iaload, 1) := by decide +kernel
theorem dX2_exchange_6 : decode cX2_exchange 6 = .ok (.istore 4, 2) := by decide +kernel
theorem dX2_exchange_8 : decode cX2_exchange 8 = .ok (.iload 4, 2) := by decide +kernel
theorem dX2_exchange_10 : decode cX2_exchange 10 = .ok (.ifCond .lt 35, 3) := by decide +kernel
theorem dX2_exchange_13 : decode cX2_exchange 13 = .ok (.aload_n 0, 1) := by decide +kernel
theorem dX2_exchange_14 : decode cX2_exchange 14 = .ok (.getfield 15, 3) := by decide +kernel
theorem dX2_exchange_17 : decode cX2_exchange 17 = .ok (.iload 4, 2) := by decide +kernel
theorem dX2_exchange_19 : decode cX2_exchange 19 = .ok (.iload_n 2, 1) := by decide +kernel
theorem dX2_exchange_20 : decode cX2_exchange 20 = .ok (.iastore, 1) := by decide +kernel
theorem dX2_exchange_21 : decode cX2_exchange 21 = .ok (.aload_n 0, 1) := by decide +kernel
theorem dX2_exchange_22 : decode cX2_exchange 22 = .ok (.getfield 18, 3) := by decide +kernel
theorem dX2_exchange_25 : decode cX2_exchange 25 = .ok (.iload_n 2, 1) := by decide +kernel
theorem dX2_exchange_26 : decode cX2_exchange 26 = .ok (.iload 4, 2) := by decide +kernel
theorem dX2_exchange_28 : decode cX2_exchange 28 = .ok (.iastore, 1) := by decide +kernel
theorem dX2_exchange_29 : decode cX2_exchange 29 = .ok (.aload_n 0, 1) := by decide +kernel
theorem dX2_exchange_30 : decode cX2_exchange 30 = .ok (.getfield 21, 3) := by decide +kernel
theorem dX2_exchange_33 : decode cX2_exchange 33 = .ok (.iload_n 3, 1) := by decide +kernel
theorem dX2_exchange_34 : decode cX2_exchange 34 = .ok (.dup2, 1) := by decide +kernel
theorem dX2_exchange_35 : decode cX2_exchange 35 = .ok (.iaload, 1) := by decide +kernel
theorem dX2_exchange_36 : decode cX2_exchange 36 = .ok (.iconst 1, 1) := by decide +kernel
theorem dX2_exchange_37 : decode cX2_exchange 37 = .ok (.iadd, 1) := by decide +kernel
theorem dX2_exchange_38 : decode cX2_exchange 38 = .ok (.iastore, 1) := by decide +kernel
theorem dX2_exchange_39 : decode cX2_exchange 39 = .ok (.aload_n 0, 1) := by decide +kernel
theorem dX2_exchange_40 : decode cX2_exchange 40 = .ok (.iload_n 1, 1) := by decide +kernel
theorem dX2_exchange_41 : decode cX2_exchange 41 = .ok (.iload_n 3, 1) := by decide +kernel
theorem dX2_exchange_42 : decode cX2_exchange 42 = .ok (.invokevirtual 78, 3) := by decide +kernel
theorem dX2_exchange_45 : decode cX2_exchange 45 = .ok (.return_, 1) := by decide +kernel
theorem dX2_worths_0 : decode cX2_worths 0 = .ok (.iconst 0, 1) := by decide +kernel
theorem dX2_worths_1 : decode cX2_worths 1 = .ok (.istore_n 2, 1) := by decide +kernel
theorem dX2_worths_2 : decode cX2_worths 2 = .ok (.iconst 0, 1) := by decide +kernel
theorem dX2_worths_3 : decode cX2_worths 3 = .ok (.istore_n 3, 1) := by decide +kernel
theorem dX2_worths_4 : decode cX2_worths 4 = .ok (.iload_n 3, 1) := by decide +kernel
theorem dX2_worths_5 : decode cX2_worths 5 = .ok (.aload_n 1, 1) := by decide +kernel
theorem dX2_worths_6 : decode cX2_worths 6 = .ok (.getfield 57, 3) := by decide +kernel
theorem dX2_worths_9 : decode cX2_worths 9 = .ok (.if_icmp .ge 23, 3) := by decide +kernel
theorem dX2_worths_12 : decode cX2_worths 12 = .ok (.iload_n 2, 1) := by decide +kernel
theorem dX2_worths_13 : decode cX2_worths 13 = .ok (.aload_n 1, 1) := by decide +kernel
theorem dX2_worths_14 : decode cX2_worths 14 = .ok (.iload_n 3, 1) := by decide +kernel
theorem dX2_worths_15 : decode cX2_worths 15 = .ok (.aload_n 0, 1) := by decide +kernel
theorem dX2_worths_16 : decode cX2_worths 16 = .ok (.getfield 15, 3) := by decide +kernel
theorem dX2_worths_19 : decode cX2_worths 19 = .ok (.iload_n 3, 1) := by decide +kernel
theorem dX2_worths_20 : decode cX2_worths 20 = .ok (.iaload, 1) := by decide +kernel
theorem dX2_worths_21 : decode cX2_worths 21 = .ok (.invokevirtual 107, 3) := by decide +kernel
theorem dX2_worths_24 : decode cX2_worths 24 = .ok (.iadd, 1) := by decide +kernel
theorem dX2_worths_25 : decode cX2_worths 25 = .ok (.istore_n 2, 1) := by decide +kernel
theorem dX2_worths_26 : decode cX2_worths 26 = .ok (.iinc 3 1, 3) := by decide +kernel
theorem dX2_worths_29 : decode cX2_worths 29 = .ok (.goto (-25), 3) := by decide +kernel
theorem dX2_worths_32 : decode cX2_worths 32 = .ok (.iload_n 2, 1) := by decide +kernel
theorem dX2_worths_33 : decode cX2_worths 33 = .ok (.ireturn, 1) := by decide +kernel
theorem dX3_init_0 : decode cX3_init 0 = .ok (.aload_n 0, 1) := by decide +kernel
theorem dX3_init_1 : decode cX3_init 1 = .ok (.invokespecial 3, 3) := by decide +kernel
theorem dX3_init_4 : decode cX3_init 4 = .ok (.aload_n 0, 1) := by decide +kernel
theorem dX3_init_5 : decode cX3_init 5 = .ok (.bipush 121, 2) := by decide +kernel
theorem dX3_init_7 : decode cX3_init 7 = .ok (.newarray .char, 2) := by decide +kernel
theorem dX3_init_9 : decode cX3_init 9 = .ok (.putfield 11, 3) := by decide +kernel
theorem dX3_init_12 : decode cX3_init 12 = .ok (.aload_n 0, 1) := by decide +kernel
theorem dX3_init_13 : decode cX3_init 13 = .ok (.bipush 121, 2) := by decide +kernel
theorem dX3_init_15 : decode cX3_init 15 = .ok (.newarray .int, 2) := by decide +kernel
theorem dX3_init_17 : decode cX3_init 17 = .ok (.putfield 15, 3) := by decide +kernel
theorem dX3_init_20 : decode cX3_init 20 = .ok (.aload_n 0, 1) := by decide +kernel
theorem dX3_init_21 : decode cX3_init 21 = .ok (.iconst 0, 1) := by decide +kernel
theorem dX3_init_22 : decode cX3_init 22 = .ok (.putfield 19, 3) := by decide +kernel
theorem dX3_init_25 : decode cX3_init 25 = .ok (.aload_n 0, 1) := by decide +kernel
theorem dX3_init_26 : decode cX3_init 26 = .ok (.iconst (-1), 1) := by decide +kernel
theorem dX3_init_27 : decode cX3_init 27 = .ok (.putfield 23, 3) := by decide +kernel
theorem dX3_init_30 : decode cX3_init 30 = .ok (.aload_n 0, 1) := by decide +kernel
theorem dX3_init_31 : decode cX3_init 31 = .ok (.bipush 121, 2) := by decide +kernel
theorem dX3_init_33 : decode cX3_init 33 = .ok (.newarray .int, 2) := by decide +kernel
theorem dX3_init_35 : decode cX3_init 35 = .ok (.putfield 26, 3) := by decide +kernel
theorem dX3_init_38 : decode cX3_init 38 = .ok (.aload_n 0, 1) := by decide +kernel
theorem dX3_init_39 : decode cX3_init 39 = .ok (.bipush 6, 2) := by decide +kernel
theorem dX3_init_41 : decode cX3_init 41 = .ok (.newarray .int, 2) := by decide +kernel
theorem dX3_init_43 : decode cX3_init 43 = .ok (.putfield 29, 3) := by decide +kernel
theorem dX3_init_46 : decode cX3_init 46 = .ok (.aload_n 0, 1) := by decide +kernel
theorem dX3_init_47 : decode cX3_init 47 = .ok (.getfield 11, 3) := by decide +kernel
theorem dX3_init_50 : decode cX3_init 50 = .ok (.iconst 0, 1) := by decide +kernel
theorem dX3_init_51 : decode cX3_init 51 = .ok (.bipush 36, 2) := by decide +kernel
theorem dX3_init_53 : decode cX3_init 53 = .ok (.castore, 1) := by decide +kernel
theorem dX3_init_54 : decode cX3_init 54 = .ok (.aload_n 0, 1) := by decide +kernel
theorem dX3_init_55 : decode cX3_init 55 = .ok (.getfield 15, 3) := by decide +kernel
theorem dX3_init_58 : decode cX3_init 58 = .ok (.iconst 0, 1) := by decide +kernel
theorem dX3_init_59 : decode cX3_init 59 = .ok (.iconst 0, 1) := by decide +kernel
theorem dX3_init_60 : decode cX3_init 60 = .ok (.iastore, 1) := by decide +kernel
theorem dX3_init_61 : decode cX3_init 61 = .ok (.aload_n 0, 1) := by decide +kernel
theorem dX3_init_62 : decode cX3_init 62 = .ok (.getfield 11, 3) := by decide +kernel
theorem dX3_init_65 : decode cX3_init 65 = .ok (.iconst 1, 1) := by decide +kernel
theorem dX3_init_66 : decode cX3_init 66 = .ok (.bipush 59, 2) := by decide +kernel
theorem dX3_init_68 : decode cX3_init 68 = .ok (.castore, 1) := by decide +kernel
theorem dX3_init_69 : decode cX3_init 69 = .ok (.aload_n 0, 1) := by decide +kernel
theorem dX3_init_70 : decode cX3_init 70 = .ok (.iconst 2, 1) := by decide +kernel
theorem dX3_init_71 : decode cX3_init 71 = .ok (.putfield 19, 3) := by decide +kernel
theorem dX3_init_74 : decode cX3_init 74 = .ok (.return_, 1) := by decide +kernel
theorem dX3_clear_0 : decode cX3_clear 0 = .ok (.aload_n 0, 1) := by decide +kernel
theorem dX3_clear_1 : decode cX3_clear 1 = .ok (.iconst 0, 1) := by decide +kernel
theorem dX3_clear_2 : decode cX3_clear 2 = .ok (.putfield 19, 3) := by decide +kernel
theorem dX3_clear_5 : decode cX3_clear 5 = .ok (.aload_n 0, 1) := by decide +kernel
theorem dX3_clear_6 : decode cX3_clear 6 = .ok (.iconst (-1), 1) := by decide +kernel
theorem dX3_clear_7 : decode cX3_clear 7 = .ok (.putfield 23, 3) := by decide +kernel
theorem dX3_clear_10 : decode cX3_clear 10 = .ok (.return_, 1) := by decide +kernel
theorem dX3_write_0 : decode cX3_write 0 = .ok (.aload_n 0, 1) := by decide +kernel
theorem dX3_write_1 : decode cX3_write 1 = .ok (.getfield 19, 3) := by decide +kernel
theorem dX3_write_4 : decode cX3_write 4 = .ok (.bipush 121, 2) := by decide +kernel
theorem dX3_write_6 : decode cX3_write 6 = .ok (.if_icmp .ge 33, 3) := by decide +kernel
theorem dX3_write_9 : decode cX3_write 9 = .ok (.aload_n 0, 1) := by decide +kernel
theorem dX3_write_10 : decode cX3_write 10 = .ok (.getfield 11, 3) := by decide +kernel
theorem dX3_write_13 : decode cX3_write 13 = .ok (.aload_n 0, 1) := by decide +kernel
theorem dX3_write_14 : decode cX3_write 14 = .ok (.getfield 19, 3) := by decide +kernel
theorem dX3_write_17 : decode cX3_write 17 = .ok (.iload_n 1, 1) := by decide +kernel
theorem dX3_write_18 : decode cX3_write 18 = .ok (.castore, 1) := by decide +kernel
theorem dX3_write_19 : decode cX3_write 19 = .ok (.aload_n 0, 1) := by decide +kernel
theorem dX3_write_20 : decode cX3_write 20 = .ok (.getfield 15, 3) := by decide +kernel
theorem dX3_write_23 : decode cX3_write 23 = .ok (.aload_n 0, 1) := by decide +kernel
theorem dX3_write_24 : decode cX3_write 24 = .ok (.getfield 19, 3) := by decide +kernel
theorem dX3_write_27 : decode cX3_write 27 = .ok (.iload_n 2, 1) := by decide +kernel
theorem dX3_write_28 : decode cX3_write 28 = .ok (.iastore, 1) := by decide +kernel
theorem dX3_write_29 : decode cX3_write 29 = .ok (.aload_n 0, 1) := by decide +kernel
theorem dX3_write_30 : decode cX3_write 30 = .ok (.dup, 1) := by decide +kernel
theorem dX3_write_31 : decode cX3_write 31 = .ok (.getfield 19, 3) := by decide +kernel
theorem dX3_write_34 : decode cX3_write 34 = .ok (.iconst 1, 1) := by decide +kernel
theorem dX3_write_35 : decode cX3_write 35 = .ok (.iadd, 1) := by decide +kernel
theorem dX3_write_36 : decode cX3_write 36 = .ok (.putfield 19, 3) := by decide +kernel
theorem dX3_write_39 : decode cX3_write 39 = .ok (.return_, 1) := by decide +kernel
theorem dX3_writeIf_0 : decode cX3_writeIf 0 = .ok (.aload_n 0, 1) := by decide +kernel
theorem dX3_writeIf_1 : decode cX3_writeIf 1 = .ok (.aload_n 0, 1) := by decide +kernel
theorem dX3_writeIf_2 : decode cX3_writeIf 2 = .ok (.getfield 19, 3) := by decide +kernel
theorem dX3_writeIf_5 : decode cX3_writeIf 5 = .ok (.putfield 23, 3) := by decide +kernel
theorem dX3_writeIf_8 : decode cX3_writeIf 8 = .ok (.aload_n 0, 1) := by decide +kernel
theorem dX3_writeIf_9 : decode cX3_writeIf 9 = .ok (.bipush 63, 2) := by decide +kernel
theorem dX3_writeIf_11 : decode cX3_writeIf 11 = .ok (.aload_n 0, 1) := by decide +kernel
theorem dX3_writeIf_12 : decode cX3_writeIf 12 = .ok (.getfield 19, 3) := by decide +kernel
theorem dX3_writeIf_15 : decode cX3_writeIf 15 = .ok (.invokevirtual 32, 3) := by decide +kernel
theorem dX3_writeIf_18 : decode cX3_writeIf 18 = .ok (.return_, 1) := by decide +kernel
theorem dX3_writeEndOfLine_0 : decode cX3_writeEndOfLine 0 = .ok (.aload_n 0, 1) := by decide +kernel
theorem dX3_writeEndOfLine_1 : decode cX3_writeEndOfLine 1 = .ok (.getfield 23, 3) := by decide +kernel
theorem dX3_writeEndOfLine_4 : decode cX3_writeEndOfLine 4 = .ok (.ifCond .lt 25, 3) := by decide +kernel
theorem dX3_writeEndOfLine_7 : decode cX3_writeEndOfLine 7 = .ok (.aload_n 0, 1) := by decide +kernel
theorem dX3_writeEndOfLine_8 : decode cX3_writeEndOfLine 8 = .ok (.getfield 23, 3) := by decide +kernel
theorem dX3_writeEndOfLine_11 : decode cX3_writeEndOfLine 11 = .ok (.bipush 121, 2) := by decide +kernel
theorem dX3_writeEndOfLine_13 : decode cX3_writeEndOfLine 13 = .ok (.if_icmp .ge 16, 3) := by decide +kernel
theorem dX3_writeEndOfLine_16 : decode cX3_writeEndOfLine 16 = .ok (.aload_n 0, 1) := by decide +kernel
theorem dX3_writeEndOfLine_17 : decode cX3_writeEndOfLine 17 = .ok (.getfield 15, 3) := by decide +kernel
theorem dX3_writeEndOfLine_20 : decode cX3_writeEndOfLine 20 = .ok (.aload_n 0, 1) := by decide +kernel
theorem dX3_writeEndOfLine_21 : decode cX3_writeEndOfLine 21 = .ok (.getfield 23, 3) := by decide +kernel
theorem dX3_writeEndOfLine_24 : decode cX3_writeEndOfLine 24 = .ok (.aload_n 0, 1) := by decide +kernel
theorem dX3_writeEndOfLine_25 : decode cX3_writeEndOfLine 25 = .ok (.getfield 19, 3) := by decide +kernel
theorem dX3_writeEndOfLine_28 : decode cX3_writeEndOfLine 28 = .ok (.iastore, 1) := by decide +kernel
theorem dX3_writeEndOfLine_29 : decode cX3_writeEndOfLine 29 = .ok (.aload_n 0, 1) := by decide +kernel
theorem dX3_writeEndOfLine_30 : decode cX3_writeEndOfLine 30 = .ok (.iconst (-1), 1) := by decide +kernel
theorem dX3_writeEndOfLine_31 : decode cX3_writeEndOfLine 31 = .ok (.putfield 23, 3) := by decide +kernel
theorem dX3_writeEndOfLine_34 : decode cX3_writeEndOfLine 34 = .ok (.aload_n 0, 1) := by decide +kernel
theorem dX3_writeEndOfLine_35 : decode cX3_writeEndOfLine 35 = .ok (.bipush 59, 2) := by decide +kernel
theorem dX3_writeEndOfLine_37 : decode cX3_writeEndOfLine 37 = .ok (.iconst 0, 1) := by decide +kernel
theorem dX3_writeEndOfLine_38 : decode cX3_writeEndOfLine 38 = .ok (.invokevirtual 32, 3) := by decide +kernel
theorem dX3_writeEndOfLine_41 : decode cX3_writeEndOfLine 41 = .ok (.return_, 1) := by decide +kernel
theorem dX3_nameOf_0 : decode cX3_nameOf 0 = .ok (.iload_n 0, 1) := by decide +kernel
theorem dX3_nameOf_1 : decode cX3_nameOf 1 = .ok (.tableswitch 79 108 120 #[73, 79, 79, 75, 79, 79, 77, 79, 71, 79, 79, 67, 69], 67) := by decide +kernel
theorem dX3_nameOf_68 : decode cX3_nameOf 68 = .ok (.iconst 0, 1) := by decide +kernel
theorem dX3_nameOf_69 : decode cX3_nameOf 69 = .ok (.ireturn, 1) := by decide +kernel
theorem dX3_nameOf_70 : decode cX3_nameOf 70 = .ok (.iconst 1, 1) := by decide +kernel
theorem dX3_nameOf_71 : decode cX3_nameOf 71 = .ok (.ireturn, 1) := by decide +kernel
theorem dX3_nameOf_72 : decode cX3_nameOf 72 = .ok (.iconst 2, 1) := by decide +kernel
theorem dX3_nameOf_73 : decode cX3_nameOf 73 = .ok (.ireturn, 1) := by decide +kernel
theorem dX3_nameOf_74 : decode cX3_nameOf 74 = .ok (.iconst 3, 1) := by decide +kernel
theorem dX3_nameOf_75 : decode cX3_nameOf 75 = .ok (.ireturn, 1) := by decide +kernel
theorem dX3_nameOf_76 : decode cX3_nameOf 76 = .ok (.iconst 4, 1) := by decide +kernel
theorem dX3_nameOf_77 : decode cX3_nameOf 77 = .ok (.ireturn, 1) := by decide +kernel
theorem dX3_nameOf_78 : decode cX3_nameOf 78 = .ok (.iconst 5, 1) := by decide +kernel
theorem dX3_nameOf_79 : decode cX3_nameOf 79 = .ok (.ireturn, 1) := by decide +kernel
theorem dX3_nameOf_80 : decode cX3_nameOf 80 = .ok (.iconst (-1), 1) := by decide +kernel
theorem dX3_nameOf_81 : decode cX3_nameOf 81 = .ok (.ireturn, 1) := by decide +kernel
theorem dX3_number_0 : decode cX3_number 0 = .ok (.aload_n 0, 1) := by decide +kernel
theorem dX3_number_1 : decode cX3_number 1 = .ok (.getfield 29, 3) := by decide +kernel
theorem dX3_number_4 : decode cX3_number 4 = .ok (.iconst 0, 1) := by decide +kernel
theorem dX3_number_5 : decode cX3_number 5 = .ok (.iload_n 1, 1) := by decide +kernel
theorem dX3_number_6 : decode cX3_number 6 = .ok (.iastore, 1) := by decide +kernel
theorem dX3_number_7 : decode cX3_number 7 = .ok (.aload_n 0, 1) := by decide +kernel
theorem dX3_number_8 : decode cX3_number 8 = .ok (.getfield 29, 3) := by decide +kernel
theorem dX3_number_11 : decode cX3_number 11 = .ok (.iconst 1, 1) := by decide +kernel
theorem dX3_number_12 : decode cX3_number 12 = .ok (.iload_n 2, 1) := by decide +kernel
theorem dX3_number_13 : decode cX3_number 13 = .ok (.iastore, 1) := by decide +kernel
theorem dX3_number_14 : decode cX3_number 14 = .ok (.aload_n 0, 1) := by decide +kernel
theorem dX3_number_15 : decode cX3_number 15 = .ok (.getfield 29, 3) := by decide +kernel
theorem dX3_number_18 : decode cX3_number 18 = .ok (.iconst 2, 1) := by decide +kernel
theorem dX3_number_19 : decode cX3_number 19 = .ok (.iload_n 3, 1) := by decide +kernel
theorem dX3_number_20 : decode cX3_number 20 = .ok (.iastore, 1) := by decide +kernel
theorem dX3_number_21 : decode cX3_number 21 = .ok (.aload_n 0, 1) := by decide +kernel
theorem dX3_number_22 : decode cX3_number 22 = .ok (.getfield 29, 3) := by decide +kernel
theorem dX3_number_25 : decode cX3_number 25 = .ok (.iconst 3, 1) := by decide +kernel
theorem dX3_number_26 : decode cX3_number 26 = .ok (.iload 4, 2) := by decide +kernel
theorem dX3_number_28 : decode cX3_number 28 = .ok (.iastore, 1) := by decide +kernel
theorem dX3_number_29 : decode cX3_number 29 = .ok (.aload_n 0, 1) := by decide +kernel
theorem dX3_number_30 : decode cX3_number 30 = .ok (.getfield 29, 3) := by decide +kernel
theorem dX3_number_33 : decode cX3_number 33 = .ok (.iconst 4, 1) := by decide +kernel
theorem dX3_number_34 : decode cX3_number 34 = .ok (.iload 5, 2) := by decide +kernel
theorem dX3_number_36 : decode cX3_number 36 = .ok (.iastore, 1) := by decide +kernel
theorem dX3_number_37 : decode cX3_number 37 = .ok (.aload_n 0, 1) := by decide +kernel
theorem dX3_number_38 : decode cX3_number 38 = .ok (.getfield 29, 3) := by decide +kernel
theorem dX3_number_41 : decode cX3_number 41 = .ok (.iconst 5, 1) := by decide +kernel
theorem dX3_number_42 : decode cX3_number 42 = .ok (.iload 6, 2) := by decide +kernel
theorem dX3_number_44 : decode cX3_number 44 = .ok (.iastore, 1) := by decide +kernel
theorem dX3_number_45 : decode cX3_number 45 = .ok (.iconst 0, 1) := by decide +kernel
theorem dX3_number_46 : decode cX3_number 46 = .ok (.istore 7, 2) := by decide +kernel
theorem dX3_number_48 : decode cX3_number 48 = .ok (.iconst 0, 1) := by decide +kernel
theorem dX3_number_49 : decode cX3_number 49 = .ok (.istore 8, 2) := by decide +kernel
theorem dX3_number_51 : decode cX3_number 51 = .ok (.iload 8, 2) := by decide +kernel
theorem dX3_number_53 : decode cX3_number 53 = .ok (.aload_n 0, 1) := by decide +kernel
theorem dX3_number_54 : decode cX3_number 54 = .ok (.getfield 19, 3) := by decide +kernel
theorem dX3_number_57 : decode cX3_number 57 = .ok (.if_icmp .ge 320, 3) := by decide +kernel
theorem dX3_number_60 : decode cX3_number 60 = .ok (.iload 8, 2) := by decide +kernel
theorem dX3_number_62 : decode cX3_number 62 = .ok (.bipush 121, 2) := by decide +kernel
theorem dX3_number_64 : decode cX3_number 64 = .ok (.if_icmp .ge 313, 3) := by decide +kernel
theorem dX3_number_67 : decode cX3_number 67 = .ok (.iload 7, 2) := by decide +kernel
theorem dX3_number_69 : decode cX3_number 69 = .ok (.bipush 121, 2) := by decide +kernel
theorem dX3_number_71 : decode cX3_number 71 = .ok (.if_icmp .ge 306, 3) := by decide +kernel
theorem dX3_number_74 : decode cX3_number 74 = .ok (.aload_n 0, 1) := by decide +kernel
theorem dX3_number_75 : decode cX3_number 75 = .ok (.getfield 15, 3) := by decide +kernel
theorem dX3_number_78 : decode cX3_number 78 = .ok (.iload 8, 2) := by decide +kernel
theorem dX3_number_80 : decode cX3_number 80 = .ok (.iaload, 1) := by decide +kernel
theorem dX3_number_81 : decode cX3_number 81 = .ok (.istore 9, 2) := by decide +kernel
theorem dX3_number_83 : decode cX3_number 83 = .ok (.aload_n 0, 1) := by decide +kernel
theorem dX3_number_84 : decode cX3_number 84 = .ok (.getfield 11, 3) := by decide +kernel
theorem dX3_number_87 : decode cX3_number 87 = .ok (.iload 8, 2) := by decide +kernel
theorem dX3_number_89 : decode cX3_number 89 = .ok (.caload, 1) := by decide +kernel
theorem dX3_number_90 : decode cX3_number 90 = .ok (.lookupswitch 236 #[(33, 169), (35, 118), (36, 133), (59, 58), (63, 78), (126, 206)], 58) := by decide +kernel
theorem dX3_number_148 : decode cX3_number 148 = .ok (.iload 7, 2) := by decide +kernel
theorem dX3_number_150 : decode cX3_number 150 = .ok (.iconst 1, 1) := by decide +kernel
theorem dX3_number_151 : decode cX3_number 151 = .ok (.if_icmp .ge 7, 3) := by decide +kernel
theorem dX3_number_154 : decode cX3_number 154 = .ok (.iconst 0, 1) := by decide +kernel
theorem dX3_number_155 : decode cX3_number 155 = .ok (.goto 12, 3) := by decide +kernel
theorem dX3_number_158 : decode cX3_number 158 = .ok (.aload_n 0, 1) := by decide +kernel
theorem dX3_number_159 : decode cX3_number 159 = .ok (.getfield 26, 3) := by decide +kernel
theorem dX3_number_162 : decode cX3_number 162 = .ok (.iload 7, 2) := by decide +kernel
theorem dX3_number_164 : decode cX3_number 164 = .ok (.iconst 1, 1) := by decide +kernel
theorem dX3_number_165 : decode cX3_number 165 = .ok (.isub, 1) := by decide +kernel
theorem dX3_number_166 : decode cX3_number 166 = .ok (.iaload, 1) := by decide +kernel
theorem dX3_number_167 : decode cX3_number 167 = .ok (.ireturn, 1) := by decide +kernel
theorem dX3_number_168 : decode cX3_number 168 = .ok (.iload 7, 2) := by decide +kernel
theorem dX3_number_170 : decode cX3_number 170 = .ok (.iconst 1, 1) := by decide +kernel
theorem dX3_number_171 : decode cX3_number 171 = .ok (.if_icmp .lt 27, 3) := by decide +kernel
theorem dX3_number_174 : decode cX3_number 174 = .ok (.aload_n 0, 1) := by decide +kernel
theorem dX3_number_175 : decode cX3_number 175 = .ok (.getfield 26, 3) := by decide +kernel
theorem dX3_number_178 : decode cX3_number 178 = .ok (.iload 7, 2) := by decide +kernel
theorem dX3_number_180 : decode cX3_number 180 = .ok (.iconst 1, 1) := by decide +kernel
theorem dX3_number_181 : decode cX3_number 181 = .ok (.isub, 1) := by decide +kernel
theorem dX3_number_182 : decode cX3_number 182 = .ok (.iaload, 1) := by decide +kernel
theorem dX3_number_183 : decode cX3_number 183 = .ok (.ifCond .ne 15, 3) := by decide +kernel
theorem dX3_number_186 : decode cX3_number 186 = .ok (.iload 9, 2) := by decide +kernel
theorem dX3_number_188 : decode cX3_number 188 = .ok (.iload 8, 2) := by decide +kernel
theorem dX3_number_190 : decode cX3_number 190 = .ok (.if_icmp .le 8, 3) := by decide +kernel
theorem dX3_number_193 : decode cX3_number 193 = .ok (.iload 9, 2) := by decide +kernel
theorem dX3_number_195 : decode cX3_number 195 = .ok (.goto 5, 3) := by decide +kernel
theorem dX3_number_198 : decode cX3_number 198 = .ok (.iload 8, 2) := by decide +kernel
theorem dX3_number_200 : decode cX3_number 200 = .ok (.istore 8, 2) := by decide +kernel
theorem dX3_number_202 : decode cX3_number 202 = .ok (.iconst 0, 1) := by decide +kernel
theorem dX3_number_203 : decode cX3_number 203 = .ok (.istore 7, 2) := by decide +kernel
theorem dX3_number_205 : decode cX3_number 205 = .ok (.goto 166, 3) := by decide +kernel
theorem dX3_number_208 : decode cX3_number 208 = .ok (.aload_n 0, 1) := by decide +kernel
theorem dX3_number_209 : decode cX3_number 209 = .ok (.getfield 26, 3) := by decide +kernel
theorem dX3_number_212 : decode cX3_number 212 = .ok (.iload 7, 2) := by decide +kernel
theorem dX3_number_214 : decode cX3_number 214 = .ok (.iload 9, 2) := by decide +kernel
theorem dX3_number_216 : decode cX3_number 216 = .ok (.iastore, 1) := by decide +kernel
theorem dX3_number_217 : decode cX3_number 217 = .ok (.iinc 7 1, 3) := by decide +kernel
theorem dX3_number_220 : decode cX3_number 220 = .ok (.goto 151, 3) := by decide +kernel
theorem dX3_number_223 : decode cX3_number 223 = .ok (.aload_n 0, 1) := by decide +kernel
theorem dX3_number_224 : decode cX3_number 224 = .ok (.getfield 26, 3) := by decide +kernel
theorem dX3_number_227 : decode cX3_number 227 = .ok (.iload 7, 2) := by decide +kernel
theorem dX3_number_229 : decode cX3_number 229 = .ok (.iload 9, 2) := by decide +kernel
theorem dX3_number_231 : decode cX3_number 231 = .ok (.ifCond .lt 20, 3) := by decide +kernel
theorem dX3_number_234 : decode cX3_number 234 = .ok (.iload 9, 2) := by decide +kernel
theorem dX3_number_236 : decode cX3_number 236 = .ok (.bipush 6, 2) := by decide +kernel
theorem dX3_number_238 : decode cX3_number 238 = .ok (.if_icmp .ge 13, 3) := by decide +kernel
theorem dX3_number_241 : decode cX3_number 241 = .ok (.aload_n 0, 1) := by decide +kernel
theorem dX3_number_242 : decode cX3_number 242 = .ok (.getfield 29, 3) := by decide +kernel
theorem dX3_number_245 : decode cX3_number 245 = .ok (.iload 9, 2) := by decide +kernel
theorem dX3_number_247 : decode cX3_number 247 = .ok (.iaload, 1) := by decide +kernel
theorem dX3_number_248 : decode cX3_number 248 = .ok (.goto 4, 3) := by decide +kernel
theorem dX3_number_251 : decode cX3_number 251 = .ok (.iconst 0, 1) := by decide +kernel
theorem dX3_number_252 : decode cX3_number 252 = .ok (.iastore, 1) := by decide +kernel
theorem dX3_number_253 : decode cX3_number 253 = .ok (.iinc 7 1, 3) := by decide +kernel
theorem dX3_number_256 : decode cX3_number 256 = .ok (.goto 115, 3) := by decide +kernel
theorem dX3_number_259 : decode cX3_number 259 = .ok (.iload 7, 2) := by decide +kernel
theorem dX3_number_261 : decode cX3_number 261 = .ok (.iconst 1, 1) := by decide +kernel
theorem dX3_number_262 : decode cX3_number 262 = .ok (.invokestatic 36, 3) := by decide +kernel
theorem dX3_number_265 : decode cX3_number 265 = .ok (.istore 7, 2) := by decide +kernel
theorem dX3_number_267 : decode cX3_number 267 = .ok (.aload_n 0, 1) := by decide +kernel
theorem dX3_number_268 : decode cX3_number 268 = .ok (.getfield 26, 3) := by decide +kernel
theorem dX3_number_271 : decode cX3_number 271 = .ok (.iload 7, 2) := by decide +kernel
theorem dX3_number_273 : decode cX3_number 273 = .ok (.iconst 1, 1) := by decide +kernel
theorem dX3_number_274 : decode cX3_number 274 = .ok (.isub, 1) := by decide +kernel
theorem dX3_number_275 : decode cX3_number 275 = .ok (.aload_n 0, 1) := by decide +kernel
theorem dX3_number_276 : decode cX3_number 276 = .ok (.getfield 26, 3) := by decide +kernel
theorem dX3_number_279 : decode cX3_number 279 = .ok (.iload 7, 2) := by decide +kernel
theorem dX3_number_281 : decode cX3_number 281 = .ok (.iconst 1, 1) := by decide +kernel
theorem dX3_number_282 : decode cX3_number 282 = .ok (.isub, 1) := by decide +kernel
theorem dX3_number_283 : decode cX3_number 283 = .ok (.iaload, 1) := by decide +kernel
theorem dX3_number_284 : decode cX3_number 284 = .ok (.ifCond .ne 7, 3) := by decide +kernel
theorem dX3_number_287 : decode cX3_number 287 = .ok (.iconst 1, 1) := by decide +kernel
theorem dX3_number_288 : decode cX3_number 288 = .ok (.goto 4, 3) := by decide +kernel
theorem dX3_number_291 : decode cX3_number 291 = .ok (.iconst 0, 1) := by decide +kernel
theorem dX3_number_292 : decode cX3_number 292 = .ok (.iastore, 1) := by decide +kernel
theorem dX3_number_293 : decode cX3_number 293 = .ok (.goto 78, 3) := by decide +kernel
theorem dX3_number_296 : decode cX3_number 296 = .ok (.iload 7, 2) := by decide +kernel
theorem dX3_number_298 : decode cX3_number 298 = .ok (.iconst 1, 1) := by decide +kernel
theorem dX3_number_299 : decode cX3_number 299 = .ok (.invokestatic 36, 3) := by decide +kernel
theorem dX3_number_302 : decode cX3_number 302 = .ok (.istore 7, 2) := by decide +kernel
theorem dX3_number_304 : decode cX3_number 304 = .ok (.aload_n 0, 1) := by decide +kernel
theorem dX3_number_305 : decode cX3_number 305 = .ok (.getfield 26, 3) := by decide +kernel
theorem dX3_number_308 : decode cX3_number 308 = .ok (.iload 7, 2) := by decide +kernel
theorem dX3_number_310 : decode cX3_number 310 = .ok (.iconst 1, 1) := by decide +kernel
theorem dX3_number_311 : decode cX3_number 311 = .ok (.isub, 1) := by decide +kernel
theorem dX3_number_312 : decode cX3_number 312 = .ok (.aload_n 0, 1) := by decide +kernel
theorem dX3_number_313 : decode cX3_number 313 = .ok (.getfield 26, 3) := by decide +kernel
theorem dX3_number_316 : decode cX3_number 316 = .ok (.iload 7, 2) := by decide +kernel
theorem dX3_number_318 : decode cX3_number 318 = .ok (.iconst 1, 1) := by decide +kernel
theorem dX3_number_319 : decode cX3_number 319 = .ok (.isub, 1) := by decide +kernel
theorem dX3_number_320 : decode cX3_number 320 = .ok (.iaload, 1) := by decide +kernel
theorem dX3_number_321 : decode cX3_number 321 = .ok (.ineg, 1) := by decide +kernel
theorem dX3_number_322 : decode cX3_number 322 = .ok (.iastore, 1) := by decide +kernel
theorem dX3_number_323 : decode cX3_number 323 = .ok (.goto 48, 3) := by decide +kernel
theorem dX3_number_326 : decode cX3_number 326 = .ok (.iload 7, 2) := by decide +kernel
theorem dX3_number_328 : decode cX3_number 328 = .ok (.iconst 1, 1) := by decide +kernel
theorem dX3_number_329 : decode cX3_number 329 = .ok (.isub, 1) := by decide +kernel
theorem dX3_number_330 : decode cX3_number 330 = .ok (.iconst 1, 1) := by decide +kernel
theorem dX3_number_331 : decode cX3_number 331 = .ok (.invokestatic 36, 3) := by decide +kernel
theorem dX3_number_334 : decode cX3_number 334 = .ok (.istore 7, 2) := by decide +kernel
theorem dX3_number_336 : decode cX3_number 336 = .ok (.aload_n 0, 1) := by decide +kernel
theorem dX3_number_337 : decode cX3_number 337 = .ok (.getfield 26, 3) := by decide +kernel
theorem dX3_number_340 : decode cX3_number 340 = .ok (.iload 7, 2) := by decide +kernel
theorem dX3_number_342 : decode cX3_number 342 = .ok (.iconst 1, 1) := by decide +kernel
theorem dX3_number_343 : decode cX3_number 343 = .ok (.isub, 1) := by decide +kernel
theorem dX3_number_344 : decode cX3_number 344 = .ok (.aload_n 0, 1) := by decide +kernel
theorem dX3_number_345 : decode cX3_number 345 = .ok (.getfield 11, 3) := by decide +kernel
theorem dX3_number_348 : decode cX3_number 348 = .ok (.iload 8, 2) := by decide +kernel
theorem dX3_number_350 : decode cX3_number 350 = .ok (.caload, 1) := by decide +kernel
theorem dX3_number_351 : decode cX3_number 351 = .ok (.aload_n 0, 1) := by decide +kernel
theorem dX3_number_352 : decode cX3_number 352 = .ok (.getfield 26, 3) := by decide +kernel
theorem dX3_number_355 : decode cX3_number 355 = .ok (.iload 7, 2) := by decide +kernel
theorem dX3_number_357 : decode cX3_number 357 = .ok (.iconst 1, 1) := by decide +kernel
theorem dX3_number_358 : decode cX3_number 358 = .ok (.isub, 1) := by decide +kernel
theorem dX3_number_359 : decode cX3_number 359 = .ok (.iaload, 1) := by decide +kernel
theorem dX3_number_360 : decode cX3_number 360 = .ok (.aload_n 0, 1) := by decide +kernel
theorem dX3_number_361 : decode cX3_number 361 = .ok (.getfield 26, 3) := by decide +kernel
theorem dX3_number_364 : decode cX3_number 364 = .ok (.iload 7, 2) := by decide +kernel
theorem dX3_number_366 : decode cX3_number 366 = .ok (.iaload, 1) := by decide +kernel
theorem dX3_number_367 : decode cX3_number 367 = .ok (.invokestatic 42, 3) := by decide +kernel
theorem dX3_number_370 : decode cX3_number 370 = .ok (.iastore, 1) := by decide +kernel
theorem dX3_number_371 : decode cX3_number 371 = .ok (.iinc 8 1, 3) := by decide +kernel
theorem dX3_number_374 : decode cX3_number 374 = .ok (.goto (-323), 3) := by decide +kernel
theorem dX3_number_377 : decode cX3_number 377 = .ok (.iconst 0, 1) := by decide +kernel
theorem dX3_number_378 : decode cX3_number 378 = .ok (.ireturn, 1) := by decide +kernel
theorem dX3_joined_0 : decode cX3_joined 0 = .ok (.iload_n 0, 1) := by decide +kernel
theorem dX3_joined_1 : decode cX3_joined 1 = .ok (.lookupswitch 168 #[(38, 97), (42, 152), (43, 144), (45, 148), (47, 156), (60, 111), (61, 122), (62, 133), (124, 83)], 83) := by decide +kernel
theorem dX3_joined_84 : decode cX3_joined 84 = .ok (.iload_n 1, 1) := by decide +kernel
theorem dX3_joined_85 : decode cX3_joined 85 = .ok (.ifCond .ne 7, 3) := by decide +kernel
theorem dX3_joined_88 : decode cX3_joined 88 = .ok (.iload_n 2, 1) := by decide +kernel
theorem dX3_joined_89 : decode cX3_joined 89 = .ok (.ifCond .eq 7, 3) := by decide +kernel
theorem dX3_joined_92 : decode cX3_joined 92 = .ok (.iconst 1, 1) := by decide +kernel
theorem dX3_joined_93 : decode cX3_joined 93 = .ok (.goto 4, 3) := by decide +kernel
theorem dX3_joined_96 : decode cX3_joined 96 = .ok (.iconst 0, 1) := by decide +kernel
theorem dX3_joined_97 : decode cX3_joined 97 = .ok (.ireturn, 1) := by decide +kernel
theorem dX3_joined_98 : decode cX3_joined 98 = .ok (.iload_n 1, 1) := by decide +kernel
theorem dX3_joined_99 : decode cX3_joined 99 = .ok (.ifCond .eq 11, 3) := by decide +kernel
theorem dX3_joined_102 : decode cX3_joined 102 = .ok (.iload_n 2, 1) := by decide +kernel
theorem dX3_joined_103 : decode cX3_joined 103 = .ok (.ifCond .eq 7, 3) := by decide +kernel
theorem dX3_joined_106 : decode cX3_joined 106 = .ok (.iconst 1, 1) := by decide +kernel
theorem dX3_joined_107 : decode cX3_joined 107 = .ok (.goto 4, 3) := by decide +kernel
theorem dX3_joined_110 : decode cX3_joined 110 = .ok (.iconst 0, 1) := by decide +kernel
theorem dX3_joined_111 : decode cX3_joined 111 = .ok (.ireturn, 1) := by decide +kernel
theorem dX3_joined_112 : decode cX3_joined 112 = .ok (.iload_n 1, 1) := by decide +kernel
theorem dX3_joined_113 : decode cX3_joined 113 = .ok (.iload_n 2, 1) := by decide +kernel
theorem dX3_joined_114 : decode cX3_joined 114 = .ok (.if_icmp .ge 7, 3) := by decide +kernel
theorem dX3_joined_117 : decode cX3_joined 117 = .ok (.iconst 1, 1) := by decide +kernel
theorem dX3_joined_118 : decode cX3_joined 118 = .ok (.goto 4, 3) := by decide +kernel
theorem dX3_joined_121 : decode cX3_joined 121 = .ok (.iconst 0, 1) := by decide +kernel
theorem dX3_joined_122 : decode cX3_joined 122 = .ok (.ireturn, 1) := by decide +kernel
theorem dX3_joined_123 : decode cX3_joined 123 = .ok (.iload_n 1, 1) := by decide +kernel
theorem dX3_joined_124 : decode cX3_joined 124 = .ok (.iload_n 2, 1) := by decide +kernel
theorem dX3_joined_125 : decode cX3_joined 125 = .ok (.if_icmp .ne 7, 3) := by decide +kernel
theorem dX3_joined_128 : decode cX3_joined 128 = .ok (.iconst 1, 1) := by decide +kernel
theorem dX3_joined_129 : decode cX3_joined 129 = .ok (.goto 4, 3) := by decide +kernel
theorem dX3_joined_132 : decode cX3_joined 132 = .ok (.iconst 0, 1) := by decide +kernel
theorem dX3_joined_133 : decode cX3_joined 133 = .ok (.ireturn, 1) := by decide +kernel
theorem dX3_joined_134 : decode cX3_joined 134 = .ok (.iload_n 1, 1) := by decide +kernel
theorem dX3_joined_135 : decode cX3_joined 135 = .ok (.iload_n 2, 1) := by decide +kernel
theorem dX3_joined_136 : decode cX3_joined 136 = .ok (.if_icmp .le 7, 3) := by decide +kernel
theorem dX3_joined_139 : decode cX3_joined 139 = .ok (.iconst 1, 1) := by decide +kernel
theorem dX3_joined_140 : decode cX3_joined 140 = .ok (.goto 4, 3) := by decide +kernel
theorem dX3_joined_143 : decode cX3_joined 143 = .ok (.iconst 0, 1) := by decide +kernel
theorem dX3_joined_144 : decode cX3_joined 144 = .ok (.ireturn, 1) := by decide +kernel
theorem dX3_joined_145 : decode cX3_joined 145 = .ok (.iload_n 1, 1) := by decide +kernel
theorem dX3_joined_146 : decode cX3_joined 146 = .ok (.iload_n 2, 1) := by decide +kernel
theorem dX3_joined_147 : decode cX3_joined 147 = .ok (.iadd, 1) := by decide +kernel
theorem dX3_joined_148 : decode cX3_joined 148 = .ok (.ireturn, 1) := by decide +kernel
theorem dX3_joined_149 : decode cX3_joined 149 = .ok (.iload_n 1, 1) := by decide +kernel
theorem dX3_joined_150 : decode cX3_joined 150 = .ok (.iload_n 2, 1) := by decide +kernel
theorem dX3_joined_151 : decode cX3_joined 151 = .ok (.isub, 1) := by decide +kernel
theorem dX3_joined_152 : decode cX3_joined 152 = .ok (.ireturn, 1) := by decide +kernel
theorem dX3_joined_153 : decode cX3_joined 153 = .ok (.iload_n 1, 1) := by decide +kernel
theorem dX3_joined_154 : decode cX3_joined 154 = .ok (.iload_n 2, 1) := by decide +kernel
theorem dX3_joined_155 : decode cX3_joined 155 = .ok (.imul, 1) := by decide +kernel
theorem dX3_joined_156 : decode cX3_joined 156 = .ok (.ireturn, 1) := by decide +kernel
theorem dX3_joined_157 : decode cX3_joined 157 = .ok (.iload_n 2, 1) := by decide +kernel
theorem dX3_joined_158 : decode cX3_joined 158 = .ok (.ifCond .ne 7, 3) := by decide +kernel
theorem dX3_joined_161 : decode cX3_joined 161 = .ok (.iconst 0, 1) := by decide +kernel
theorem dX3_joined_162 : decode cX3_joined 162 = .ok (.goto 6, 3) := by decide +kernel
theorem dX3_joined_165 : decode cX3_joined 165 = .ok (.iload_n 1, 1) := by decide +kernel
theorem dX3_joined_166 : decode cX3_joined 166 = .ok (.iload_n 2, 1) := by decide +kernel
theorem dX3_joined_167 : decode cX3_joined 167 = .ok (.idiv, 1) := by decide +kernel
theorem dX3_joined_168 : decode cX3_joined 168 = .ok (.ireturn, 1) := by decide +kernel
theorem dX3_joined_169 : decode cX3_joined 169 = .ok (.iload_n 2, 1) := by decide +kernel
theorem dX3_joined_170 : decode cX3_joined 170 = .ok (.ifCond .ne 7, 3) := by decide +kernel
theorem dX3_joined_173 : decode cX3_joined 173 = .ok (.iconst 0, 1) := by decide +kernel
theorem dX3_joined_174 : decode cX3_joined 174 = .ok (.goto 6, 3) := by decide +kernel
theorem dX3_joined_177 : decode cX3_joined 177 = .ok (.iload_n 1, 1) := by decide +kernel
theorem dX3_joined_178 : decode cX3_joined 178 = .ok (.iload_n 2, 1) := by decide +kernel
theorem dX3_joined_179 : decode cX3_joined 179 = .ok (.irem, 1) := by decide +kernel
theorem dX3_joined_180 : decode cX3_joined 180 = .ok (.ireturn, 1) := by decide +kernel
theorem dX4_init_0 : decode cX4_init 0 = .ok (.aload_n 0, 1) := by decide +kernel
theorem dX4_init_1 : decode cX4_init 1 = .ok (.invokespecial 3, 3) := by decide +kernel
theorem dX4_init_4 : decode cX4_init 4 = .ok (.aload_n 0, 1) := by decide +kernel
theorem dX4_init_5 : decode cX4_init 5 = .ok (.iconst 0, 1) := by decide +kernel
theorem dX4_init_6 : decode cX4_init 6 = .ok (.putfield 9, 3) := by decide +kernel
theorem dX4_init_9 : decode cX4_init 9 = .ok (.aload_n 0, 1) := by decide +kernel
theorem dX4_init_10 : decode cX4_init 10 = .ok (.bipush 70, 2) := by decide +kernel
theorem dX4_init_12 : decode cX4_init 12 = .ok (.newarray .int, 2) := by decide +kernel
theorem dX4_init_14 : decode cX4_init 14 = .ok (.putfield 15, 3) := by decide +kernel
theorem dX4_init_17 : decode cX4_init 17 = .ok (.aload_n 0, 1) := by decide +kernel
theorem dX4_init_18 : decode cX4_init 18 = .ok (.bipush 70, 2) := by decide +kernel
theorem dX4_init_20 : decode cX4_init 20 = .ok (.newarray .int, 2) := by decide +kernel
theorem dX4_init_22 : decode cX4_init 22 = .ok (.putfield 19, 3) := by decide +kernel
theorem dX4_init_25 : decode cX4_init 25 = .ok (.aload_n 0, 1) := by decide +kernel
theorem dX4_init_26 : decode cX4_init 26 = .ok (.bipush 7, 2) := by decide +kernel
theorem dX4_init_28 : decode cX4_init 28 = .ok (.newarray .int, 2) := by decide +kernel
theorem dX4_init_30 : decode cX4_init 30 = .ok (.putfield 22, 3) := by decide +kernel
theorem dX4_init_33 : decode cX4_init 33 = .ok (.aload_n 0, 1) := by decide +kernel
theorem dX4_init_34 : decode cX4_init 34 = .ok (.iconst 3, 1) := by decide +kernel
theorem dX4_init_35 : decode cX4_init 35 = .ok (.putfield 25, 3) := by decide +kernel
theorem dX4_init_38 : decode cX4_init 38 = .ok (.aload_n 0, 1) := by decide +kernel
theorem dX4_init_39 : decode cX4_init 39 = .ok (.iconst 0, 1) := by decide +kernel
theorem dX4_init_40 : decode cX4_init 40 = .ok (.putfield 28, 3) := by decide +kernel
theorem dX4_init_43 : decode cX4_init 43 = .ok (.aload_n 0, 1) := by decide +kernel
theorem dX4_init_44 : decode cX4_init 44 = .ok (.new 31, 3) := by decide +kernel
theorem dX4_init_47 : decode cX4_init 47 = .ok (.dup, 1) := by decide +kernel
theorem dX4_init_48 : decode cX4_init 48 = .ok (.invokespecial 33, 3) := by decide +kernel
theorem dX4_init_51 : decode cX4_init 51 = .ok (.putfield 34, 3) := by decide +kernel
theorem dX4_init_54 : decode cX4_init 54 = .ok (.aload_n 0, 1) := by decide +kernel
theorem dX4_init_55 : decode cX4_init 55 = .ok (.getfield 19, 3) := by decide +kernel
theorem dX4_init_58 : decode cX4_init 58 = .ok (.iconst 5, 1) := by decide +kernel
theorem dX4_init_59 : decode cX4_init 59 = .ok (.invokestatic 38, 3) := by decide +kernel
theorem dX4_init_62 : decode cX4_init 62 = .ok (.return_, 1) := by decide +kernel
theorem dX4_isOne_0 : decode cX4_isOne 0 = .ok (.iload_n 1, 1) := by decide +kernel
theorem dX4_isOne_1 : decode cX4_isOne 1 = .ok (.ifCond .lt 15, 3) := by decide +kernel
theorem dX4_isOne_4 : decode cX4_isOne 4 = .ok (.iload_n 1, 1) := by decide +kernel
theorem dX4_isOne_5 : decode cX4_isOne 5 = .ok (.aload_n 0, 1) := by decide +kernel
theorem dX4_isOne_6 : decode cX4_isOne 6 = .ok (.getfield 9, 3) := by decide +kernel
theorem dX4_isOne_9 : decode cX4_isOne 9 = .ok (.if_icmp .ge 7, 3) := by decide +kernel
theorem dX4_isOne_12 : decode cX4_isOne 12 = .ok (.iconst 1, 1) := by decide +kernel
theorem dX4_isOne_13 : decode cX4_isOne 13 = .ok (.goto 4, 3) := by decide +kernel
theorem dX4_isOne_16 : decode cX4_isOne 16 = .ok (.iconst 0, 1) := by decide +kernel
theorem dX4_isOne_17 : decode cX4_isOne 17 = .ok (.ireturn, 1) := by decide +kernel
theorem dX4_isPair_0 : decode cX4_isPair 0 = .ok (.iload_n 1, 1) := by decide +kernel
theorem dX4_isPair_1 : decode cX4_isPair 1 = .ok (.ifCond .lt 35, 3) := by decide +kernel
theorem dX4_isPair_4 : decode cX4_isPair 4 = .ok (.iload_n 1, 1) := by decide +kernel
theorem dX4_isPair_5 : decode cX4_isPair 5 = .ok (.bipush 70, 2) := by decide +kernel
theorem dX4_isPair_7 : decode cX4_isPair 7 = .ok (.if_icmp .ge 29, 3) := by decide +kernel
theorem dX4_isPair_10 : decode cX4_isPair 10 = .ok (.aload_n 0, 1) := by decide +kernel
theorem dX4_isPair_11 : decode cX4_isPair 11 = .ok (.iload_n 1, 1) := by decide +kernel
theorem dX4_isPair_12 : decode cX4_isPair 12 = .ok (.bipush 10, 2) := by decide +kernel
theorem dX4_isPair_14 : decode cX4_isPair 14 = .ok (.idiv, 1) := by decide +kernel
theorem dX4_isPair_15 : decode cX4_isPair 15 = .ok (.invokevirtual 44, 3) := by decide +kernel
theorem dX4_isPair_18 : decode cX4_isPair 18 = .ok (.ifCond .eq 18, 3) := by decide +kernel
theorem dX4_isPair_21 : decode cX4_isPair 21 = .ok (.aload_n 0, 1) := by decide +kernel
theorem dX4_isPair_22 : decode cX4_isPair 22 = .ok (.iload_n 1, 1) := by decide +kernel
theorem dX4_isPair_23 : decode cX4_isPair 23 = .ok (.bipush 10, 2) := by decide +kernel
theorem dX4_isPair_25 : decode cX4_isPair 25 = .ok (.irem, 1) := by decide +kernel
theorem dX4_isPair_26 : decode cX4_isPair 26 = .ok (.invokevirtual 44, 3) := by decide +kernel
theorem dX4_isPair_29 : decode cX4_isPair 29 = .ok (.ifCond .eq 7, 3) := by decide +kernel
theorem dX4_isPair_32 : decode cX4_isPair 32 = .ok (.iconst 1, 1) := by decide +kernel
theorem dX4_isPair_33 : decode cX4_isPair 33 = .ok (.goto 4, 3) := by decide +kernel
theorem dX4_isPair_36 : decode cX4_isPair 36 = .ok (.iconst 0, 1) := by decide +kernel
theorem dX4_isPair_37 : decode cX4_isPair 37 = .ok (.ireturn, 1) := by decide +kernel
theorem dX4_worthFor_0 : decode cX4_worthFor 0 = .ok (.iload_n 1, 1) := by decide +kernel
theorem dX4_worthFor_1 : decode cX4_worthFor 1 = .ok (.ifCond .lt 27, 3) := by decide +kernel
theorem dX4_worthFor_4 : decode cX4_worthFor 4 = .ok (.iload_n 1, 1) := by decide +kernel
theorem dX4_worthFor_5 : decode cX4_worthFor 5 = .ok (.aload_n 0, 1) := by decide +kernel
theorem dX4_worthFor_6 : decode cX4_worthFor 6 = .ok (.getfield 9, 3) := by decide +kernel
theorem dX4_worthFor_9 : decode cX4_worthFor 9 = .ok (.if_icmp .ge 19, 3) := by decide +kernel
theorem dX4_worthFor_12 : decode cX4_worthFor 12 = .ok (.iload_n 2, 1) := by decide +kernel
theorem dX4_worthFor_13 : decode cX4_worthFor 13 = .ok (.ifCond .lt 15, 3) := by decide +kernel
theorem dX4_worthFor_16 : decode cX4_worthFor 16 = .ok (.iload_n 2, 1) := by decide +kernel
theorem dX4_worthFor_17 : decode cX4_worthFor 17 = .ok (.aload_n 0, 1) := by decide +kernel
theorem dX4_worthFor_18 : decode cX4_worthFor 18 = .ok (.getfield 9, 3) := by decide +kernel
theorem dX4_worthFor_21 : decode cX4_worthFor 21 = .ok (.if_icmp .ge 7, 3) := by decide +kernel
theorem dX4_worthFor_24 : decode cX4_worthFor 24 = .ok (.iconst 1, 1) := by decide +kernel
theorem dX4_worthFor_25 : decode cX4_worthFor 25 = .ok (.goto 4, 3) := by decide +kernel
theorem dX4_worthFor_28 : decode cX4_worthFor 28 = .ok (.iconst 0, 1) := by decide +kernel
theorem dX4_worthFor_29 : decode cX4_worthFor 29 = .ok (.istore_n 3, 1) := by decide +kernel
theorem dX4_worthFor_30 : decode cX4_worthFor 30 = .ok (.iload_n 3, 1) := by decide +kernel
theorem dX4_worthFor_31 : decode cX4_worthFor 31 = .ok (.ifCond .eq 17, 3) := by decide +kernel
theorem dX4_worthFor_34 : decode cX4_worthFor 34 = .ok (.aload_n 0, 1) := by decide +kernel
theorem dX4_worthFor_35 : decode cX4_worthFor 35 = .ok (.getfield 15, 3) := by decide +kernel
theorem dX4_worthFor_38 : decode cX4_worthFor 38 = .ok (.bipush 10, 2) := by decide +kernel
theorem dX4_worthFor_40 : decode cX4_worthFor 40 = .ok (.iload_n 1, 1) := by decide +kernel
theorem dX4_worthFor_41 : decode cX4_worthFor 41 = .ok (.imul, 1) := by decide +kernel
theorem dX4_worthFor_42 : decode cX4_worthFor 42 = .ok (.iload_n 2, 1) := by decide +kernel
theorem dX4_worthFor_43 : decode cX4_worthFor 43 = .ok (.iadd, 1) := by decide +kernel
theorem dX4_worthFor_44 : decode cX4_worthFor 44 = .ok (.iaload, 1) := by decide +kernel
theorem dX4_worthFor_45 : decode cX4_worthFor 45 = .ok (.goto 4, 3) := by decide +kernel
theorem dX4_worthFor_48 : decode cX4_worthFor 48 = .ok (.iconst 0, 1) := by decide +kernel
theorem dX4_worthFor_49 : decode cX4_worthFor 49 = .ok (.ireturn, 1) := by decide +kernel
theorem dX4_likeFor_0 : decode cX4_likeFor 0 = .ok (.iload_n 1, 1) := by decide +kernel
theorem dX4_likeFor_1 : decode cX4_likeFor 1 = .ok (.ifCond .lt 27, 3) := by decide +kernel
theorem dX4_likeFor_4 : decode cX4_likeFor 4 = .ok (.iload_n 1, 1) := by decide +kernel
theorem dX4_likeFor_5 : decode cX4_likeFor 5 = .ok (.aload_n 0, 1) := by decide +kernel
theorem dX4_likeFor_6 : decode cX4_likeFor 6 = .ok (.getfield 9, 3) := by decide +kernel
theorem dX4_likeFor_9 : decode cX4_likeFor 9 = .ok (.if_icmp .ge 19, 3) := by decide +kernel
theorem dX4_likeFor_12 : decode cX4_likeFor 12 = .ok (.iload_n 2, 1) := by decide +kernel
theorem dX4_likeFor_13 : decode cX4_likeFor 13 = .ok (.ifCond .lt 15, 3) := by decide +kernel
theorem dX4_likeFor_16 : decode cX4_likeFor 16 = .ok (.iload_n 2, 1) := by decide +kernel
theorem dX4_likeFor_17 : decode cX4_likeFor 17 = .ok (.aload_n 0, 1) := by decide +kernel
theorem dX4_likeFor_18 : decode cX4_likeFor 18 = .ok (.getfield 9, 3) := by decide +kernel
theorem dX4_likeFor_21 : decode cX4_likeFor 21 = .ok (.if_icmp .ge 7, 3) := by decide +kernel
theorem dX4_likeFor_24 : decode cX4_likeFor 24 = .ok (.iconst 1, 1) := by decide +kernel
theorem dX4_likeFor_25 : decode cX4_likeFor 25 = .ok (.goto 4, 3) := by decide +kernel
theorem dX4_likeFor_28 : decode cX4_likeFor 28 = .ok (.iconst 0, 1) := by decide +kernel
theorem dX4_likeFor_29 : decode cX4_likeFor 29 = .ok (.istore_n 3, 1) := by decide +kernel
theorem dX4_likeFor_30 : decode cX4_likeFor 30 = .ok (.iload_n 3, 1) := by decide +kernel
theorem dX4_likeFor_31 : decode cX4_likeFor 31 = .ok (.ifCond .eq 17, 3) := by decide +kernel
theorem dX4_likeFor_34 : decode cX4_likeFor 34 = .ok (.aload_n 0, 1) := by decide +kernel
theorem dX4_likeFor_35 : decode cX4_likeFor 35 = .ok (.getfield 19, 3) := by decide +kernel
theorem dX4_likeFor_38 : decode cX4_likeFor 38 = .ok (.bipush 10, 2) := by decide +kernel
theorem dX4_likeFor_40 : decode cX4_likeFor 40 = .ok (.iload_n 1, 1) := by decide +kernel
theorem dX4_likeFor_41 : decode cX4_likeFor 41 = .ok (.imul, 1) := by decide +kernel
theorem dX4_likeFor_42 : decode cX4_likeFor 42 = .ok (.iload_n 2, 1) := by decide +kernel
theorem dX4_likeFor_43 : decode cX4_likeFor 43 = .ok (.iadd, 1) := by decide +kernel
theorem dX4_likeFor_44 : decode cX4_likeFor 44 = .ok (.iaload, 1) := by decide +kernel
theorem dX4_likeFor_45 : decode cX4_likeFor 45 = .ok (.goto 4, 3) := by decide +kernel
theorem dX4_likeFor_48 : decode cX4_likeFor 48 = .ok (.iconst 0, 1) := by decide +kernel
theorem dX4_likeFor_49 : decode cX4_likeFor 49 = .ok (.ireturn, 1) := by decide +kernel
theorem dX4_knows_0 : decode cX4_knows 0 = .ok (.iload_n 2, 1) := by decide +kernel
theorem dX4_knows_1 : decode cX4_knows 1 = .ok (.tableswitch 82 0 4 #[35, 41, 66, 72, 72], 35) := by decide +kernel
theorem dX4_knows_36 : decode cX4_knows 36 = .ok (.aload_n 0, 1) := by decide +kernel
theorem dX4_knows_37 : decode cX4_knows 37 = .ok (.iload_n 1, 1) := by decide +kernel
theorem dX4_knows_38 : decode cX4_knows 38 = .ok (.invokevirtual 48, 3) := by decide +kernel
theorem dX4_knows_41 : decode cX4_knows 41 = .ok (.ireturn, 1) := by decide +kernel
theorem dX4_knows_42 : decode cX4_knows 42 = .ok (.aload_n 0, 1) := by decide +kernel
theorem dX4_knows_43 : decode cX4_knows 43 = .ok (.iload_n 1, 1) := by decide +kernel
theorem dX4_knows_44 : decode cX4_knows 44 = .ok (.invokevirtual 48, 3) := by decide +kernel
theorem dX4_knows_47 : decode cX4_knows 47 = .ok (.ifCond .eq 18, 3) := by decide +kernel
theorem dX4_knows_50 : decode cX4_knows 50 = .ok (.iload_n 1, 1) := by decide +kernel
theorem dX4_knows_51 : decode cX4_knows 51 = .ok (.bipush 10, 2) := by decide +kernel
theorem dX4_knows_53 : decode cX4_knows 53 = .ok (.idiv, 1) := by decide +kernel
theorem dX4_knows_54 : decode cX4_knows 54 = .ok (.iload_n 1, 1) := by decide +kernel
theorem dX4_knows_55 : decode cX4_knows 55 = .ok (.bipush 10, 2) := by decide +kernel
theorem dX4_knows_57 : decode cX4_knows 57 = .ok (.irem, 1) := by decide +kernel
theorem dX4_knows_58 : decode cX4_knows 58 = .ok (.if_icmp .eq 7, 3) := by decide +kernel
theorem dX4_knows_61 : decode cX4_knows 61 = .ok (.iconst 1, 1) := by decide +kernel
theorem dX4_knows_62 : decode cX4_knows 62 = .ok (.goto 4, 3) := by decide +kernel
theorem dX4_knows_65 : decode cX4_knows 65 = .ok (.iconst 0, 1) := by decide +kernel
theorem dX4_knows_66 : decode cX4_knows 66 = .ok (.ireturn, 1) := by decide +kernel
theorem dX4_knows_67 : decode cX4_knows 67 = .ok (.aload_n 0, 1) := by decide +kernel
theorem dX4_knows_68 : decode cX4_knows 68 = .ok (.iload_n 1, 1) := by decide +kernel
theorem dX4_knows_69 : decode cX4_knows 69 = .ok (.invokevirtual 44, 3) := by decide +kernel
theorem dX4_knows_72 : decode cX4_knows 72 = .ok (.ireturn, 1) := by decide +kernel
theorem dX4_knows_73 : decode cX4_knows 73 = .ok (.iload_n 1, 1) := by decide +kernel
theorem dX4_knows_74 : decode cX4_knows 74 = .ok (.ifCond .ne 7, 3) := by decide +kernel
theorem dX4_knows_77 : decode cX4_knows 77 = .ok (.iconst 1, 1) := by decide +kernel
theorem dX4_knows_78 : decode cX4_knows 78 = .ok (.goto 4, 3) := by decide +kernel
theorem dX4_knows_81 : decode cX4_knows 81 = .ok (.iconst 0, 1) := by decide +kernel
theorem dX4_knows_82 : decode cX4_knows 82 = .ok (.ireturn, 1) := by decide +kernel
theorem dX4_knows_83 : decode cX4_knows 83 = .ok (.iconst 0, 1) := by decide +kernel
theorem dX4_knows_84 : decode cX4_knows 84 = .ok (.ireturn, 1) := by decide +kernel
theorem dX4_allows_0 : decode cX4_allows 0 = .ok (.iload_n 0, 1) := by decide +kernel
theorem dX4_allows_1 : decode cX4_allows 1 = .ok (.tableswitch 113 0 4 #[35, 51, 67, 82, 98], 35) := by decide +kernel
theorem dX4_allows_36 : decode cX4_allows 36 = .ok (.iload_n 1, 1) := by decide +kernel
theorem dX4_allows_37 : decode cX4_allows 37 = .ok (.ifCond .lt 13, 3) := by decide +kernel
theorem dX4_allows_40 : decode cX4_allows 40 = .ok (.iload_n 1, 1) := by decide +kernel
theorem dX4_allows_41 : decode cX4_allows 41 = .ok (.bipush 99, 2) := by decide +kernel
theorem dX4_allows_43 : decode cX4_allows 43 = .ok (.if_icmp .gt 7, 3) := by decide +kernel
theorem dX4_allows_46 : decode cX4_allows 46 = .ok (.iconst 1, 1) := by decide +kernel
theorem dX4_allows_47 : decode cX4_allows 47 = .ok (.goto 4, 3) := by decide +kernel
theorem dX4_allows_50 : decode cX4_allows 50 = .ok (.iconst 0, 1) := by decide +kernel
theorem dX4_allows_51 : decode cX4_allows 51 = .ok (.ireturn, 1) := by decide +kernel
theorem dX4_allows_52 : decode cX4_allows 52 = .ok (.iload_n 1, 1) := by decide +kernel
theorem dX4_allows_53 : decode cX4_allows 53 = .ok (.ifCond .lt 13, 3) := by decide +kernel
theorem dX4_allows_56 : decode cX4_allows 56 = .ok (.iload_n 1, 1) := by decide +kernel
theorem dX4_allows_57 : decode cX4_allows 57 = .ok (.bipush 9, 2) := by decide +kernel
theorem dX4_allows_59 : decode cX4_allows 59 = .ok (.if_icmp .gt 7, 3) := by decide +kernel
theorem dX4_allows_62 : decode cX4_allows 62 = .ok (.iconst 1, 1) := by decide +kernel
theorem dX4_allows_63 : decode cX4_allows 63 = .ok (.goto 4, 3) := by decide +kernel
theorem dX4_allows_66 : decode cX4_allows 66 = .ok (.iconst 0, 1) := by decide +kernel
theorem dX4_allows_67 : decode cX4_allows 67 = .ok (.ireturn, 1) := by decide +kernel
theorem dX4_allows_68 : decode cX4_allows 68 = .ok (.iload_n 1, 1) := by decide +kernel
theorem dX4_allows_69 : decode cX4_allows 69 = .ok (.ifCond .lt 12, 3) := by decide +kernel
theorem dX4_allows_72 : decode cX4_allows 72 = .ok (.iload_n 1, 1) := by decide +kernel
theorem dX4_allows_73 : decode cX4_allows 73 = .ok (.iconst 2, 1) := by decide +kernel
theorem dX4_allows_74 : decode cX4_allows 74 = .ok (.if_icmp .gt 7, 3) := by decide +kernel
theorem dX4_allows_77 : decode cX4_allows 77 = .ok (.iconst 1, 1) := by decide +kernel
theorem dX4_allows_78 : decode cX4_allows 78 = .ok (.goto 4, 3) := by decide +kernel
theorem dX4_allows_81 : decode cX4_allows 81 = .ok (.iconst 0, 1) := by decide +kernel
theorem dX4_allows_82 : decode cX4_allows 82 = .ok (.ireturn, 1) := by decide +kernel
theorem dX4_allows_83 : decode cX4_allows 83 = .ok (.iload_n 1, 1) := by decide +kernel
theorem dX4_allows_84 : decode cX4_allows 84 = .ok (.iconst 1, 1) := by decide +kernel
theorem dX4_allows_85 : decode cX4_allows 85 = .ok (.if_icmp .lt 12, 3) := by decide +kernel
theorem dX4_allows_88 : decode cX4_allows 88 = .ok (.iload_n 1, 1) := by decide +kernel
theorem dX4_allows_89 : decode cX4_allows 89 = .ok (.iconst 3, 1) := by decide +kernel
theorem dX4_allows_90 : decode cX4_allows 90 = .ok (.if_icmp .gt 7, 3) := by decide +kernel
theorem dX4_allows_93 : decode cX4_allows 93 = .ok (.iconst 1, 1) := by decide +kernel
theorem dX4_allows_94 : decode cX4_allows 94 = .ok (.goto 4, 3) := by decide +kernel
theorem dX4_allows_97 : decode cX4_allows 97 = .ok (.iconst 0, 1) := by decide +kernel
theorem dX4_allows_98 : decode cX4_allows 98 = .ok (.ireturn, 1) := by decide +kernel
theorem dX4_allows_99 : decode cX4_allows 99 = .ok (.iload_n 1, 1) := by decide +kernel
theorem dX4_allows_100 : decode cX4_allows 100 = .ok (.ifCond .eq 8, 3) := by decide +kernel
theorem dX4_allows_103 : decode cX4_allows 103 = .ok (.iload_n 1, 1) := by decide +kernel
theorem dX4_allows_104 : decode cX4_allows 104 = .ok (.iconst 1, 1) := by decide +kernel
theorem dX4_allows_105 : decode cX4_allows 105 = .ok (.if_icmp .ne 7, 3) := by decide +kernel
theorem dX4_allows_108 : decode cX4_allows 108 = .ok (.iconst 1, 1) := by decide +kernel
theorem dX4_allows_109 : decode cX4_allows 109 = .ok (.goto 4, 3) := by decide +kernel
theorem dX4_allows_112 : decode cX4_allows 112 = .ok (.iconst 0, 1) := by decide +kernel
theorem dX4_allows_113 : decode cX4_allows 113 = .ok (.ireturn, 1) := by decide +kernel
theorem dX4_allows_114 : decode cX4_allows 114 = .ok (.iconst 0, 1) := by decide +kernel
theorem dX4_allows_115 : decode cX4_allows 115 = .ok (.ireturn, 1) := by decide +kernel
theorem dX4_value_0 : decode cX4_value 0 = .ok (.aload_n 0, 1) := by decide +kernel
theorem dX4_value_1 : decode cX4_value 1 = .ok (.iload_n 1, 1) := by decide +kernel
theorem dX4_value_2 : decode cX4_value 2 = .ok (.iload_n 2, 1) := by decide +kernel
theorem dX4_value_3 : decode cX4_value 3 = .ok (.invokevirtual 51, 3) := by decide +kernel
theorem dX4_value_6 : decode cX4_value 6 = .ok (.ifCond .ne 5, 3) := by decide +kernel
theorem dX4_value_9 : decode cX4_value 9 = .ok (.iconst (-1), 1) := by decide +kernel
theorem dX4_value_10 : decode cX4_value 10 = .ok (.ireturn, 1) := by decide +kernel
theorem dX4_value_11 : decode cX4_value 11 = .ok (.iload_n 2, 1) := by decide +kernel
theorem dX4_value_12 : decode cX4_value 12 = .ok (.tableswitch 58 0 3 #[32, 39, 46, 53], 32) := by decide +kernel
theorem dX4_value_44 : decode cX4_value 44 = .ok (.aload_n 0, 1) := by decide +kernel
theorem dX4_value_45 : decode cX4_value 45 = .ok (.getfield 15, 3) := by decide +kernel
theorem dX4_value_48 : decode cX4_value 48 = .ok (.iload_n 1, 1) := by decide +kernel
theorem dX4_value_49 : decode cX4_value 49 = .ok (.iaload, 1) := by decide +kernel
theorem dX4_value_50 : decode cX4_value 50 = .ok (.ireturn, 1) := by decide +kernel
theorem dX4_value_51 : decode cX4_value 51 = .ok (.aload_n 0, 1) := by decide +kernel
theorem dX4_value_52 : decode cX4_value 52 = .ok (.getfield 19, 3) := by decide +kernel
theorem dX4_value_55 : decode cX4_value 55 = .ok (.iload_n 1, 1) := by decide +kernel
theorem dX4_value_56 : decode cX4_value 56 = .ok (.iaload, 1) := by decide +kernel
theorem dX4_value_57 : decode cX4_value 57 = .ok (.ireturn, 1) := by decide +kernel
theorem dX4_value_58 : decode cX4_value 58 = .ok (.aload_n 0, 1) := by decide +kernel
theorem dX4_value_59 : decode cX4_value 59 = .ok (.getfield 22, 3) := by decide +kernel
theorem dX4_value_62 : decode cX4_value 62 = .ok (.iload_n 1, 1) := by decide +kernel
theorem dX4_value_63 : decode cX4_value 63 = .ok (.iaload, 1) := by decide +kernel
theorem dX4_value_64 : decode cX4_value 64 = .ok (.ireturn, 1) := by decide +kernel
theorem dX4_value_65 : decode cX4_value 65 = .ok (.aload_n 0, 1) := by decide +kernel
theorem dX4_value_66 : decode cX4_value 66 = .ok (.getfield 25, 3) := by decide +kernel
theorem dX4_value_69 : decode cX4_value 69 = .ok (.ireturn, 1) := by decide +kernel
theorem dX4_value_70 : decode cX4_value 70 = .ok (.aload_n 0, 1) := by decide +kernel
theorem dX4_value_71 : decode cX4_value 71 = .ok (.getfield 28, 3) := by decide +kernel
theorem dX4_value_74 : decode cX4_value 74 = .ok (.ireturn, 1) := by decide +kernel
theorem dX4_become_0 : decode cX4_become 0 = .ok (.aload_n 0, 1) := by decide +kernel
theorem dX4_become_1 : decode cX4_become 1 = .ok (.iload_n 1, 1) := by decide +kernel
theorem dX4_become_2 : decode cX4_become 2 = .ok (.iload_n 2, 1) := by decide +kernel
theorem dX4_become_3 : decode cX4_become 3 = .ok (.invokevirtual 51, 3) := by decide +kernel
theorem dX4_become_6 : decode cX4_become 6 = .ok (.ifCond .ne 4, 3) := by decide +kernel
theorem dX4_become_9 : decode cX4_become 9 = .ok (.return_, 1) := by decide +kernel
theorem dX4_become_10 : decode cX4_become 10 = .ok (.iload_n 2, 1) := by decide +kernel
theorem dX4_become_11 : decode cX4_become 11 = .ok (.tableswitch 67 0 3 #[29, 39, 49, 59], 29) := by decide +kernel
theorem dX4_become_40 : decode cX4_become 40 = .ok (.aload_n 0, 1) := by decide +kernel
theorem dX4_become_41 : decode cX4_become 41 = .ok (.getfield 15, 3) := by decide +kernel
theorem dX4_become_44 : decode cX4_become 44 = .ok (.iload_n 1, 1) := by decide +kernel
theorem dX4_become_45 : decode cX4_become 45 = .ok (.iload_n 3, 1) := by decide +kernel
theorem dX4_become_46 : decode cX4_become 46 = .ok (.iastore, 1) := by decide +kernel
theorem dX4_become_47 : decode cX4_become 47 = .ok (.goto 36, 3) := by decide +kernel
theorem dX4_become_50 : decode cX4_become 50 = .ok (.aload_n 0, 1) := by decide +kernel
theorem dX4_become_51 : decode cX4_become 51 = .ok (.getfield 19, 3) := by decide +kernel
theorem dX4_become_54 : decode cX4_become 54 = .ok (.iload_n 1, 1) := by decide +kernel
theorem dX4_become_55 : decode cX4_become 55 = .ok (.iload_n 3, 1) := by decide +kernel
theorem dX4_become_56 : decode cX4_become 56 = .ok (.iastore, 1) := by decide +kernel
theorem dX4_become_57 : decode cX4_become 57 = .ok (.goto 26, 3) := by decide +kernel
theorem dX4_become_60 : decode cX4_become 60 = .ok (.aload_n 0, 1) := by decide +kernel
theorem dX4_become_61 : decode cX4_become 61 = .ok (.getfield 22, 3) := by decide +kernel
theorem dX4_become_64 : decode cX4_become 64 = .ok (.iload_n 1, 1) := by decide +kernel
theorem dX4_become_65 : decode cX4_become 65 = .ok (.iload_n 3, 1) := by decide +kernel
theorem dX4_become_66 : decode cX4_become 66 = .ok (.iastore, 1) := by decide +kernel
theorem dX4_become_67 : decode cX4_become 67 = .ok (.goto 16, 3) := by decide +kernel
theorem dX4_become_70 : decode cX4_become 70 = .ok (.aload_n 0, 1) := by decide +kernel
theorem dX4_become_71 : decode cX4_become 71 = .ok (.iload_n 3, 1) := by decide +kernel
theorem dX4_become_72 : decode cX4_become 72 = .ok (.putfield 25, 3) := by decide +kernel
theorem dX4_become_75 : decode cX4_become 75 = .ok (.goto 8, 3) := by decide +kernel
theorem dX4_become_78 : decode cX4_become 78 = .ok (.aload_n 0, 1) := by decide +kernel
theorem dX4_become_79 : decode cX4_become 79 = .ok (.iload_n 3, 1) := by decide +kernel
theorem dX4_become_80 : decode cX4_become 80 = .ok (.putfield 28, 3) := by decide +kernel
theorem dX4_become_83 : decode cX4_become 83 = .ok (.return_, 1) := by decide +kernel
theorem dX5_init_0 : decode cX5_init 0 = .ok (.aload_n 0, 1) := by decide +kernel
theorem dX5_init_1 : decode cX5_init 1 = .ok (.invokespecial 3, 3) := by decide +kernel
theorem dX5_init_4 : decode cX5_init 4 = .ok (.aload_n 0, 1) := by decide +kernel
theorem dX5_init_5 : decode cX5_init 5 = .ok (.bipush 6, 2) := by decide +kernel
theorem dX5_init_7 : decode cX5_init 7 = .ok (.newarray .int, 2) := by decide +kernel
