theorem dX5_init_9 : decode cX5_init 9 = .ok (.putfield 11, 3) := by decide +kernel
theorem dX5_init_12 : decode cX5_init 12 = .ok (.aload_n 0, 1) := by decide +kernel
theorem dX5_init_13 : decode cX5_init 13 = .ok (.bipush 6, 2) := by decide +kernel
theorem dX5_init_15 : decode cX5_init 15 = .ok (.newarray .int, 2) := by decide +kernel
theorem dX5_init_17 : decode cX5_init 17 = .ok (.putfield 15, 3) := by decide +kernel
theorem dX5_init_20 : decode cX5_init 20 = .ok (.aload_n 0, 1) := by decide +kernel
theorem dX5_init_21 : decode cX5_init 21 = .ok (.bipush 6, 2) := by decide +kernel
theorem dX5_init_23 : decode cX5_init 23 = .ok (.bipush 60, 2) := by decide +kernel
theorem dX5_init_25 : decode cX5_init 25 = .ok (.multianewarray 18 2, 4) := by decide +kernel
theorem dX5_init_29 : decode cX5_init 29 = .ok (.putfield 20, 3) := by decide +kernel
theorem dX5_init_32 : decode cX5_init 32 = .ok (.aload_n 0, 1) := by decide +kernel
theorem dX5_init_33 : decode cX5_init 33 = .ok (.getfield 11, 3) := by decide +kernel
theorem dX5_init_36 : decode cX5_init 36 = .ok (.bipush (-2), 2) := by decide +kernel
theorem dX5_init_38 : decode cX5_init 38 = .ok (.invokestatic 23, 3) := by decide +kernel
theorem dX5_init_41 : decode cX5_init 41 = .ok (.return_, 1) := by decide +kernel
theorem dX5_isShelf_0 : decode cX5_isShelf 0 = .ok (.iload_n 1, 1) := by decide +kernel
theorem dX5_isShelf_1 : decode cX5_isShelf 1 = .ok (.ifCond .lt 13, 3) := by decide +kernel
theorem dX5_isShelf_4 : decode cX5_isShelf 4 = .ok (.iload_n 1, 1) := by decide +kernel
theorem dX5_isShelf_5 : decode cX5_isShelf 5 = .ok (.bipush 6, 2) := by decide +kernel
theorem dX5_isShelf_7 : decode cX5_isShelf 7 = .ok (.if_icmp .ge 7, 3) := by decide +kernel
theorem dX5_isShelf_10 : decode cX5_isShelf 10 = .ok (.iconst 1, 1) := by decide +kernel
theorem dX5_isShelf_11 : decode cX5_isShelf 11 = .ok (.goto 4, 3) := by decide +kernel
theorem dX5_isShelf_14 : decode cX5_isShelf 14 = .ok (.iconst 0, 1) := by decide +kernel
theorem dX5_isShelf_15 : decode cX5_isShelf 15 = .ok (.ireturn, 1) := by decide +kernel
theorem dX5_isEmpty_0 : decode cX5_isEmpty 0 = .ok (.aload_n 0, 1) := by decide +kernel
theorem dX5_isEmpty_1 : decode cX5_isEmpty 1 = .ok (.getfield 11, 3) := by decide +kernel
theorem dX5_isEmpty_4 : decode cX5_isEmpty 4 = .ok (.iload_n 1, 1) := by decide +kernel
theorem dX5_isEmpty_5 : decode cX5_isEmpty 5 = .ok (.iaload, 1) := by decide +kernel
theorem dX5_isEmpty_6 : decode cX5_isEmpty 6 = .ok (.bipush (-2), 2) := by decide +kernel
theorem dX5_isEmpty_8 : decode cX5_isEmpty 8 = .ok (.if_icmp .ne 7, 3) := by decide +kernel
theorem dX5_isEmpty_11 : decode cX5_isEmpty 11 = .ok (.iconst 1, 1) := by decide +kernel
theorem dX5_isEmpty_12 : decode cX5_isEmpty 12 = .ok (.goto 4, 3) := by decide +kernel
theorem dX5_isEmpty_15 : decode cX5_isEmpty 15 = .ok (.iconst 0, 1) := by decide +kernel
theorem dX5_isEmpty_16 : decode cX5_isEmpty 16 = .ok (.ireturn, 1) := by decide +kernel
theorem dX5_isRow_0 : decode cX5_isRow 0 = .ok (.aload_n 0, 1) := by decide +kernel
theorem dX5_isRow_1 : decode cX5_isRow 1 = .ok (.getfield 11, 3) := by decide +kernel
theorem dX5_isRow_4 : decode cX5_isRow 4 = .ok (.iload_n 1, 1) := by decide +kernel
theorem dX5_isRow_5 : decode cX5_isRow 5 = .ok (.iaload, 1) := by decide +kernel
theorem dX5_isRow_6 : decode cX5_isRow 6 = .ok (.ifCond .lt 7, 3) := by decide +kernel
theorem dX5_isRow_9 : decode cX5_isRow 9 = .ok (.iconst 1, 1) := by decide +kernel
theorem dX5_isRow_10 : decode cX5_isRow 10 = .ok (.goto 4, 3) := by decide +kernel
theorem dX5_isRow_13 : decode cX5_isRow 13 = .ok (.iconst 0, 1) := by decide +kernel
theorem dX5_isRow_14 : decode cX5_isRow 14 = .ok (.ireturn, 1) := by decide +kernel
theorem dX5_holdRow_0 : decode cX5_holdRow 0 = .ok (.aload_n 0, 1) := by decide +kernel
theorem dX5_holdRow_1 : decode cX5_holdRow 1 = .ok (.getfield 11, 3) := by decide +kernel
theorem dX5_holdRow_4 : decode cX5_holdRow 4 = .ok (.iload_n 1, 1) := by decide +kernel
theorem dX5_holdRow_5 : decode cX5_holdRow 5 = .ok (.iload_n 2, 1) := by decide +kernel
theorem dX5_holdRow_6 : decode cX5_holdRow 6 = .ok (.iastore, 1) := by decide +kernel
theorem dX5_holdRow_7 : decode cX5_holdRow 7 = .ok (.aload_n 0, 1) := by decide +kernel
theorem dX5_holdRow_8 : decode cX5_holdRow 8 = .ok (.getfield 15, 3) := by decide +kernel
theorem dX5_holdRow_11 : decode cX5_holdRow 11 = .ok (.iload_n 1, 1) := by decide +kernel
theorem dX5_holdRow_12 : decode cX5_holdRow 12 = .ok (.iload_n 3, 1) := by decide +kernel
theorem dX5_holdRow_13 : decode cX5_holdRow 13 = .ok (.iastore, 1) := by decide +kernel
theorem dX5_holdRow_14 : decode cX5_holdRow 14 = .ok (.aload_n 0, 1) := by decide +kernel
theorem dX5_holdRow_15 : decode cX5_holdRow 15 = .ok (.getfield 20, 3) := by decide +kernel
theorem dX5_holdRow_18 : decode cX5_holdRow 18 = .ok (.iload_n 1, 1) := by decide +kernel
theorem dX5_holdRow_19 : decode cX5_holdRow 19 = .ok (.aaload, 1) := by decide +kernel
theorem dX5_holdRow_20 : decode cX5_holdRow 20 = .ok (.lconst 0, 1) := by decide +kernel
theorem dX5_holdRow_21 : decode cX5_holdRow 21 = .ok (.invokestatic 29, 3) := by decide +kernel
theorem dX5_holdRow_24 : decode cX5_holdRow 24 = .ok (.return_, 1) := by decide +kernel
theorem dX5_refusalOfBytes_0 : decode cX5_refusalOfBytes 0 = .ok (.aload_n 0, 1) := by decide +kernel
theorem dX5_refusalOfBytes_1 : decode cX5_refusalOfBytes 1 = .ok (.iload_n 1, 1) := by decide +kernel
theorem dX5_refusalOfBytes_2 : decode cX5_refusalOfBytes 2 = .ok (.invokevirtual 32, 3) := by decide +kernel
theorem dX5_refusalOfBytes_5 : decode cX5_refusalOfBytes 5 = .ok (.ifCond .ne 5, 3) := by decide +kernel
theorem dX5_refusalOfBytes_8 : decode cX5_refusalOfBytes 8 = .ok (.iconst (-1), 1) := by decide +kernel
theorem dX5_refusalOfBytes_9 : decode cX5_refusalOfBytes 9 = .ok (.ireturn, 1) := by decide +kernel
theorem dX5_refusalOfBytes_10 : decode cX5_refusalOfBytes 10 = .ok (.aload_n 0, 1) := by decide +kernel
theorem dX5_refusalOfBytes_11 : decode cX5_refusalOfBytes 11 = .ok (.iload_n 1, 1) := by decide +kernel
theorem dX5_refusalOfBytes_12 : decode cX5_refusalOfBytes 12 = .ok (.invokevirtual 36, 3) := by decide +kernel
theorem dX5_refusalOfBytes_15 : decode cX5_refusalOfBytes 15 = .ok (.ifCond .eq 6, 3) := by decide +kernel
theorem dX5_refusalOfBytes_18 : decode cX5_refusalOfBytes 18 = .ok (.bipush (-11), 2) := by decide +kernel
theorem dX5_refusalOfBytes_20 : decode cX5_refusalOfBytes 20 = .ok (.ireturn, 1) := by decide +kernel
theorem dX5_refusalOfBytes_21 : decode cX5_refusalOfBytes 21 = .ok (.aload_n 0, 1) := by decide +kernel
theorem dX5_refusalOfBytes_22 : decode cX5_refusalOfBytes 22 = .ok (.getfield 11, 3) := by decide +kernel
theorem dX5_refusalOfBytes_25 : decode cX5_refusalOfBytes 25 = .ok (.iload_n 1, 1) := by decide +kernel
theorem dX5_refusalOfBytes_26 : decode cX5_refusalOfBytes 26 = .ok (.iaload, 1) := by decide +kernel
theorem dX5_refusalOfBytes_27 : decode cX5_refusalOfBytes 27 = .ok (.ifCond .ne 7, 3) := by decide +kernel
theorem dX5_refusalOfBytes_30 : decode cX5_refusalOfBytes 30 = .ok (.iconst 0, 1) := by decide +kernel
theorem dX5_refusalOfBytes_31 : decode cX5_refusalOfBytes 31 = .ok (.goto 5, 3) := by decide +kernel
theorem dX5_refusalOfBytes_34 : decode cX5_refusalOfBytes 34 = .ok (.bipush (-12), 2) := by decide +kernel
theorem dX5_refusalOfBytes_36 : decode cX5_refusalOfBytes 36 = .ok (.ireturn, 1) := by decide +kernel
theorem dX5_refusalOfElement_0 : decode cX5_refusalOfElement 0 = .ok (.aload_n 0, 1) := by decide +kernel
theorem dX5_refusalOfElement_1 : decode cX5_refusalOfElement 1 = .ok (.iload_n 1, 1) := by decide +kernel
theorem dX5_refusalOfElement_2 : decode cX5_refusalOfElement 2 = .ok (.invokevirtual 32, 3) := by decide +kernel
theorem dX5_refusalOfElement_5 : decode cX5_refusalOfElement 5 = .ok (.ifCond .ne 5, 3) := by decide +kernel
theorem dX5_refusalOfElement_8 : decode cX5_refusalOfElement 8 = .ok (.iconst (-1), 1) := by decide +kernel
theorem dX5_refusalOfElement_9 : decode cX5_refusalOfElement 9 = .ok (.ireturn, 1) := by decide +kernel
theorem dX5_refusalOfElement_10 : decode cX5_refusalOfElement 10 = .ok (.aload_n 0, 1) := by decide +kernel
theorem dX5_refusalOfElement_11 : decode cX5_refusalOfElement 11 = .ok (.iload_n 1, 1) := by decide +kernel
theorem dX5_refusalOfElement_12 : decode cX5_refusalOfElement 12 = .ok (.invokevirtual 36, 3) := by decide +kernel
theorem dX5_refusalOfElement_15 : decode cX5_refusalOfElement 15 = .ok (.ifCond .eq 6, 3) := by decide +kernel
theorem dX5_refusalOfElement_18 : decode cX5_refusalOfElement 18 = .ok (.bipush (-11), 2) := by decide +kernel
theorem dX5_refusalOfElement_20 : decode cX5_refusalOfElement 20 = .ok (.ireturn, 1) := by decide +kernel
theorem dX5_refusalOfElement_21 : decode cX5_refusalOfElement 21 = .ok (.aload_n 0, 1) := by decide +kernel
theorem dX5_refusalOfElement_22 : decode cX5_refusalOfElement 22 = .ok (.iload_n 1, 1) := by decide +kernel
theorem dX5_refusalOfElement_23 : decode cX5_refusalOfElement 23 = .ok (.invokevirtual 39, 3) := by decide +kernel
theorem dX5_refusalOfElement_26 : decode cX5_refusalOfElement 26 = .ok (.ifCond .ne 6, 3) := by decide +kernel
theorem dX5_refusalOfElement_29 : decode cX5_refusalOfElement 29 = .ok (.bipush (-12), 2) := by decide +kernel
theorem dX5_refusalOfElement_31 : decode cX5_refusalOfElement 31 = .ok (.ireturn, 1) := by decide +kernel
theorem dX5_refusalOfElement_32 : decode cX5_refusalOfElement 32 = .ok (.iload_n 2, 1) := by decide +kernel
theorem dX5_refusalOfElement_33 : decode cX5_refusalOfElement 33 = .ok (.ifCond .lt 17, 3) := by decide +kernel
theorem dX5_refusalOfElement_36 : decode cX5_refusalOfElement 36 = .ok (.iload_n 2, 1) := by decide +kernel
theorem dX5_refusalOfElement_37 : decode cX5_refusalOfElement 37 = .ok (.aload_n 0, 1) := by decide +kernel
theorem dX5_refusalOfElement_38 : decode cX5_refusalOfElement 38 = .ok (.getfield 15, 3) := by decide +kernel
theorem dX5_refusalOfElement_41 : decode cX5_refusalOfElement 41 = .ok (.iload_n 1, 1) := by decide +kernel
theorem dX5_refusalOfElement_42 : decode cX5_refusalOfElement 42 = .ok (.iaload, 1) := by decide +kernel
theorem dX5_refusalOfElement_43 : decode cX5_refusalOfElement 43 = .ok (.if_icmp .ge 7, 3) := by decide +kernel
theorem dX5_refusalOfElement_46 : decode cX5_refusalOfElement 46 = .ok (.iconst 0, 1) := by decide +kernel
theorem dX5_refusalOfElement_47 : decode cX5_refusalOfElement 47 = .ok (.goto 5, 3) := by decide +kernel
theorem dX5_refusalOfElement_50 : decode cX5_refusalOfElement 50 = .ok (.bipush (-13), 2) := by decide +kernel
theorem dX5_refusalOfElement_52 : decode cX5_refusalOfElement 52 = .ok (.ireturn, 1) := by decide +kernel
theorem dX5_lowestBits_0 : decode cX5_lowestBits 0 = .ok (.iload_n 0, 1) := by decide +kernel
theorem dX5_lowestBits_1 : decode cX5_lowestBits 1 = .ok (.tableswitch 61 0 4 #[35, 40, 45, 61, 49], 35) := by decide +kernel
theorem dX5_lowestBits_36 : decode cX5_lowestBits 36 = .ok (.lload_n 1, 1) := by decide +kernel
theorem dX5_lowestBits_37 : decode cX5_lowestBits 37 = .ok (.l2i, 1) := by decide +kernel
theorem dX5_lowestBits_38 : decode cX5_lowestBits 38 = .ok (.i2b, 1) := by decide +kernel
theorem dX5_lowestBits_39 : decode cX5_lowestBits 39 = .ok (.i2l, 1) := by decide +kernel
theorem dX5_lowestBits_40 : decode cX5_lowestBits 40 = .ok (.lreturn, 1) := by decide +kernel
theorem dX5_lowestBits_41 : decode cX5_lowestBits 41 = .ok (.lload_n 1, 1) := by decide +kernel
theorem dX5_lowestBits_42 : decode cX5_lowestBits 42 = .ok (.l2i, 1) := by decide +kernel
theorem dX5_lowestBits_43 : decode cX5_lowestBits 43 = .ok (.i2s, 1) := by decide +kernel
theorem dX5_lowestBits_44 : decode cX5_lowestBits 44 = .ok (.i2l, 1) := by decide +kernel
theorem dX5_lowestBits_45 : decode cX5_lowestBits 45 = .ok (.lreturn, 1) := by decide +kernel
theorem dX5_lowestBits_46 : decode cX5_lowestBits 46 = .ok (.lload_n 1, 1) := by decide +kernel
theorem dX5_lowestBits_47 : decode cX5_lowestBits 47 = .ok (.l2i, 1) := by decide +kernel
theorem dX5_lowestBits_48 : decode cX5_lowestBits 48 = .ok (.i2l, 1) := by decide +kernel
theorem dX5_lowestBits_49 : decode cX5_lowestBits 49 = .ok (.lreturn, 1) := by decide +kernel
theorem dX5_lowestBits_50 : decode cX5_lowestBits 50 = .ok (.lload_n 1, 1) := by decide +kernel
theorem dX5_lowestBits_51 : decode cX5_lowestBits 51 = .ok (.lconst 0, 1) := by decide +kernel
theorem dX5_lowestBits_52 : decode cX5_lowestBits 52 = .ok (.lcmp, 1) := by decide +kernel
theorem dX5_lowestBits_53 : decode cX5_lowestBits 53 = .ok (.ifCond .eq 7, 3) := by decide +kernel
theorem dX5_lowestBits_56 : decode cX5_lowestBits 56 = .ok (.lconst 1, 1) := by decide +kernel
theorem dX5_lowestBits_57 : decode cX5_lowestBits 57 = .ok (.goto 4, 3) := by decide +kernel
theorem dX5_lowestBits_60 : decode cX5_lowestBits 60 = .ok (.lconst 0, 1) := by decide +kernel
theorem dX5_lowestBits_61 : decode cX5_lowestBits 61 = .ok (.lreturn, 1) := by decide +kernel
theorem dX5_lowestBits_62 : decode cX5_lowestBits 62 = .ok (.lload_n 1, 1) := by decide +kernel
theorem dX5_lowestBits_63 : decode cX5_lowestBits 63 = .ok (.lreturn, 1) := by decide +kernel
theorem dX6_init_0 : decode cX6_init 0 = .ok (.aload_n 0, 1) := by decide +kernel
theorem dX6_init_1 : decode cX6_init 1 = .ok (.invokespecial 3, 3) := by decide +kernel
theorem dX6_init_4 : decode cX6_init 4 = .ok (.aload_n 0, 1) := by decide +kernel
theorem dX6_init_5 : decode cX6_init 5 = .ok (.bipush 120, 2) := by decide +kernel
theorem dX6_init_7 : decode cX6_init 7 = .ok (.newarray .char, 2) := by decide +kernel
theorem dX6_init_9 : decode cX6_init 9 = .ok (.putfield 9, 3) := by decide +kernel
theorem dX6_init_12 : decode cX6_init 12 = .ok (.aload_n 0, 1) := by decide +kernel
theorem dX6_init_13 : decode cX6_init 13 = .ok (.iconst 0, 1) := by decide +kernel
theorem dX6_init_14 : decode cX6_init 14 = .ok (.putfield 15, 3) := by decide +kernel
theorem dX6_init_17 : decode cX6_init 17 = .ok (.aload_n 0, 1) := by decide +kernel
theorem dX6_init_18 : decode cX6_init 18 = .ok (.iconst 0, 1) := by decide +kernel
theorem dX6_init_19 : decode cX6_init 19 = .ok (.putfield 19, 3) := by decide +kernel
theorem dX6_init_22 : decode cX6_init 22 = .ok (.aload_n 0, 1) := by decide +kernel
theorem dX6_init_23 : decode cX6_init 23 = .ok (.iconst (-1), 1) := by decide +kernel
theorem dX6_init_24 : decode cX6_init 24 = .ok (.putfield 22, 3) := by decide +kernel
theorem dX6_init_27 : decode cX6_init 27 = .ok (.aload_n 0, 1) := by decide +kernel
theorem dX6_init_28 : decode cX6_init 28 = .ok (.new 25, 3) := by decide +kernel
theorem dX6_init_31 : decode cX6_init 31 = .ok (.dup, 1) := by decide +kernel
theorem dX6_init_32 : decode cX6_init 32 = .ok (.invokespecial 27, 3) := by decide +kernel
theorem dX6_init_35 : decode cX6_init 35 = .ok (.putfield 28, 3) := by decide +kernel
theorem dX6_init_38 : decode cX6_init 38 = .ok (.return_, 1) := by decide +kernel
theorem dX6_append_0 : decode cX6_append 0 = .ok (.aload_n 0, 1) := by decide +kernel
theorem dX6_append_1 : decode cX6_append 1 = .ok (.getfield 15, 3) := by decide +kernel
theorem dX6_append_4 : decode cX6_append 4 = .ok (.bipush 120, 2) := by decide +kernel
theorem dX6_append_6 : decode cX6_append 6 = .ok (.if_icmp .lt 5, 3) := by decide +kernel
theorem dX6_append_9 : decode cX6_append 9 = .ok (.iconst 0, 1) := by decide +kernel
theorem dX6_append_10 : decode cX6_append 10 = .ok (.ireturn, 1) := by decide +kernel
theorem dX6_append_11 : decode cX6_append 11 = .ok (.aload_n 0, 1) := by decide +kernel
theorem dX6_append_12 : decode cX6_append 12 = .ok (.getfield 9, 3) := by decide +kernel
theorem dX6_append_15 : decode cX6_append 15 = .ok (.aload_n 0, 1) := by decide +kernel
theorem dX6_append_16 : decode cX6_append 16 = .ok (.getfield 15, 3) := by decide +kernel
theorem dX6_append_19 : decode cX6_append 19 = .ok (.iload_n 1, 1) := by decide +kernel
theorem dX6_append_20 : decode cX6_append 20 = .ok (.i2c, 1) := by decide +kernel
theorem dX6_append_21 : decode cX6_append 21 = .ok (.castore, 1) := by decide +kernel
theorem dX6_append_22 : decode cX6_append 22 = .ok (.aload_n 0, 1) := by decide +kernel
theorem dX6_append_23 : decode cX6_append 23 = .ok (.dup, 1) := by decide +kernel
theorem dX6_append_24 : decode cX6_append 24 = .ok (.getfield 15, 3) := by decide +kernel
theorem dX6_append_27 : decode cX6_append 27 = .ok (.iconst 1, 1) := by decide +kernel
theorem dX6_append_28 : decode cX6_append 28 = .ok (.iadd, 1) := by decide +kernel
theorem dX6_append_29 : decode cX6_append 29 = .ok (.putfield 15, 3) := by decide +kernel
theorem dX6_append_32 : decode cX6_append 32 = .ok (.iconst 1, 1) := by decide +kernel
theorem dX6_append_33 : decode cX6_append 33 = .ok (.ireturn, 1) := by decide +kernel
theorem dX6_read_0 : decode cX6_read 0 = .ok (.aload_n 0, 1) := by decide +kernel
theorem dX6_read_1 : decode cX6_read 1 = .ok (.iconst 0, 1) := by decide +kernel
theorem dX6_read_2 : decode cX6_read 2 = .ok (.putfield 19, 3) := by decide +kernel
theorem dX6_read_5 : decode cX6_read 5 = .ok (.aload_n 0, 1) := by decide +kernel
theorem dX6_read_6 : decode cX6_read 6 = .ok (.iconst (-1), 1) := by decide +kernel
theorem dX6_read_7 : decode cX6_read 7 = .ok (.putfield 22, 3) := by decide +kernel
theorem dX6_read_10 : decode cX6_read 10 = .ok (.aload_n 0, 1) := by decide +kernel
theorem dX6_read_11 : decode cX6_read 11 = .ok (.getfield 28, 3) := by decide +kernel
theorem dX6_read_14 : decode cX6_read 14 = .ok (.invokevirtual 32, 3) := by decide +kernel
theorem dX6_read_17 : decode cX6_read 17 = .ok (.aload_n 0, 1) := by decide +kernel
theorem dX6_read_18 : decode cX6_read 18 = .ok (.invokevirtual 35, 3) := by decide +kernel
theorem dX6_read_21 : decode cX6_read 21 = .ok (.iconst 0, 1) := by decide +kernel
theorem dX6_read_22 : decode cX6_read 22 = .ok (.istore_n 1, 1) := by decide +kernel
theorem dX6_read_23 : decode cX6_read 23 = .ok (.iload_n 1, 1) := by decide +kernel
theorem dX6_read_24 : decode cX6_read 24 = .ok (.bipush 120, 2) := by decide +kernel
theorem dX6_read_26 : decode cX6_read 26 = .ok (.if_icmp .ge 22, 3) := by decide +kernel
theorem dX6_read_29 : decode cX6_read 29 = .ok (.aload_n 0, 1) := by decide +kernel
theorem dX6_read_30 : decode cX6_read 30 = .ok (.bipush 59, 2) := by decide +kernel
theorem dX6_read_32 : decode cX6_read 32 = .ok (.invokevirtual 38, 3) := by decide +kernel
theorem dX6_read_35 : decode cX6_read 35 = .ok (.ifCond .eq 13, 3) := by decide +kernel
theorem dX6_read_38 : decode cX6_read 38 = .ok (.aload_n 0, 1) := by decide +kernel
theorem dX6_read_39 : decode cX6_read 39 = .ok (.invokevirtual 35, 3) := by decide +kernel
theorem dX6_read_42 : decode cX6_read 42 = .ok (.iinc 1 1, 3) := by decide +kernel
theorem dX6_read_45 : decode cX6_read 45 = .ok (.goto (-22), 3) := by decide +kernel
theorem dX6_read_48 : decode cX6_read 48 = .ok (.aload_n 0, 1) := by decide +kernel
theorem dX6_read_49 : decode cX6_read 49 = .ok (.getfield 19, 3) := by decide +kernel
theorem dX6_read_52 : decode cX6_read 52 = .ok (.aload_n 0, 1) := by decide +kernel
theorem dX6_read_53 : decode cX6_read 53 = .ok (.getfield 15, 3) := by decide +kernel
theorem dX6_read_56 : decode cX6_read 56 = .ok (.if_icmp .ge 7, 3) := by decide +kernel
theorem dX6_read_59 : decode cX6_read 59 = .ok (.aload_n 0, 1) := by decide +kernel
theorem dX6_read_60 : decode cX6_read 60 = .ok (.invokevirtual 42, 3) := by decide +kernel
theorem dX6_read_63 : decode cX6_read 63 = .ok (.aload_n 0, 1) := by decide +kernel
theorem dX6_read_64 : decode cX6_read 64 = .ok (.iconst 0, 1) := by decide +kernel
theorem dX6_read_65 : decode cX6_read 65 = .ok (.putfield 15, 3) := by decide +kernel
theorem dX6_read_68 : decode cX6_read 68 = .ok (.aload_n 0, 1) := by decide +kernel
theorem dX6_read_69 : decode cX6_read 69 = .ok (.getfield 22, 3) := by decide +kernel
theorem dX6_read_72 : decode cX6_read 72 = .ok (.ireturn, 1) := by decide +kernel
theorem dX6_draftFor_0 : decode cX6_draftFor 0 = .ok (.aload_n 0, 1) := by decide +kernel
theorem dX6_draftFor_1 : decode cX6_draftFor 1 = .ok (.getfield 28, 3) := by decide +kernel
theorem dX6_draftFor_4 : decode cX6_draftFor 4 = .ok (.astore_n 2, 1) := by decide +kernel
theorem dX6_draftFor_5 : decode cX6_draftFor 5 = .ok (.aload_n 0, 1) := by decide +kernel
theorem dX6_draftFor_6 : decode cX6_draftFor 6 = .ok (.aload_n 1, 1) := by decide +kernel
theorem dX6_draftFor_7 : decode cX6_draftFor 7 = .ok (.putfield 28, 3) := by decide +kernel
theorem dX6_draftFor_10 : decode cX6_draftFor 10 = .ok (.aload_n 2, 1) := by decide +kernel
theorem dX6_draftFor_11 : decode cX6_draftFor 11 = .ok (.areturn, 1) := by decide +kernel
theorem dX6_ahead_0 : decode cX6_ahead 0 = .ok (.aload_n 0, 1) := by decide +kernel
theorem dX6_ahead_1 : decode cX6_ahead 1 = .ok (.getfield 22, 3) := by decide +kernel
theorem dX6_ahead_4 : decode cX6_ahead 4 = .ok (.iconst (-1), 1) := by decide +kernel
theorem dX6_ahead_5 : decode cX6_ahead 5 = .ok (.if_icmp .ne 35, 3) := by decide +kernel
theorem dX6_ahead_8 : decode cX6_ahead 8 = .ok (.aload_n 0, 1) := by decide +kernel
theorem dX6_ahead_9 : decode cX6_ahead 9 = .ok (.getfield 19, 3) := by decide +kernel
theorem dX6_ahead_12 : decode cX6_ahead 12 = .ok (.aload_n 0, 1) := by decide +kernel
theorem dX6_ahead_13 : decode cX6_ahead 13 = .ok (.getfield 15, 3) := by decide +kernel
theorem dX6_ahead_16 : decode cX6_ahead 16 = .ok (.if_icmp .ge 24, 3) := by decide +kernel
theorem dX6_ahead_19 : decode cX6_ahead 19 = .ok (.aload_n 0, 1) := by decide +kernel
theorem dX6_ahead_20 : decode cX6_ahead 20 = .ok (.getfield 19, 3) := by decide +kernel
theorem dX6_ahead_23 : decode cX6_ahead 23 = .ok (.bipush 120, 2) := by decide +kernel
theorem dX6_ahead_25 : decode cX6_ahead 25 = .ok (.if_icmp .ge 15, 3) := by decide +kernel
theorem dX6_ahead_28 : decode cX6_ahead 28 = .ok (.aload_n 0, 1) := by decide +kernel
theorem dX6_ahead_29 : decode cX6_ahead 29 = .ok (.getfield 9, 3) := by decide +kernel
theorem dX6_ahead_32 : decode cX6_ahead 32 = .ok (.aload_n 0, 1) := by decide +kernel
theorem dX6_ahead_33 : decode cX6_ahead 33 = .ok (.getfield 19, 3) := by decide +kernel
theorem dX6_ahead_36 : decode cX6_ahead 36 = .ok (.caload, 1) := by decide +kernel
theorem dX6_ahead_37 : decode cX6_ahead 37 = .ok (.goto 4, 3) := by decide +kernel
theorem dX6_ahead_40 : decode cX6_ahead 40 = .ok (.iconst (-1), 1) := by decide +kernel
theorem dX6_ahead_41 : decode cX6_ahead 41 = .ok (.ireturn, 1) := by decide +kernel
theorem dX6_comes_0 : decode cX6_comes 0 = .ok (.aload_n 0, 1) := by decide +kernel
theorem dX6_comes_1 : decode cX6_comes 1 = .ok (.invokevirtual 45, 3) := by decide +kernel
theorem dX6_comes_4 : decode cX6_comes 4 = .ok (.iload_n 1, 1) := by decide +kernel
theorem dX6_comes_5 : decode cX6_comes 5 = .ok (.if_icmp .ne 7, 3) := by decide +kernel
theorem dX6_comes_8 : decode cX6_comes 8 = .ok (.iconst 1, 1) := by decide +kernel
theorem dX6_comes_9 : decode cX6_comes 9 = .ok (.goto 4, 3) := by decide +kernel
theorem dX6_comes_12 : decode cX6_comes 12 = .ok (.iconst 0, 1) := by decide +kernel
theorem dX6_comes_13 : decode cX6_comes 13 = .ok (.istore_n 2, 1) := by decide +kernel
theorem dX6_comes_14 : decode cX6_comes 14 = .ok (.iload_n 2, 1) := by decide +kernel
theorem dX6_comes_15 : decode cX6_comes 15 = .ok (.ifCond .eq 13, 3) := by decide +kernel
theorem dX6_comes_18 : decode cX6_comes 18 = .ok (.aload_n 0, 1) := by decide +kernel
theorem dX6_comes_19 : decode cX6_comes 19 = .ok (.dup, 1) := by decide +kernel
theorem dX6_comes_20 : decode cX6_comes 20 = .ok (.getfield 19, 3) := by decide +kernel
theorem dX6_comes_23 : decode cX6_comes 23 = .ok (.iconst 1, 1) := by decide +kernel
theorem dX6_comes_24 : decode cX6_comes 24 = .ok (.iadd, 1) := by decide +kernel
theorem dX6_comes_25 : decode cX6_comes 25 = .ok (.putfield 19, 3) := by decide +kernel
theorem dX6_comes_28 : decode cX6_comes 28 = .ok (.iload_n 2, 1) := by decide +kernel
theorem dX6_comes_29 : decode cX6_comes 29 = .ok (.ireturn, 1) := by decide +kernel
theorem dX6_fail_0 : decode cX6_fail 0 = .ok (.aload_n 0, 1) := by decide +kernel
theorem dX6_fail_1 : decode cX6_fail 1 = .ok (.getfield 22, 3) := by decide +kernel
theorem dX6_fail_4 : decode cX6_fail 4 = .ok (.iconst (-1), 1) := by decide +kernel
theorem dX6_fail_5 : decode cX6_fail 5 = .ok (.if_icmp .ne 11, 3) := by decide +kernel
theorem dX6_fail_8 : decode cX6_fail 8 = .ok (.aload_n 0, 1) := by decide +kernel
theorem dX6_fail_9 : decode cX6_fail 9 = .ok (.aload_n 0, 1) := by decide +kernel
theorem dX6_fail_10 : decode cX6_fail 10 = .ok (.getfield 19, 3) := by decide +kernel
theorem dX6_fail_13 : decode cX6_fail 13 = .ok (.putfield 22, 3) := by decide +kernel
theorem dX6_fail_16 : decode cX6_fail 16 = .ok (.return_, 1) := by decide +kernel
theorem dX6_write_0 : decode cX6_write 0 = .ok (.aload_n 0, 1) := by decide +kernel
theorem dX6_write_1 : decode cX6_write 1 = .ok (.getfield 28, 3) := by decide +kernel
theorem dX6_write_4 : decode cX6_write 4 = .ok (.iload_n 1, 1) := by decide +kernel
theorem dX6_write_5 : decode cX6_write 5 = .ok (.iconst 0, 1) := by decide +kernel
theorem dX6_write_6 : decode cX6_write 6 = .ok (.invokevirtual 49, 3) := by decide +kernel
theorem dX6_write_9 : decode cX6_write 9 = .ok (.return_, 1) := by decide +kernel
theorem dX6_line_0 : decode cX6_line 0 = .ok (.aload_n 0, 1) := by decide +kernel
theorem dX6_line_1 : decode cX6_line 1 = .ok (.iconst 0, 1) := by decide +kernel
theorem dX6_line_2 : decode cX6_line 2 = .ok (.invokevirtual 53, 3) := by decide +kernel
theorem dX6_line_5 : decode cX6_line 5 = .ok (.aload_n 0, 1) := by decide +kernel
theorem dX6_line_6 : decode cX6_line 6 = .ok (.bipush 63, 2) := by decide +kernel
theorem dX6_line_8 : decode cX6_line 8 = .ok (.invokevirtual 38, 3) := by decide +kernel
theorem dX6_line_11 : decode cX6_line 11 = .ok (.ifCond .eq 15, 3) := by decide +kernel
theorem dX6_line_14 : decode cX6_line 14 = .ok (.aload_n 0, 1) := by decide +kernel
theorem dX6_line_15 : decode cX6_line 15 = .ok (.getfield 28, 3) := by decide +kernel
theorem dX6_line_18 : decode cX6_line 18 = .ok (.invokevirtual 57, 3) := by decide +kernel
theorem dX6_line_21 : decode cX6_line 21 = .ok (.aload_n 0, 1) := by decide +kernel
theorem dX6_line_22 : decode cX6_line 22 = .ok (.iconst 0, 1) := by decide +kernel
theorem dX6_line_23 : decode cX6_line 23 = .ok (.invokevirtual 53, 3) := by decide +kernel
theorem dX6_line_26 : decode cX6_line 26 = .ok (.aload_n 0, 1) := by decide +kernel
theorem dX6_line_27 : decode cX6_line 27 = .ok (.getfield 28, 3) := by decide +kernel
theorem dX6_line_30 : decode cX6_line 30 = .ok (.invokevirtual 60, 3) := by decide +kernel
theorem dX6_line_33 : decode cX6_line 33 = .ok (.return_, 1) := by decide +kernel
theorem dX6_either_0 : decode cX6_either 0 = .ok (.aload_n 0, 1) := by decide +kernel
theorem dX6_either_1 : decode cX6_either 1 = .ok (.iload_n 1, 1) := by decide +kernel
theorem dX6_either_2 : decode cX6_either 2 = .ok (.invokevirtual 63, 3) := by decide +kernel
theorem dX6_either_5 : decode cX6_either 5 = .ok (.iconst 0, 1) := by decide +kernel
theorem dX6_either_6 : decode cX6_either 6 = .ok (.istore_n 2, 1) := by decide +kernel
theorem dX6_either_7 : decode cX6_either 7 = .ok (.iload_n 2, 1) := by decide +kernel
theorem dX6_either_8 : decode cX6_either 8 = .ok (.bipush 120, 2) := by decide +kernel
theorem dX6_either_10 : decode cX6_either 10 = .ok (.if_icmp .ge 29, 3) := by decide +kernel
theorem dX6_either_13 : decode cX6_either 13 = .ok (.aload_n 0, 1) := by decide +kernel
theorem dX6_either_14 : decode cX6_either 14 = .ok (.bipush 124, 2) := by decide +kernel
theorem dX6_either_16 : decode cX6_either 16 = .ok (.invokevirtual 38, 3) := by decide +kernel
theorem dX6_either_19 : decode cX6_either 19 = .ok (.ifCond .eq 20, 3) := by decide +kernel
theorem dX6_either_22 : decode cX6_either 22 = .ok (.aload_n 0, 1) := by decide +kernel
theorem dX6_either_23 : decode cX6_either 23 = .ok (.iload_n 1, 1) := by decide +kernel
theorem dX6_either_24 : decode cX6_either 24 = .ok (.invokevirtual 63, 3) := by decide +kernel
theorem dX6_either_27 : decode cX6_either 27 = .ok (.aload_n 0, 1) := by decide +kernel
theorem dX6_either_28 : decode cX6_either 28 = .ok (.bipush 124, 2) := by decide +kernel
theorem dX6_either_30 : decode cX6_either 30 = .ok (.invokevirtual 66, 3) := by decide +kernel
theorem dX6_either_33 : decode cX6_either 33 = .ok (.iinc 2 1, 3) := by decide +kernel
theorem dX6_either_36 : decode cX6_either 36 = .ok (.goto (-29), 3) := by decide +kernel
theorem dX6_either_39 : decode cX6_either 39 = .ok (.return_, 1) := by decide +kernel
theorem dX6_both_0 : decode cX6_both 0 = .ok (.aload_n 0, 1) := by decide +kernel
theorem dX6_both_1 : decode cX6_both 1 = .ok (.iload_n 1, 1) := by decide +kernel
theorem dX6_both_2 : decode cX6_both 2 = .ok (.invokevirtual 69, 3) := by decide +kernel
theorem dX6_both_5 : decode cX6_both 5 = .ok (.iconst 0, 1) := by decide +kernel
theorem dX6_both_6 : decode cX6_both 6 = .ok (.istore_n 2, 1) := by decide +kernel
theorem dX6_both_7 : decode cX6_both 7 = .ok (.iload_n 2, 1) := by decide +kernel
theorem dX6_both_8 : decode cX6_both 8 = .ok (.bipush 120, 2) := by decide +kernel
theorem dX6_both_10 : decode cX6_both 10 = .ok (.if_icmp .ge 29, 3) := by decide +kernel
theorem dX6_both_13 : decode cX6_both 13 = .ok (.aload_n 0, 1) := by decide +kernel
theorem dX6_both_14 : decode cX6_both 14 = .ok (.bipush 38, 2) := by decide +kernel
theorem dX6_both_16 : decode cX6_both 16 = .ok (.invokevirtual 38, 3) := by decide +kernel
theorem dX6_both_19 : decode cX6_both 19 = .ok (.ifCond .eq 20, 3) := by decide +kernel
theorem dX6_both_22 : decode cX6_both 22 = .ok (.aload_n 0, 1) := by decide +kernel
theorem dX6_both_23 : decode cX6_both 23 = .ok (.iload_n 1, 1) := by decide +kernel
theorem dX6_both_24 : decode cX6_both 24 = .ok (.invokevirtual 69, 3) := by decide +kernel
theorem dX6_both_27 : decode cX6_both 27 = .ok (.aload_n 0, 1) := by decide +kernel
theorem dX6_both_28 : decode cX6_both 28 = .ok (.bipush 38, 2) := by decide +kernel
theorem dX6_both_30 : decode cX6_both 30 = .ok (.invokevirtual 66, 3) := by decide +kernel
theorem dX6_both_33 : decode cX6_both 33 = .ok (.iinc 2 1, 3) := by decide +kernel
theorem dX6_both_36 : decode cX6_both 36 = .ok (.goto (-29), 3) := by decide +kernel
theorem dX6_both_39 : decode cX6_both 39 = .ok (.return_, 1) := by decide +kernel
theorem dX6_compared_0 : decode cX6_compared 0 = .ok (.aload_n 0, 1) := by decide +kernel
theorem dX6_compared_1 : decode cX6_compared 1 = .ok (.iload_n 1, 1) := by decide +kernel
theorem dX6_compared_2 : decode cX6_compared 2 = .ok (.invokevirtual 72, 3) := by decide +kernel
theorem dX6_compared_5 : decode cX6_compared 5 = .ok (.aload_n 0, 1) := by decide +kernel
theorem dX6_compared_6 : decode cX6_compared 6 = .ok (.invokevirtual 45, 3) := by decide +kernel
theorem dX6_compared_9 : decode cX6_compared 9 = .ok (.istore_n 2, 1) := by decide +kernel
theorem dX6_compared_10 : decode cX6_compared 10 = .ok (.iload_n 2, 1) := by decide +kernel
theorem dX6_compared_11 : decode cX6_compared 11 = .ok (.bipush 60, 2) := by decide +kernel
theorem dX6_compared_13 : decode cX6_compared 13 = .ok (.if_icmp .eq 15, 3) := by decide +kernel
theorem dX6_compared_16 : decode cX6_compared 16 = .ok (.iload_n 2, 1) := by decide +kernel
theorem dX6_compared_17 : decode cX6_compared 17 = .ok (.bipush 61, 2) := by decide +kernel
theorem dX6_compared_19 : decode cX6_compared 19 = .ok (.if_icmp .eq 9, 3) := by decide +kernel
theorem dX6_compared_22 : decode cX6_compared 22 = .ok (.iload_n 2, 1) := by decide +kernel
theorem dX6_compared_23 : decode cX6_compared 23 = .ok (.bipush 62, 2) := by decide +kernel
theorem dX6_compared_25 : decode cX6_compared 25 = .ok (.if_icmp .ne 24, 3) := by decide +kernel
theorem dX6_compared_28 : decode cX6_compared 28 = .ok (.aload_n 0, 1) := by decide +kernel
theorem dX6_compared_29 : decode cX6_compared 29 = .ok (.dup, 1) := by decide +kernel
theorem dX6_compared_30 : decode cX6_compared 30 = .ok (.getfield 19, 3) := by decide +kernel
theorem dX6_compared_33 : decode cX6_compared 33 = .ok (.iconst 1, 1) := by decide +kernel
theorem dX6_compared_34 : decode cX6_compared 34 = .ok (.iadd, 1) := by decide +kernel
theorem dX6_compared_35 : decode cX6_compared 35 = .ok (.putfield 19, 3) := by decide +kernel
theorem dX6_compared_38 : decode cX6_compared 38 = .ok (.aload_n 0, 1) := by decide +kernel
theorem dX6_compared_39 : decode cX6_compared 39 = .ok (.iload_n 1, 1) := by decide +kernel
theorem dX6_compared_40 : decode cX6_compared 40 = .ok (.invokevirtual 72, 3) := by decide +kernel
theorem dX6_compared_43 : decode cX6_compared 43 = .ok (.aload_n 0, 1) := by decide +kernel
theorem dX6_compared_44 : decode cX6_compared 44 = .ok (.iload_n 2, 1) := by decide +kernel
theorem dX6_compared_45 : decode cX6_compared 45 = .ok (.i2c, 1) := by decide +kernel
theorem dX6_compared_46 : decode cX6_compared 46 = .ok (.invokevirtual 66, 3) := by decide +kernel
theorem dX6_compared_49 : decode cX6_compared 49 = .ok (.return_, 1) := by decide +kernel
theorem dX6_sum_0 : decode cX6_sum 0 = .ok (.aload_n 0, 1) := by decide +kernel
theorem dX6_sum_1 : decode cX6_sum 1 = .ok (.iload_n 1, 1) := by decide +kernel
theorem dX6_sum_2 : decode cX6_sum 2 = .ok (.invokevirtual 75, 3) := by decide +kernel
theorem dX6_sum_5 : decode cX6_sum 5 = .ok (.aload_n 0, 1) := by decide +kernel
theorem dX6_sum_6 : decode cX6_sum 6 = .ok (.invokevirtual 45, 3) := by decide +kernel
theorem dX6_sum_9 : decode cX6_sum 9 = .ok (.istore_n 2, 1) := by decide +kernel
theorem dX6_sum_10 : decode cX6_sum 10 = .ok (.iconst 0, 1) := by decide +kernel
theorem dX6_sum_11 : decode cX6_sum 11 = .ok (.istore_n 3, 1) := by decide +kernel
theorem dX6_sum_12 : decode cX6_sum 12 = .ok (.iload_n 3, 1) := by decide +kernel
theorem dX6_sum_13 : decode cX6_sum 13 = .ok (.bipush 120, 2) := by decide +kernel
theorem dX6_sum_15 : decode cX6_sum 15 = .ok (.if_icmp .ge 47, 3) := by decide +kernel
theorem dX6_sum_18 : decode cX6_sum 18 = .ok (.iload_n 2, 1) := by decide +kernel
theorem dX6_sum_19 : decode cX6_sum 19 = .ok (.bipush 43, 2) := by decide +kernel
theorem dX6_sum_21 : decode cX6_sum 21 = .ok (.if_icmp .eq 9, 3) := by decide +kernel
theorem dX6_sum_24 : decode cX6_sum 24 = .ok (.iload_n 2, 1) := by decide +kernel
theorem dX6_sum_25 : decode cX6_sum 25 = .ok (.bipush 45, 2) := by decide +kernel
theorem dX6_sum_27 : decode cX6_sum 27 = .ok (.if_icmp .ne 35, 3) := by decide +kernel
theorem dX6_sum_30 : decode cX6_sum 30 = .ok (.aload_n 0, 1) := by decide +kernel
theorem dX6_sum_31 : decode cX6_sum 31 = .ok (.dup, 1) := by decide +kernel
theorem dX6_sum_32 : decode cX6_sum 32 = .ok (.getfield 19, 3) := by decide +kernel
theorem dX6_sum_35 : decode cX6_sum 35 = .ok (.iconst 1, 1) := by decide +kernel
theorem dX6_sum_36 : decode cX6_sum 36 = .ok (.iadd, 1) := by decide +kernel
theorem dX6_sum_37 : decode cX6_sum 37 = .ok (.putfield 19, 3) := by decide +kernel
theorem dX6_sum_40 : decode cX6_sum 40 = .ok (.aload_n 0, 1) := by decide +kernel
theorem dX6_sum_41 : decode cX6_sum 41 = .ok (.iload_n 1, 1) := by decide +kernel
theorem dX6_sum_42 : decode cX6_sum 42 = .ok (.invokevirtual 75, 3) := by decide +kernel
theorem dX6_sum_45 : decode cX6_sum 45 = .ok (.aload_n 0, 1) := by decide +kernel
theorem dX6_sum_46 : decode cX6_sum 46 = .ok (.iload_n 2, 1) := by decide +kernel
theorem dX6_sum_47 : decode cX6_sum 47 = .ok (.i2c, 1) := by decide +kernel
theorem dX6_sum_48 : decode cX6_sum 48 = .ok (.invokevirtual 66, 3) := by decide +kernel
theorem dX6_sum_51 : decode cX6_sum 51 = .ok (.aload_n 0, 1) := by decide +kernel
theorem dX6_sum_52 : decode cX6_sum 52 = .ok (.invokevirtual 45, 3) := by decide +kernel
theorem dX6_sum_55 : decode cX6_sum 55 = .ok (.istore_n 2, 1) := by decide +kernel
theorem dX6_sum_56 : decode cX6_sum 56 = .ok (.iinc 3 1, 3) := by decide +kernel
theorem dX6_sum_59 : decode cX6_sum 59 = .ok (.goto (-47), 3) := by decide +kernel
theorem dX6_sum_62 : decode cX6_sum 62 = .ok (.return_, 1) := by decide +kernel
theorem dX6_product_0 : decode cX6_product 0 = .ok (.aload_n 0, 1) := by decide +kernel
theorem dX6_product_1 : decode cX6_product 1 = .ok (.iload_n 1, 1) := by decide +kernel
theorem dX6_product_2 : decode cX6_product 2 = .ok (.invokevirtual 78, 3) := by decide +kernel
theorem dX6_product_5 : decode cX6_product 5 = .ok (.aload_n 0, 1) := by decide +kernel
theorem dX6_product_6 : decode cX6_product 6 = .ok (.invokevirtual 45, 3) := by decide +kernel
theorem dX6_product_9 : decode cX6_product 9 = .ok (.istore_n 2, 1) := by decide +kernel
theorem dX6_product_10 : decode cX6_product 10 = .ok (.iconst 0, 1) := by decide +kernel
theorem dX6_product_11 : decode cX6_product 11 = .ok (.istore_n 3, 1) := by decide +kernel
theorem dX6_product_12 : decode cX6_product 12 = .ok (.iload_n 3, 1) := by decide +kernel
theorem dX6_product_13 : decode cX6_product 13 = .ok (.bipush 120, 2) := by decide +kernel
theorem dX6_product_15 : decode cX6_product 15 = .ok (.if_icmp .ge 53, 3) := by decide +kernel
theorem dX6_product_18 : decode cX6_product 18 = .ok (.iload_n 2, 1) := by decide +kernel
theorem dX6_product_19 : decode cX6_product 19 = .ok (.bipush 42, 2) := by decide +kernel
theorem dX6_product_21 : decode cX6_product 21 = .ok (.if_icmp .eq 15, 3) := by decide +kernel
theorem dX6_product_24 : decode cX6_product 24 = .ok (.iload_n 2, 1) := by decide +kernel
theorem dX6_product_25 : decode cX6_product 25 = .ok (.bipush 47, 2) := by decide +kernel
theorem dX6_product_27 : decode cX6_product 27 = .ok (.if_icmp .eq 9, 3) := by decide +kernel
theorem dX6_product_30 : decode cX6_product 30 = .ok (.iload_n 2, 1) := by decide +kernel
theorem dX6_product_31 : decode cX6_product 31 = .ok (.bipush 37, 2) := by decide +kernel
theorem dX6_product_33 : decode cX6_product 33 = .ok (.if_icmp .ne 35, 3) := by decide +kernel
theorem dX6_product_36 : decode cX6_product 36 = .ok (.aload_n 0, 1) := by decide +kernel
theorem dX6_product_37 : decode cX6_product 37 = .ok (.dup, 1) := by decide +kernel
theorem dX6_product_38 : decode cX6_product 38 = .ok (.getfield 19, 3) := by decide +kernel
theorem dX6_product_41 : decode cX6_product 41 = .ok (.iconst 1, 1) := by decide +kernel
theorem dX6_product_42 : decode cX6_product 42 = .ok (.iadd, 1) := by decide +kernel
theorem dX6_product_43 : decode cX6_product 43 = .ok (.putfield 19, 3) := by decide +kernel
theorem dX6_product_46 : decode cX6_product 46 = .ok (.aload_n 0, 1) := by decide +kernel
theorem dX6_product_47 : decode cX6_product 47 = .ok (.iload_n 1, 1) := by decide +kernel
theorem dX6_product_48 : decode cX6_product 48 = .ok (.invokevirtual 78, 3) := by decide +kernel
theorem dX6_product_51 : decode cX6_product 51 = .ok (.aload_n 0, 1) := by decide +kernel
theorem dX6_product_52 : decode cX6_product 52 = .ok (.iload_n 2, 1) := by decide +kernel
theorem dX6_product_53 : decode cX6_product 53 = .ok (.i2c, 1) := by decide +kernel
theorem dX6_product_54 : decode cX6_product 54 = .ok (.invokevirtual 66, 3) := by decide +kernel
theorem dX6_product_57 : decode cX6_product 57 = .ok (.aload_n 0, 1) := by decide +kernel
theorem dX6_product_58 : decode cX6_product 58 = .ok (.invokevirtual 45, 3) := by decide +kernel
theorem dX6_product_61 : decode cX6_product 61 = .ok (.istore_n 2, 1) := by decide +kernel
theorem dX6_product_62 : decode cX6_product 62 = .ok (.iinc 3 1, 3) := by decide +kernel
theorem dX6_product_65 : decode cX6_product 65 = .ok (.goto (-53), 3) := by decide +kernel
theorem dX6_product_68 : decode cX6_product 68 = .ok (.return_, 1) := by decide +kernel
theorem dX6_operand_0 : decode cX6_operand 0 = .ok (.aload_n 0, 1) := by decide +kernel
theorem dX6_operand_1 : decode cX6_operand 1 = .ok (.invokevirtual 45, 3) := by decide +kernel
theorem dX6_operand_4 : decode cX6_operand 4 = .ok (.istore_n 2, 1) := by decide +kernel
theorem dX6_operand_5 : decode cX6_operand 5 = .ok (.iload_n 2, 1) := by decide +kernel
theorem dX6_operand_6 : decode cX6_operand 6 = .ok (.invokestatic 81, 3) := by decide +kernel
theorem dX6_operand_9 : decode cX6_operand 9 = .ok (.ifCond .eq 10, 3) := by decide +kernel
theorem dX6_operand_12 : decode cX6_operand 12 = .ok (.aload_n 0, 1) := by decide +kernel
theorem dX6_operand_13 : decode cX6_operand 13 = .ok (.invokevirtual 85, 3) := by decide +kernel
theorem dX6_operand_16 : decode cX6_operand 16 = .ok (.goto 142, 3) := by decide +kernel
theorem dX6_operand_19 : decode cX6_operand 19 = .ok (.iload_n 2, 1) := by decide +kernel
theorem dX6_operand_20 : decode cX6_operand 20 = .ok (.invokestatic 88, 3) := by decide +kernel
theorem dX6_operand_23 : decode cX6_operand 23 = .ok (.iconst (-1), 1) := by decide +kernel
theorem dX6_operand_24 : decode cX6_operand 24 = .ok (.if_icmp .eq 29, 3) := by decide +kernel
theorem dX6_operand_27 : decode cX6_operand 27 = .ok (.aload_n 0, 1) := by decide +kernel
theorem dX6_operand_28 : decode cX6_operand 28 = .ok (.dup, 1) := by decide +kernel
theorem dX6_operand_29 : decode cX6_operand 29 = .ok (.getfield 19, 3) := by decide +kernel
theorem dX6_operand_32 : decode cX6_operand 32 = .ok (.iconst 1, 1) := by decide +kernel
theorem dX6_operand_33 : decode cX6_operand 33 = .ok (.iadd, 1) := by decide +kernel
theorem dX6_operand_34 : decode cX6_operand 34 = .ok (.putfield 19, 3) := by decide +kernel
theorem dX6_operand_37 : decode cX6_operand 37 = .ok (.aload_n 0, 1) := by decide +kernel
theorem dX6_operand_38 : decode cX6_operand 38 = .ok (.getfield 28, 3) := by decide +kernel
theorem dX6_operand_41 : decode cX6_operand 41 = .ok (.bipush 36, 2) := by decide +kernel
theorem dX6_operand_43 : decode cX6_operand 43 = .ok (.iload_n 2, 1) := by decide +kernel
theorem dX6_operand_44 : decode cX6_operand 44 = .ok (.invokestatic 88, 3) := by decide +kernel
theorem dX6_operand_47 : decode cX6_operand 47 = .ok (.invokevirtual 49, 3) := by decide +kernel
theorem dX6_operand_50 : decode cX6_operand 50 = .ok (.goto 108, 3) := by decide +kernel
theorem dX6_operand_53 : decode cX6_operand 53 = .ok (.iload_n 1, 1) := by decide +kernel
theorem dX6_operand_54 : decode cX6_operand 54 = .ok (.bipush 6, 2) := by decide +kernel
theorem dX6_operand_56 : decode cX6_operand 56 = .ok (.if_icmp .lt 10, 3) := by decide +kernel
theorem dX6_operand_59 : decode cX6_operand 59 = .ok (.aload_n 0, 1) := by decide +kernel
theorem dX6_operand_60 : decode cX6_operand 60 = .ok (.invokevirtual 42, 3) := by decide +kernel
theorem dX6_operand_63 : decode cX6_operand 63 = .ok (.goto 95, 3) := by decide +kernel
theorem dX6_operand_66 : decode cX6_operand 66 = .ok (.iload_n 2, 1) := by decide +kernel
theorem dX6_operand_67 : decode cX6_operand 67 = .ok (.bipush 33, 2) := by decide +kernel
theorem dX6_operand_69 : decode cX6_operand 69 = .ok (.if_icmp .eq 9, 3) := by decide +kernel
theorem dX6_operand_72 : decode cX6_operand 72 = .ok (.iload_n 2, 1) := by decide +kernel
theorem dX6_operand_73 : decode cX6_operand 73 = .ok (.bipush 45, 2) := by decide +kernel
theorem dX6_operand_75 : decode cX6_operand 75 = .ok (.if_icmp .ne 40, 3) := by decide +kernel
theorem dX6_operand_78 : decode cX6_operand 78 = .ok (.aload_n 0, 1) := by decide +kernel
theorem dX6_operand_79 : decode cX6_operand 79 = .ok (.dup, 1) := by decide +kernel
theorem dX6_operand_80 : decode cX6_operand 80 = .ok (.getfield 19, 3) := by decide +kernel
theorem dX6_operand_83 : decode cX6_operand 83 = .ok (.iconst 1, 1) := by decide +kernel
theorem dX6_operand_84 : decode cX6_operand 84 = .ok (.iadd, 1) := by decide +kernel
theorem dX6_operand_85 : decode cX6_operand 85 = .ok (.putfield 19, 3) := by decide +kernel
theorem dX6_operand_88 : decode cX6_operand 88 = .ok (.aload_n 0, 1) := by decide +kernel
theorem dX6_operand_89 : decode cX6_operand 89 = .ok (.iload_n 1, 1) := by decide +kernel
theorem dX6_operand_90 : decode cX6_operand 90 = .ok (.iconst 1, 1) := by decide +kernel
theorem dX6_operand_91 : decode cX6_operand 91 = .ok (.iadd, 1) := by decide +kernel
theorem dX6_operand_92 : decode cX6_operand 92 = .ok (.invokevirtual 78, 3) := by decide +kernel
theorem dX6_operand_95 : decode cX6_operand 95 = .ok (.aload_n 0, 1) := by decide +kernel
theorem dX6_operand_96 : decode cX6_operand 96 = .ok (.iload_n 2, 1) := by decide +kernel
theorem dX6_operand_97 : decode cX6_operand 97 = .ok (.bipush 45, 2) := by decide +kernel
theorem dX6_operand_99 : decode cX6_operand 99 = .ok (.if_icmp .ne 8, 3) := by decide +kernel
theorem dX6_operand_102 : decode cX6_operand 102 = .ok (.bipush 126, 2) := by decide +kernel
theorem dX6_operand_104 : decode cX6_operand 104 = .ok (.goto 5, 3) := by decide +kernel
theorem dX6_operand_107 : decode cX6_operand 107 = .ok (.bipush 33, 2) := by decide +kernel
theorem dX6_operand_109 : decode cX6_operand 109 = .ok (.invokevirtual 66, 3) := by decide +kernel
theorem dX6_operand_112 : decode cX6_operand 112 = .ok (.goto 46, 3) := by decide +kernel
theorem dX6_operand_115 : decode cX6_operand 115 = .ok (.iload_n 2, 1) := by decide +kernel
theorem dX6_operand_116 : decode cX6_operand 116 = .ok (.bipush 40, 2) := by decide +kernel
theorem dX6_operand_118 : decode cX6_operand 118 = .ok (.if_icmp .ne 36, 3) := by decide +kernel
theorem dX6_operand_121 : decode cX6_operand 121 = .ok (.aload_n 0, 1) := by decide +kernel
theorem dX6_operand_122 : decode cX6_operand 122 = .ok (.dup, 1) := by decide +kernel
theorem dX6_operand_123 : decode cX6_operand 123 = .ok (.getfield 19, 3) := by decide +kernel
theorem dX6_operand_126 : decode cX6_operand 126 = .ok (.iconst 1, 1) := by decide +kernel
theorem dX6_operand_127 : decode cX6_operand 127 = .ok (.iadd, 1) := by decide +kernel
theorem dX6_operand_128 : decode cX6_operand 128 = .ok (.putfield 19, 3) := by decide +kernel
theorem dX6_operand_131 : decode cX6_operand 131 = .ok (.aload_n 0, 1) := by decide +kernel
theorem dX6_operand_132 : decode cX6_operand 132 = .ok (.iload_n 1, 1) := by decide +kernel
theorem dX6_operand_133 : decode cX6_operand 133 = .ok (.iconst 1, 1) := by decide +kernel
theorem dX6_operand_134 : decode cX6_operand 134 = .ok (.iadd, 1) := by decide +kernel
theorem dX6_operand_135 : decode cX6_operand 135 = .ok (.invokevirtual 53, 3) := by decide +kernel
theorem dX6_operand_138 : decode cX6_operand 138 = .ok (.aload_n 0, 1) := by decide +kernel
theorem dX6_operand_139 : decode cX6_operand 139 = .ok (.bipush 41, 2) := by decide +kernel
theorem dX6_operand_141 : decode cX6_operand 141 = .ok (.invokevirtual 38, 3) := by decide +kernel
theorem dX6_operand_144 : decode cX6_operand 144 = .ok (.ifCond .ne 14, 3) := by decide +kernel
theorem dX6_operand_147 : decode cX6_operand 147 = .ok (.aload_n 0, 1) := by decide +kernel
theorem dX6_operand_148 : decode cX6_operand 148 = .ok (.invokevirtual 42, 3) := by decide +kernel
theorem dX6_operand_151 : decode cX6_operand 151 = .ok (.goto 7, 3) := by decide +kernel
theorem dX6_operand_154 : decode cX6_operand 154 = .ok (.aload_n 0, 1) := by decide +kernel
theorem dX6_operand_155 : decode cX6_operand 155 = .ok (.invokevirtual 42, 3) := by decide +kernel
theorem dX6_operand_158 : decode cX6_operand 158 = .ok (.return_, 1) := by decide +kernel
theorem dX6_number_0 : decode cX6_number 0 = .ok (.iconst 0, 1) := by decide +kernel
theorem dX6_number_1 : decode cX6_number 1 = .ok (.istore_n 1, 1) := by decide +kernel
theorem dX6_number_2 : decode cX6_number 2 = .ok (.iconst 0, 1) := by decide +kernel
theorem dX6_number_3 : decode cX6_number 3 = .ok (.istore_n 2, 1) := by decide +kernel
theorem dX6_number_4 : decode cX6_number 4 = .ok (.iload_n 2, 1) := by decide +kernel
theorem dX6_number_5 : decode cX6_number 5 = .ok (.iconst 4, 1) := by decide +kernel
theorem dX6_number_6 : decode cX6_number 6 = .ok (.if_icmp .ge 42, 3) := by decide +kernel
theorem dX6_number_9 : decode cX6_number 9 = .ok (.aload_n 0, 1) := by decide +kernel
theorem dX6_number_10 : decode cX6_number 10 = .ok (.invokevirtual 45, 3) := by decide +kernel
theorem dX6_number_13 : decode cX6_number 13 = .ok (.invokestatic 81, 3) := by decide +kernel
theorem dX6_number_16 : decode cX6_number 16 = .ok (.ifCond .eq 32, 3) := by decide +kernel
theorem dX6_number_19 : decode cX6_number 19 = .ok (.bipush 10, 2) := by decide +kernel
theorem dX6_number_21 : decode cX6_number 21 = .ok (.iload_n 1, 1) := by decide +kernel
theorem dX6_number_22 : decode cX6_number 22 = .ok (.imul, 1) := by decide +kernel
theorem dX6_number_23 : decode cX6_number 23 = .ok (.aload_n 0, 1) := by decide +kernel
theorem dX6_number_24 : decode cX6_number 24 = .ok (.invokevirtual 45, 3) := by decide +kernel
theorem dX6_number_27 : decode cX6_number 27 = .ok (.bipush 48, 2) := by decide +kernel
theorem dX6_number_29 : decode cX6_number 29 = .ok (.isub, 1) := by decide +kernel
theorem dX6_number_30 : decode cX6_number 30 = .ok (.iadd, 1) := by decide +kernel
theorem dX6_number_31 : decode cX6_number 31 = .ok (.istore_n 1, 1) := by decide +kernel
theorem dX6_number_32 : decode cX6_number 32 = .ok (.aload_n 0, 1) := by decide +kernel
theorem dX6_number_33 : decode cX6_number 33 = .ok (.dup, 1) := by decide +kernel
theorem dX6_number_34 : decode cX6_number 34 = .ok (.getfield 19, 3) := by decide +kernel
theorem dX6_number_37 : decode cX6_number 37 = .ok (.iconst 1, 1) := by decide +kernel
theorem dX6_number_38 : decode cX6_number 38 = .ok (.iadd, 1) := by decide +kernel
theorem dX6_number_39 : decode cX6_number 39 = .ok (.putfield 19, 3) := by decide +kernel
theorem dX6_number_42 : decode cX6_number 42 = .ok (.iinc 2 1, 3) := by decide +kernel
theorem dX6_number_45 : decode cX6_number 45 = .ok (.goto (-41), 3) := by decide +kernel
theorem dX6_number_48 : decode cX6_number 48 = .ok (.aload_n 0, 1) := by decide +kernel
theorem dX6_number_49 : decode cX6_number 49 = .ok (.getfield 28, 3) := by decide +kernel
theorem dX6_number_52 : decode cX6_number 52 = .ok (.bipush 35, 2) := by decide +kernel
theorem dX6_number_54 : decode cX6_number 54 = .ok (.iload_n 1, 1) := by decide +kernel
theorem dX6_number_55 : decode cX6_number 55 = .ok (.invokevirtual 49, 3) := by decide +kernel
theorem dX6_number_58 : decode cX6_number 58 = .ok (.return_, 1) := by decide +kernel
theorem dX6_isDigit_0 : decode cX6_isDigit 0 = .ok (.iload_n 0, 1) := by decide +kernel
theorem dX6_isDigit_1 : decode cX6_isDigit 1 = .ok (.bipush 48, 2) := by decide +kernel
theorem dX6_isDigit_3 : decode cX6_isDigit 3 = .ok (.if_icmp .lt 13, 3) := by decide +kernel
theorem dX6_isDigit_6 : decode cX6_isDigit 6 = .ok (.iload_n 0, 1) := by decide +kernel
theorem dX6_isDigit_7 : decode cX6_isDigit 7 = .ok (.bipush 57, 2) := by decide +kernel
theorem dX6_isDigit_9 : decode cX6_isDigit 9 = .ok (.if_icmp .gt 7, 3) := by decide +kernel
theorem dX6_isDigit_12 : decode cX6_isDigit 12 = .ok (.iconst 1, 1) := by decide +kernel
theorem dX6_isDigit_13 : decode cX6_isDigit 13 = .ok (.goto 4, 3) := by decide +kernel
theorem dX6_isDigit_16 : decode cX6_isDigit 16 = .ok (.iconst 0, 1) := by decide +kernel
theorem dX6_isDigit_17 : decode cX6_isDigit 17 = .ok (.ireturn, 1) := by decide +kernel
theorem dX7_init_0 : decode cX7_init 0 = .ok (.aload_n 0, 1) := by decide +kernel
theorem dX7_init_1 : decode cX7_init 1 = .ok (.invokespecial 3, 3) := by decide +kernel
theorem dX7_init_4 : decode cX7_init 4 = .ok (.aload_n 0, 1) := by decide +kernel
theorem dX7_init_5 : decode cX7_init 5 = .ok (.bipush 10, 2) := by decide +kernel
theorem dX7_init_7 : decode cX7_init 7 = .ok (.anewarray 11, 3) := by decide +kernel
theorem dX7_init_10 : decode cX7_init 10 = .ok (.putfield 13, 3) := by decide +kernel
theorem dX7_init_13 : decode cX7_init 13 = .ok (.aload_n 0, 1) := by decide +kernel
theorem dX7_init_14 : decode cX7_init 14 = .ok (.bipush 10, 2) := by decide +kernel
theorem dX7_init_16 : decode cX7_init 16 = .ok (.bipush 8, 2) := by decide +kernel
theorem dX7_init_18 : decode cX7_init 18 = .ok (.multianewarray 17 2, 4) := by decide +kernel
theorem dX7_init_22 : decode cX7_init 22 = .ok (.putfield 19, 3) := by decide +kernel
theorem dX7_init_25 : decode cX7_init 25 = .ok (.aload_n 0, 1) := by decide +kernel
theorem dX7_init_26 : decode cX7_init 26 = .ok (.sipush 128, 3) := by decide +kernel
theorem dX7_init_29 : decode cX7_init 29 = .ok (.newarray .int, 2) := by decide +kernel
theorem dX7_init_31 : decode cX7_init 31 = .ok (.putfield 22, 3) := by decide +kernel
theorem dX7_init_34 : decode cX7_init 34 = .ok (.aload_n 0, 1) := by decide +kernel
theorem dX7_init_35 : decode cX7_init 35 = .ok (.bipush 7, 2) := by decide +kernel
theorem dX7_init_37 : decode cX7_init 37 = .ok (.newarray .int, 2) := by decide +kernel
theorem dX7_init_39 : decode cX7_init 39 = .ok (.putfield 26, 3) := by decide +kernel
theorem dX7_init_42 : decode cX7_init 42 = .ok (.aload_n 0, 1) := by decide +kernel
theorem dX7_init_43 : decode cX7_init 43 = .ok (.bipush 7, 2) := by decide +kernel
theorem dX7_init_45 : decode cX7_init 45 = .ok (.newarray .int, 2) := by decide +kernel
theorem dX7_init_47 : decode cX7_init 47 = .ok (.putfield 29, 3) := by decide +kernel
theorem dX7_init_50 : decode cX7_init 50 = .ok (.aload_n 0, 1) := by decide +kernel
theorem dX7_init_51 : decode cX7_init 51 = .ok (.bipush 7, 2) := by decide +kernel
theorem dX7_init_53 : decode cX7_init 53 = .ok (.newarray .int, 2) := by decide +kernel
theorem dX7_init_55 : decode cX7_init 55 = .ok (.putfield 32, 3) := by decide +kernel
theorem dX7_init_58 : decode cX7_init 58 = .ok (.aload_n 0, 1) := by decide +kernel
theorem dX7_init_59 : decode cX7_init 59 = .ok (.aconst_null, 1) := by decide +kernel
theorem dX7_init_60 : decode cX7_init 60 = .ok (.putfield 35, 3) := by decide +kernel
theorem dX7_init_63 : decode cX7_init 63 = .ok (.aload_n 0, 1) := by decide +kernel
theorem dX7_init_64 : decode cX7_init 64 = .ok (.iconst 0, 1) := by decide +kernel
theorem dX7_init_65 : decode cX7_init 65 = .ok (.putfield 39, 3) := by decide +kernel
theorem dX7_init_68 : decode cX7_init 68 = .ok (.aload_n 0, 1) := by decide +kernel
theorem dX7_init_69 : decode cX7_init 69 = .ok (.aload_n 1, 1) := by decide +kernel
theorem dX7_init_70 : decode cX7_init 70 = .ok (.putfield 43, 3) := by decide +kernel
theorem dX7_init_73 : decode cX7_init 73 = .ok (.iconst 0, 1) := by decide +kernel
theorem dX7_init_74 : decode cX7_init 74 = .ok (.istore_n 2, 1) := by decide +kernel
theorem dX7_init_75 : decode cX7_init 75 = .ok (.iload_n 2, 1) := by decide +kernel
theorem dX7_init_76 : decode cX7_init 76 = .ok (.bipush 10, 2) := by decide +kernel
theorem dX7_init_78 : decode cX7_init 78 = .ok (.if_icmp .ge 22, 3) := by decide +kernel
theorem dX7_init_81 : decode cX7_init 81 = .ok (.aload_n 0, 1) := by decide +kernel
theorem dX7_init_82 : decode cX7_init 82 = .ok (.getfield 13, 3) := by decide +kernel
theorem dX7_init_85 : decode cX7_init 85 = .ok (.iload_n 2, 1) := by decide +kernel
theorem dX7_init_86 : decode cX7_init 86 = .ok (.new 11, 3) := by decide +kernel
theorem dX7_init_89 : decode cX7_init 89 = .ok (.dup, 1) := by decide +kernel
theorem dX7_init_90 : decode cX7_init 90 = .ok (.invokespecial 47, 3) := by decide +kernel
theorem dX7_init_93 : decode cX7_init 93 = .ok (.aastore, 1) := by decide +kernel
theorem dX7_init_94 : decode cX7_init 94 = .ok (.iinc 2 1, 3) := by decide +kernel
theorem dX7_init_97 : decode cX7_init 97 = .ok (.goto (-22), 3) := by decide +kernel
theorem dX7_init_100 : decode cX7_init 100 = .ok (.return_, 1) := by decide +kernel
theorem dX7_eveningBy_0 : decode cX7_eveningBy 0 = .ok (.aload_n 0, 1) := by decide +kernel
theorem dX7_eveningBy_1 : decode cX7_eveningBy 1 = .ok (.getfield 13, 3) := by decide +kernel
theorem dX7_eveningBy_4 : decode cX7_eveningBy 4 = .ok (.iconst 0, 1) := by decide +kernel
theorem dX7_eveningBy_5 : decode cX7_eveningBy 5 = .ok (.aaload, 1) := by decide +kernel
theorem dX7_eveningBy_6 : decode cX7_eveningBy 6 = .ok (.astore_n 2, 1) := by decide +kernel
theorem dX7_eveningBy_7 : decode cX7_eveningBy 7 = .ok (.aload_n 2, 1) := by decide +kernel
theorem dX7_eveningBy_8 : decode cX7_eveningBy 8 = .ok (.aload_n 1, 1) := by decide +kernel
theorem dX7_eveningBy_9 : decode cX7_eveningBy 9 = .ok (.invokevirtual 48, 3) := by decide +kernel
theorem dX7_eveningBy_12 : decode cX7_eveningBy 12 = .ok (.aload_n 2, 1) := by decide +kernel
theorem dX7_eveningBy_13 : decode cX7_eveningBy 13 = .ok (.aload_n 0, 1) := by decide +kernel
theorem dX7_eveningBy_14 : decode cX7_eveningBy 14 = .ok (.getfield 43, 3) := by decide +kernel
theorem dX7_eveningBy_17 : decode cX7_eveningBy 17 = .ok (.getfield 52, 3) := by decide +kernel
theorem dX7_eveningBy_20 : decode cX7_eveningBy 20 = .ok (.aload_n 0, 1) := by decide +kernel
theorem dX7_eveningBy_21 : decode cX7_eveningBy 21 = .ok (.getfield 43, 3) := by decide +kernel
theorem dX7_eveningBy_24 : decode cX7_eveningBy 24 = .ok (.invokevirtual 57, 3) := by decide +kernel
theorem dX7_eveningBy_27 : decode cX7_eveningBy 27 = .ok (.pop, 1) := by decide +kernel
theorem dX7_eveningBy_28 : decode cX7_eveningBy 28 = .ok (.aload_n 2, 1) := by decide +kernel
theorem dX7_eveningBy_29 : decode cX7_eveningBy 29 = .ok (.aload_n 0, 1) := by decide +kernel
theorem dX7_eveningBy_30 : decode cX7_eveningBy 30 = .ok (.getfield 43, 3) := by decide +kernel
theorem dX7_eveningBy_33 : decode cX7_eveningBy 33 = .ok (.invokevirtual 61, 3) := by decide +kernel
theorem dX7_eveningBy_36 : decode cX7_eveningBy 36 = .ok (.aload_n 2, 1) := by decide +kernel
theorem dX7_eveningBy_37 : decode cX7_eveningBy 37 = .ok (.areturn, 1) := by decide +kernel
theorem dX7_eachForItself_0 : decode cX7_eachForItself 0 = .ok (.aload_n 0, 1) := by decide +kernel
theorem dX7_eachForItself_1 : decode cX7_eachForItself 1 = .ok (.getfield 13, 3) := by decide +kernel
theorem dX7_eachForItself_4 : decode cX7_eachForItself 4 = .ok (.iconst 0, 1) := by decide +kernel
theorem dX7_eachForItself_5 : decode cX7_eachForItself 5 = .ok (.aaload, 1) := by decide +kernel
theorem dX7_eachForItself_6 : decode cX7_eachForItself 6 = .ok (.aload_n 1, 1) := by decide +kernel
theorem dX7_eachForItself_7 : decode cX7_eachForItself 7 = .ok (.invokevirtual 48, 3) := by decide +kernel
theorem dX7_eachForItself_10 : decode cX7_eachForItself 10 = .ok (.aload_n 0, 1) := by decide +kernel
theorem dX7_eachForItself_11 : decode cX7_eachForItself 11 = .ok (.iconst 0, 1) := by decide +kernel
theorem dX7_eachForItself_12 : decode cX7_eachForItself 12 = .ok (.invokevirtual 65, 3) := by decide +kernel
theorem dX7_eachForItself_15 : decode cX7_eachForItself 15 = .ok (.aload_n 0, 1) := by decide +kernel
theorem dX7_eachForItself_16 : decode cX7_eachForItself 16 = .ok (.getfield 19, 3) := by decide +kernel
theorem dX7_eachForItself_19 : decode cX7_eachForItself 19 = .ok (.iconst 0, 1) := by decide +kernel
theorem dX7_eachForItself_20 : decode cX7_eachForItself 20 = .ok (.aaload, 1) := by decide +kernel
theorem dX7_eachForItself_21 : decode cX7_eachForItself 21 = .ok (.iload_n 2, 1) := by decide +kernel
theorem dX7_eachForItself_22 : decode cX7_eachForItself 22 = .ok (.iconst (-1), 1) := by decide +kernel
theorem dX7_eachForItself_23 : decode cX7_eachForItself 23 = .ok (.if_icmp .ne 8, 3) := by decide +kernel
theorem dX7_eachForItself_26 : decode cX7_eachForItself 26 = .ok (.bipush 7, 2) := by decide +kernel
theorem dX7_eachForItself_28 : decode cX7_eachForItself 28 = .ok (.goto 4, 3) := by decide +kernel
theorem dX7_eachForItself_31 : decode cX7_eachForItself 31 = .ok (.iload_n 2, 1) := by decide +kernel
theorem dX7_eachForItself_32 : decode cX7_eachForItself 32 = .ok (.iaload, 1) := by decide +kernel
theorem dX7_eachForItself_33 : decode cX7_eachForItself 33 = .ok (.ireturn, 1) := by decide +kernel
theorem dX7_lookAhead_0 : decode cX7_lookAhead 0 = .ok (.aload_n 0, 1) := by decide +kernel
theorem dX7_lookAhead_1 : decode cX7_lookAhead 1 = .ok (.getfield 13, 3) := by decide +kernel
theorem dX7_lookAhead_4 : decode cX7_lookAhead 4 = .ok (.iload_n 1, 1) := by decide +kernel
theorem dX7_lookAhead_5 : decode cX7_lookAhead 5 = .ok (.aaload, 1) := by decide +kernel
theorem dX7_lookAhead_6 : decode cX7_lookAhead 6 = .ok (.astore_n 2, 1) := by decide +kernel
theorem dX7_lookAhead_7 : decode cX7_lookAhead 7 = .ok (.aload_n 2, 1) := by decide +kernel
theorem dX7_lookAhead_8 : decode cX7_lookAhead 8 = .ok (.aload_n 0, 1) := by decide +kernel
theorem dX7_lookAhead_9 : decode cX7_lookAhead 9 = .ok (.getfield 43, 3) := by decide +kernel
theorem dX7_lookAhead_12 : decode cX7_lookAhead 12 = .ok (.invokevirtual 69, 3) := by decide +kernel
theorem dX7_lookAhead_15 : decode cX7_lookAhead 15 = .ok (.istore_n 3, 1) := by decide +kernel
theorem dX7_lookAhead_16 : decode cX7_lookAhead 16 = .ok (.iload_n 3, 1) := by decide +kernel
theorem dX7_lookAhead_17 : decode cX7_lookAhead 17 = .ok (.ifCond .lt 11, 3) := by decide +kernel
theorem dX7_lookAhead_20 : decode cX7_lookAhead 20 = .ok (.iload_n 1, 1) := by decide +kernel
theorem dX7_lookAhead_21 : decode cX7_lookAhead 21 = .ok (.iconst 1, 1) := by decide +kernel
theorem dX7_lookAhead_22 : decode cX7_lookAhead 22 = .ok (.iadd, 1) := by decide +kernel
theorem dX7_lookAhead_23 : decode cX7_lookAhead 23 = .ok (.bipush 10, 2) := by decide +kernel
theorem dX7_lookAhead_25 : decode cX7_lookAhead 25 = .ok (.if_icmp .lt 34, 3) := by decide +kernel
theorem dX7_lookAhead_28 : decode cX7_lookAhead 28 = .ok (.aload_n 2, 1) := by decide +kernel
theorem dX7_lookAhead_29 : decode cX7_lookAhead 29 = .ok (.getfield 73, 3) := by decide +kernel
theorem dX7_lookAhead_32 : decode cX7_lookAhead 32 = .ok (.iconst 0, 1) := by decide +kernel
theorem dX7_lookAhead_33 : decode cX7_lookAhead 33 = .ok (.aload_n 0, 1) := by decide +kernel
theorem dX7_lookAhead_34 : decode cX7_lookAhead 34 = .ok (.getfield 19, 3) := by decide +kernel
theorem dX7_lookAhead_37 : decode cX7_lookAhead 37 = .ok (.iload_n 1, 1) := by decide +kernel
theorem dX7_lookAhead_38 : decode cX7_lookAhead 38 = .ok (.aaload, 1) := by decide +kernel
theorem dX7_lookAhead_39 : decode cX7_lookAhead 39 = .ok (.iconst 0, 1) := by decide +kernel
theorem dX7_lookAhead_40 : decode cX7_lookAhead 40 = .ok (.bipush 7, 2) := by decide +kernel
theorem dX7_lookAhead_42 : decode cX7_lookAhead 42 = .ok (.invokestatic 76, 3) := by decide +kernel
theorem dX7_lookAhead_45 : decode cX7_lookAhead 45 = .ok (.aload_n 0, 1) := by decide +kernel
theorem dX7_lookAhead_46 : decode cX7_lookAhead 46 = .ok (.getfield 19, 3) := by decide +kernel
theorem dX7_lookAhead_49 : decode cX7_lookAhead 49 = .ok (.iload_n 1, 1) := by decide +kernel
theorem dX7_lookAhead_50 : decode cX7_lookAhead 50 = .ok (.aaload, 1) := by decide +kernel
theorem dX7_lookAhead_51 : decode cX7_lookAhead 51 = .ok (.bipush 7, 2) := by decide +kernel
theorem dX7_lookAhead_53 : decode cX7_lookAhead 53 = .ok (.aload_n 2, 1) := by decide +kernel
theorem dX7_lookAhead_54 : decode cX7_lookAhead 54 = .ok (.getfield 82, 3) := by decide +kernel
theorem dX7_lookAhead_57 : decode cX7_lookAhead 57 = .ok (.iastore, 1) := by decide +kernel
theorem dX7_lookAhead_58 : decode cX7_lookAhead 58 = .ok (.return_, 1) := by decide +kernel
theorem dX7_lookAhead_59 : decode cX7_lookAhead 59 = .ok (.aload_n 0, 1) := by decide +kernel
theorem dX7_lookAhead_60 : decode cX7_lookAhead 60 = .ok (.getfield 13, 3) := by decide +kernel
theorem dX7_lookAhead_63 : decode cX7_lookAhead 63 = .ok (.iload_n 1, 1) := by decide +kernel
theorem dX7_lookAhead_64 : decode cX7_lookAhead 64 = .ok (.iconst 1, 1) := by decide +kernel
theorem dX7_lookAhead_65 : decode cX7_lookAhead 65 = .ok (.iadd, 1) := by decide +kernel
theorem dX7_lookAhead_66 : decode cX7_lookAhead 66 = .ok (.aaload, 1) := by decide +kernel
theorem dX7_lookAhead_67 : decode cX7_lookAhead 67 = .ok (.astore 4, 2) := by decide +kernel
theorem dX7_lookAhead_69 : decode cX7_lookAhead 69 = .ok (.aload 4, 2) := by decide +kernel
theorem dX7_lookAhead_71 : decode cX7_lookAhead 71 = .ok (.aload_n 2, 1) := by decide +kernel
theorem dX7_lookAhead_72 : decode cX7_lookAhead 72 = .ok (.invokevirtual 85, 3) := by decide +kernel
theorem dX7_lookAhead_75 : decode cX7_lookAhead 75 = .ok (.aload 4, 2) := by decide +kernel
theorem dX7_lookAhead_77 : decode cX7_lookAhead 77 = .ok (.iload_n 3, 1) := by decide +kernel
theorem dX7_lookAhead_78 : decode cX7_lookAhead 78 = .ok (.invokevirtual 89, 3) := by decide +kernel
theorem dX7_lookAhead_81 : decode cX7_lookAhead 81 = .ok (.pop, 1) := by decide +kernel
theorem dX7_lookAhead_82 : decode cX7_lookAhead 82 = .ok (.aload_n 0, 1) := by decide +kernel
theorem dX7_lookAhead_83 : decode cX7_lookAhead 83 = .ok (.iload_n 1, 1) := by decide +kernel
theorem dX7_lookAhead_84 : decode cX7_lookAhead 84 = .ok (.iconst 1, 1) := by decide +kernel
theorem dX7_lookAhead_85 : decode cX7_lookAhead 85 = .ok (.iadd, 1) := by decide +kernel
theorem dX7_lookAhead_86 : decode cX7_lookAhead 86 = .ok (.invokevirtual 65, 3) := by decide +kernel
theorem dX7_lookAhead_89 : decode cX7_lookAhead 89 = .ok (.aload_n 0, 1) := by decide +kernel
theorem dX7_lookAhead_90 : decode cX7_lookAhead 90 = .ok (.iload_n 1, 1) := by decide +kernel
theorem dX7_lookAhead_91 : decode cX7_lookAhead 91 = .ok (.invokevirtual 93, 3) := by decide +kernel
theorem dX7_lookAhead_94 : decode cX7_lookAhead 94 = .ok (.iconst 0, 1) := by decide +kernel
theorem dX7_lookAhead_95 : decode cX7_lookAhead 95 = .ok (.istore 5, 2) := by decide +kernel
theorem dX7_lookAhead_97 : decode cX7_lookAhead 97 = .ok (.iload 5, 2) := by decide +kernel
theorem dX7_lookAhead_99 : decode cX7_lookAhead 99 = .ok (.aload_n 2, 1) := by decide +kernel
theorem dX7_lookAhead_100 : decode cX7_lookAhead 100 = .ok (.getfield 96, 3) := by decide +kernel
theorem dX7_lookAhead_103 : decode cX7_lookAhead 103 = .ok (.if_icmp .ge 66, 3) := by decide +kernel
theorem dX7_lookAhead_106 : decode cX7_lookAhead 106 = .ok (.aload_n 2, 1) := by decide +kernel
theorem dX7_lookAhead_107 : decode cX7_lookAhead 107 = .ok (.iload 5, 2) := by decide +kernel
theorem dX7_lookAhead_109 : decode cX7_lookAhead 109 = .ok (.aload_n 0, 1) := by decide +kernel
theorem dX7_lookAhead_110 : decode cX7_lookAhead 110 = .ok (.getfield 43, 3) := by decide +kernel
theorem dX7_lookAhead_113 : decode cX7_lookAhead 113 = .ok (.invokevirtual 99, 3) := by decide +kernel
theorem dX7_lookAhead_116 : decode cX7_lookAhead 116 = .ok (.ifCond .eq 47, 3) := by decide +kernel
theorem dX7_lookAhead_119 : decode cX7_lookAhead 119 = .ok (.aload 4, 2) := by decide +kernel
theorem dX7_lookAhead_121 : decode cX7_lookAhead 121 = .ok (.aload_n 2, 1) := by decide +kernel
theorem dX7_lookAhead_122 : decode cX7_lookAhead 122 = .ok (.invokevirtual 85, 3) := by decide +kernel
theorem dX7_lookAhead_125 : decode cX7_lookAhead 125 = .ok (.aload 4, 2) := by decide +kernel
theorem dX7_lookAhead_127 : decode cX7_lookAhead 127 = .ok (.iload_n 3, 1) := by decide +kernel
theorem dX7_lookAhead_128 : decode cX7_lookAhead 128 = .ok (.iload 5, 2) := by decide +kernel
