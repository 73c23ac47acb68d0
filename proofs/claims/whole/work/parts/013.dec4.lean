theorem dX7_park_57 : decode cX7_park 57 = .ok (.getfield 128, 3) := by decide +kernel
theorem dX7_park_60 : decode cX7_park 60 = .ok (.iastore, 1) := by decide +kernel
theorem dX7_park_61 : decode cX7_park 61 = .ok (.aload_n 0, 1) := by decide +kernel
theorem dX7_park_62 : decode cX7_park 62 = .ok (.getfield 32, 3) := by decide +kernel
theorem dX7_park_65 : decode cX7_park 65 = .ok (.iload_n 1, 1) := by decide +kernel
theorem dX7_park_66 : decode cX7_park 66 = .ok (.dup2, 1) := by decide +kernel
theorem dX7_park_67 : decode cX7_park 67 = .ok (.iaload, 1) := by decide +kernel
theorem dX7_park_68 : decode cX7_park 68 = .ok (.iconst 1, 1) := by decide +kernel
theorem dX7_park_69 : decode cX7_park 69 = .ok (.iadd, 1) := by decide +kernel
theorem dX7_park_70 : decode cX7_park 70 = .ok (.iastore, 1) := by decide +kernel
theorem dX7_park_71 : decode cX7_park 71 = .ok (.aload_n 0, 1) := by decide +kernel
theorem dX7_park_72 : decode cX7_park 72 = .ok (.dup, 1) := by decide +kernel
theorem dX7_park_73 : decode cX7_park 73 = .ok (.getfield 128, 3) := by decide +kernel
theorem dX7_park_76 : decode cX7_park 76 = .ok (.iconst 1, 1) := by decide +kernel
theorem dX7_park_77 : decode cX7_park 77 = .ok (.iadd, 1) := by decide +kernel
theorem dX7_park_78 : decode cX7_park 78 = .ok (.putfield 128, 3) := by decide +kernel
theorem dX7_park_81 : decode cX7_park 81 = .ok (.aload_n 0, 1) := by decide +kernel
theorem dX7_park_82 : decode cX7_park 82 = .ok (.getfield 128, 3) := by decide +kernel
theorem dX7_park_85 : decode cX7_park 85 = .ok (.iconst 1, 1) := by decide +kernel
theorem dX7_park_86 : decode cX7_park 86 = .ok (.isub, 1) := by decide +kernel
theorem dX7_park_87 : decode cX7_park 87 = .ok (.ireturn, 1) := by decide +kernel
theorem dX7_clear_0 : decode cX7_clear 0 = .ok (.aload_n 0, 1) := by decide +kernel
theorem dX7_clear_1 : decode cX7_clear 1 = .ok (.getfield 128, 3) := by decide +kernel
theorem dX7_clear_4 : decode cX7_clear 4 = .ok (.istore_n 1, 1) := by decide +kernel
theorem dX7_clear_5 : decode cX7_clear 5 = .ok (.aload_n 0, 1) := by decide +kernel
theorem dX7_clear_6 : decode cX7_clear 6 = .ok (.iconst 0, 1) := by decide +kernel
theorem dX7_clear_7 : decode cX7_clear 7 = .ok (.putfield 128, 3) := by decide +kernel
theorem dX7_clear_10 : decode cX7_clear 10 = .ok (.iconst 0, 1) := by decide +kernel
theorem dX7_clear_11 : decode cX7_clear 11 = .ok (.istore_n 2, 1) := by decide +kernel
theorem dX7_clear_12 : decode cX7_clear 12 = .ok (.iload_n 2, 1) := by decide +kernel
theorem dX7_clear_13 : decode cX7_clear 13 = .ok (.iconst 3, 1) := by decide +kernel
theorem dX7_clear_14 : decode cX7_clear 14 = .ok (.if_icmp .ge 16, 3) := by decide +kernel
theorem dX7_clear_17 : decode cX7_clear 17 = .ok (.aload_n 0, 1) := by decide +kernel
theorem dX7_clear_18 : decode cX7_clear 18 = .ok (.getfield 32, 3) := by decide +kernel
theorem dX7_clear_21 : decode cX7_clear 21 = .ok (.iload_n 2, 1) := by decide +kernel
theorem dX7_clear_22 : decode cX7_clear 22 = .ok (.iconst 0, 1) := by decide +kernel
theorem dX7_clear_23 : decode cX7_clear 23 = .ok (.iastore, 1) := by decide +kernel
theorem dX7_clear_24 : decode cX7_clear 24 = .ok (.iinc 2 1, 3) := by decide +kernel
theorem dX7_clear_27 : decode cX7_clear 27 = .ok (.goto (-15), 3) := by decide +kernel
theorem dX7_clear_30 : decode cX7_clear 30 = .ok (.iload_n 1, 1) := by decide +kernel
theorem dX7_clear_31 : decode cX7_clear 31 = .ok (.ireturn, 1) := by decide +kernel
set_option maxRecDepth 20000 in
theorem ggX7_at_X7_isTrack : GoodIn wsX7_at wsX7_isTrack := goodIn_r _ [6, 7, 8, 5, 9] (by decide +kernel) (by decide +kernel)
set_option maxRecDepth 20000 in
theorem gX7_at_X7_isTrack : GoodIn wsX7_at (va_wsS RX7 100 yX7_isTrack wsX7_isTrack) := goodIn_app (goodIn_of _ (by decide +kernel)) ggX7_at_X7_isTrack
theorem dX7_at_0 : decode cX7_at 0 = .ok (.iload_n 1, 1) := by decide +kernel
theorem dX7_at_1 : decode cX7_at 1 = .ok (.invokestatic 100, 3) := by decide +kernel
theorem dX7_at_4 : decode cX7_at 4 = .ok (.ifCond .ne 6, 3) := by decide +kernel
theorem dX7_at_7 : decode cX7_at 7 = .ok (.bipush (-2), 2) := by decide +kernel
theorem dX7_at_9 : decode cX7_at 9 = .ok (.ireturn, 1) := by decide +kernel
theorem dX7_at_10 : decode cX7_at 10 = .ok (.iload_n 2, 1) := by decide +kernel
theorem dX7_at_11 : decode cX7_at 11 = .ok (.ifCond .ge 6, 3) := by decide +kernel
theorem dX7_at_14 : decode cX7_at 14 = .ok (.bipush (-3), 2) := by decide +kernel
theorem dX7_at_16 : decode cX7_at 16 = .ok (.ireturn, 1) := by decide +kernel
theorem dX7_at_17 : decode cX7_at 17 = .ok (.iload_n 2, 1) := by decide +kernel
theorem dX7_at_18 : decode cX7_at 18 = .ok (.aload_n 0, 1) := by decide +kernel
theorem dX7_at_19 : decode cX7_at 19 = .ok (.getfield 32, 3) := by decide +kernel
theorem dX7_at_22 : decode cX7_at 22 = .ok (.iload_n 1, 1) := by decide +kernel
theorem dX7_at_23 : decode cX7_at 23 = .ok (.iaload, 1) := by decide +kernel
theorem dX7_at_24 : decode cX7_at 24 = .ok (.if_icmp .ge 25, 3) := by decide +kernel
theorem dX7_at_27 : decode cX7_at 27 = .ok (.aload_n 0, 1) := by decide +kernel
theorem dX7_at_28 : decode cX7_at 28 = .ok (.getfield 29, 3) := by decide +kernel
theorem dX7_at_31 : decode cX7_at 31 = .ok (.iconst 5, 1) := by decide +kernel
theorem dX7_at_32 : decode cX7_at 32 = .ok (.iload_n 1, 1) := by decide +kernel
theorem dX7_at_33 : decode cX7_at 33 = .ok (.imul, 1) := by decide +kernel
theorem dX7_at_34 : decode cX7_at 34 = .ok (.aload_n 0, 1) := by decide +kernel
theorem dX7_at_35 : decode cX7_at 35 = .ok (.getfield 32, 3) := by decide +kernel
theorem dX7_at_38 : decode cX7_at 38 = .ok (.iload_n 1, 1) := by decide +kernel
theorem dX7_at_39 : decode cX7_at 39 = .ok (.iaload, 1) := by decide +kernel
theorem dX7_at_40 : decode cX7_at 40 = .ok (.iadd, 1) := by decide +kernel
theorem dX7_at_41 : decode cX7_at 41 = .ok (.iconst 1, 1) := by decide +kernel
theorem dX7_at_42 : decode cX7_at 42 = .ok (.isub, 1) := by decide +kernel
theorem dX7_at_43 : decode cX7_at 43 = .ok (.iload_n 2, 1) := by decide +kernel
theorem dX7_at_44 : decode cX7_at 44 = .ok (.isub, 1) := by decide +kernel
theorem dX7_at_45 : decode cX7_at 45 = .ok (.iaload, 1) := by decide +kernel
theorem dX7_at_46 : decode cX7_at 46 = .ok (.goto 4, 3) := by decide +kernel
theorem dX7_at_49 : decode cX7_at 49 = .ok (.iconst (-1), 1) := by decide +kernel
theorem dX7_at_50 : decode cX7_at 50 = .ok (.ireturn, 1) := by decide +kernel
theorem dX7_number_0 : decode cX7_number 0 = .ok (.lconst 0, 1) := by decide +kernel
theorem dX7_number_1 : decode cX7_number 1 = .ok (.lstore_n 1, 1) := by decide +kernel
theorem dX7_number_2 : decode cX7_number 2 = .ok (.iconst 0, 1) := by decide +kernel
theorem dX7_number_3 : decode cX7_number 3 = .ok (.istore_n 3, 1) := by decide +kernel
theorem dX7_number_4 : decode cX7_number 4 = .ok (.iload_n 3, 1) := by decide +kernel
theorem dX7_number_5 : decode cX7_number 5 = .ok (.iconst 3, 1) := by decide +kernel
theorem dX7_number_6 : decode cX7_number 6 = .ok (.if_icmp .ge 59, 3) := by decide +kernel
theorem dX7_number_9 : decode cX7_number 9 = .ok (.iconst 4, 1) := by decide +kernel
theorem dX7_number_10 : decode cX7_number 10 = .ok (.istore 4, 2) := by decide +kernel
theorem dX7_number_12 : decode cX7_number 12 = .ok (.iload 4, 2) := by decide +kernel
theorem dX7_number_14 : decode cX7_number 14 = .ok (.ifCond .lt 45, 3) := by decide +kernel
theorem dX7_number_17 : decode cX7_number 17 = .ok (.ldc2_w 131, 3) := by decide +kernel
theorem dX7_number_20 : decode cX7_number 20 = .ok (.lload_n 1, 1) := by decide +kernel
theorem dX7_number_21 : decode cX7_number 21 = .ok (.lmul, 1) := by decide +kernel
theorem dX7_number_22 : decode cX7_number 22 = .ok (.iload 4, 2) := by decide +kernel
theorem dX7_number_24 : decode cX7_number 24 = .ok (.aload_n 0, 1) := by decide +kernel
theorem dX7_number_25 : decode cX7_number 25 = .ok (.getfield 67, 3) := by decide +kernel
theorem dX7_number_28 : decode cX7_number 28 = .ok (.iload_n 3, 1) := by decide +kernel
theorem dX7_number_29 : decode cX7_number 29 = .ok (.iaload, 1) := by decide +kernel
theorem dX7_number_30 : decode cX7_number 30 = .ok (.if_icmp .ge 19, 3) := by decide +kernel
theorem dX7_number_33 : decode cX7_number 33 = .ok (.aload_n 0, 1) := by decide +kernel
theorem dX7_number_34 : decode cX7_number 34 = .ok (.getfield 64, 3) := by decide +kernel
theorem dX7_number_37 : decode cX7_number 37 = .ok (.iconst 5, 1) := by decide +kernel
theorem dX7_number_38 : decode cX7_number 38 = .ok (.iload_n 3, 1) := by decide +kernel
theorem dX7_number_39 : decode cX7_number 39 = .ok (.imul, 1) := by decide +kernel
theorem dX7_number_40 : decode cX7_number 40 = .ok (.iload 4, 2) := by decide +kernel
theorem dX7_number_42 : decode cX7_number 42 = .ok (.iadd, 1) := by decide +kernel
theorem dX7_number_43 : decode cX7_number 43 = .ok (.iaload, 1) := by decide +kernel
theorem dX7_number_44 : decode cX7_number 44 = .ok (.iconst 1, 1) := by decide +kernel
theorem dX7_number_45 : decode cX7_number 45 = .ok (.iadd, 1) := by decide +kernel
theorem dX7_number_46 : decode cX7_number 46 = .ok (.goto 4, 3) := by decide +kernel
theorem dX7_number_49 : decode cX7_number 49 = .ok (.iconst 0, 1) := by decide +kernel
theorem dX7_number_50 : decode cX7_number 50 = .ok (.i2l, 1) := by decide +kernel
theorem dX7_number_51 : decode cX7_number 51 = .ok (.ladd, 1) := by decide +kernel
theorem dX7_number_52 : decode cX7_number 52 = .ok (.lstore_n 1, 1) := by decide +kernel
theorem dX7_number_53 : decode cX7_number 53 = .ok (.iinc 4 (-1), 3) := by decide +kernel
theorem dX7_number_56 : decode cX7_number 56 = .ok (.goto (-44), 3) := by decide +kernel
theorem dX7_number_59 : decode cX7_number 59 = .ok (.iinc 3 1, 3) := by decide +kernel
theorem dX7_number_62 : decode cX7_number 62 = .ok (.goto (-58), 3) := by decide +kernel
theorem dX7_number_65 : decode cX7_number 65 = .ok (.lload_n 1, 1) := by decide +kernel
theorem dX7_number_66 : decode cX7_number 66 = .ok (.lreturn, 1) := by decide +kernel
theorem dX7_read_0 : decode cX7_read 0 = .ok (.lload_n 1, 1) := by decide +kernel
theorem dX7_read_1 : decode cX7_read 1 = .ok (.lstore_n 3, 1) := by decide +kernel
theorem dX7_read_2 : decode cX7_read 2 = .ok (.iconst 2, 1) := by decide +kernel
theorem dX7_read_3 : decode cX7_read 3 = .ok (.istore 5, 2) := by decide +kernel
theorem dX7_read_5 : decode cX7_read 5 = .ok (.iload 5, 2) := by decide +kernel
theorem dX7_read_7 : decode cX7_read 7 = .ok (.ifCond .lt 78, 3) := by decide +kernel
theorem dX7_read_10 : decode cX7_read 10 = .ok (.aload_n 0, 1) := by decide +kernel
theorem dX7_read_11 : decode cX7_read 11 = .ok (.getfield 67, 3) := by decide +kernel
theorem dX7_read_14 : decode cX7_read 14 = .ok (.iload 5, 2) := by decide +kernel
theorem dX7_read_16 : decode cX7_read 16 = .ok (.iconst 0, 1) := by decide +kernel
theorem dX7_read_17 : decode cX7_read 17 = .ok (.iastore, 1) := by decide +kernel
theorem dX7_read_18 : decode cX7_read 18 = .ok (.iconst 0, 1) := by decide +kernel
theorem dX7_read_19 : decode cX7_read 19 = .ok (.istore 6, 2) := by decide +kernel
theorem dX7_read_21 : decode cX7_read 21 = .ok (.iload 6, 2) := by decide +kernel
theorem dX7_read_23 : decode cX7_read 23 = .ok (.iconst 5, 1) := by decide +kernel
theorem dX7_read_24 : decode cX7_read 24 = .ok (.if_icmp .ge 55, 3) := by decide +kernel
theorem dX7_read_27 : decode cX7_read 27 = .ok (.lload_n 3, 1) := by decide +kernel
theorem dX7_read_28 : decode cX7_read 28 = .ok (.ldc2_w 131, 3) := by decide +kernel
theorem dX7_read_31 : decode cX7_read 31 = .ok (.lrem, 1) := by decide +kernel
theorem dX7_read_32 : decode cX7_read 32 = .ok (.l2i, 1) := by decide +kernel
theorem dX7_read_33 : decode cX7_read 33 = .ok (.istore 7, 2) := by decide +kernel
theorem dX7_read_35 : decode cX7_read 35 = .ok (.lload_n 3, 1) := by decide +kernel
theorem dX7_read_36 : decode cX7_read 36 = .ok (.ldc2_w 131, 3) := by decide +kernel
theorem dX7_read_39 : decode cX7_read 39 = .ok (.ldiv, 1) := by decide +kernel
theorem dX7_read_40 : decode cX7_read 40 = .ok (.lstore_n 3, 1) := by decide +kernel
theorem dX7_read_41 : decode cX7_read 41 = .ok (.iload 7, 2) := by decide +kernel
theorem dX7_read_43 : decode cX7_read 43 = .ok (.ifCond .le 30, 3) := by decide +kernel
theorem dX7_read_46 : decode cX7_read 46 = .ok (.aload_n 0, 1) := by decide +kernel
theorem dX7_read_47 : decode cX7_read 47 = .ok (.getfield 64, 3) := by decide +kernel
theorem dX7_read_50 : decode cX7_read 50 = .ok (.iconst 5, 1) := by decide +kernel
theorem dX7_read_51 : decode cX7_read 51 = .ok (.iload 5, 2) := by decide +kernel
theorem dX7_read_53 : decode cX7_read 53 = .ok (.imul, 1) := by decide +kernel
theorem dX7_read_54 : decode cX7_read 54 = .ok (.iload 6, 2) := by decide +kernel
theorem dX7_read_56 : decode cX7_read 56 = .ok (.iadd, 1) := by decide +kernel
theorem dX7_read_57 : decode cX7_read 57 = .ok (.iload 7, 2) := by decide +kernel
theorem dX7_read_59 : decode cX7_read 59 = .ok (.iconst 1, 1) := by decide +kernel
theorem dX7_read_60 : decode cX7_read 60 = .ok (.isub, 1) := by decide +kernel
theorem dX7_read_61 : decode cX7_read 61 = .ok (.iastore, 1) := by decide +kernel
theorem dX7_read_62 : decode cX7_read 62 = .ok (.aload_n 0, 1) := by decide +kernel
theorem dX7_read_63 : decode cX7_read 63 = .ok (.getfield 67, 3) := by decide +kernel
theorem dX7_read_66 : decode cX7_read 66 = .ok (.iload 5, 2) := by decide +kernel
theorem dX7_read_68 : decode cX7_read 68 = .ok (.dup2, 1) := by decide +kernel
theorem dX7_read_69 : decode cX7_read 69 = .ok (.iaload, 1) := by decide +kernel
theorem dX7_read_70 : decode cX7_read 70 = .ok (.iconst 1, 1) := by decide +kernel
theorem dX7_read_71 : decode cX7_read 71 = .ok (.iadd, 1) := by decide +kernel
theorem dX7_read_72 : decode cX7_read 72 = .ok (.iastore, 1) := by decide +kernel
theorem dX7_read_73 : decode cX7_read 73 = .ok (.iinc 6 1, 3) := by decide +kernel
theorem dX7_read_76 : decode cX7_read 76 = .ok (.goto (-55), 3) := by decide +kernel
theorem dX7_read_79 : decode cX7_read 79 = .ok (.iinc 5 (-1), 3) := by decide +kernel
theorem dX7_read_82 : decode cX7_read 82 = .ok (.goto (-77), 3) := by decide +kernel
theorem dX7_read_85 : decode cX7_read 85 = .ok (.return_, 1) := by decide +kernel
set_option maxRecDepth 20000 in
theorem ggX7_find_X7_number : GoodIn wsX7_find wsX7_number := goodIn_r _ [10, 11, 12, 13, 14, 15, 16, 17, 18, 19, 20, 21, 22, 23, 24, 25, 26, 27, 28, 29, 30, 31, 32, 33, 34, 35, 36, 37, 38, 39, 40, 41, 42, 43] (by decide +kernel) (by decide +kernel)
set_option maxRecDepth 20000 in
theorem gX7_find_X7_number : GoodIn wsX7_find (wsV RX7 133 RX7 yX7_number wsX7_number) := goodIn_app (goodIn_of _ (by decide +kernel)) ggX7_find_X7_number
theorem dX7_find_0 : decode cX7_find 0 = .ok (.aload_n 0, 1) := by decide +kernel
theorem dX7_find_1 : decode cX7_find 1 = .ok (.invokevirtual 133, 3) := by decide +kernel
theorem dX7_find_4 : decode cX7_find 4 = .ok (.lstore_n 2, 1) := by decide +kernel
theorem dX7_find_5 : decode cX7_find 5 = .ok (.lload_n 2, 1) := by decide +kernel
theorem dX7_find_6 : decode cX7_find 6 = .ok (.ldc2_w 137, 3) := by decide +kernel
theorem dX7_find_9 : decode cX7_find 9 = .ok (.lrem, 1) := by decide +kernel
theorem dX7_find_10 : decode cX7_find 10 = .ok (.l2i, 1) := by decide +kernel
theorem dX7_find_11 : decode cX7_find 11 = .ok (.istore 4, 2) := by decide +kernel
theorem dX7_find_13 : decode cX7_find 13 = .ok (.aload_n 0, 1) := by decide +kernel
theorem dX7_find_14 : decode cX7_find 14 = .ok (.getfield 61, 3) := by decide +kernel
theorem dX7_find_17 : decode cX7_find 17 = .ok (.iload 4, 2) := by decide +kernel
theorem dX7_find_19 : decode cX7_find 19 = .ok (.iaload, 1) := by decide +kernel
theorem dX7_find_20 : decode cX7_find 20 = .ok (.ifCond .le 43, 3) := by decide +kernel
theorem dX7_find_23 : decode cX7_find 23 = .ok (.aload_n 0, 1) := by decide +kernel
theorem dX7_find_24 : decode cX7_find 24 = .ok (.getfield 47, 3) := by decide +kernel
theorem dX7_find_27 : decode cX7_find 27 = .ok (.aload_n 0, 1) := by decide +kernel
theorem dX7_find_28 : decode cX7_find 28 = .ok (.getfield 61, 3) := by decide +kernel
theorem dX7_find_31 : decode cX7_find 31 = .ok (.iload 4, 2) := by decide +kernel
theorem dX7_find_33 : decode cX7_find 33 = .ok (.iaload, 1) := by decide +kernel
theorem dX7_find_34 : decode cX7_find 34 = .ok (.iconst 1, 1) := by decide +kernel
theorem dX7_find_35 : decode cX7_find 35 = .ok (.isub, 1) := by decide +kernel
theorem dX7_find_36 : decode cX7_find 36 = .ok (.laload, 1) := by decide +kernel
theorem dX7_find_37 : decode cX7_find 37 = .ok (.lload_n 2, 1) := by decide +kernel
theorem dX7_find_38 : decode cX7_find 38 = .ok (.lcmp, 1) := by decide +kernel
theorem dX7_find_39 : decode cX7_find 39 = .ok (.ifCond .eq 24, 3) := by decide +kernel
theorem dX7_find_42 : decode cX7_find 42 = .ok (.iload 4, 2) := by decide +kernel
theorem dX7_find_44 : decode cX7_find 44 = .ok (.sipush 16383, 3) := by decide +kernel
theorem dX7_find_47 : decode cX7_find 47 = .ok (.if_icmp .ne 7, 3) := by decide +kernel
theorem dX7_find_50 : decode cX7_find 50 = .ok (.iconst 0, 1) := by decide +kernel
theorem dX7_find_51 : decode cX7_find 51 = .ok (.goto 7, 3) := by decide +kernel
theorem dX7_find_54 : decode cX7_find 54 = .ok (.iload 4, 2) := by decide +kernel
theorem dX7_find_56 : decode cX7_find 56 = .ok (.iconst 1, 1) := by decide +kernel
theorem dX7_find_57 : decode cX7_find 57 = .ok (.iadd, 1) := by decide +kernel
theorem dX7_find_58 : decode cX7_find 58 = .ok (.istore 4, 2) := by decide +kernel
theorem dX7_find_60 : decode cX7_find 60 = .ok (.goto (-47), 3) := by decide +kernel
theorem dX7_find_63 : decode cX7_find 63 = .ok (.aload_n 0, 1) := by decide +kernel
theorem dX7_find_64 : decode cX7_find 64 = .ok (.getfield 61, 3) := by decide +kernel
theorem dX7_find_67 : decode cX7_find 67 = .ok (.iload 4, 2) := by decide +kernel
theorem dX7_find_69 : decode cX7_find 69 = .ok (.iaload, 1) := by decide +kernel
theorem dX7_find_70 : decode cX7_find 70 = .ok (.ifCond .ne 44, 3) := by decide +kernel
theorem dX7_find_73 : decode cX7_find 73 = .ok (.aload_n 0, 1) := by decide +kernel
theorem dX7_find_74 : decode cX7_find 74 = .ok (.getfield 47, 3) := by decide +kernel
theorem dX7_find_77 : decode cX7_find 77 = .ok (.aload_n 0, 1) := by decide +kernel
theorem dX7_find_78 : decode cX7_find 78 = .ok (.getfield 139, 3) := by decide +kernel
theorem dX7_find_81 : decode cX7_find 81 = .ok (.lload_n 2, 1) := by decide +kernel
theorem dX7_find_82 : decode cX7_find 82 = .ok (.lastore, 1) := by decide +kernel
theorem dX7_find_83 : decode cX7_find 83 = .ok (.aload_n 0, 1) := by decide +kernel
theorem dX7_find_84 : decode cX7_find 84 = .ok (.getfield 51, 3) := by decide +kernel
theorem dX7_find_87 : decode cX7_find 87 = .ok (.aload_n 0, 1) := by decide +kernel
theorem dX7_find_88 : decode cX7_find 88 = .ok (.getfield 139, 3) := by decide +kernel
theorem dX7_find_91 : decode cX7_find 91 = .ok (.iload_n 1, 1) := by decide +kernel
theorem dX7_find_92 : decode cX7_find 92 = .ok (.iastore, 1) := by decide +kernel
theorem dX7_find_93 : decode cX7_find 93 = .ok (.aload_n 0, 1) := by decide +kernel
theorem dX7_find_94 : decode cX7_find 94 = .ok (.dup, 1) := by decide +kernel
theorem dX7_find_95 : decode cX7_find 95 = .ok (.getfield 139, 3) := by decide +kernel
theorem dX7_find_98 : decode cX7_find 98 = .ok (.iconst 1, 1) := by decide +kernel
theorem dX7_find_99 : decode cX7_find 99 = .ok (.iadd, 1) := by decide +kernel
theorem dX7_find_100 : decode cX7_find 100 = .ok (.putfield 139, 3) := by decide +kernel
theorem dX7_find_103 : decode cX7_find 103 = .ok (.aload_n 0, 1) := by decide +kernel
theorem dX7_find_104 : decode cX7_find 104 = .ok (.getfield 61, 3) := by decide +kernel
theorem dX7_find_107 : decode cX7_find 107 = .ok (.iload 4, 2) := by decide +kernel
theorem dX7_find_109 : decode cX7_find 109 = .ok (.aload_n 0, 1) := by decide +kernel
theorem dX7_find_110 : decode cX7_find 110 = .ok (.getfield 139, 3) := by decide +kernel
theorem dX7_find_113 : decode cX7_find 113 = .ok (.iastore, 1) := by decide +kernel
theorem dX7_find_114 : decode cX7_find 114 = .ok (.aload_n 0, 1) := by decide +kernel
theorem dX7_find_115 : decode cX7_find 115 = .ok (.getfield 61, 3) := by decide +kernel
theorem dX7_find_118 : decode cX7_find 118 = .ok (.iload 4, 2) := by decide +kernel
theorem dX7_find_120 : decode cX7_find 120 = .ok (.iaload, 1) := by decide +kernel
theorem dX7_find_121 : decode cX7_find 121 = .ok (.iconst 1, 1) := by decide +kernel
theorem dX7_find_122 : decode cX7_find 122 = .ok (.isub, 1) := by decide +kernel
theorem dX7_find_123 : decode cX7_find 123 = .ok (.ireturn, 1) := by decide +kernel
set_option maxRecDepth 20000 in
theorem ggX7_findStates_X7_find : GoodIn wsX7_findStates wsX7_find := goodIn_r _ [17, 18, 1, 10, 6, 8, 19, 20, 21, 16, 22, 23, 4, 2, 34, 35, 36, 37, 38, 39, 40, 41, 42, 43, 44, 45, 46, 47, 48, 49, 50, 51, 52, 53, 54, 55, 56, 57, 58, 59, 60, 61, 62, 63] (by decide +kernel) (by decide +kernel)
set_option maxRecDepth 20000 in
theorem gX7_findStates_X7_find : GoodIn wsX7_findStates (wsV RX7 142 RX7 yX7_find wsX7_find) := goodIn_app (goodIn_of _ (by decide +kernel)) ggX7_findStates_X7_find
set_option maxRecDepth 20000 in
theorem ggX7_findStates_X7_read : GoodIn wsX7_findStates wsX7_read := goodIn_r _ [27, 4, 23, 2, 34, 35, 36, 37, 38, 39, 40, 41, 42, 43, 44, 45, 46, 47, 48, 49, 50, 51, 52, 53, 54, 55, 56, 57, 58, 59, 60, 61, 62, 63] (by decide +kernel) (by decide +kernel)
set_option maxRecDepth 20000 in
theorem gX7_findStates_X7_read : GoodIn wsX7_findStates (wsV RX7 146 RX7 yX7_read wsX7_read) := goodIn_app (goodIn_of _ (by decide +kernel)) ggX7_findStates_X7_read
set_option maxRecDepth 20000 in
theorem ggX7_findStates_X7_isWanted : GoodIn wsX7_findStates wsX7_isWanted := goodIn_r _ [31, 32, 33, 34, 35, 36, 37, 38, 39, 40, 41, 42, 43, 44, 45, 46, 47, 48, 49, 50, 51, 52, 53, 54, 55, 56, 57, 58, 59, 60, 61, 62, 63] (by decide +kernel) (by decide +kernel)
set_option maxRecDepth 20000 in
theorem gX7_findStates_X7_isWanted : GoodIn wsX7_findStates (wsV RX7 114 RX7 yX7_isWanted wsX7_isWanted) := goodIn_app (goodIn_of _ (by decide +kernel)) ggX7_findStates_X7_isWanted
theorem dX7_findStates_0 : decode cX7_findStates 0 = .ok (.iconst 0, 1) := by decide +kernel
theorem dX7_findStates_1 : decode cX7_findStates 1 = .ok (.istore_n 1, 1) := by decide +kernel
theorem dX7_findStates_2 : decode cX7_findStates 2 = .ok (.iload_n 1, 1) := by decide +kernel
theorem dX7_findStates_3 : decode cX7_findStates 3 = .ok (.sipush 16384, 3) := by decide +kernel
theorem dX7_findStates_6 : decode cX7_findStates 6 = .ok (.if_icmp .ge 16, 3) := by decide +kernel
theorem dX7_findStates_9 : decode cX7_findStates 9 = .ok (.aload_n 0, 1) := by decide +kernel
theorem dX7_findStates_10 : decode cX7_findStates 10 = .ok (.getfield 61, 3) := by decide +kernel
theorem dX7_findStates_13 : decode cX7_findStates 13 = .ok (.iload_n 1, 1) := by decide +kernel
theorem dX7_findStates_14 : decode cX7_findStates 14 = .ok (.iconst 0, 1) := by decide +kernel
theorem dX7_findStates_15 : decode cX7_findStates 15 = .ok (.iastore, 1) := by decide +kernel
theorem dX7_findStates_16 : decode cX7_findStates 16 = .ok (.iinc 1 1, 3) := by decide +kernel
theorem dX7_findStates_19 : decode cX7_findStates 19 = .ok (.goto (-17), 3) := by decide +kernel
theorem dX7_findStates_22 : decode cX7_findStates 22 = .ok (.iconst 0, 1) := by decide +kernel
theorem dX7_findStates_23 : decode cX7_findStates 23 = .ok (.istore_n 1, 1) := by decide +kernel
theorem dX7_findStates_24 : decode cX7_findStates 24 = .ok (.iload_n 1, 1) := by decide +kernel
theorem dX7_findStates_25 : decode cX7_findStates 25 = .ok (.bipush 15, 2) := by decide +kernel
theorem dX7_findStates_27 : decode cX7_findStates 27 = .ok (.if_icmp .ge 21, 3) := by decide +kernel
theorem dX7_findStates_30 : decode cX7_findStates 30 = .ok (.aload_n 0, 1) := by decide +kernel
theorem dX7_findStates_31 : decode cX7_findStates 31 = .ok (.getfield 64, 3) := by decide +kernel
theorem dX7_findStates_34 : decode cX7_findStates 34 = .ok (.iload_n 1, 1) := by decide +kernel
theorem dX7_findStates_35 : decode cX7_findStates 35 = .ok (.aload_n 0, 1) := by decide +kernel
theorem dX7_findStates_36 : decode cX7_findStates 36 = .ok (.getfield 29, 3) := by decide +kernel
theorem dX7_findStates_39 : decode cX7_findStates 39 = .ok (.iload_n 1, 1) := by decide +kernel
theorem dX7_findStates_40 : decode cX7_findStates 40 = .ok (.iaload, 1) := by decide +kernel
theorem dX7_findStates_41 : decode cX7_findStates 41 = .ok (.iastore, 1) := by decide +kernel
theorem dX7_findStates_42 : decode cX7_findStates 42 = .ok (.iinc 1 1, 3) := by decide +kernel
theorem dX7_findStates_45 : decode cX7_findStates 45 = .ok (.goto (-21), 3) := by decide +kernel
theorem dX7_findStates_48 : decode cX7_findStates 48 = .ok (.iconst 0, 1) := by decide +kernel
theorem dX7_findStates_49 : decode cX7_findStates 49 = .ok (.istore_n 1, 1) := by decide +kernel
theorem dX7_findStates_50 : decode cX7_findStates 50 = .ok (.iload_n 1, 1) := by decide +kernel
theorem dX7_findStates_51 : decode cX7_findStates 51 = .ok (.iconst 3, 1) := by decide +kernel
theorem dX7_findStates_52 : decode cX7_findStates 52 = .ok (.if_icmp .ge 21, 3) := by decide +kernel
theorem dX7_findStates_55 : decode cX7_findStates 55 = .ok (.aload_n 0, 1) := by decide +kernel
theorem dX7_findStates_56 : decode cX7_findStates 56 = .ok (.getfield 67, 3) := by decide +kernel
theorem dX7_findStates_59 : decode cX7_findStates 59 = .ok (.iload_n 1, 1) := by decide +kernel
theorem dX7_findStates_60 : decode cX7_findStates 60 = .ok (.aload_n 0, 1) := by decide +kernel
theorem dX7_findStates_61 : decode cX7_findStates 61 = .ok (.getfield 32, 3) := by decide +kernel
theorem dX7_findStates_64 : decode cX7_findStates 64 = .ok (.iload_n 1, 1) := by decide +kernel
theorem dX7_findStates_65 : decode cX7_findStates 65 = .ok (.iaload, 1) := by decide +kernel
theorem dX7_findStates_66 : decode cX7_findStates 66 = .ok (.iastore, 1) := by decide +kernel
theorem dX7_findStates_67 : decode cX7_findStates 67 = .ok (.iinc 1 1, 3) := by decide +kernel
theorem dX7_findStates_70 : decode cX7_findStates 70 = .ok (.goto (-20), 3) := by decide +kernel
theorem dX7_findStates_73 : decode cX7_findStates 73 = .ok (.aload_n 0, 1) := by decide +kernel
theorem dX7_findStates_74 : decode cX7_findStates 74 = .ok (.iconst 0, 1) := by decide +kernel
theorem dX7_findStates_75 : decode cX7_findStates 75 = .ok (.putfield 139, 3) := by decide +kernel
theorem dX7_findStates_78 : decode cX7_findStates 78 = .ok (.aload_n 0, 1) := by decide +kernel
theorem dX7_findStates_79 : decode cX7_findStates 79 = .ok (.iconst 0, 1) := by decide +kernel
theorem dX7_findStates_80 : decode cX7_findStates 80 = .ok (.invokevirtual 142, 3) := by decide +kernel
theorem dX7_findStates_83 : decode cX7_findStates 83 = .ok (.istore_n 1, 1) := by decide +kernel
theorem dX7_findStates_84 : decode cX7_findStates 84 = .ok (.iload_n 1, 1) := by decide +kernel
theorem dX7_findStates_85 : decode cX7_findStates 85 = .ok (.istore_n 2, 1) := by decide +kernel
theorem dX7_findStates_86 : decode cX7_findStates 86 = .ok (.iload_n 2, 1) := by decide +kernel
theorem dX7_findStates_87 : decode cX7_findStates 87 = .ok (.aload_n 0, 1) := by decide +kernel
theorem dX7_findStates_88 : decode cX7_findStates 88 = .ok (.getfield 139, 3) := by decide +kernel
theorem dX7_findStates_91 : decode cX7_findStates 91 = .ok (.if_icmp .ge 293, 3) := by decide +kernel
theorem dX7_findStates_94 : decode cX7_findStates 94 = .ok (.iconst 0, 1) := by decide +kernel
theorem dX7_findStates_95 : decode cX7_findStates 95 = .ok (.istore_n 3, 1) := by decide +kernel
theorem dX7_findStates_96 : decode cX7_findStates 96 = .ok (.iload_n 3, 1) := by decide +kernel
theorem dX7_findStates_97 : decode cX7_findStates 97 = .ok (.bipush 9, 2) := by decide +kernel
theorem dX7_findStates_99 : decode cX7_findStates 99 = .ok (.if_icmp .ge 21, 3) := by decide +kernel
theorem dX7_findStates_102 : decode cX7_findStates 102 = .ok (.aload_n 0, 1) := by decide +kernel
theorem dX7_findStates_103 : decode cX7_findStates 103 = .ok (.getfield 58, 3) := by decide +kernel
theorem dX7_findStates_106 : decode cX7_findStates 106 = .ok (.bipush 9, 2) := by decide +kernel
theorem dX7_findStates_108 : decode cX7_findStates 108 = .ok (.iload_n 2, 1) := by decide +kernel
theorem dX7_findStates_109 : decode cX7_findStates 109 = .ok (.imul, 1) := by decide +kernel
theorem dX7_findStates_110 : decode cX7_findStates 110 = .ok (.iload_n 3, 1) := by decide +kernel
theorem dX7_findStates_111 : decode cX7_findStates 111 = .ok (.iadd, 1) := by decide +kernel
theorem dX7_findStates_112 : decode cX7_findStates 112 = .ok (.iconst (-1), 1) := by decide +kernel
theorem dX7_findStates_113 : decode cX7_findStates 113 = .ok (.iastore, 1) := by decide +kernel
theorem dX7_findStates_114 : decode cX7_findStates 114 = .ok (.iinc 3 1, 3) := by decide +kernel
theorem dX7_findStates_117 : decode cX7_findStates 117 = .ok (.goto (-21), 3) := by decide +kernel
theorem dX7_findStates_120 : decode cX7_findStates 120 = .ok (.iconst 0, 1) := by decide +kernel
theorem dX7_findStates_121 : decode cX7_findStates 121 = .ok (.istore_n 3, 1) := by decide +kernel
theorem dX7_findStates_122 : decode cX7_findStates 122 = .ok (.iload_n 3, 1) := by decide +kernel
theorem dX7_findStates_123 : decode cX7_findStates 123 = .ok (.bipush 9, 2) := by decide +kernel
theorem dX7_findStates_125 : decode cX7_findStates 125 = .ok (.if_icmp .ge 253, 3) := by decide +kernel
theorem dX7_findStates_128 : decode cX7_findStates 128 = .ok (.aload_n 0, 1) := by decide +kernel
theorem dX7_findStates_129 : decode cX7_findStates 129 = .ok (.getfield 51, 3) := by decide +kernel
theorem dX7_findStates_132 : decode cX7_findStates 132 = .ok (.iload_n 2, 1) := by decide +kernel
theorem dX7_findStates_133 : decode cX7_findStates 133 = .ok (.iaload, 1) := by decide +kernel
theorem dX7_findStates_134 : decode cX7_findStates 134 = .ok (.aload_n 0, 1) := by decide +kernel
theorem dX7_findStates_135 : decode cX7_findStates 135 = .ok (.getfield 103, 3) := by decide +kernel
theorem dX7_findStates_138 : decode cX7_findStates 138 = .ok (.if_icmp .ge 240, 3) := by decide +kernel
theorem dX7_findStates_141 : decode cX7_findStates 141 = .ok (.aload_n 0, 1) := by decide +kernel
theorem dX7_findStates_142 : decode cX7_findStates 142 = .ok (.aload_n 0, 1) := by decide +kernel
theorem dX7_findStates_143 : decode cX7_findStates 143 = .ok (.getfield 47, 3) := by decide +kernel
theorem dX7_findStates_146 : decode cX7_findStates 146 = .ok (.iload_n 2, 1) := by decide +kernel
theorem dX7_findStates_147 : decode cX7_findStates 147 = .ok (.laload, 1) := by decide +kernel
theorem dX7_findStates_148 : decode cX7_findStates 148 = .ok (.invokevirtual 146, 3) := by decide +kernel
theorem dX7_findStates_151 : decode cX7_findStates 151 = .ok (.iload_n 3, 1) := by decide +kernel
theorem dX7_findStates_152 : decode cX7_findStates 152 = .ok (.iconst 3, 1) := by decide +kernel
theorem dX7_findStates_153 : decode cX7_findStates 153 = .ok (.if_icmp .ge 83, 3) := by decide +kernel
theorem dX7_findStates_156 : decode cX7_findStates 156 = .ok (.aload_n 0, 1) := by decide +kernel
theorem dX7_findStates_157 : decode cX7_findStates 157 = .ok (.getfield 67, 3) := by decide +kernel
theorem dX7_findStates_160 : decode cX7_findStates 160 = .ok (.iload_n 3, 1) := by decide +kernel
theorem dX7_findStates_161 : decode cX7_findStates 161 = .ok (.iaload, 1) := by decide +kernel
theorem dX7_findStates_162 : decode cX7_findStates 162 = .ok (.ifCond .le 210, 3) := by decide +kernel
theorem dX7_findStates_165 : decode cX7_findStates 165 = .ok (.aload_n 0, 1) := by decide +kernel
theorem dX7_findStates_166 : decode cX7_findStates 166 = .ok (.aload_n 0, 1) := by decide +kernel
theorem dX7_findStates_167 : decode cX7_findStates 167 = .ok (.getfield 64, 3) := by decide +kernel
theorem dX7_findStates_170 : decode cX7_findStates 170 = .ok (.iconst 5, 1) := by decide +kernel
theorem dX7_findStates_171 : decode cX7_findStates 171 = .ok (.iload_n 3, 1) := by decide +kernel
theorem dX7_findStates_172 : decode cX7_findStates 172 = .ok (.imul, 1) := by decide +kernel
theorem dX7_findStates_173 : decode cX7_findStates 173 = .ok (.aload_n 0, 1) := by decide +kernel
theorem dX7_findStates_174 : decode cX7_findStates 174 = .ok (.getfield 67, 3) := by decide +kernel
theorem dX7_findStates_177 : decode cX7_findStates 177 = .ok (.iload_n 3, 1) := by decide +kernel
theorem dX7_findStates_178 : decode cX7_findStates 178 = .ok (.iaload, 1) := by decide +kernel
theorem dX7_findStates_179 : decode cX7_findStates 179 = .ok (.iadd, 1) := by decide +kernel
theorem dX7_findStates_180 : decode cX7_findStates 180 = .ok (.iconst 1, 1) := by decide +kernel
theorem dX7_findStates_181 : decode cX7_findStates 181 = .ok (.isub, 1) := by decide +kernel
theorem dX7_findStates_182 : decode cX7_findStates 182 = .ok (.iaload, 1) := by decide +kernel
theorem dX7_findStates_183 : decode cX7_findStates 183 = .ok (.aload_n 0, 1) := by decide +kernel
theorem dX7_findStates_184 : decode cX7_findStates 184 = .ok (.getfield 26, 3) := by decide +kernel
theorem dX7_findStates_187 : decode cX7_findStates 187 = .ok (.aload_n 0, 1) := by decide +kernel
theorem dX7_findStates_188 : decode cX7_findStates 188 = .ok (.getfield 51, 3) := by decide +kernel
theorem dX7_findStates_191 : decode cX7_findStates 191 = .ok (.iload_n 2, 1) := by decide +kernel
theorem dX7_findStates_192 : decode cX7_findStates 192 = .ok (.iaload, 1) := by decide +kernel
theorem dX7_findStates_193 : decode cX7_findStates 193 = .ok (.iaload, 1) := by decide +kernel
theorem dX7_findStates_194 : decode cX7_findStates 194 = .ok (.invokevirtual 114, 3) := by decide +kernel
theorem dX7_findStates_197 : decode cX7_findStates 197 = .ok (.ifCond .eq 175, 3) := by decide +kernel
theorem dX7_findStates_200 : decode cX7_findStates 200 = .ok (.aload_n 0, 1) := by decide +kernel
theorem dX7_findStates_201 : decode cX7_findStates 201 = .ok (.getfield 67, 3) := by decide +kernel
theorem dX7_findStates_204 : decode cX7_findStates 204 = .ok (.iload_n 3, 1) := by decide +kernel
theorem dX7_findStates_205 : decode cX7_findStates 205 = .ok (.dup2, 1) := by decide +kernel
theorem dX7_findStates_206 : decode cX7_findStates 206 = .ok (.iaload, 1) := by decide +kernel
theorem dX7_findStates_207 : decode cX7_findStates 207 = .ok (.iconst 1, 1) := by decide +kernel
theorem dX7_findStates_208 : decode cX7_findStates 208 = .ok (.isub, 1) := by decide +kernel
theorem dX7_findStates_209 : decode cX7_findStates 209 = .ok (.iastore, 1) := by decide +kernel
theorem dX7_findStates_210 : decode cX7_findStates 210 = .ok (.aload_n 0, 1) := by decide +kernel
theorem dX7_findStates_211 : decode cX7_findStates 211 = .ok (.getfield 58, 3) := by decide +kernel
theorem dX7_findStates_214 : decode cX7_findStates 214 = .ok (.bipush 9, 2) := by decide +kernel
theorem dX7_findStates_216 : decode cX7_findStates 216 = .ok (.iload_n 2, 1) := by decide +kernel
theorem dX7_findStates_217 : decode cX7_findStates 217 = .ok (.imul, 1) := by decide +kernel
theorem dX7_findStates_218 : decode cX7_findStates 218 = .ok (.iload_n 3, 1) := by decide +kernel
theorem dX7_findStates_219 : decode cX7_findStates 219 = .ok (.iadd, 1) := by decide +kernel
theorem dX7_findStates_220 : decode cX7_findStates 220 = .ok (.aload_n 0, 1) := by decide +kernel
theorem dX7_findStates_221 : decode cX7_findStates 221 = .ok (.aload_n 0, 1) := by decide +kernel
theorem dX7_findStates_222 : decode cX7_findStates 222 = .ok (.getfield 51, 3) := by decide +kernel
theorem dX7_findStates_225 : decode cX7_findStates 225 = .ok (.iload_n 2, 1) := by decide +kernel
theorem dX7_findStates_226 : decode cX7_findStates 226 = .ok (.iaload, 1) := by decide +kernel
theorem dX7_findStates_227 : decode cX7_findStates 227 = .ok (.iconst 1, 1) := by decide +kernel
theorem dX7_findStates_228 : decode cX7_findStates 228 = .ok (.iadd, 1) := by decide +kernel
theorem dX7_findStates_229 : decode cX7_findStates 229 = .ok (.invokevirtual 142, 3) := by decide +kernel
theorem dX7_findStates_232 : decode cX7_findStates 232 = .ok (.iastore, 1) := by decide +kernel
theorem dX7_findStates_233 : decode cX7_findStates 233 = .ok (.goto 139, 3) := by decide +kernel
theorem dX7_findStates_236 : decode cX7_findStates 236 = .ok (.iload_n 3, 1) := by decide +kernel
theorem dX7_findStates_237 : decode cX7_findStates 237 = .ok (.iconst 3, 1) := by decide +kernel
theorem dX7_findStates_238 : decode cX7_findStates 238 = .ok (.isub, 1) := by decide +kernel
theorem dX7_findStates_239 : decode cX7_findStates 239 = .ok (.iconst 2, 1) := by decide +kernel
theorem dX7_findStates_240 : decode cX7_findStates 240 = .ok (.idiv, 1) := by decide +kernel
theorem dX7_findStates_241 : decode cX7_findStates 241 = .ok (.istore 4, 2) := by decide +kernel
theorem dX7_findStates_243 : decode cX7_findStates 243 = .ok (.iload_n 3, 1) := by decide +kernel
theorem dX7_findStates_244 : decode cX7_findStates 244 = .ok (.iconst 3, 1) := by decide +kernel
theorem dX7_findStates_245 : decode cX7_findStates 245 = .ok (.isub, 1) := by decide +kernel
theorem dX7_findStates_246 : decode cX7_findStates 246 = .ok (.iconst 2, 1) := by decide +kernel
theorem dX7_findStates_247 : decode cX7_findStates 247 = .ok (.irem, 1) := by decide +kernel
theorem dX7_findStates_248 : decode cX7_findStates 248 = .ok (.istore 5, 2) := by decide +kernel
theorem dX7_findStates_250 : decode cX7_findStates 250 = .ok (.iload 5, 2) := by decide +kernel
theorem dX7_findStates_252 : decode cX7_findStates 252 = .ok (.iload 4, 2) := by decide +kernel
theorem dX7_findStates_254 : decode cX7_findStates 254 = .ok (.if_icmp .lt 10, 3) := by decide +kernel
theorem dX7_findStates_257 : decode cX7_findStates 257 = .ok (.iload 5, 2) := by decide +kernel
theorem dX7_findStates_259 : decode cX7_findStates 259 = .ok (.iconst 1, 1) := by decide +kernel
theorem dX7_findStates_260 : decode cX7_findStates 260 = .ok (.iadd, 1) := by decide +kernel
theorem dX7_findStates_261 : decode cX7_findStates 261 = .ok (.goto 5, 3) := by decide +kernel
theorem dX7_findStates_264 : decode cX7_findStates 264 = .ok (.iload 5, 2) := by decide +kernel
theorem dX7_findStates_266 : decode cX7_findStates 266 = .ok (.istore 5, 2) := by decide +kernel
theorem dX7_findStates_268 : decode cX7_findStates 268 = .ok (.aload_n 0, 1) := by decide +kernel
theorem dX7_findStates_269 : decode cX7_findStates 269 = .ok (.getfield 67, 3) := by decide +kernel
theorem dX7_findStates_272 : decode cX7_findStates 272 = .ok (.iload 4, 2) := by decide +kernel
theorem dX7_findStates_274 : decode cX7_findStates 274 = .ok (.iaload, 1) := by decide +kernel
theorem dX7_findStates_275 : decode cX7_findStates 275 = .ok (.ifCond .le 97, 3) := by decide +kernel
theorem dX7_findStates_278 : decode cX7_findStates 278 = .ok (.aload_n 0, 1) := by decide +kernel
theorem dX7_findStates_279 : decode cX7_findStates 279 = .ok (.getfield 67, 3) := by decide +kernel
theorem dX7_findStates_282 : decode cX7_findStates 282 = .ok (.iload 5, 2) := by decide +kernel
theorem dX7_findStates_284 : decode cX7_findStates 284 = .ok (.iaload, 1) := by decide +kernel
theorem dX7_findStates_285 : decode cX7_findStates 285 = .ok (.aload_n 0, 1) := by decide +kernel
theorem dX7_findStates_286 : decode cX7_findStates 286 = .ok (.getfield 23, 3) := by decide +kernel
theorem dX7_findStates_289 : decode cX7_findStates 289 = .ok (.iload 5, 2) := by decide +kernel
theorem dX7_findStates_291 : decode cX7_findStates 291 = .ok (.iaload, 1) := by decide +kernel
theorem dX7_findStates_292 : decode cX7_findStates 292 = .ok (.if_icmp .ge 80, 3) := by decide +kernel
theorem dX7_findStates_295 : decode cX7_findStates 295 = .ok (.aload_n 0, 1) := by decide +kernel
theorem dX7_findStates_296 : decode cX7_findStates 296 = .ok (.getfield 67, 3) := by decide +kernel
theorem dX7_findStates_299 : decode cX7_findStates 299 = .ok (.iload 4, 2) := by decide +kernel
theorem dX7_findStates_301 : decode cX7_findStates 301 = .ok (.dup2, 1) := by decide +kernel
theorem dX7_findStates_302 : decode cX7_findStates 302 = .ok (.iaload, 1) := by decide +kernel
theorem dX7_findStates_303 : decode cX7_findStates 303 = .ok (.iconst 1, 1) := by decide +kernel
theorem dX7_findStates_304 : decode cX7_findStates 304 = .ok (.isub, 1) := by decide +kernel
theorem dX7_findStates_305 : decode cX7_findStates 305 = .ok (.iastore, 1) := by decide +kernel
theorem dX7_findStates_306 : decode cX7_findStates 306 = .ok (.aload_n 0, 1) := by decide +kernel
theorem dX7_findStates_307 : decode cX7_findStates 307 = .ok (.getfield 64, 3) := by decide +kernel
theorem dX7_findStates_310 : decode cX7_findStates 310 = .ok (.iconst 5, 1) := by decide +kernel
theorem dX7_findStates_311 : decode cX7_findStates 311 = .ok (.iload 5, 2) := by decide +kernel
theorem dX7_findStates_313 : decode cX7_findStates 313 = .ok (.imul, 1) := by decide +kernel
theorem dX7_findStates_314 : decode cX7_findStates 314 = .ok (.aload_n 0, 1) := by decide +kernel
theorem dX7_findStates_315 : decode cX7_findStates 315 = .ok (.getfield 67, 3) := by decide +kernel
theorem dX7_findStates_318 : decode cX7_findStates 318 = .ok (.iload 5, 2) := by decide +kernel
theorem dX7_findStates_320 : decode cX7_findStates 320 = .ok (.iaload, 1) := by decide +kernel
theorem dX7_findStates_321 : decode cX7_findStates 321 = .ok (.iadd, 1) := by decide +kernel
theorem dX7_findStates_322 : decode cX7_findStates 322 = .ok (.aload_n 0, 1) := by decide +kernel
theorem dX7_findStates_323 : decode cX7_findStates 323 = .ok (.getfield 64, 3) := by decide +kernel
theorem dX7_findStates_326 : decode cX7_findStates 326 = .ok (.iconst 5, 1) := by decide +kernel
theorem dX7_findStates_327 : decode cX7_findStates 327 = .ok (.iload 4, 2) := by decide +kernel
theorem dX7_findStates_329 : decode cX7_findStates 329 = .ok (.imul, 1) := by decide +kernel
theorem dX7_findStates_330 : decode cX7_findStates 330 = .ok (.aload_n 0, 1) := by decide +kernel
theorem dX7_findStates_331 : decode cX7_findStates 331 = .ok (.getfield 67, 3) := by decide +kernel
theorem dX7_findStates_334 : decode cX7_findStates 334 = .ok (.iload 4, 2) := by decide +kernel
theorem dX7_findStates_336 : decode cX7_findStates 336 = .ok (.iaload, 1) := by decide +kernel
theorem dX7_findStates_337 : decode cX7_findStates 337 = .ok (.iadd, 1) := by decide +kernel
theorem dX7_findStates_338 : decode cX7_findStates 338 = .ok (.iaload, 1) := by decide +kernel
theorem dX7_findStates_339 : decode cX7_findStates 339 = .ok (.iastore, 1) := by decide +kernel
theorem dX7_findStates_340 : decode cX7_findStates 340 = .ok (.aload_n 0, 1) := by decide +kernel
theorem dX7_findStates_341 : decode cX7_findStates 341 = .ok (.getfield 67, 3) := by decide +kernel
theorem dX7_findStates_344 : decode cX7_findStates 344 = .ok (.iload 5, 2) := by decide +kernel
theorem dX7_findStates_346 : decode cX7_findStates 346 = .ok (.dup2, 1) := by decide +kernel
theorem dX7_findStates_347 : decode cX7_findStates 347 = .ok (.iaload, 1) := by decide +kernel
theorem dX7_findStates_348 : decode cX7_findStates 348 = .ok (.iconst 1, 1) := by decide +kernel
theorem dX7_findStates_349 : decode cX7_findStates 349 = .ok (.iadd, 1) := by decide +kernel
theorem dX7_findStates_350 : decode cX7_findStates 350 = .ok (.iastore, 1) := by decide +kernel
theorem dX7_findStates_351 : decode cX7_findStates 351 = .ok (.aload_n 0, 1) := by decide +kernel
theorem dX7_findStates_352 : decode cX7_findStates 352 = .ok (.getfield 58, 3) := by decide +kernel
theorem dX7_findStates_355 : decode cX7_findStates 355 = .ok (.bipush 9, 2) := by decide +kernel
theorem dX7_findStates_357 : decode cX7_findStates 357 = .ok (.iload_n 2, 1) := by decide +kernel
theorem dX7_findStates_358 : decode cX7_findStates 358 = .ok (.imul, 1) := by decide +kernel
theorem dX7_findStates_359 : decode cX7_findStates 359 = .ok (.iload_n 3, 1) := by decide +kernel
theorem dX7_findStates_360 : decode cX7_findStates 360 = .ok (.iadd, 1) := by decide +kernel
theorem dX7_findStates_361 : decode cX7_findStates 361 = .ok (.aload_n 0, 1) := by decide +kernel
theorem dX7_findStates_362 : decode cX7_findStates 362 = .ok (.aload_n 0, 1) := by decide +kernel
theorem dX7_findStates_363 : decode cX7_findStates 363 = .ok (.getfield 51, 3) := by decide +kernel
theorem dX7_findStates_366 : decode cX7_findStates 366 = .ok (.iload_n 2, 1) := by decide +kernel
theorem dX7_findStates_367 : decode cX7_findStates 367 = .ok (.iaload, 1) := by decide +kernel
theorem dX7_findStates_368 : decode cX7_findStates 368 = .ok (.invokevirtual 142, 3) := by decide +kernel
theorem dX7_findStates_371 : decode cX7_findStates 371 = .ok (.iastore, 1) := by decide +kernel
theorem dX7_findStates_372 : decode cX7_findStates 372 = .ok (.iinc 3 1, 3) := by decide +kernel
theorem dX7_findStates_375 : decode cX7_findStates 375 = .ok (.goto (-253), 3) := by decide +kernel
theorem dX7_findStates_378 : decode cX7_findStates 378 = .ok (.iinc 2 1, 3) := by decide +kernel
theorem dX7_findStates_381 : decode cX7_findStates 381 = .ok (.goto (-295), 3) := by decide +kernel
theorem dX7_findStates_384 : decode cX7_findStates 384 = .ok (.return_, 1) := by decide +kernel
set_option maxRecDepth 20000 in
theorem ggX7_findRun_X7_findStates : GoodIn wsX7_findRun wsX7_findStates := goodIn_r _ [17, 18, 11, 19, 12, 20, 1, 6, 3, 4, 8, 21, 22, 23, 24, 25, 16, 26, 27, 28, 29, 30, 31, 32, 33, 34, 35, 36, 37, 38, 39, 40, 41, 42, 43, 44, 45, 46, 47, 48, 49, 50, 51, 52, 53, 54, 55, 56, 57, 58, 59, 60, 61, 62, 63, 64, 65, 66, 67, 68, 69, 70, 71, 72] (by decide +kernel) (by decide +kernel)
set_option maxRecDepth 20000 in
theorem gX7_findRun_X7_findStates : GoodIn wsX7_findRun (wsV RX7 150 RX7 yX7_findStates wsX7_findStates) := goodIn_app (goodIn_of _ (by decide +kernel)) ggX7_findRun_X7_findStates
set_option maxRecDepth 20000 in
theorem ggX7_findRun_X7_read : GoodIn wsX7_findRun wsX7_read := goodIn_r _ [36, 12, 32, 11, 43, 44, 45, 46, 47, 48, 49, 50, 51, 52, 53, 54, 55, 56, 57, 58, 59, 60, 61, 62, 63, 64, 65, 66, 67, 68, 69, 70, 71, 72] (by decide +kernel) (by decide +kernel)
set_option maxRecDepth 20000 in
theorem gX7_findRun_X7_read : GoodIn wsX7_findRun (wsV RX7 146 RX7 yX7_read wsX7_read) := goodIn_app (goodIn_of _ (by decide +kernel)) ggX7_findRun_X7_read
theorem dX7_findRun_0 : decode cX7_findRun 0 = .ok (.aload_n 0, 1) := by decide +kernel
theorem dX7_findRun_1 : decode cX7_findRun 1 = .ok (.invokevirtual 150, 3) := by decide +kernel
theorem dX7_findRun_4 : decode cX7_findRun 4 = .ok (.iconst 0, 1) := by decide +kernel
theorem dX7_findRun_5 : decode cX7_findRun 5 = .ok (.istore_n 1, 1) := by decide +kernel
theorem dX7_findRun_6 : decode cX7_findRun 6 = .ok (.iload_n 1, 1) := by decide +kernel
theorem dX7_findRun_7 : decode cX7_findRun 7 = .ok (.aload_n 0, 1) := by decide +kernel
theorem dX7_findRun_8 : decode cX7_findRun 8 = .ok (.getfield 139, 3) := by decide +kernel
theorem dX7_findRun_11 : decode cX7_findRun 11 = .ok (.if_icmp .ge 34, 3) := by decide +kernel
theorem dX7_findRun_14 : decode cX7_findRun 14 = .ok (.aload_n 0, 1) := by decide +kernel
theorem dX7_findRun_15 : decode cX7_findRun 15 = .ok (.getfield 54, 3) := by decide +kernel
theorem dX7_findRun_18 : decode cX7_findRun 18 = .ok (.iload_n 1, 1) := by decide +kernel
theorem dX7_findRun_19 : decode cX7_findRun 19 = .ok (.aload_n 0, 1) := by decide +kernel
theorem dX7_findRun_20 : decode cX7_findRun 20 = .ok (.getfield 51, 3) := by decide +kernel
theorem dX7_findRun_23 : decode cX7_findRun 23 = .ok (.iload_n 1, 1) := by decide +kernel
theorem dX7_findRun_24 : decode cX7_findRun 24 = .ok (.iaload, 1) := by decide +kernel
theorem dX7_findRun_25 : decode cX7_findRun 25 = .ok (.aload_n 0, 1) := by decide +kernel
theorem dX7_findRun_26 : decode cX7_findRun 26 = .ok (.getfield 103, 3) := by decide +kernel
theorem dX7_findRun_29 : decode cX7_findRun 29 = .ok (.if_icmp .ne 7, 3) := by decide +kernel
theorem dX7_findRun_32 : decode cX7_findRun 32 = .ok (.iconst 0, 1) := by decide +kernel
theorem dX7_findRun_33 : decode cX7_findRun 33 = .ok (.goto 5, 3) := by decide +kernel
theorem dX7_findRun_36 : decode cX7_findRun 36 = .ok (.ldc 153, 2) := by decide +kernel
theorem dX7_findRun_38 : decode cX7_findRun 38 = .ok (.iastore, 1) := by decide +kernel
theorem dX7_findRun_39 : decode cX7_findRun 39 = .ok (.iinc 1 1, 3) := by decide +kernel
theorem dX7_findRun_42 : decode cX7_findRun 42 = .ok (.goto (-36), 3) := by decide +kernel
theorem dX7_findRun_45 : decode cX7_findRun 45 = .ok (.iconst 1, 1) := by decide +kernel
theorem dX7_findRun_46 : decode cX7_findRun 46 = .ok (.istore_n 1, 1) := by decide +kernel
theorem dX7_findRun_47 : decode cX7_findRun 47 = .ok (.iload_n 1, 1) := by decide +kernel
theorem dX7_findRun_48 : decode cX7_findRun 48 = .ok (.ifCond .eq 104, 3) := by decide +kernel
theorem dX7_findRun_51 : decode cX7_findRun 51 = .ok (.iconst 0, 1) := by decide +kernel
theorem dX7_findRun_52 : decode cX7_findRun 52 = .ok (.istore_n 1, 1) := by decide +kernel
theorem dX7_findRun_53 : decode cX7_findRun 53 = .ok (.aload_n 0, 1) := by decide +kernel
theorem dX7_findRun_54 : decode cX7_findRun 54 = .ok (.getfield 139, 3) := by decide +kernel
theorem dX7_findRun_57 : decode cX7_findRun 57 = .ok (.iconst 1, 1) := by decide +kernel
theorem dX7_findRun_58 : decode cX7_findRun 58 = .ok (.isub, 1) := by decide +kernel
theorem dX7_findRun_59 : decode cX7_findRun 59 = .ok (.istore_n 2, 1) := by decide +kernel
theorem dX7_findRun_60 : decode cX7_findRun 60 = .ok (.iload_n 2, 1) := by decide +kernel
theorem dX7_findRun_61 : decode cX7_findRun 61 = .ok (.ifCond .lt 88, 3) := by decide +kernel
theorem dX7_findRun_64 : decode cX7_findRun 64 = .ok (.iconst 0, 1) := by decide +kernel
theorem dX7_findRun_65 : decode cX7_findRun 65 = .ok (.istore_n 3, 1) := by decide +kernel
theorem dX7_findRun_66 : decode cX7_findRun 66 = .ok (.iload_n 3, 1) := by decide +kernel
theorem dX7_findRun_67 : decode cX7_findRun 67 = .ok (.bipush 9, 2) := by decide +kernel
theorem dX7_findRun_69 : decode cX7_findRun 69 = .ok (.if_icmp .ge 74, 3) := by decide +kernel
theorem dX7_findRun_72 : decode cX7_findRun 72 = .ok (.aload_n 0, 1) := by decide +kernel
theorem dX7_findRun_73 : decode cX7_findRun 73 = .ok (.getfield 58, 3) := by decide +kernel
theorem dX7_findRun_76 : decode cX7_findRun 76 = .ok (.bipush 9, 2) := by decide +kernel
theorem dX7_findRun_78 : decode cX7_findRun 78 = .ok (.iload_n 2, 1) := by decide +kernel
theorem dX7_findRun_79 : decode cX7_findRun 79 = .ok (.imul, 1) := by decide +kernel
theorem dX7_findRun_80 : decode cX7_findRun 80 = .ok (.iload_n 3, 1) := by decide +kernel
theorem dX7_findRun_81 : decode cX7_findRun 81 = .ok (.iadd, 1) := by decide +kernel
theorem dX7_findRun_82 : decode cX7_findRun 82 = .ok (.iaload, 1) := by decide +kernel
theorem dX7_findRun_83 : decode cX7_findRun 83 = .ok (.istore 4, 2) := by decide +kernel
theorem dX7_findRun_85 : decode cX7_findRun 85 = .ok (.iload 4, 2) := by decide +kernel
theorem dX7_findRun_87 : decode cX7_findRun 87 = .ok (.iconst (-1), 1) := by decide +kernel
theorem dX7_findRun_88 : decode cX7_findRun 88 = .ok (.if_icmp .ne 8, 3) := by decide +kernel
theorem dX7_findRun_91 : decode cX7_findRun 91 = .ok (.ldc 153, 2) := by decide +kernel
theorem dX7_findRun_93 : decode cX7_findRun 93 = .ok (.goto 21, 3) := by decide +kernel
theorem dX7_findRun_96 : decode cX7_findRun 96 = .ok (.aload_n 0, 1) := by decide +kernel
theorem dX7_findRun_97 : decode cX7_findRun 97 = .ok (.getfield 54, 3) := by decide +kernel
theorem dX7_findRun_100 : decode cX7_findRun 100 = .ok (.iload 4, 2) := by decide +kernel
theorem dX7_findRun_102 : decode cX7_findRun 102 = .ok (.iaload, 1) := by decide +kernel
theorem dX7_findRun_103 : decode cX7_findRun 103 = .ok (.iload_n 3, 1) := by decide +kernel
theorem dX7_findRun_104 : decode cX7_findRun 104 = .ok (.iconst 3, 1) := by decide +kernel
theorem dX7_findRun_105 : decode cX7_findRun 105 = .ok (.if_icmp .ge 7, 3) := by decide +kernel
theorem dX7_findRun_108 : decode cX7_findRun 108 = .ok (.iconst 0, 1) := by decide +kernel
theorem dX7_findRun_109 : decode cX7_findRun 109 = .ok (.goto 4, 3) := by decide +kernel
theorem dX7_findRun_112 : decode cX7_findRun 112 = .ok (.iconst 1, 1) := by decide +kernel
theorem dX7_findRun_113 : decode cX7_findRun 113 = .ok (.iadd, 1) := by decide +kernel
theorem dX7_findRun_114 : decode cX7_findRun 114 = .ok (.istore 5, 2) := by decide +kernel
theorem dX7_findRun_116 : decode cX7_findRun 116 = .ok (.iload 5, 2) := by decide +kernel
theorem dX7_findRun_118 : decode cX7_findRun 118 = .ok (.aload_n 0, 1) := by decide +kernel
theorem dX7_findRun_119 : decode cX7_findRun 119 = .ok (.getfield 54, 3) := by decide +kernel
theorem dX7_findRun_122 : decode cX7_findRun 122 = .ok (.iload_n 2, 1) := by decide +kernel
theorem dX7_findRun_123 : decode cX7_findRun 123 = .ok (.iaload, 1) := by decide +kernel
theorem dX7_findRun_124 : decode cX7_findRun 124 = .ok (.if_icmp .ge 13, 3) := by decide +kernel
theorem dX7_findRun_127 : decode cX7_findRun 127 = .ok (.aload_n 0, 1) := by decide +kernel
theorem dX7_findRun_128 : decode cX7_findRun 128 = .ok (.getfield 54, 3) := by decide +kernel
theorem dX7_findRun_131 : decode cX7_findRun 131 = .ok (.iload_n 2, 1) := by decide +kernel
theorem dX7_findRun_132 : decode cX7_findRun 132 = .ok (.iload 5, 2) := by decide +kernel
theorem dX7_findRun_134 : decode cX7_findRun 134 = .ok (.iastore, 1) := by decide +kernel
theorem dX7_findRun_135 : decode cX7_findRun 135 = .ok (.iconst 1, 1) := by decide +kernel
theorem dX7_findRun_136 : decode cX7_findRun 136 = .ok (.istore_n 1, 1) := by decide +kernel
theorem dX7_findRun_137 : decode cX7_findRun 137 = .ok (.iinc 3 1, 3) := by decide +kernel
theorem dX7_findRun_140 : decode cX7_findRun 140 = .ok (.goto (-74), 3) := by decide +kernel
theorem dX7_findRun_143 : decode cX7_findRun 143 = .ok (.iinc 2 (-1), 3) := by decide +kernel
theorem dX7_findRun_146 : decode cX7_findRun 146 = .ok (.goto (-86), 3) := by decide +kernel
theorem dX7_findRun_149 : decode cX7_findRun 149 = .ok (.goto (-102), 3) := by decide +kernel
theorem dX7_findRun_152 : decode cX7_findRun 152 = .ok (.aload_n 0, 1) := by decide +kernel
theorem dX7_findRun_153 : decode cX7_findRun 153 = .ok (.iconst 0, 1) := by decide +kernel
theorem dX7_findRun_154 : decode cX7_findRun 154 = .ok (.putfield 154, 3) := by decide +kernel
theorem dX7_findRun_157 : decode cX7_findRun 157 = .ok (.iconst 0, 1) := by decide +kernel
theorem dX7_findRun_158 : decode cX7_findRun 158 = .ok (.istore_n 2, 1) := by decide +kernel
theorem dX7_findRun_159 : decode cX7_findRun 159 = .ok (.aload_n 0, 1) := by decide +kernel
theorem dX7_findRun_160 : decode cX7_findRun 160 = .ok (.getfield 54, 3) := by decide +kernel
theorem dX7_findRun_163 : decode cX7_findRun 163 = .ok (.iconst 0, 1) := by decide +kernel
theorem dX7_findRun_164 : decode cX7_findRun 164 = .ok (.iaload, 1) := by decide +kernel
theorem dX7_findRun_165 : decode cX7_findRun 165 = .ok (.ldc 153, 2) := by decide +kernel
theorem dX7_findRun_167 : decode cX7_findRun 167 = .ok (.if_icmp .ge 205, 3) := by decide +kernel
theorem dX7_findRun_170 : decode cX7_findRun 170 = .ok (.aload_n 0, 1) := by decide +kernel
theorem dX7_findRun_171 : decode cX7_findRun 171 = .ok (.getfield 51, 3) := by decide +kernel
theorem dX7_findRun_174 : decode cX7_findRun 174 = .ok (.iload_n 2, 1) := by decide +kernel
theorem dX7_findRun_175 : decode cX7_findRun 175 = .ok (.iaload, 1) := by decide +kernel
theorem dX7_findRun_176 : decode cX7_findRun 176 = .ok (.aload_n 0, 1) := by decide +kernel
theorem dX7_findRun_177 : decode cX7_findRun 177 = .ok (.getfield 103, 3) := by decide +kernel
theorem dX7_findRun_180 : decode cX7_findRun 180 = .ok (.if_icmp .ge 192, 3) := by decide +kernel
theorem dX7_findRun_183 : decode cX7_findRun 183 = .ok (.iconst 0, 1) := by decide +kernel
theorem dX7_findRun_184 : decode cX7_findRun 184 = .ok (.istore_n 3, 1) := by decide +kernel
theorem dX7_findRun_185 : decode cX7_findRun 185 = .ok (.aload_n 0, 1) := by decide +kernel
theorem dX7_findRun_186 : decode cX7_findRun 186 = .ok (.getfield 58, 3) := by decide +kernel
theorem dX7_findRun_189 : decode cX7_findRun 189 = .ok (.bipush 9, 2) := by decide +kernel
theorem dX7_findRun_191 : decode cX7_findRun 191 = .ok (.iload_n 2, 1) := by decide +kernel
theorem dX7_findRun_192 : decode cX7_findRun 192 = .ok (.imul, 1) := by decide +kernel
theorem dX7_findRun_193 : decode cX7_findRun 193 = .ok (.iload_n 3, 1) := by decide +kernel
theorem dX7_findRun_194 : decode cX7_findRun 194 = .ok (.iadd, 1) := by decide +kernel
theorem dX7_findRun_195 : decode cX7_findRun 195 = .ok (.iaload, 1) := by decide +kernel
theorem dX7_findRun_196 : decode cX7_findRun 196 = .ok (.iconst (-1), 1) := by decide +kernel
theorem dX7_findRun_197 : decode cX7_findRun 197 = .ok (.if_icmp .eq 39, 3) := by decide +kernel
theorem dX7_findRun_200 : decode cX7_findRun 200 = .ok (.aload_n 0, 1) := by decide +kernel
theorem dX7_findRun_201 : decode cX7_findRun 201 = .ok (.getfield 54, 3) := by decide +kernel
theorem dX7_findRun_204 : decode cX7_findRun 204 = .ok (.aload_n 0, 1) := by decide +kernel
theorem dX7_findRun_205 : decode cX7_findRun 205 = .ok (.getfield 58, 3) := by decide +kernel
theorem dX7_findRun_208 : decode cX7_findRun 208 = .ok (.bipush 9, 2) := by decide +kernel
theorem dX7_findRun_210 : decode cX7_findRun 210 = .ok (.iload_n 2, 1) := by decide +kernel
theorem dX7_findRun_211 : decode cX7_findRun 211 = .ok (.imul, 1) := by decide +kernel
theorem dX7_findRun_212 : decode cX7_findRun 212 = .ok (.iload_n 3, 1) := by decide +kernel
theorem dX7_findRun_213 : decode cX7_findRun 213 = .ok (.iadd, 1) := by decide +kernel
theorem dX7_findRun_214 : decode cX7_findRun 214 = .ok (.iaload, 1) := by decide +kernel
theorem dX7_findRun_215 : decode cX7_findRun 215 = .ok (.iaload, 1) := by decide +kernel
theorem dX7_findRun_216 : decode cX7_findRun 216 = .ok (.iload_n 3, 1) := by decide +kernel
theorem dX7_findRun_217 : decode cX7_findRun 217 = .ok (.iconst 3, 1) := by decide +kernel
theorem dX7_findRun_218 : decode cX7_findRun 218 = .ok (.if_icmp .ge 7, 3) := by decide +kernel
theorem dX7_findRun_221 : decode cX7_findRun 221 = .ok (.iconst 0, 1) := by decide +kernel
theorem dX7_findRun_222 : decode cX7_findRun 222 = .ok (.goto 4, 3) := by decide +kernel
theorem dX7_findRun_225 : decode cX7_findRun 225 = .ok (.iconst 1, 1) := by decide +kernel
theorem dX7_findRun_226 : decode cX7_findRun 226 = .ok (.iadd, 1) := by decide +kernel
theorem dX7_findRun_227 : decode cX7_findRun 227 = .ok (.aload_n 0, 1) := by decide +kernel
theorem dX7_findRun_228 : decode cX7_findRun 228 = .ok (.getfield 54, 3) := by decide +kernel
theorem dX7_findRun_231 : decode cX7_findRun 231 = .ok (.iload_n 2, 1) := by decide +kernel
theorem dX7_findRun_232 : decode cX7_findRun 232 = .ok (.iaload, 1) := by decide +kernel
theorem dX7_findRun_233 : decode cX7_findRun 233 = .ok (.if_icmp .eq 9, 3) := by decide +kernel
theorem dX7_findRun_236 : decode cX7_findRun 236 = .ok (.iinc 3 1, 3) := by decide +kernel
theorem dX7_findRun_239 : decode cX7_findRun 239 = .ok (.goto (-54), 3) := by decide +kernel
theorem dX7_findRun_242 : decode cX7_findRun 242 = .ok (.iload_n 3, 1) := by decide +kernel
theorem dX7_findRun_243 : decode cX7_findRun 243 = .ok (.iconst 3, 1) := by decide +kernel
theorem dX7_findRun_244 : decode cX7_findRun 244 = .ok (.isub, 1) := by decide +kernel
theorem dX7_findRun_245 : decode cX7_findRun 245 = .ok (.iconst 2, 1) := by decide +kernel
theorem dX7_findRun_246 : decode cX7_findRun 246 = .ok (.idiv, 1) := by decide +kernel
theorem dX7_findRun_247 : decode cX7_findRun 247 = .ok (.istore 4, 2) := by decide +kernel
theorem dX7_findRun_249 : decode cX7_findRun 249 = .ok (.iload_n 3, 1) := by decide +kernel
theorem dX7_findRun_250 : decode cX7_findRun 250 = .ok (.iconst 3, 1) := by decide +kernel
theorem dX7_findRun_251 : decode cX7_findRun 251 = .ok (.isub, 1) := by decide +kernel
theorem dX7_findRun_252 : decode cX7_findRun 252 = .ok (.iconst 2, 1) := by decide +kernel
theorem dX7_findRun_253 : decode cX7_findRun 253 = .ok (.irem, 1) := by decide +kernel
theorem dX7_findRun_254 : decode cX7_findRun 254 = .ok (.istore 5, 2) := by decide +kernel
theorem dX7_findRun_256 : decode cX7_findRun 256 = .ok (.iload 5, 2) := by decide +kernel
theorem dX7_findRun_258 : decode cX7_findRun 258 = .ok (.iload 4, 2) := by decide +kernel
theorem dX7_findRun_260 : decode cX7_findRun 260 = .ok (.if_icmp .lt 10, 3) := by decide +kernel
theorem dX7_findRun_263 : decode cX7_findRun 263 = .ok (.iload 5, 2) := by decide +kernel
theorem dX7_findRun_265 : decode cX7_findRun 265 = .ok (.iconst 1, 1) := by decide +kernel
theorem dX7_findRun_266 : decode cX7_findRun 266 = .ok (.iadd, 1) := by decide +kernel
theorem dX7_findRun_267 : decode cX7_findRun 267 = .ok (.goto 5, 3) := by decide +kernel
theorem dX7_findRun_270 : decode cX7_findRun 270 = .ok (.iload 5, 2) := by decide +kernel
theorem dX7_findRun_272 : decode cX7_findRun 272 = .ok (.istore 5, 2) := by decide +kernel
theorem dX7_findRun_274 : decode cX7_findRun 274 = .ok (.aload_n 0, 1) := by decide +kernel
theorem dX7_findRun_275 : decode cX7_findRun 275 = .ok (.aload_n 0, 1) := by decide +kernel
theorem dX7_findRun_276 : decode cX7_findRun 276 = .ok (.getfield 47, 3) := by decide +kernel
theorem dX7_findRun_279 : decode cX7_findRun 279 = .ok (.iload_n 2, 1) := by decide +kernel
theorem dX7_findRun_280 : decode cX7_findRun 280 = .ok (.laload, 1) := by decide +kernel
theorem dX7_findRun_281 : decode cX7_findRun 281 = .ok (.invokevirtual 146, 3) := by decide +kernel
theorem dX7_findRun_284 : decode cX7_findRun 284 = .ok (.aload_n 0, 1) := by decide +kernel
theorem dX7_findRun_285 : decode cX7_findRun 285 = .ok (.getfield 70, 3) := by decide +kernel
theorem dX7_findRun_288 : decode cX7_findRun 288 = .ok (.aload_n 0, 1) := by decide +kernel
theorem dX7_findRun_289 : decode cX7_findRun 289 = .ok (.getfield 154, 3) := by decide +kernel
theorem dX7_findRun_292 : decode cX7_findRun 292 = .ok (.iload_n 3, 1) := by decide +kernel
theorem dX7_findRun_293 : decode cX7_findRun 293 = .ok (.iconst 3, 1) := by decide +kernel
theorem dX7_findRun_294 : decode cX7_findRun 294 = .ok (.if_icmp .ge 7, 3) := by decide +kernel
theorem dX7_findRun_297 : decode cX7_findRun 297 = .ok (.iload_n 3, 1) := by decide +kernel
theorem dX7_findRun_298 : decode cX7_findRun 298 = .ok (.goto 13, 3) := by decide +kernel
theorem dX7_findRun_301 : decode cX7_findRun 301 = .ok (.bipush 10, 2) := by decide +kernel
theorem dX7_findRun_303 : decode cX7_findRun 303 = .ok (.iconst 3, 1) := by decide +kernel
theorem dX7_findRun_304 : decode cX7_findRun 304 = .ok (.iload 4, 2) := by decide +kernel
theorem dX7_findRun_306 : decode cX7_findRun 306 = .ok (.imul, 1) := by decide +kernel
theorem dX7_findRun_307 : decode cX7_findRun 307 = .ok (.iadd, 1) := by decide +kernel
theorem dX7_findRun_308 : decode cX7_findRun 308 = .ok (.iload 5, 2) := by decide +kernel
theorem dX7_findRun_310 : decode cX7_findRun 310 = .ok (.iadd, 1) := by decide +kernel
theorem dX7_findRun_311 : decode cX7_findRun 311 = .ok (.iastore, 1) := by decide +kernel
theorem dX7_findRun_312 : decode cX7_findRun 312 = .ok (.aload_n 0, 1) := by decide +kernel
theorem dX7_findRun_313 : decode cX7_findRun 313 = .ok (.getfield 73, 3) := by decide +kernel
theorem dX7_findRun_316 : decode cX7_findRun 316 = .ok (.aload_n 0, 1) := by decide +kernel
theorem dX7_findRun_317 : decode cX7_findRun 317 = .ok (.getfield 154, 3) := by decide +kernel
theorem dX7_findRun_320 : decode cX7_findRun 320 = .ok (.iload_n 3, 1) := by decide +kernel
theorem dX7_findRun_321 : decode cX7_findRun 321 = .ok (.iconst 3, 1) := by decide +kernel
theorem dX7_findRun_322 : decode cX7_findRun 322 = .ok (.if_icmp .ge 23, 3) := by decide +kernel
theorem dX7_findRun_325 : decode cX7_findRun 325 = .ok (.aload_n 0, 1) := by decide +kernel
theorem dX7_findRun_326 : decode cX7_findRun 326 = .ok (.getfield 64, 3) := by decide +kernel
theorem dX7_findRun_329 : decode cX7_findRun 329 = .ok (.iconst 5, 1) := by decide +kernel
theorem dX7_findRun_330 : decode cX7_findRun 330 = .ok (.iload_n 3, 1) := by decide +kernel
theorem dX7_findRun_331 : decode cX7_findRun 331 = .ok (.imul, 1) := by decide +kernel
theorem dX7_findRun_332 : decode cX7_findRun 332 = .ok (.aload_n 0, 1) := by decide +kernel
theorem dX7_findRun_333 : decode cX7_findRun 333 = .ok (.getfield 67, 3) := by decide +kernel
theorem dX7_findRun_336 : decode cX7_findRun 336 = .ok (.iload_n 3, 1) := by decide +kernel
theorem dX7_findRun_337 : decode cX7_findRun 337 = .ok (.iaload, 1) := by decide +kernel
theorem dX7_findRun_338 : decode cX7_findRun 338 = .ok (.iadd, 1) := by decide +kernel
theorem dX7_findRun_339 : decode cX7_findRun 339 = .ok (.iconst 1, 1) := by decide +kernel
theorem dX7_findRun_340 : decode cX7_findRun 340 = .ok (.isub, 1) := by decide +kernel
theorem dX7_findRun_341 : decode cX7_findRun 341 = .ok (.iaload, 1) := by decide +kernel
theorem dX7_findRun_342 : decode cX7_findRun 342 = .ok (.goto 4, 3) := by decide +kernel
theorem dX7_findRun_345 : decode cX7_findRun 345 = .ok (.iconst (-1), 1) := by decide +kernel
theorem dX7_findRun_346 : decode cX7_findRun 346 = .ok (.iastore, 1) := by decide +kernel
theorem dX7_findRun_347 : decode cX7_findRun 347 = .ok (.aload_n 0, 1) := by decide +kernel
theorem dX7_findRun_348 : decode cX7_findRun 348 = .ok (.dup, 1) := by decide +kernel
theorem dX7_findRun_349 : decode cX7_findRun 349 = .ok (.getfield 154, 3) := by decide +kernel
theorem dX7_findRun_352 : decode cX7_findRun 352 = .ok (.iconst 1, 1) := by decide +kernel
theorem dX7_findRun_353 : decode cX7_findRun 353 = .ok (.iadd, 1) := by decide +kernel
theorem dX7_findRun_354 : decode cX7_findRun 354 = .ok (.putfield 154, 3) := by decide +kernel
theorem dX7_findRun_357 : decode cX7_findRun 357 = .ok (.aload_n 0, 1) := by decide +kernel
theorem dX7_findRun_358 : decode cX7_findRun 358 = .ok (.getfield 58, 3) := by decide +kernel
theorem dX7_findRun_361 : decode cX7_findRun 361 = .ok (.bipush 9, 2) := by decide +kernel
theorem dX7_findRun_363 : decode cX7_findRun 363 = .ok (.iload_n 2, 1) := by decide +kernel
theorem dX7_findRun_364 : decode cX7_findRun 364 = .ok (.imul, 1) := by decide +kernel
theorem dX7_findRun_365 : decode cX7_findRun 365 = .ok (.iload_n 3, 1) := by decide +kernel
theorem dX7_findRun_366 : decode cX7_findRun 366 = .ok (.iadd, 1) := by decide +kernel
theorem dX7_findRun_367 : decode cX7_findRun 367 = .ok (.iaload, 1) := by decide +kernel
theorem dX7_findRun_368 : decode cX7_findRun 368 = .ok (.istore_n 2, 1) := by decide +kernel
theorem dX7_findRun_369 : decode cX7_findRun 369 = .ok (.goto (-210), 3) := by decide +kernel
theorem dX7_findRun_372 : decode cX7_findRun 372 = .ok (.aload_n 0, 1) := by decide +kernel
theorem dX7_findRun_373 : decode cX7_findRun 373 = .ok (.getfield 54, 3) := by decide +kernel
theorem dX7_findRun_376 : decode cX7_findRun 376 = .ok (.iconst 0, 1) := by decide +kernel
theorem dX7_findRun_377 : decode cX7_findRun 377 = .ok (.iaload, 1) := by decide +kernel
theorem dX7_findRun_378 : decode cX7_findRun 378 = .ok (.ireturn, 1) := by decide +kernel
set_option maxRecDepth 20000 in
theorem ggX7_shunts_X7_findRun : GoodIn wsX7_shunts wsX7_findRun := goodIn_r _ [6, 7, 8, 9, 10, 1, 11, 12, 13, 14, 15, 16, 17, 18, 19, 20, 5, 21, 22, 23, 24, 25, 26, 27, 28, 29, 30, 31, 32, 33, 34, 35, 36, 37, 38, 39, 40, 41, 42, 43, 44, 45, 46, 47, 48, 49, 50, 51, 52, 53, 54, 55, 56, 57, 58, 59, 60, 61, 62, 63, 64, 65, 66, 67, 68, 69, 70, 71, 72, 73, 74, 75, 76] (by decide +kernel) (by decide +kernel)
set_option maxRecDepth 20000 in
theorem gX7_shunts_X7_findRun : GoodIn wsX7_shunts (wsV RX7 157 RX7 yX7_findRun wsX7_findRun) := goodIn_app (goodIn_of _ (by decide +kernel)) ggX7_shunts_X7_findRun
theorem dX7_shunts_0 : decode cX7_shunts 0 = .ok (.aload_n 0, 1) := by decide +kernel
theorem dX7_shunts_1 : decode cX7_shunts 1 = .ok (.invokevirtual 157, 3) := by decide +kernel
theorem dX7_shunts_4 : decode cX7_shunts 4 = .ok (.istore_n 1, 1) := by decide +kernel
theorem dX7_shunts_5 : decode cX7_shunts 5 = .ok (.iload_n 1, 1) := by decide +kernel
theorem dX7_shunts_6 : decode cX7_shunts 6 = .ok (.ldc 153, 2) := by decide +kernel
theorem dX7_shunts_8 : decode cX7_shunts 8 = .ok (.if_icmp .ne 7, 3) := by decide +kernel
theorem dX7_shunts_11 : decode cX7_shunts 11 = .ok (.iconst (-1), 1) := by decide +kernel
theorem dX7_shunts_12 : decode cX7_shunts 12 = .ok (.goto 4, 3) := by decide +kernel
theorem dX7_shunts_15 : decode cX7_shunts 15 = .ok (.iload_n 1, 1) := by decide +kernel
theorem dX7_shunts_16 : decode cX7_shunts 16 = .ok (.ireturn, 1) := by decide +kernel
set_option maxRecDepth 20000 in
theorem ggX7_step_X7_findRun : GoodIn wsX7_step wsX7_findRun := goodIn_r _ [7, 8, 9, 10, 11, 12, 13, 1, 14, 2, 15, 16, 17, 18, 19, 20, 6, 21, 22, 23, 24, 25, 26, 27, 28, 29, 30, 31, 32, 33, 34, 35, 36, 37, 38, 39, 40, 41, 42, 43, 44, 45, 46, 47, 48, 49, 50, 51, 52, 53, 54, 55, 56, 57, 58, 59, 60, 61, 62, 63, 64, 65, 66, 67, 68, 69, 70, 71, 72, 73, 74, 75, 76] (by decide +kernel) (by decide +kernel)
set_option maxRecDepth 20000 in
theorem gX7_step_X7_findRun : GoodIn wsX7_step (wsV RX7 157 RX7 yX7_findRun wsX7_findRun) := goodIn_app (goodIn_of _ (by decide +kernel)) ggX7_step_X7_findRun
theorem dX7_step_0 : decode cX7_step 0 = .ok (.iload_n 1, 1) := by decide +kernel
theorem dX7_step_1 : decode cX7_step 1 = .ok (.ifCond .ge 6, 3) := by decide +kernel
theorem dX7_step_4 : decode cX7_step 4 = .ok (.bipush (-3), 2) := by decide +kernel
theorem dX7_step_6 : decode cX7_step 6 = .ok (.ireturn, 1) := by decide +kernel
theorem dX7_step_7 : decode cX7_step 7 = .ok (.aload_n 0, 1) := by decide +kernel
theorem dX7_step_8 : decode cX7_step 8 = .ok (.invokevirtual 157, 3) := by decide +kernel
theorem dX7_step_11 : decode cX7_step 11 = .ok (.pop, 1) := by decide +kernel
theorem dX7_step_12 : decode cX7_step 12 = .ok (.iload_n 1, 1) := by decide +kernel
theorem dX7_step_13 : decode cX7_step 13 = .ok (.aload_n 0, 1) := by decide +kernel
theorem dX7_step_14 : decode cX7_step 14 = .ok (.getfield 154, 3) := by decide +kernel
theorem dX7_step_17 : decode cX7_step 17 = .ok (.if_icmp .ge 12, 3) := by decide +kernel
theorem dX7_step_20 : decode cX7_step 20 = .ok (.aload_n 0, 1) := by decide +kernel
theorem dX7_step_21 : decode cX7_step 21 = .ok (.getfield 70, 3) := by decide +kernel
theorem dX7_step_24 : decode cX7_step 24 = .ok (.iload_n 1, 1) := by decide +kernel
theorem dX7_step_25 : decode cX7_step 25 = .ok (.iaload, 1) := by decide +kernel
theorem dX7_step_26 : decode cX7_step 26 = .ok (.goto 4, 3) := by decide +kernel
theorem dX7_step_29 : decode cX7_step 29 = .ok (.iconst (-1), 1) := by decide +kernel
theorem dX7_step_30 : decode cX7_step 30 = .ok (.ireturn, 1) := by decide +kernel
set_option maxRecDepth 20000 in
theorem ggX7_leaves_X7_findRun : GoodIn wsX7_leaves wsX7_findRun := goodIn_r _ [7, 8, 9, 10, 11, 12, 13, 1, 14, 15, 2, 16, 17, 18, 19, 20, 6, 21, 22, 23, 24, 25, 26, 27, 28, 29, 30, 31, 32, 33, 34, 35, 36, 37, 38, 39, 40, 41, 42, 43, 44, 45, 46, 47, 48, 49, 50, 51, 52, 53, 54, 55, 56, 57, 58, 59, 60, 61, 62, 63, 64, 65, 66, 67, 68, 69, 70, 71, 72, 73, 74, 75, 76] (by decide +kernel) (by decide +kernel)
set_option maxRecDepth 20000 in
theorem gX7_leaves_X7_findRun : GoodIn wsX7_leaves (wsV RX7 157 RX7 yX7_findRun wsX7_findRun) := goodIn_app (goodIn_of _ (by decide +kernel)) ggX7_leaves_X7_findRun
theorem dX7_leaves_0 : decode cX7_leaves 0 = .ok (.iload_n 1, 1) := by decide +kernel
theorem dX7_leaves_1 : decode cX7_leaves 1 = .ok (.ifCond .ge 6, 3) := by decide +kernel
theorem dX7_leaves_4 : decode cX7_leaves 4 = .ok (.bipush (-3), 2) := by decide +kernel
theorem dX7_leaves_6 : decode cX7_leaves 6 = .ok (.ireturn, 1) := by decide +kernel
theorem dX7_leaves_7 : decode cX7_leaves 7 = .ok (.aload_n 0, 1) := by decide +kernel
theorem dX7_leaves_8 : decode cX7_leaves 8 = .ok (.invokevirtual 157, 3) := by decide +kernel
theorem dX7_leaves_11 : decode cX7_leaves 11 = .ok (.pop, 1) := by decide +kernel
theorem dX7_leaves_12 : decode cX7_leaves 12 = .ok (.iload_n 1, 1) := by decide +kernel
theorem dX7_leaves_13 : decode cX7_leaves 13 = .ok (.istore_n 2, 1) := by decide +kernel
theorem dX7_leaves_14 : decode cX7_leaves 14 = .ok (.iconst 0, 1) := by decide +kernel
theorem dX7_leaves_15 : decode cX7_leaves 15 = .ok (.istore_n 3, 1) := by decide +kernel
theorem dX7_leaves_16 : decode cX7_leaves 16 = .ok (.iload_n 3, 1) := by decide +kernel
theorem dX7_leaves_17 : decode cX7_leaves 17 = .ok (.aload_n 0, 1) := by decide +kernel
theorem dX7_leaves_18 : decode cX7_leaves 18 = .ok (.getfield 154, 3) := by decide +kernel
theorem dX7_leaves_21 : decode cX7_leaves 21 = .ok (.if_icmp .ge 33, 3) := by decide +kernel
theorem dX7_leaves_24 : decode cX7_leaves 24 = .ok (.aload_n 0, 1) := by decide +kernel
theorem dX7_leaves_25 : decode cX7_leaves 25 = .ok (.getfield 73, 3) := by decide +kernel
theorem dX7_leaves_28 : decode cX7_leaves 28 = .ok (.iload_n 3, 1) := by decide +kernel
theorem dX7_leaves_29 : decode cX7_leaves 29 = .ok (.iaload, 1) := by decide +kernel
theorem dX7_leaves_30 : decode cX7_leaves 30 = .ok (.iconst (-1), 1) := by decide +kernel
theorem dX7_leaves_31 : decode cX7_leaves 31 = .ok (.if_icmp .eq 17, 3) := by decide +kernel
theorem dX7_leaves_34 : decode cX7_leaves 34 = .ok (.iload_n 2, 1) := by decide +kernel
theorem dX7_leaves_35 : decode cX7_leaves 35 = .ok (.ifCond .ne 10, 3) := by decide +kernel
theorem dX7_leaves_38 : decode cX7_leaves 38 = .ok (.aload_n 0, 1) := by decide +kernel
theorem dX7_leaves_39 : decode cX7_leaves 39 = .ok (.getfield 73, 3) := by decide +kernel
theorem dX7_leaves_42 : decode cX7_leaves 42 = .ok (.iload_n 3, 1) := by decide +kernel
theorem dX7_leaves_43 : decode cX7_leaves 43 = .ok (.iaload, 1) := by decide +kernel
theorem dX7_leaves_44 : decode cX7_leaves 44 = .ok (.ireturn, 1) := by decide +kernel
theorem dX7_leaves_45 : decode cX7_leaves 45 = .ok (.iinc 2 (-1), 3) := by decide +kernel
theorem dX7_leaves_48 : decode cX7_leaves 48 = .ok (.iinc 3 1, 3) := by decide +kernel
theorem dX7_leaves_51 : decode cX7_leaves 51 = .ok (.goto (-35), 3) := by decide +kernel
theorem dX7_leaves_54 : decode cX7_leaves 54 = .ok (.iconst (-1), 1) := by decide +kernel
theorem dX7_leaves_55 : decode cX7_leaves 55 = .ok (.ireturn, 1) := by decide +kernel
theorem dX7_findEnds_0 : decode cX7_findEnds 0 = .ok (.iconst 0, 1) := by decide +kernel
theorem dX7_findEnds_1 : decode cX7_findEnds 1 = .ok (.istore_n 1, 1) := by decide +kernel
theorem dX7_findEnds_2 : decode cX7_findEnds 2 = .ok (.iconst 0, 1) := by decide +kernel
theorem dX7_findEnds_3 : decode cX7_findEnds 3 = .ok (.istore_n 2, 1) := by decide +kernel
theorem dX7_findEnds_4 : decode cX7_findEnds 4 = .ok (.iconst 0, 1) := by decide +kernel
theorem dX7_findEnds_5 : decode cX7_findEnds 5 = .ok (.istore_n 3, 1) := by decide +kernel
theorem dX7_findEnds_6 : decode cX7_findEnds 6 = .ok (.iload_n 3, 1) := by decide +kernel
theorem dX7_findEnds_7 : decode cX7_findEnds 7 = .ok (.aload_n 0, 1) := by decide +kernel
theorem dX7_findEnds_8 : decode cX7_findEnds 8 = .ok (.getfield 88, 3) := by decide +kernel
theorem dX7_findEnds_11 : decode cX7_findEnds 11 = .ok (.if_icmp .ge 53, 3) := by decide +kernel
theorem dX7_findEnds_14 : decode cX7_findEnds 14 = .ok (.iload_n 1, 1) := by decide +kernel
theorem dX7_findEnds_15 : decode cX7_findEnds 15 = .ok (.aload_n 0, 1) := by decide +kernel
theorem dX7_findEnds_16 : decode cX7_findEnds 16 = .ok (.getfield 13, 3) := by decide +kernel
theorem dX7_findEnds_19 : decode cX7_findEnds 19 = .ok (.aload_n 0, 1) := by decide +kernel
theorem dX7_findEnds_20 : decode cX7_findEnds 20 = .ok (.getfield 76, 3) := by decide +kernel
theorem dX7_findEnds_23 : decode cX7_findEnds 23 = .ok (.iload_n 3, 1) := by decide +kernel
theorem dX7_findEnds_24 : decode cX7_findEnds 24 = .ok (.iaload, 1) := by decide +kernel
theorem dX7_findEnds_25 : decode cX7_findEnds 25 = .ok (.iaload, 1) := by decide +kernel
theorem dX7_findEnds_26 : decode cX7_findEnds 26 = .ok (.iadd, 1) := by decide +kernel
theorem dX7_findEnds_27 : decode cX7_findEnds 27 = .ok (.istore_n 1, 1) := by decide +kernel
theorem dX7_findEnds_28 : decode cX7_findEnds 28 = .ok (.iload_n 1, 1) := by decide +kernel
theorem dX7_findEnds_29 : decode cX7_findEnds 29 = .ok (.iload_n 2, 1) := by decide +kernel
theorem dX7_findEnds_30 : decode cX7_findEnds 30 = .ok (.if_icmp .le 7, 3) := by decide +kernel
theorem dX7_findEnds_33 : decode cX7_findEnds 33 = .ok (.iload_n 1, 1) := by decide +kernel
theorem dX7_findEnds_34 : decode cX7_findEnds 34 = .ok (.goto 4, 3) := by decide +kernel
theorem dX7_findEnds_37 : decode cX7_findEnds 37 = .ok (.iload_n 2, 1) := by decide +kernel
theorem dX7_findEnds_38 : decode cX7_findEnds 38 = .ok (.aload_n 0, 1) := by decide +kernel
theorem dX7_findEnds_39 : decode cX7_findEnds 39 = .ok (.getfield 16, 3) := by decide +kernel
theorem dX7_findEnds_42 : decode cX7_findEnds 42 = .ok (.aload_n 0, 1) := by decide +kernel
theorem dX7_findEnds_43 : decode cX7_findEnds 43 = .ok (.getfield 76, 3) := by decide +kernel
theorem dX7_findEnds_46 : decode cX7_findEnds 46 = .ok (.iload_n 3, 1) := by decide +kernel
theorem dX7_findEnds_47 : decode cX7_findEnds 47 = .ok (.iaload, 1) := by decide +kernel
theorem dX7_findEnds_48 : decode cX7_findEnds 48 = .ok (.iaload, 1) := by decide +kernel
theorem dX7_findEnds_49 : decode cX7_findEnds 49 = .ok (.iadd, 1) := by decide +kernel
theorem dX7_findEnds_50 : decode cX7_findEnds 50 = .ok (.istore_n 2, 1) := by decide +kernel
theorem dX7_findEnds_51 : decode cX7_findEnds 51 = .ok (.aload_n 0, 1) := by decide +kernel
theorem dX7_findEnds_52 : decode cX7_findEnds 52 = .ok (.getfield 79, 3) := by decide +kernel
theorem dX7_findEnds_55 : decode cX7_findEnds 55 = .ok (.iload_n 3, 1) := by decide +kernel
theorem dX7_findEnds_56 : decode cX7_findEnds 56 = .ok (.iload_n 2, 1) := by decide +kernel
theorem dX7_findEnds_57 : decode cX7_findEnds 57 = .ok (.iastore, 1) := by decide +kernel
theorem dX7_findEnds_58 : decode cX7_findEnds 58 = .ok (.iinc 3 1, 3) := by decide +kernel
theorem dX7_findEnds_61 : decode cX7_findEnds 61 = .ok (.goto (-55), 3) := by decide +kernel
theorem dX7_findEnds_64 : decode cX7_findEnds 64 = .ok (.iload_n 2, 1) := by decide +kernel
theorem dX7_findEnds_65 : decode cX7_findEnds 65 = .ok (.ireturn, 1) := by decide +kernel
theorem dX7_tell_0 : decode cX7_tell 0 = .ok (.iload_n 1, 1) := by decide +kernel
theorem dX7_tell_1 : decode cX7_tell 1 = .ok (.istore_n 3, 1) := by decide +kernel
theorem dX7_tell_2 : decode cX7_tell 2 = .ok (.iload_n 2, 1) := by decide +kernel
theorem dX7_tell_3 : decode cX7_tell 3 = .ok (.istore 4, 2) := by decide +kernel
theorem dX7_tell_5 : decode cX7_tell 5 = .ok (.iconst 0, 1) := by decide +kernel
theorem dX7_tell_6 : decode cX7_tell 6 = .ok (.istore 5, 2) := by decide +kernel
theorem dX7_tell_8 : decode cX7_tell 8 = .ok (.iconst 0, 1) := by decide +kernel
theorem dX7_tell_9 : decode cX7_tell 9 = .ok (.istore 6, 2) := by decide +kernel
theorem dX7_tell_11 : decode cX7_tell 11 = .ok (.iload 6, 2) := by decide +kernel
theorem dX7_tell_13 : decode cX7_tell 13 = .ok (.aload_n 0, 1) := by decide +kernel
theorem dX7_tell_14 : decode cX7_tell 14 = .ok (.getfield 88, 3) := by decide +kernel
theorem dX7_tell_17 : decode cX7_tell 17 = .ok (.if_icmp .ge 95, 3) := by decide +kernel
theorem dX7_tell_20 : decode cX7_tell 20 = .ok (.iload 4, 2) := by decide +kernel
theorem dX7_tell_22 : decode cX7_tell 22 = .ok (.aload_n 0, 1) := by decide +kernel
theorem dX7_tell_23 : decode cX7_tell 23 = .ok (.getfield 88, 3) := by decide +kernel
theorem dX7_tell_26 : decode cX7_tell 26 = .ok (.iload 6, 2) := by decide +kernel
theorem dX7_tell_28 : decode cX7_tell 28 = .ok (.isub, 1) := by decide +kernel
theorem dX7_tell_29 : decode cX7_tell 29 = .ok (.idiv, 1) := by decide +kernel
theorem dX7_tell_30 : decode cX7_tell 30 = .ok (.istore 4, 2) := by decide +kernel
theorem dX7_tell_32 : decode cX7_tell 32 = .ok (.iload_n 3, 1) := by decide +kernel
theorem dX7_tell_33 : decode cX7_tell 33 = .ok (.iload 4, 2) := by decide +kernel
theorem dX7_tell_35 : decode cX7_tell 35 = .ok (.idiv, 1) := by decide +kernel
theorem dX7_tell_36 : decode cX7_tell 36 = .ok (.istore 7, 2) := by decide +kernel
theorem dX7_tell_38 : decode cX7_tell 38 = .ok (.iload_n 3, 1) := by decide +kernel
theorem dX7_tell_39 : decode cX7_tell 39 = .ok (.iload 4, 2) := by decide +kernel
theorem dX7_tell_41 : decode cX7_tell 41 = .ok (.irem, 1) := by decide +kernel
theorem dX7_tell_42 : decode cX7_tell 42 = .ok (.istore_n 3, 1) := by decide +kernel
theorem dX7_tell_43 : decode cX7_tell 43 = .ok (.iconst 0, 1) := by decide +kernel
theorem dX7_tell_44 : decode cX7_tell 44 = .ok (.istore 8, 2) := by decide +kernel
theorem dX7_tell_46 : decode cX7_tell 46 = .ok (.iload 5, 2) := by decide +kernel
theorem dX7_tell_48 : decode cX7_tell 48 = .ok (.iload 8, 2) := by decide +kernel
theorem dX7_tell_50 : decode cX7_tell 50 = .ok (.ishr, 1) := by decide +kernel
theorem dX7_tell_51 : decode cX7_tell 51 = .ok (.iconst 1, 1) := by decide +kernel
theorem dX7_tell_52 : decode cX7_tell 52 = .ok (.iand, 1) := by decide +kernel
theorem dX7_tell_53 : decode cX7_tell 53 = .ok (.iconst 1, 1) := by decide +kernel
theorem dX7_tell_54 : decode cX7_tell 54 = .ok (.if_icmp .eq 8, 3) := by decide +kernel
theorem dX7_tell_57 : decode cX7_tell 57 = .ok (.iload 7, 2) := by decide +kernel
theorem dX7_tell_59 : decode cX7_tell 59 = .ok (.ifCond .le 29, 3) := by decide +kernel
theorem dX7_tell_62 : decode cX7_tell 62 = .ok (.iload 7, 2) := by decide +kernel
theorem dX7_tell_64 : decode cX7_tell 64 = .ok (.iload 5, 2) := by decide +kernel
theorem dX7_tell_66 : decode cX7_tell 66 = .ok (.iload 8, 2) := by decide +kernel
theorem dX7_tell_68 : decode cX7_tell 68 = .ok (.ishr, 1) := by decide +kernel
theorem dX7_tell_69 : decode cX7_tell 69 = .ok (.iconst 1, 1) := by decide +kernel
theorem dX7_tell_70 : decode cX7_tell 70 = .ok (.iand, 1) := by decide +kernel
theorem dX7_tell_71 : decode cX7_tell 71 = .ok (.ifCond .ne 7, 3) := by decide +kernel
theorem dX7_tell_74 : decode cX7_tell 74 = .ok (.iconst 1, 1) := by decide +kernel
theorem dX7_tell_75 : decode cX7_tell 75 = .ok (.goto 4, 3) := by decide +kernel
theorem dX7_tell_78 : decode cX7_tell 78 = .ok (.iconst 0, 1) := by decide +kernel
theorem dX7_tell_79 : decode cX7_tell 79 = .ok (.isub, 1) := by decide +kernel
theorem dX7_tell_80 : decode cX7_tell 80 = .ok (.istore 7, 2) := by decide +kernel
theorem dX7_tell_82 : decode cX7_tell 82 = .ok (.iinc 8 1, 3) := by decide +kernel
theorem dX7_tell_85 : decode cX7_tell 85 = .ok (.goto (-39), 3) := by decide +kernel
theorem dX7_tell_88 : decode cX7_tell 88 = .ok (.aload_n 0, 1) := by decide +kernel
theorem dX7_tell_89 : decode cX7_tell 89 = .ok (.getfield 76, 3) := by decide +kernel
theorem dX7_tell_92 : decode cX7_tell 92 = .ok (.iload 6, 2) := by decide +kernel
theorem dX7_tell_94 : decode cX7_tell 94 = .ok (.iload 8, 2) := by decide +kernel
theorem dX7_tell_96 : decode cX7_tell 96 = .ok (.iastore, 1) := by decide +kernel
theorem dX7_tell_97 : decode cX7_tell 97 = .ok (.iload 5, 2) := by decide +kernel
theorem dX7_tell_99 : decode cX7_tell 99 = .ok (.iconst 1, 1) := by decide +kernel
theorem dX7_tell_100 : decode cX7_tell 100 = .ok (.iload 8, 2) := by decide +kernel
theorem dX7_tell_102 : decode cX7_tell 102 = .ok (.ishl, 1) := by decide +kernel
theorem dX7_tell_103 : decode cX7_tell 103 = .ok (.ior, 1) := by decide +kernel
theorem dX7_tell_104 : decode cX7_tell 104 = .ok (.istore 5, 2) := by decide +kernel
theorem dX7_tell_106 : decode cX7_tell 106 = .ok (.iinc 6 1, 3) := by decide +kernel
theorem dX7_tell_109 : decode cX7_tell 109 = .ok (.goto (-98), 3) := by decide +kernel
theorem dX7_tell_112 : decode cX7_tell 112 = .ok (.return_, 1) := by decide +kernel
set_option maxRecDepth 20000 in
theorem ggX7_findBest_X7_tell : GoodIn wsX7_findBest wsX7_tell := goodIn_r _ [11, 1, 4, 18, 19, 20, 21, 22, 23, 24, 25, 26, 27, 28, 29, 30, 31, 32, 33, 34, 35, 36, 37, 38, 39, 40, 41, 42, 43, 44, 45, 46, 47] (by decide +kernel) (by decide +kernel)
set_option maxRecDepth 20000 in
theorem gX7_findBest_X7_tell : GoodIn wsX7_findBest (wsV RX7 160 RX7 yX7_tell wsX7_tell) := goodIn_app (goodIn_of _ (by decide +kernel)) ggX7_findBest_X7_tell
set_option maxRecDepth 20000 in
theorem ggX7_findBest_X7_findEnds : GoodIn wsX7_findBest wsX7_findEnds := goodIn_r _ [15, 1, 16, 4, 17, 6, 18, 19, 20, 21, 22, 23, 24, 25, 26, 27, 28, 29, 30, 31, 32, 33, 34, 35, 36, 37, 38, 39, 40, 41, 42, 43, 44, 45, 46, 47] (by decide +kernel) (by decide +kernel)
set_option maxRecDepth 20000 in
theorem gX7_findBest_X7_findEnds : GoodIn wsX7_findBest (wsV RX7 164 RX7 yX7_findEnds wsX7_findEnds) := goodIn_app (goodIn_of _ (by decide +kernel)) ggX7_findBest_X7_findEnds
theorem dX7_findBest_0 : decode cX7_findBest 0 = .ok (.iconst 1, 1) := by decide +kernel
theorem dX7_findBest_1 : decode cX7_findBest 1 = .ok (.istore_n 1, 1) := by decide +kernel
theorem dX7_findBest_2 : decode cX7_findBest 2 = .ok (.iconst 2, 1) := by decide +kernel
theorem dX7_findBest_3 : decode cX7_findBest 3 = .ok (.istore_n 2, 1) := by decide +kernel
theorem dX7_findBest_4 : decode cX7_findBest 4 = .ok (.iload_n 2, 1) := by decide +kernel
theorem dX7_findBest_5 : decode cX7_findBest 5 = .ok (.aload_n 0, 1) := by decide +kernel
theorem dX7_findBest_6 : decode cX7_findBest 6 = .ok (.getfield 88, 3) := by decide +kernel
theorem dX7_findBest_9 : decode cX7_findBest 9 = .ok (.if_icmp .gt 13, 3) := by decide +kernel
theorem dX7_findBest_12 : decode cX7_findBest 12 = .ok (.iload_n 1, 1) := by decide +kernel
theorem dX7_findBest_13 : decode cX7_findBest 13 = .ok (.iload_n 2, 1) := by decide +kernel
theorem dX7_findBest_14 : decode cX7_findBest 14 = .ok (.imul, 1) := by decide +kernel
theorem dX7_findBest_15 : decode cX7_findBest 15 = .ok (.istore_n 1, 1) := by decide +kernel
theorem dX7_findBest_16 : decode cX7_findBest 16 = .ok (.iinc 2 1, 3) := by decide +kernel
theorem dX7_findBest_19 : decode cX7_findBest 19 = .ok (.goto (-15), 3) := by decide +kernel
theorem dX7_findBest_22 : decode cX7_findBest 22 = .ok (.ldc 153, 2) := by decide +kernel
theorem dX7_findBest_24 : decode cX7_findBest 24 = .ok (.istore_n 2, 1) := by decide +kernel
theorem dX7_findBest_25 : decode cX7_findBest 25 = .ok (.iconst 0, 1) := by decide +kernel
theorem dX7_findBest_26 : decode cX7_findBest 26 = .ok (.istore_n 3, 1) := by decide +kernel
theorem dX7_findBest_27 : decode cX7_findBest 27 = .ok (.iload_n 3, 1) := by decide +kernel
theorem dX7_findBest_28 : decode cX7_findBest 28 = .ok (.iload_n 1, 1) := by decide +kernel
theorem dX7_findBest_29 : decode cX7_findBest 29 = .ok (.if_icmp .ge 76, 3) := by decide +kernel
theorem dX7_findBest_32 : decode cX7_findBest 32 = .ok (.aload_n 0, 1) := by decide +kernel
theorem dX7_findBest_33 : decode cX7_findBest 33 = .ok (.iload_n 3, 1) := by decide +kernel
theorem dX7_findBest_34 : decode cX7_findBest 34 = .ok (.iload_n 1, 1) := by decide +kernel
theorem dX7_findBest_35 : decode cX7_findBest 35 = .ok (.invokevirtual 160, 3) := by decide +kernel
theorem dX7_findBest_38 : decode cX7_findBest 38 = .ok (.aload_n 0, 1) := by decide +kernel
theorem dX7_findBest_39 : decode cX7_findBest 39 = .ok (.invokevirtual 164, 3) := by decide +kernel
theorem dX7_findBest_42 : decode cX7_findBest 42 = .ok (.istore 4, 2) := by decide +kernel
theorem dX7_findBest_44 : decode cX7_findBest 44 = .ok (.iload 4, 2) := by decide +kernel
theorem dX7_findBest_46 : decode cX7_findBest 46 = .ok (.iload_n 2, 1) := by decide +kernel
theorem dX7_findBest_47 : decode cX7_findBest 47 = .ok (.if_icmp .ge 52, 3) := by decide +kernel
theorem dX7_findBest_50 : decode cX7_findBest 50 = .ok (.iload 4, 2) := by decide +kernel
theorem dX7_findBest_52 : decode cX7_findBest 52 = .ok (.istore_n 2, 1) := by decide +kernel
theorem dX7_findBest_53 : decode cX7_findBest 53 = .ok (.iconst 0, 1) := by decide +kernel
theorem dX7_findBest_54 : decode cX7_findBest 54 = .ok (.istore 5, 2) := by decide +kernel
theorem dX7_findBest_56 : decode cX7_findBest 56 = .ok (.iload 5, 2) := by decide +kernel
theorem dX7_findBest_58 : decode cX7_findBest 58 = .ok (.aload_n 0, 1) := by decide +kernel
theorem dX7_findBest_59 : decode cX7_findBest 59 = .ok (.getfield 88, 3) := by decide +kernel
theorem dX7_findBest_62 : decode cX7_findBest 62 = .ok (.if_icmp .ge 37, 3) := by decide +kernel
theorem dX7_findBest_65 : decode cX7_findBest 65 = .ok (.aload_n 0, 1) := by decide +kernel
theorem dX7_findBest_66 : decode cX7_findBest 66 = .ok (.getfield 82, 3) := by decide +kernel
theorem dX7_findBest_69 : decode cX7_findBest 69 = .ok (.iload 5, 2) := by decide +kernel
theorem dX7_findBest_71 : decode cX7_findBest 71 = .ok (.aload_n 0, 1) := by decide +kernel
theorem dX7_findBest_72 : decode cX7_findBest 72 = .ok (.getfield 76, 3) := by decide +kernel
theorem dX7_findBest_75 : decode cX7_findBest 75 = .ok (.iload 5, 2) := by decide +kernel
theorem dX7_findBest_77 : decode cX7_findBest 77 = .ok (.iaload, 1) := by decide +kernel
theorem dX7_findBest_78 : decode cX7_findBest 78 = .ok (.iastore, 1) := by decide +kernel
theorem dX7_findBest_79 : decode cX7_findBest 79 = .ok (.aload_n 0, 1) := by decide +kernel
theorem dX7_findBest_80 : decode cX7_findBest 80 = .ok (.getfield 85, 3) := by decide +kernel
theorem dX7_findBest_83 : decode cX7_findBest 83 = .ok (.iload 5, 2) := by decide +kernel
theorem dX7_findBest_85 : decode cX7_findBest 85 = .ok (.aload_n 0, 1) := by decide +kernel
theorem dX7_findBest_86 : decode cX7_findBest 86 = .ok (.getfield 79, 3) := by decide +kernel
theorem dX7_findBest_89 : decode cX7_findBest 89 = .ok (.iload 5, 2) := by decide +kernel
theorem dX7_findBest_91 : decode cX7_findBest 91 = .ok (.iaload, 1) := by decide +kernel
theorem dX7_findBest_92 : decode cX7_findBest 92 = .ok (.iastore, 1) := by decide +kernel
theorem dX7_findBest_93 : decode cX7_findBest 93 = .ok (.iinc 5 1, 3) := by decide +kernel
theorem dX7_findBest_96 : decode cX7_findBest 96 = .ok (.goto (-40), 3) := by decide +kernel
theorem dX7_findBest_99 : decode cX7_findBest 99 = .ok (.iinc 3 1, 3) := by decide +kernel
theorem dX7_findBest_102 : decode cX7_findBest 102 = .ok (.goto (-75), 3) := by decide +kernel
theorem dX7_findBest_105 : decode cX7_findBest 105 = .ok (.iload_n 2, 1) := by decide +kernel
theorem dX7_findBest_106 : decode cX7_findBest 106 = .ok (.ireturn, 1) := by decide +kernel
theorem dX7_takeNumbers_0 : decode cX7_takeNumbers 0 = .ok (.iconst 0, 1) := by decide +kernel
theorem dX7_takeNumbers_1 : decode cX7_takeNumbers 1 = .ok (.istore_n 1, 1) := by decide +kernel
theorem dX7_takeNumbers_2 : decode cX7_takeNumbers 2 = .ok (.iload_n 1, 1) := by decide +kernel
theorem dX7_takeNumbers_3 : decode cX7_takeNumbers 3 = .ok (.aload_n 0, 1) := by decide +kernel
theorem dX7_takeNumbers_4 : decode cX7_takeNumbers 4 = .ok (.getfield 88, 3) := by decide +kernel
theorem dX7_takeNumbers_7 : decode cX7_takeNumbers 7 = .ok (.if_icmp .ge 16, 3) := by decide +kernel
theorem dX7_takeNumbers_10 : decode cX7_takeNumbers 10 = .ok (.aload_n 0, 1) := by decide +kernel
theorem dX7_takeNumbers_11 : decode cX7_takeNumbers 11 = .ok (.getfield 76, 3) := by decide +kernel
theorem dX7_takeNumbers_14 : decode cX7_takeNumbers 14 = .ok (.iload_n 1, 1) := by decide +kernel
theorem dX7_takeNumbers_15 : decode cX7_takeNumbers 15 = .ok (.iload_n 1, 1) := by decide +kernel
theorem dX7_takeNumbers_16 : decode cX7_takeNumbers 16 = .ok (.iastore, 1) := by decide +kernel
theorem dX7_takeNumbers_17 : decode cX7_takeNumbers 17 = .ok (.iinc 1 1, 3) := by decide +kernel
theorem dX7_takeNumbers_20 : decode cX7_takeNumbers 20 = .ok (.goto (-18), 3) := by decide +kernel
theorem dX7_takeNumbers_23 : decode cX7_takeNumbers 23 = .ok (.return_, 1) := by decide +kernel
set_option maxRecDepth 20000 in
theorem ggX7_ready_X7_isUnit : GoodIn wsX7_ready wsX7_isUnit := goodIn_r _ [6, 7, 8, 9, 5, 10, 22, 23, 24, 25, 26, 27, 28, 29, 30, 31, 32, 33, 34, 35, 36, 37, 38, 39, 40, 41, 42, 43, 44, 45, 46, 47, 48, 49, 50, 51] (by decide +kernel) (by decide +kernel)
set_option maxRecDepth 20000 in
theorem gX7_ready_X7_isUnit : GoodIn wsX7_ready (wsV RX7 96 RX7 yX7_isUnit wsX7_isUnit) := goodIn_app (goodIn_of _ (by decide +kernel)) ggX7_ready_X7_isUnit
set_option maxRecDepth 20000 in
theorem ggX7_ready_X7_takeNumbers : GoodIn wsX7_ready wsX7_takeNumbers := goodIn_r _ [14, 7, 15, 22, 23, 24, 25, 26, 27, 28, 29, 30, 31, 32, 33, 34, 35, 36, 37, 38, 39, 40, 41, 42, 43, 44, 45, 46, 47, 48, 49, 50, 51] (by decide +kernel) (by decide +kernel)
set_option maxRecDepth 20000 in
theorem gX7_ready_X7_takeNumbers : GoodIn wsX7_ready (wsV RX7 167 RX7 yX7_takeNumbers wsX7_takeNumbers) := goodIn_app (goodIn_of _ (by decide +kernel)) ggX7_ready_X7_takeNumbers
set_option maxRecDepth 20000 in
theorem ggX7_ready_X7_findEnds : GoodIn wsX7_ready wsX7_findEnds := goodIn_r _ [19, 7, 20, 15, 21, 1, 22, 23, 24, 25, 26, 27, 28, 29, 30, 31, 32, 33, 34, 35, 36, 37, 38, 39, 40, 41, 42, 43, 44, 45, 46, 47, 48, 49, 50, 51] (by decide +kernel) (by decide +kernel)
set_option maxRecDepth 20000 in
theorem gX7_ready_X7_findEnds : GoodIn wsX7_ready (wsV RX7 164 RX7 yX7_findEnds wsX7_findEnds) := goodIn_app (goodIn_of _ (by decide +kernel)) ggX7_ready_X7_findEnds
theorem dX7_ready_0 : decode cX7_ready 0 = .ok (.aload_n 0, 1) := by decide +kernel
theorem dX7_ready_1 : decode cX7_ready 1 = .ok (.iload_n 1, 1) := by decide +kernel
theorem dX7_ready_2 : decode cX7_ready 2 = .ok (.invokevirtual 96, 3) := by decide +kernel
theorem dX7_ready_5 : decode cX7_ready 5 = .ok (.ifCond .ne 6, 3) := by decide +kernel
theorem dX7_ready_8 : decode cX7_ready 8 = .ok (.bipush (-2), 2) := by decide +kernel
theorem dX7_ready_10 : decode cX7_ready 10 = .ok (.ireturn, 1) := by decide +kernel
theorem dX7_ready_11 : decode cX7_ready 11 = .ok (.aload_n 0, 1) := by decide +kernel
theorem dX7_ready_12 : decode cX7_ready 12 = .ok (.invokevirtual 167, 3) := by decide +kernel
theorem dX7_ready_15 : decode cX7_ready 15 = .ok (.aload_n 0, 1) := by decide +kernel
theorem dX7_ready_16 : decode cX7_ready 16 = .ok (.invokevirtual 164, 3) := by decide +kernel
theorem dX7_ready_19 : decode cX7_ready 19 = .ok (.pop, 1) := by decide +kernel
theorem dX7_ready_20 : decode cX7_ready 20 = .ok (.aload_n 0, 1) := by decide +kernel
theorem dX7_ready_21 : decode cX7_ready 21 = .ok (.getfield 79, 3) := by decide +kernel
theorem dX7_ready_24 : decode cX7_ready 24 = .ok (.iload_n 1, 1) := by decide +kernel
theorem dX7_ready_25 : decode cX7_ready 25 = .ok (.iaload, 1) := by decide +kernel
theorem dX7_ready_26 : decode cX7_ready 26 = .ok (.ireturn, 1) := by decide +kernel
set_option maxRecDepth 20000 in
theorem ggX7_ends_X7_findBest : GoodIn wsX7_ends wsX7_findBest := goodIn_r _ [5, 6, 7, 8, 9, 10, 11, 12, 13, 14, 4, 15, 16, 17, 18, 19, 20, 21, 22, 23, 24, 25, 26, 27, 28, 29, 30, 31, 32, 33, 34, 35, 36, 37, 38, 39, 40, 41, 42, 43, 44, 45, 46, 47, 48, 49, 50, 51] (by decide +kernel) (by decide +kernel)
set_option maxRecDepth 20000 in
theorem gX7_ends_X7_findBest : GoodIn wsX7_ends (wsV RX7 170 RX7 yX7_findBest wsX7_findBest) := goodIn_app (goodIn_of _ (by decide +kernel)) ggX7_ends_X7_findBest
theorem dX7_ends_0 : decode cX7_ends 0 = .ok (.aload_n 0, 1) := by decide +kernel
theorem dX7_ends_1 : decode cX7_ends 1 = .ok (.invokevirtual 170, 3) := by decide +kernel
theorem dX7_ends_4 : decode cX7_ends 4 = .ok (.ireturn, 1) := by decide +kernel
