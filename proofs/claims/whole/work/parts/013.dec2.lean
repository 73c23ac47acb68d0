set_option maxRecDepth 20000 in
theorem ggX3_refresh_X3_yard : GoodIn wsX3_refresh wsX3_yard := goodIn_r _ [52, 2, 5, 53, 54, 55, 56, 51, 57, 58, 59, 60, 61, 62, 63, 64, 65, 66, 67, 68, 69, 70, 71, 72, 73, 74, 141, 142, 143, 144, 145, 146, 147, 148, 149, 150, 151, 152, 153, 154, 155, 156, 157] (by decide +kernel) (by decide +kernel)
set_option maxRecDepth 20000 in
theorem gX3_refresh_X3_yard : GoodIn wsX3_refresh (wsV RX3 53 RX3 yX3_yard wsX3_yard) := goodIn_app (goodIn_of _ (by decide +kernel)) ggX3_refresh_X3_yard
set_option maxRecDepth 20000 in
theorem ggX3_refresh_X4_findsRun : GoodIn wsX3_refresh wsX4_findsRun := goodIn_r _ [78, 44, 45, 46, 79, 80, 81, 82, 83, 84, 85, 9, 86, 40, 42, 43, 47, 87, 88, 89, 90, 91, 92, 93, 94, 62, 95, 96, 97, 98, 99, 100, 101, 61, 63, 102, 103, 104, 67, 68, 69, 70, 105, 106, 107, 108, 109, 110, 111, 71, 72, 73, 74, 112, 113, 114, 115, 116, 117, 118, 119, 120, 121, 122, 123, 124, 65, 66, 158, 159, 160, 161, 162, 163, 164, 147, 148, 149, 150, 151, 152, 153, 154, 155, 156, 157] (by decide +kernel) (by decide +kernel)
set_option maxRecDepth 20000 in
theorem gX3_refresh_X4_findsRun : GoodIn wsX3_refresh (wsV RX3 57 RX4 yX4_findsRun wsX4_findsRun) := goodIn_app (goodIn_of _ (by decide +kernel)) ggX3_refresh_X4_findsRun
set_option maxRecDepth 20000 in
theorem ggX3_refresh_X4_stepsToGoal : GoodIn wsX3_refresh wsX4_stepsToGoal := goodIn_r _ [128, 46, 41, 43, 42, 129, 130, 131, 9, 132, 45, 158, 159, 160, 161, 162, 163, 164] (by decide +kernel) (by decide +kernel)
set_option maxRecDepth 20000 in
theorem gX3_refresh_X4_stepsToGoal : GoodIn wsX3_refresh (wsV RX3 61 RX4 yX4_stepsToGoal wsX4_stepsToGoal) := goodIn_app (goodIn_of _ (by decide +kernel)) ggX3_refresh_X4_stepsToGoal
set_option maxRecDepth 20000 in
theorem ggX3_refresh_X3_nameLeavers : GoodIn wsX3_refresh wsX3_nameLeavers := goodIn_r _ [136, 10, 137, 48, 49, 50, 51, 52, 2, 5, 53, 54, 55, 56, 57, 58, 59, 60, 61, 62, 63, 64, 65, 66, 67, 68, 69, 70, 71, 72, 73, 74, 138, 121, 122, 109, 110, 111, 123, 103, 104, 124, 139, 140, 106, 107, 108, 141, 142, 143, 144, 145, 146, 147, 148, 149, 150, 151, 152, 153, 154, 155, 156, 157] (by decide +kernel) (by decide +kernel)
set_option maxRecDepth 20000 in
theorem gX3_refresh_X3_nameLeavers : GoodIn wsX3_refresh (wsV RX3 65 RX3 yX3_nameLeavers wsX3_nameLeavers) := goodIn_app (goodIn_of _ (by decide +kernel)) ggX3_refresh_X3_nameLeavers
theorem dX3_refresh_0 : decode cX3_refresh 0 = .ok (.aload_n 0, 1) := by decide +kernel
theorem dX3_refresh_1 : decode cX3_refresh 1 = .ok (.getfield 22, 3) := by decide +kernel
theorem dX3_refresh_4 : decode cX3_refresh 4 = .ok (.aload_n 0, 1) := by decide +kernel
theorem dX3_refresh_5 : decode cX3_refresh 5 = .ok (.getfield 29, 3) := by decide +kernel
theorem dX3_refresh_8 : decode cX3_refresh 8 = .ok (.getfield 38, 3) := by decide +kernel
theorem dX3_refresh_11 : decode cX3_refresh 11 = .ok (.if_icmp .ne 4, 3) := by decide +kernel
theorem dX3_refresh_14 : decode cX3_refresh 14 = .ok (.return_, 1) := by decide +kernel
theorem dX3_refresh_15 : decode cX3_refresh 15 = .ok (.aload_n 0, 1) := by decide +kernel
theorem dX3_refresh_16 : decode cX3_refresh 16 = .ok (.aload_n 0, 1) := by decide +kernel
theorem dX3_refresh_17 : decode cX3_refresh 17 = .ok (.getfield 29, 3) := by decide +kernel
theorem dX3_refresh_20 : decode cX3_refresh 20 = .ok (.getfield 38, 3) := by decide +kernel
theorem dX3_refresh_23 : decode cX3_refresh 23 = .ok (.putfield 22, 3) := by decide +kernel
theorem dX3_refresh_26 : decode cX3_refresh 26 = .ok (.aload_n 0, 1) := by decide +kernel
theorem dX3_refresh_27 : decode cX3_refresh 27 = .ok (.iconst (-1), 1) := by decide +kernel
theorem dX3_refresh_28 : decode cX3_refresh 28 = .ok (.putfield 18, 3) := by decide +kernel
theorem dX3_refresh_31 : decode cX3_refresh 31 = .ok (.aload_n 0, 1) := by decide +kernel
theorem dX3_refresh_32 : decode cX3_refresh 32 = .ok (.getfield 29, 3) := by decide +kernel
theorem dX3_refresh_35 : decode cX3_refresh 35 = .ok (.aload_n 0, 1) := by decide +kernel
theorem dX3_refresh_36 : decode cX3_refresh 36 = .ok (.getfield 29, 3) := by decide +kernel
theorem dX3_refresh_39 : decode cX3_refresh 39 = .ok (.getfield 41, 3) := by decide +kernel
theorem dX3_refresh_42 : decode cX3_refresh 42 = .ok (.invokevirtual 44, 3) := by decide +kernel
theorem dX3_refresh_45 : decode cX3_refresh 45 = .ok (.ifCond .ne 4, 3) := by decide +kernel
theorem dX3_refresh_48 : decode cX3_refresh 48 = .ok (.return_, 1) := by decide +kernel
theorem dX3_refresh_49 : decode cX3_refresh 49 = .ok (.aload_n 0, 1) := by decide +kernel
theorem dX3_refresh_50 : decode cX3_refresh 50 = .ok (.getfield 25, 3) := by decide +kernel
theorem dX3_refresh_53 : decode cX3_refresh 53 = .ok (.ifnonnull 18, 3) := by decide +kernel
theorem dX3_refresh_56 : decode cX3_refresh 56 = .ok (.aload_n 0, 1) := by decide +kernel
theorem dX3_refresh_57 : decode cX3_refresh 57 = .ok (.new 48, 3) := by decide +kernel
theorem dX3_refresh_60 : decode cX3_refresh 60 = .ok (.dup, 1) := by decide +kernel
theorem dX3_refresh_61 : decode cX3_refresh 61 = .ok (.aload_n 0, 1) := by decide +kernel
theorem dX3_refresh_62 : decode cX3_refresh 62 = .ok (.getfield 29, 3) := by decide +kernel
theorem dX3_refresh_65 : decode cX3_refresh 65 = .ok (.invokespecial 50, 3) := by decide +kernel
theorem dX3_refresh_68 : decode cX3_refresh 68 = .ok (.putfield 25, 3) := by decide +kernel
theorem dX3_refresh_71 : decode cX3_refresh 71 = .ok (.aload_n 0, 1) := by decide +kernel
theorem dX3_refresh_72 : decode cX3_refresh 72 = .ok (.getfield 25, 3) := by decide +kernel
theorem dX3_refresh_75 : decode cX3_refresh 75 = .ok (.aload_n 0, 1) := by decide +kernel
theorem dX3_refresh_76 : decode cX3_refresh 76 = .ok (.iconst 0, 1) := by decide +kernel
theorem dX3_refresh_77 : decode cX3_refresh 77 = .ok (.invokevirtual 53, 3) := by decide +kernel
theorem dX3_refresh_80 : decode cX3_refresh 80 = .ok (.invokevirtual 57, 3) := by decide +kernel
theorem dX3_refresh_83 : decode cX3_refresh 83 = .ok (.ifCond .eq 35, 3) := by decide +kernel
theorem dX3_refresh_86 : decode cX3_refresh 86 = .ok (.aload_n 0, 1) := by decide +kernel
theorem dX3_refresh_87 : decode cX3_refresh 87 = .ok (.aload_n 0, 1) := by decide +kernel
theorem dX3_refresh_88 : decode cX3_refresh 88 = .ok (.getfield 25, 3) := by decide +kernel
theorem dX3_refresh_91 : decode cX3_refresh 91 = .ok (.invokevirtual 61, 3) := by decide +kernel
theorem dX3_refresh_94 : decode cX3_refresh 94 = .ok (.putfield 15, 3) := by decide +kernel
theorem dX3_refresh_97 : decode cX3_refresh 97 = .ok (.aload_n 0, 1) := by decide +kernel
theorem dX3_refresh_98 : decode cX3_refresh 98 = .ok (.aload_n 0, 1) := by decide +kernel
theorem dX3_refresh_99 : decode cX3_refresh 99 = .ok (.getfield 15, 3) := by decide +kernel
theorem dX3_refresh_102 : decode cX3_refresh 102 = .ok (.arraylength, 1) := by decide +kernel
theorem dX3_refresh_103 : decode cX3_refresh 103 = .ok (.aload_n 0, 1) := by decide +kernel
theorem dX3_refresh_104 : decode cX3_refresh 104 = .ok (.getfield 29, 3) := by decide +kernel
theorem dX3_refresh_107 : decode cX3_refresh 107 = .ok (.getfield 33, 3) := by decide +kernel
theorem dX3_refresh_110 : decode cX3_refresh 110 = .ok (.isub, 1) := by decide +kernel
theorem dX3_refresh_111 : decode cX3_refresh 111 = .ok (.putfield 18, 3) := by decide +kernel
theorem dX3_refresh_114 : decode cX3_refresh 114 = .ok (.aload_n 0, 1) := by decide +kernel
theorem dX3_refresh_115 : decode cX3_refresh 115 = .ok (.invokevirtual 65, 3) := by decide +kernel
theorem dX3_refresh_118 : decode cX3_refresh 118 = .ok (.return_, 1) := by decide +kernel
set_option maxRecDepth 20000 in
theorem ggX3_yard_X3_servingMark : GoodIn wsX3_yard wsX3_servingMark := goodIn_r _ [8, 1, 9, 10, 11, 12, 13, 14, 26, 27, 28, 29, 30, 31, 32, 33, 34, 35, 36, 37, 38, 39, 40, 41, 42] (by decide +kernel) (by decide +kernel)
set_option maxRecDepth 20000 in
theorem gX3_yard_X3_servingMark : GoodIn wsX3_yard (wsV RX3 68 RX3 yX3_servingMark wsX3_servingMark) := goodIn_app (goodIn_of _ (by decide +kernel)) ggX3_yard_X3_servingMark
set_option maxRecDepth 20000 in
theorem ggX3_yard_X2_put : GoodIn wsX3_yard wsX2_put := goodIn_r _ [17, 18, 19, 13, 20, 21, 22, 23, 24, 25] (by decide +kernel) (by decide +kernel)
set_option maxRecDepth 20000 in
theorem gX3_yard_X2_put : GoodIn wsX3_yard (va_wsS RX3 75 yX2_put wsX2_put) := goodIn_app (goodIn_of _ (by decide +kernel)) ggX3_yard_X2_put
theorem dX3_yard_0 : decode cX3_yard 0 = .ok (.lconst 0, 1) := by decide +kernel
theorem dX3_yard_1 : decode cX3_yard 1 = .ok (.lstore_n 2, 1) := by decide +kernel
theorem dX3_yard_2 : decode cX3_yard 2 = .ok (.iconst 0, 1) := by decide +kernel
theorem dX3_yard_3 : decode cX3_yard 3 = .ok (.istore 4, 2) := by decide +kernel
theorem dX3_yard_5 : decode cX3_yard 5 = .ok (.iload 4, 2) := by decide +kernel
theorem dX3_yard_7 : decode cX3_yard 7 = .ok (.aload_n 0, 1) := by decide +kernel
theorem dX3_yard_8 : decode cX3_yard 8 = .ok (.getfield 29, 3) := by decide +kernel
theorem dX3_yard_11 : decode cX3_yard 11 = .ok (.getfield 41, 3) := by decide +kernel
theorem dX3_yard_14 : decode cX3_yard 14 = .ok (.if_icmp .ge 45, 3) := by decide +kernel
theorem dX3_yard_17 : decode cX3_yard 17 = .ok (.iload_n 1, 1) := by decide +kernel
theorem dX3_yard_18 : decode cX3_yard 18 = .ok (.ifCond .eq 10, 3) := by decide +kernel
theorem dX3_yard_21 : decode cX3_yard 21 = .ok (.iload 4, 2) := by decide +kernel
theorem dX3_yard_23 : decode cX3_yard 23 = .ok (.iconst 1, 1) := by decide +kernel
theorem dX3_yard_24 : decode cX3_yard 24 = .ok (.iadd, 1) := by decide +kernel
theorem dX3_yard_25 : decode cX3_yard 25 = .ok (.goto 9, 3) := by decide +kernel
theorem dX3_yard_28 : decode cX3_yard 28 = .ok (.aload_n 0, 1) := by decide +kernel
theorem dX3_yard_29 : decode cX3_yard 29 = .ok (.iload 4, 2) := by decide +kernel
theorem dX3_yard_31 : decode cX3_yard 31 = .ok (.invokevirtual 68, 3) := by decide +kernel
theorem dX3_yard_34 : decode cX3_yard 34 = .ok (.istore 5, 2) := by decide +kernel
theorem dX3_yard_36 : decode cX3_yard 36 = .ok (.lload_n 2, 1) := by decide +kernel
theorem dX3_yard_37 : decode cX3_yard 37 = .ok (.aload_n 0, 1) := by decide +kernel
theorem dX3_yard_38 : decode cX3_yard 38 = .ok (.getfield 29, 3) := by decide +kernel
theorem dX3_yard_41 : decode cX3_yard 41 = .ok (.getfield 72, 3) := by decide +kernel
theorem dX3_yard_44 : decode cX3_yard 44 = .ok (.iload 4, 2) := by decide +kernel
theorem dX3_yard_46 : decode cX3_yard 46 = .ok (.iaload, 1) := by decide +kernel
theorem dX3_yard_47 : decode cX3_yard 47 = .ok (.iload 5, 2) := by decide +kernel
theorem dX3_yard_49 : decode cX3_yard 49 = .ok (.invokestatic 75, 3) := by decide +kernel
theorem dX3_yard_52 : decode cX3_yard 52 = .ok (.lstore_n 2, 1) := by decide +kernel
theorem dX3_yard_53 : decode cX3_yard 53 = .ok (.iinc 4 1, 3) := by decide +kernel
theorem dX3_yard_56 : decode cX3_yard 56 = .ok (.goto (-51), 3) := by decide +kernel
theorem dX3_yard_59 : decode cX3_yard 59 = .ok (.lload_n 2, 1) := by decide +kernel
theorem dX3_yard_60 : decode cX3_yard 60 = .ok (.lreturn, 1) := by decide +kernel
set_option maxRecDepth 20000 in
theorem ggX3_servingMark_X2_markOfKind : GoodIn wsX3_servingMark wsX2_markOfKind := goodIn_r _ [7] (by decide +kernel) (by decide +kernel)
set_option maxRecDepth 20000 in
theorem gX3_servingMark_X2_markOfKind : GoodIn wsX3_servingMark (va_wsS RX3 88 yX2_markOfKind wsX2_markOfKind) := goodIn_app (goodIn_of _ (by decide +kernel)) ggX3_servingMark_X2_markOfKind
theorem dX3_servingMark_0 : decode cX3_servingMark 0 = .ok (.aload_n 0, 1) := by decide +kernel
theorem dX3_servingMark_1 : decode cX3_servingMark 1 = .ok (.getfield 29, 3) := by decide +kernel
theorem dX3_servingMark_4 : decode cX3_servingMark 4 = .ok (.getfield 81, 3) := by decide +kernel
theorem dX3_servingMark_7 : decode cX3_servingMark 7 = .ok (.iload_n 1, 1) := by decide +kernel
theorem dX3_servingMark_8 : decode cX3_servingMark 8 = .ok (.baload, 1) := by decide +kernel
theorem dX3_servingMark_9 : decode cX3_servingMark 9 = .ok (.ifCond .eq 7, 3) := by decide +kernel
theorem dX3_servingMark_12 : decode cX3_servingMark 12 = .ok (.iconst 5, 1) := by decide +kernel
theorem dX3_servingMark_13 : decode cX3_servingMark 13 = .ok (.goto 15, 3) := by decide +kernel
theorem dX3_servingMark_16 : decode cX3_servingMark 16 = .ok (.aload_n 0, 1) := by decide +kernel
theorem dX3_servingMark_17 : decode cX3_servingMark 17 = .ok (.getfield 29, 3) := by decide +kernel
theorem dX3_servingMark_20 : decode cX3_servingMark 20 = .ok (.getfield 85, 3) := by decide +kernel
theorem dX3_servingMark_23 : decode cX3_servingMark 23 = .ok (.iload_n 1, 1) := by decide +kernel
theorem dX3_servingMark_24 : decode cX3_servingMark 24 = .ok (.iaload, 1) := by decide +kernel
theorem dX3_servingMark_25 : decode cX3_servingMark 25 = .ok (.invokestatic 88, 3) := by decide +kernel
theorem dX3_servingMark_28 : decode cX3_servingMark 28 = .ok (.ireturn, 1) := by decide +kernel
set_option maxRecDepth 20000 in
theorem ggX3_nameLeavers_X3_yard : GoodIn wsX3_nameLeavers wsX3_yard := goodIn_r _ [7, 8, 9, 10, 11, 12, 13, 6, 14, 15, 16, 17, 18, 19, 20, 21, 22, 23, 24, 25, 26, 27, 28, 29, 30, 31, 47, 48, 49, 50, 51, 52, 53, 54, 55, 56, 57, 58, 59, 60, 61, 62, 63] (by decide +kernel) (by decide +kernel)
set_option maxRecDepth 20000 in
theorem gX3_nameLeavers_X3_yard : GoodIn wsX3_nameLeavers (wsV RX3 53 RX3 yX3_yard wsX3_yard) := goodIn_app (goodIn_of _ (by decide +kernel)) ggX3_nameLeavers_X3_yard
set_option maxRecDepth 20000 in
theorem ggX3_nameLeavers_X2_shunt : GoodIn wsX3_nameLeavers wsX2_shunt := goodIn_r _ [34, 35, 36, 19, 37, 24, 25, 26, 27, 28, 29, 30, 31, 38, 39, 40, 41, 22, 23] (by decide +kernel) (by decide +kernel)
set_option maxRecDepth 20000 in
theorem gX3_nameLeavers_X2_shunt : GoodIn wsX3_nameLeavers (va_wsS RX3 91 yX2_shunt wsX2_shunt) := goodIn_app (goodIn_of _ (by decide +kernel)) ggX3_nameLeavers_X2_shunt
set_option maxRecDepth 20000 in
theorem ggX3_nameLeavers_X2_lastMark : GoodIn wsX3_nameLeavers wsX2_lastMark := goodIn_r _ [40, 24, 25, 19, 26, 27] (by decide +kernel) (by decide +kernel)
set_option maxRecDepth 20000 in
theorem gX3_nameLeavers_X2_lastMark : GoodIn wsX3_nameLeavers (va_wsS RX3 94 yX2_lastMark wsX2_lastMark) := goodIn_app (goodIn_of _ (by decide +kernel)) ggX3_nameLeavers_X2_lastMark
set_option maxRecDepth 20000 in
theorem ggX3_nameLeavers_X2_sendOff : GoodIn wsX3_nameLeavers wsX2_sendOff := goodIn_r _ [45, 46, 35, 36, 19, 37, 24, 25, 26, 27, 28, 29, 30, 31] (by decide +kernel) (by decide +kernel)
set_option maxRecDepth 20000 in
theorem gX3_nameLeavers_X2_sendOff : GoodIn wsX3_nameLeavers (va_wsS RX3 98 yX2_sendOff wsX2_sendOff) := goodIn_app (goodIn_of _ (by decide +kernel)) ggX3_nameLeavers_X2_sendOff
theorem dX3_nameLeavers_0 : decode cX3_nameLeavers 0 = .ok (.aload_n 0, 1) := by decide +kernel
theorem dX3_nameLeavers_1 : decode cX3_nameLeavers 1 = .ok (.iconst 1, 1) := by decide +kernel
theorem dX3_nameLeavers_2 : decode cX3_nameLeavers 2 = .ok (.invokevirtual 53, 3) := by decide +kernel
theorem dX3_nameLeavers_5 : decode cX3_nameLeavers 5 = .ok (.lstore_n 1, 1) := by decide +kernel
theorem dX3_nameLeavers_6 : decode cX3_nameLeavers 6 = .ok (.iconst 0, 1) := by decide +kernel
theorem dX3_nameLeavers_7 : decode cX3_nameLeavers 7 = .ok (.istore_n 3, 1) := by decide +kernel
theorem dX3_nameLeavers_8 : decode cX3_nameLeavers 8 = .ok (.iconst 0, 1) := by decide +kernel
theorem dX3_nameLeavers_9 : decode cX3_nameLeavers 9 = .ok (.istore 4, 2) := by decide +kernel
theorem dX3_nameLeavers_11 : decode cX3_nameLeavers 11 = .ok (.iload 4, 2) := by decide +kernel
theorem dX3_nameLeavers_13 : decode cX3_nameLeavers 13 = .ok (.aload_n 0, 1) := by decide +kernel
theorem dX3_nameLeavers_14 : decode cX3_nameLeavers 14 = .ok (.getfield 15, 3) := by decide +kernel
theorem dX3_nameLeavers_17 : decode cX3_nameLeavers 17 = .ok (.arraylength, 1) := by decide +kernel
theorem dX3_nameLeavers_18 : decode cX3_nameLeavers 18 = .ok (.if_icmp .ge 77, 3) := by decide +kernel
theorem dX3_nameLeavers_21 : decode cX3_nameLeavers 21 = .ok (.aload_n 0, 1) := by decide +kernel
theorem dX3_nameLeavers_22 : decode cX3_nameLeavers 22 = .ok (.getfield 15, 3) := by decide +kernel
theorem dX3_nameLeavers_25 : decode cX3_nameLeavers 25 = .ok (.iload 4, 2) := by decide +kernel
theorem dX3_nameLeavers_27 : decode cX3_nameLeavers 27 = .ok (.iaload, 1) := by decide +kernel
theorem dX3_nameLeavers_28 : decode cX3_nameLeavers 28 = .ok (.istore 5, 2) := by decide +kernel
theorem dX3_nameLeavers_30 : decode cX3_nameLeavers 30 = .ok (.iload 5, 2) := by decide +kernel
theorem dX3_nameLeavers_32 : decode cX3_nameLeavers 32 = .ok (.bipush 10, 2) := by decide +kernel
theorem dX3_nameLeavers_34 : decode cX3_nameLeavers 34 = .ok (.if_icmp .lt 26, 3) := by decide +kernel
theorem dX3_nameLeavers_37 : decode cX3_nameLeavers 37 = .ok (.iload 5, 2) := by decide +kernel
theorem dX3_nameLeavers_39 : decode cX3_nameLeavers 39 = .ok (.bipush 10, 2) := by decide +kernel
theorem dX3_nameLeavers_41 : decode cX3_nameLeavers 41 = .ok (.isub, 1) := by decide +kernel
theorem dX3_nameLeavers_42 : decode cX3_nameLeavers 42 = .ok (.istore 6, 2) := by decide +kernel
theorem dX3_nameLeavers_44 : decode cX3_nameLeavers 44 = .ok (.lload_n 1, 1) := by decide +kernel
theorem dX3_nameLeavers_45 : decode cX3_nameLeavers 45 = .ok (.iload 6, 2) := by decide +kernel
theorem dX3_nameLeavers_47 : decode cX3_nameLeavers 47 = .ok (.iconst 3, 1) := by decide +kernel
theorem dX3_nameLeavers_48 : decode cX3_nameLeavers 48 = .ok (.idiv, 1) := by decide +kernel
theorem dX3_nameLeavers_49 : decode cX3_nameLeavers 49 = .ok (.iload 6, 2) := by decide +kernel
theorem dX3_nameLeavers_51 : decode cX3_nameLeavers 51 = .ok (.iconst 3, 1) := by decide +kernel
theorem dX3_nameLeavers_52 : decode cX3_nameLeavers 52 = .ok (.irem, 1) := by decide +kernel
theorem dX3_nameLeavers_53 : decode cX3_nameLeavers 53 = .ok (.invokestatic 91, 3) := by decide +kernel
theorem dX3_nameLeavers_56 : decode cX3_nameLeavers 56 = .ok (.lstore_n 1, 1) := by decide +kernel
theorem dX3_nameLeavers_57 : decode cX3_nameLeavers 57 = .ok (.goto 32, 3) := by decide +kernel
theorem dX3_nameLeavers_60 : decode cX3_nameLeavers 60 = .ok (.iload_n 3, 1) := by decide +kernel
theorem dX3_nameLeavers_61 : decode cX3_nameLeavers 61 = .ok (.iconst 5, 1) := by decide +kernel
theorem dX3_nameLeavers_62 : decode cX3_nameLeavers 62 = .ok (.if_icmp .ge 27, 3) := by decide +kernel
theorem dX3_nameLeavers_65 : decode cX3_nameLeavers 65 = .ok (.aload_n 0, 1) := by decide +kernel
theorem dX3_nameLeavers_66 : decode cX3_nameLeavers 66 = .ok (.getfield 9, 3) := by decide +kernel
theorem dX3_nameLeavers_69 : decode cX3_nameLeavers 69 = .ok (.iload_n 3, 1) := by decide +kernel
theorem dX3_nameLeavers_70 : decode cX3_nameLeavers 70 = .ok (.lload_n 1, 1) := by decide +kernel
theorem dX3_nameLeavers_71 : decode cX3_nameLeavers 71 = .ok (.iload 5, 2) := by decide +kernel
theorem dX3_nameLeavers_73 : decode cX3_nameLeavers 73 = .ok (.invokestatic 94, 3) := by decide +kernel
theorem dX3_nameLeavers_76 : decode cX3_nameLeavers 76 = .ok (.iconst 1, 1) := by decide +kernel
theorem dX3_nameLeavers_77 : decode cX3_nameLeavers 77 = .ok (.isub, 1) := by decide +kernel
theorem dX3_nameLeavers_78 : decode cX3_nameLeavers 78 = .ok (.iastore, 1) := by decide +kernel
theorem dX3_nameLeavers_79 : decode cX3_nameLeavers 79 = .ok (.lload_n 1, 1) := by decide +kernel
theorem dX3_nameLeavers_80 : decode cX3_nameLeavers 80 = .ok (.iload 5, 2) := by decide +kernel
theorem dX3_nameLeavers_82 : decode cX3_nameLeavers 82 = .ok (.invokestatic 98, 3) := by decide +kernel
theorem dX3_nameLeavers_85 : decode cX3_nameLeavers 85 = .ok (.lstore_n 1, 1) := by decide +kernel
theorem dX3_nameLeavers_86 : decode cX3_nameLeavers 86 = .ok (.iinc 3 1, 3) := by decide +kernel
theorem dX3_nameLeavers_89 : decode cX3_nameLeavers 89 = .ok (.iinc 4 1, 3) := by decide +kernel
theorem dX3_nameLeavers_92 : decode cX3_nameLeavers 92 = .ok (.goto (-81), 3) := by decide +kernel
theorem dX3_nameLeavers_95 : decode cX3_nameLeavers 95 = .ok (.return_, 1) := by decide +kernel
theorem dX4_init_0 : decode cX4_init 0 = .ok (.aload_n 0, 1) := by decide +kernel
theorem dX4_init_1 : decode cX4_init 1 = .ok (.invokespecial 5, 3) := by decide +kernel
theorem dX4_init_4 : decode cX4_init 4 = .ok (.aload_n 0, 1) := by decide +kernel
theorem dX4_init_5 : decode cX4_init 5 = .ok (.sipush 2956, 3) := by decide +kernel
theorem dX4_init_8 : decode cX4_init 8 = .ok (.newarray .long, 2) := by decide +kernel
theorem dX4_init_10 : decode cX4_init 10 = .ok (.putfield 11, 3) := by decide +kernel
theorem dX4_init_13 : decode cX4_init 13 = .ok (.aload_n 0, 1) := by decide +kernel
theorem dX4_init_14 : decode cX4_init 14 = .ok (.sipush 2956, 3) := by decide +kernel
theorem dX4_init_17 : decode cX4_init 17 = .ok (.newarray .int, 2) := by decide +kernel
theorem dX4_init_19 : decode cX4_init 19 = .ok (.putfield 15, 3) := by decide +kernel
theorem dX4_init_22 : decode cX4_init 22 = .ok (.aload_n 0, 1) := by decide +kernel
theorem dX4_init_23 : decode cX4_init 23 = .ok (.sipush 2956, 3) := by decide +kernel
theorem dX4_init_26 : decode cX4_init 26 = .ok (.newarray .int, 2) := by decide +kernel
theorem dX4_init_28 : decode cX4_init 28 = .ok (.putfield 19, 3) := by decide +kernel
theorem dX4_init_31 : decode cX4_init 31 = .ok (.aload_n 0, 1) := by decide +kernel
theorem dX4_init_32 : decode cX4_init 32 = .ok (.sipush 4096, 3) := by decide +kernel
theorem dX4_init_35 : decode cX4_init 35 = .ok (.newarray .int, 2) := by decide +kernel
theorem dX4_init_37 : decode cX4_init 37 = .ok (.putfield 22, 3) := by decide +kernel
theorem dX4_init_40 : decode cX4_init 40 = .ok (.aload_n 0, 1) := by decide +kernel
theorem dX4_init_41 : decode cX4_init 41 = .ok (.iconst 0, 1) := by decide +kernel
theorem dX4_init_42 : decode cX4_init 42 = .ok (.putfield 25, 3) := by decide +kernel
theorem dX4_init_45 : decode cX4_init 45 = .ok (.aload_n 0, 1) := by decide +kernel
theorem dX4_init_46 : decode cX4_init 46 = .ok (.iconst (-1), 1) := by decide +kernel
theorem dX4_init_47 : decode cX4_init 47 = .ok (.putfield 29, 3) := by decide +kernel
theorem dX4_init_50 : decode cX4_init 50 = .ok (.aload_n 0, 1) := by decide +kernel
theorem dX4_init_51 : decode cX4_init 51 = .ok (.aload_n 1, 1) := by decide +kernel
theorem dX4_init_52 : decode cX4_init 52 = .ok (.putfield 32, 3) := by decide +kernel
theorem dX4_init_55 : decode cX4_init 55 = .ok (.return_, 1) := by decide +kernel
set_option maxRecDepth 20000 in
theorem ggX4_findsRun_J7_fill_53178 : GoodIn wsX4_findsRun wsJ7_fill_53178 := goodIn_r _ [7] (by decide +kernel) (by decide +kernel)
set_option maxRecDepth 20000 in
theorem gX4_findsRun_J7_fill_53178 : GoodIn wsX4_findsRun (va_wsS RX4 36 yJ7_fill_53178 wsJ7_fill_53178) := goodIn_app (goodIn_of _ (by decide +kernel)) ggX4_findsRun_J7_fill_53178
set_option maxRecDepth 20000 in
theorem ggX4_findsRun_X4_meet : GoodIn wsX4_findsRun wsX4_meet := goodIn_r _ [12, 1, 2, 13, 14, 15, 3, 16, 17, 18, 19, 20, 11, 21, 22, 23, 24, 25, 26, 68, 69, 70, 71, 72, 73, 74, 75, 76, 77, 78, 79, 80, 81, 82, 83, 84, 85] (by decide +kernel) (by decide +kernel)
set_option maxRecDepth 20000 in
theorem gX4_findsRun_X4_meet : GoodIn wsX4_findsRun (wsV RX4 42 RX4 yX4_meet wsX4_meet) := goodIn_app (goodIn_of _ (by decide +kernel)) ggX4_findsRun_X4_meet
set_option maxRecDepth 20000 in
theorem ggX4_findsRun_X4_tryGoings : GoodIn wsX4_findsRun wsX4_tryGoings := goodIn_r _ [30, 13, 16, 17, 31, 23, 24, 25, 26, 32, 33, 34, 35, 36, 37, 38, 39, 40, 41, 42, 43, 44, 45, 46, 47, 48, 49, 50, 51, 52, 8, 9, 10, 11, 12, 1, 2, 14, 15, 3, 18, 19, 20, 21, 22, 68, 69, 70, 71, 72, 73, 74, 75, 76, 77, 78, 79, 80, 81, 82, 83, 84, 85] (by decide +kernel) (by decide +kernel)
set_option maxRecDepth 20000 in
theorem gX4_findsRun_X4_tryGoings : GoodIn wsX4_findsRun (wsV RX4 46 RX4 yX4_tryGoings wsX4_tryGoings) := goodIn_app (goodIn_of _ (by decide +kernel)) ggX4_findsRun_X4_tryGoings
set_option maxRecDepth 20000 in
theorem ggX4_findsRun_X4_tryShunts : GoodIn wsX4_findsRun wsX4_tryShunts := goodIn_r _ [56, 13, 16, 57, 35, 36, 25, 37, 38, 39, 40, 41, 58, 59, 60, 61, 62, 63, 46, 47, 48, 49, 50, 51, 52, 64, 65, 66, 67, 8, 9, 10, 11, 12, 1, 2, 14, 15, 3, 17, 18, 19, 20, 21, 22, 23, 24, 26, 68, 69, 70, 71, 72, 73, 74, 75, 76, 77, 78, 79, 80, 81, 82, 83, 84, 85] (by decide +kernel) (by decide +kernel)
set_option maxRecDepth 20000 in
theorem gX4_findsRun_X4_tryShunts : GoodIn wsX4_findsRun (wsV RX4 50 RX4 yX4_tryShunts wsX4_tryShunts) := goodIn_app (goodIn_of _ (by decide +kernel)) ggX4_findsRun_X4_tryShunts
theorem dX4_findsRun_0 : decode cX4_findsRun 0 = .ok (.aload_n 0, 1) := by decide +kernel
theorem dX4_findsRun_1 : decode cX4_findsRun 1 = .ok (.getfield 22, 3) := by decide +kernel
theorem dX4_findsRun_4 : decode cX4_findsRun 4 = .ok (.iconst 0, 1) := by decide +kernel
theorem dX4_findsRun_5 : decode cX4_findsRun 5 = .ok (.invokestatic 36, 3) := by decide +kernel
theorem dX4_findsRun_8 : decode cX4_findsRun 8 = .ok (.aload_n 0, 1) := by decide +kernel
theorem dX4_findsRun_9 : decode cX4_findsRun 9 = .ok (.iconst 0, 1) := by decide +kernel
theorem dX4_findsRun_10 : decode cX4_findsRun 10 = .ok (.putfield 25, 3) := by decide +kernel
theorem dX4_findsRun_13 : decode cX4_findsRun 13 = .ok (.aload_n 0, 1) := by decide +kernel
theorem dX4_findsRun_14 : decode cX4_findsRun 14 = .ok (.iconst (-1), 1) := by decide +kernel
theorem dX4_findsRun_15 : decode cX4_findsRun 15 = .ok (.putfield 29, 3) := by decide +kernel
theorem dX4_findsRun_18 : decode cX4_findsRun 18 = .ok (.aload_n 0, 1) := by decide +kernel
theorem dX4_findsRun_19 : decode cX4_findsRun 19 = .ok (.lload_n 1, 1) := by decide +kernel
theorem dX4_findsRun_20 : decode cX4_findsRun 20 = .ok (.iconst (-1), 1) := by decide +kernel
theorem dX4_findsRun_21 : decode cX4_findsRun 21 = .ok (.iconst (-1), 1) := by decide +kernel
theorem dX4_findsRun_22 : decode cX4_findsRun 22 = .ok (.invokevirtual 42, 3) := by decide +kernel
theorem dX4_findsRun_25 : decode cX4_findsRun 25 = .ok (.iconst 0, 1) := by decide +kernel
theorem dX4_findsRun_26 : decode cX4_findsRun 26 = .ok (.istore_n 3, 1) := by decide +kernel
theorem dX4_findsRun_27 : decode cX4_findsRun 27 = .ok (.iload_n 3, 1) := by decide +kernel
theorem dX4_findsRun_28 : decode cX4_findsRun 28 = .ok (.sipush 2956, 3) := by decide +kernel
theorem dX4_findsRun_31 : decode cX4_findsRun 31 = .ok (.if_icmp .ge 35, 3) := by decide +kernel
theorem dX4_findsRun_34 : decode cX4_findsRun 34 = .ok (.iload_n 3, 1) := by decide +kernel
theorem dX4_findsRun_35 : decode cX4_findsRun 35 = .ok (.aload_n 0, 1) := by decide +kernel
theorem dX4_findsRun_36 : decode cX4_findsRun 36 = .ok (.getfield 25, 3) := by decide +kernel
theorem dX4_findsRun_39 : decode cX4_findsRun 39 = .ok (.if_icmp .ge 27, 3) := by decide +kernel
theorem dX4_findsRun_42 : decode cX4_findsRun 42 = .ok (.aload_n 0, 1) := by decide +kernel
theorem dX4_findsRun_43 : decode cX4_findsRun 43 = .ok (.getfield 29, 3) := by decide +kernel
theorem dX4_findsRun_46 : decode cX4_findsRun 46 = .ok (.iconst (-1), 1) := by decide +kernel
theorem dX4_findsRun_47 : decode cX4_findsRun 47 = .ok (.if_icmp .ne 19, 3) := by decide +kernel
theorem dX4_findsRun_50 : decode cX4_findsRun 50 = .ok (.aload_n 0, 1) := by decide +kernel
theorem dX4_findsRun_51 : decode cX4_findsRun 51 = .ok (.iload_n 3, 1) := by decide +kernel
theorem dX4_findsRun_52 : decode cX4_findsRun 52 = .ok (.invokevirtual 46, 3) := by decide +kernel
theorem dX4_findsRun_55 : decode cX4_findsRun 55 = .ok (.aload_n 0, 1) := by decide +kernel
theorem dX4_findsRun_56 : decode cX4_findsRun 56 = .ok (.iload_n 3, 1) := by decide +kernel
theorem dX4_findsRun_57 : decode cX4_findsRun 57 = .ok (.invokevirtual 50, 3) := by decide +kernel
theorem dX4_findsRun_60 : decode cX4_findsRun 60 = .ok (.iinc 3 1, 3) := by decide +kernel
theorem dX4_findsRun_63 : decode cX4_findsRun 63 = .ok (.goto (-36), 3) := by decide +kernel
theorem dX4_findsRun_66 : decode cX4_findsRun 66 = .ok (.aload_n 0, 1) := by decide +kernel
theorem dX4_findsRun_67 : decode cX4_findsRun 67 = .ok (.getfield 29, 3) := by decide +kernel
theorem dX4_findsRun_70 : decode cX4_findsRun 70 = .ok (.iconst (-1), 1) := by decide +kernel
theorem dX4_findsRun_71 : decode cX4_findsRun 71 = .ok (.if_icmp .eq 7, 3) := by decide +kernel
theorem dX4_findsRun_74 : decode cX4_findsRun 74 = .ok (.iconst 1, 1) := by decide +kernel
theorem dX4_findsRun_75 : decode cX4_findsRun 75 = .ok (.goto 4, 3) := by decide +kernel
theorem dX4_findsRun_78 : decode cX4_findsRun 78 = .ok (.iconst 0, 1) := by decide +kernel
theorem dX4_findsRun_79 : decode cX4_findsRun 79 = .ok (.ireturn, 1) := by decide +kernel
set_option maxRecDepth 20000 in
theorem ggX4_stepsToGoal_X4_depthOf : GoodIn wsX4_stepsToGoal wsX4_depthOf := goodIn_r _ [9, 10, 4, 11, 12, 13, 14, 15, 16, 17] (by decide +kernel) (by decide +kernel)
set_option maxRecDepth 20000 in
theorem gX4_stepsToGoal_X4_depthOf : GoodIn wsX4_stepsToGoal (wsV RX4 53 RX4 yX4_depthOf wsX4_depthOf) := goodIn_app (goodIn_of _ (by decide +kernel)) ggX4_stepsToGoal_X4_depthOf
theorem dX4_stepsToGoal_0 : decode cX4_stepsToGoal 0 = .ok (.aload_n 0, 1) := by decide +kernel
theorem dX4_stepsToGoal_1 : decode cX4_stepsToGoal 1 = .ok (.aload_n 0, 1) := by decide +kernel
theorem dX4_stepsToGoal_2 : decode cX4_stepsToGoal 2 = .ok (.getfield 29, 3) := by decide +kernel
theorem dX4_stepsToGoal_5 : decode cX4_stepsToGoal 5 = .ok (.invokevirtual 53, 3) := by decide +kernel
theorem dX4_stepsToGoal_8 : decode cX4_stepsToGoal 8 = .ok (.newarray .int, 2) := by decide +kernel
theorem dX4_stepsToGoal_10 : decode cX4_stepsToGoal 10 = .ok (.astore_n 1, 1) := by decide +kernel
theorem dX4_stepsToGoal_11 : decode cX4_stepsToGoal 11 = .ok (.aload_n 0, 1) := by decide +kernel
theorem dX4_stepsToGoal_12 : decode cX4_stepsToGoal 12 = .ok (.getfield 29, 3) := by decide +kernel
theorem dX4_stepsToGoal_15 : decode cX4_stepsToGoal 15 = .ok (.istore_n 2, 1) := by decide +kernel
theorem dX4_stepsToGoal_16 : decode cX4_stepsToGoal 16 = .ok (.aload_n 1, 1) := by decide +kernel
theorem dX4_stepsToGoal_17 : decode cX4_stepsToGoal 17 = .ok (.arraylength, 1) := by decide +kernel
theorem dX4_stepsToGoal_18 : decode cX4_stepsToGoal 18 = .ok (.iconst 1, 1) := by decide +kernel
theorem dX4_stepsToGoal_19 : decode cX4_stepsToGoal 19 = .ok (.isub, 1) := by decide +kernel
theorem dX4_stepsToGoal_20 : decode cX4_stepsToGoal 20 = .ok (.istore_n 3, 1) := by decide +kernel
theorem dX4_stepsToGoal_21 : decode cX4_stepsToGoal 21 = .ok (.iload_n 3, 1) := by decide +kernel
theorem dX4_stepsToGoal_22 : decode cX4_stepsToGoal 22 = .ok (.ifCond .lt 29, 3) := by decide +kernel
theorem dX4_stepsToGoal_25 : decode cX4_stepsToGoal 25 = .ok (.iload_n 2, 1) := by decide +kernel
theorem dX4_stepsToGoal_26 : decode cX4_stepsToGoal 26 = .ok (.ifCond .le 25, 3) := by decide +kernel
theorem dX4_stepsToGoal_29 : decode cX4_stepsToGoal 29 = .ok (.aload_n 1, 1) := by decide +kernel
theorem dX4_stepsToGoal_30 : decode cX4_stepsToGoal 30 = .ok (.iload_n 3, 1) := by decide +kernel
theorem dX4_stepsToGoal_31 : decode cX4_stepsToGoal 31 = .ok (.aload_n 0, 1) := by decide +kernel
theorem dX4_stepsToGoal_32 : decode cX4_stepsToGoal 32 = .ok (.getfield 19, 3) := by decide +kernel
theorem dX4_stepsToGoal_35 : decode cX4_stepsToGoal 35 = .ok (.iload_n 2, 1) := by decide +kernel
theorem dX4_stepsToGoal_36 : decode cX4_stepsToGoal 36 = .ok (.iaload, 1) := by decide +kernel
theorem dX4_stepsToGoal_37 : decode cX4_stepsToGoal 37 = .ok (.iastore, 1) := by decide +kernel
theorem dX4_stepsToGoal_38 : decode cX4_stepsToGoal 38 = .ok (.aload_n 0, 1) := by decide +kernel
theorem dX4_stepsToGoal_39 : decode cX4_stepsToGoal 39 = .ok (.getfield 15, 3) := by decide +kernel
theorem dX4_stepsToGoal_42 : decode cX4_stepsToGoal 42 = .ok (.iload_n 2, 1) := by decide +kernel
theorem dX4_stepsToGoal_43 : decode cX4_stepsToGoal 43 = .ok (.iaload, 1) := by decide +kernel
theorem dX4_stepsToGoal_44 : decode cX4_stepsToGoal 44 = .ok (.istore_n 2, 1) := by decide +kernel
theorem dX4_stepsToGoal_45 : decode cX4_stepsToGoal 45 = .ok (.iinc 3 (-1), 3) := by decide +kernel
theorem dX4_stepsToGoal_48 : decode cX4_stepsToGoal 48 = .ok (.goto (-27), 3) := by decide +kernel
theorem dX4_stepsToGoal_51 : decode cX4_stepsToGoal 51 = .ok (.aload_n 1, 1) := by decide +kernel
theorem dX4_stepsToGoal_52 : decode cX4_stepsToGoal 52 = .ok (.areturn, 1) := by decide +kernel
theorem dX4_depthOf_0 : decode cX4_depthOf 0 = .ok (.iconst 0, 1) := by decide +kernel
theorem dX4_depthOf_1 : decode cX4_depthOf 1 = .ok (.istore_n 2, 1) := by decide +kernel
theorem dX4_depthOf_2 : decode cX4_depthOf 2 = .ok (.iload_n 1, 1) := by decide +kernel
theorem dX4_depthOf_3 : decode cX4_depthOf 3 = .ok (.istore_n 3, 1) := by decide +kernel
theorem dX4_depthOf_4 : decode cX4_depthOf 4 = .ok (.iload_n 3, 1) := by decide +kernel
theorem dX4_depthOf_5 : decode cX4_depthOf 5 = .ok (.ifCond .le 24, 3) := by decide +kernel
theorem dX4_depthOf_8 : decode cX4_depthOf 8 = .ok (.iload_n 2, 1) := by decide +kernel
theorem dX4_depthOf_9 : decode cX4_depthOf 9 = .ok (.aload_n 0, 1) := by decide +kernel
theorem dX4_depthOf_10 : decode cX4_depthOf 10 = .ok (.getfield 25, 3) := by decide +kernel
theorem dX4_depthOf_13 : decode cX4_depthOf 13 = .ok (.if_icmp .ge 16, 3) := by decide +kernel
theorem dX4_depthOf_16 : decode cX4_depthOf 16 = .ok (.iinc 2 1, 3) := by decide +kernel
theorem dX4_depthOf_19 : decode cX4_depthOf 19 = .ok (.aload_n 0, 1) := by decide +kernel
theorem dX4_depthOf_20 : decode cX4_depthOf 20 = .ok (.getfield 15, 3) := by decide +kernel
theorem dX4_depthOf_23 : decode cX4_depthOf 23 = .ok (.iload_n 3, 1) := by decide +kernel
theorem dX4_depthOf_24 : decode cX4_depthOf 24 = .ok (.iaload, 1) := by decide +kernel
theorem dX4_depthOf_25 : decode cX4_depthOf 25 = .ok (.istore_n 3, 1) := by decide +kernel
theorem dX4_depthOf_26 : decode cX4_depthOf 26 = .ok (.goto (-22), 3) := by decide +kernel
theorem dX4_depthOf_29 : decode cX4_depthOf 29 = .ok (.iload_n 2, 1) := by decide +kernel
theorem dX4_depthOf_30 : decode cX4_depthOf 30 = .ok (.ireturn, 1) := by decide +kernel
set_option maxRecDepth 20000 in
theorem ggX4_tryGoings_X2_gone : GoodIn wsX4_tryGoings wsX2_gone := goodIn_r _ [8] (by decide +kernel) (by decide +kernel)
set_option maxRecDepth 20000 in
theorem gX4_tryGoings_X2_gone : GoodIn wsX4_tryGoings (va_wsS RX4 57 yX2_gone wsX2_gone) := goodIn_app (goodIn_of _ (by decide +kernel)) ggX4_tryGoings_X2_gone
set_option maxRecDepth 20000 in
theorem ggX4_tryGoings_X2_markOfKind : GoodIn wsX4_tryGoings wsX2_markOfKind := goodIn_r _ [11] (by decide +kernel) (by decide +kernel)
set_option maxRecDepth 20000 in
theorem gX4_tryGoings_X2_markOfKind : GoodIn wsX4_tryGoings (va_wsS RX4 71 yX2_markOfKind wsX2_markOfKind) := goodIn_app (goodIn_of _ (by decide +kernel)) ggX4_tryGoings_X2_markOfKind
set_option maxRecDepth 20000 in
theorem ggX4_tryGoings_X2_lastMark : GoodIn wsX4_tryGoings wsX2_lastMark := goodIn_r _ [14, 15, 16, 7, 17, 18] (by decide +kernel) (by decide +kernel)
set_option maxRecDepth 20000 in
theorem gX4_tryGoings_X2_lastMark : GoodIn wsX4_tryGoings (va_wsS RX4 74 yX2_lastMark wsX2_lastMark) := goodIn_app (goodIn_of _ (by decide +kernel)) ggX4_tryGoings_X2_lastMark
set_option maxRecDepth 20000 in
theorem ggX4_tryGoings_X2_sendOff : GoodIn wsX4_tryGoings wsX2_sendOff := goodIn_r _ [21, 22, 23, 24, 7, 25, 15, 16, 17, 18, 26, 27, 28, 29] (by decide +kernel) (by decide +kernel)
set_option maxRecDepth 20000 in
theorem gX4_tryGoings_X2_sendOff : GoodIn wsX4_tryGoings (va_wsS RX4 78 yX2_sendOff wsX2_sendOff) := goodIn_app (goodIn_of _ (by decide +kernel)) ggX4_tryGoings_X2_sendOff
set_option maxRecDepth 20000 in
theorem ggX4_tryGoings_X4_meet : GoodIn wsX4_tryGoings wsX4_meet := goodIn_r _ [34, 35, 36, 1, 37, 38, 39, 2, 3, 40, 41, 42, 33, 43, 44, 5, 6, 7, 8, 45, 46, 47, 48, 49, 50, 51, 52, 53, 54, 55, 56, 57, 58, 59, 60, 61, 62] (by decide +kernel) (by decide +kernel)
set_option maxRecDepth 20000 in
theorem gX4_tryGoings_X4_meet : GoodIn wsX4_tryGoings (wsV RX4 42 RX4 yX4_meet wsX4_meet) := goodIn_app (goodIn_of _ (by decide +kernel)) ggX4_tryGoings_X4_meet
theorem dX4_tryGoings_0 : decode cX4_tryGoings 0 = .ok (.aload_n 0, 1) := by decide +kernel
theorem dX4_tryGoings_1 : decode cX4_tryGoings 1 = .ok (.getfield 11, 3) := by decide +kernel
theorem dX4_tryGoings_4 : decode cX4_tryGoings 4 = .ok (.iload_n 1, 1) := by decide +kernel
theorem dX4_tryGoings_5 : decode cX4_tryGoings 5 = .ok (.laload, 1) := by decide +kernel
theorem dX4_tryGoings_6 : decode cX4_tryGoings 6 = .ok (.lstore_n 2, 1) := by decide +kernel
theorem dX4_tryGoings_7 : decode cX4_tryGoings 7 = .ok (.lload_n 2, 1) := by decide +kernel
theorem dX4_tryGoings_8 : decode cX4_tryGoings 8 = .ok (.invokestatic 57, 3) := by decide +kernel
theorem dX4_tryGoings_11 : decode cX4_tryGoings 11 = .ok (.istore 4, 2) := by decide +kernel
theorem dX4_tryGoings_13 : decode cX4_tryGoings 13 = .ok (.iload 4, 2) := by decide +kernel
theorem dX4_tryGoings_15 : decode cX4_tryGoings 15 = .ok (.aload_n 0, 1) := by decide +kernel
theorem dX4_tryGoings_16 : decode cX4_tryGoings 16 = .ok (.getfield 32, 3) := by decide +kernel
theorem dX4_tryGoings_19 : decode cX4_tryGoings 19 = .ok (.getfield 63, 3) := by decide +kernel
theorem dX4_tryGoings_22 : decode cX4_tryGoings 22 = .ok (.if_icmp .lt 4, 3) := by decide +kernel
theorem dX4_tryGoings_25 : decode cX4_tryGoings 25 = .ok (.return_, 1) := by decide +kernel
theorem dX4_tryGoings_26 : decode cX4_tryGoings 26 = .ok (.aload_n 0, 1) := by decide +kernel
theorem dX4_tryGoings_27 : decode cX4_tryGoings 27 = .ok (.getfield 32, 3) := by decide +kernel
theorem dX4_tryGoings_30 : decode cX4_tryGoings 30 = .ok (.getfield 68, 3) := by decide +kernel
theorem dX4_tryGoings_33 : decode cX4_tryGoings 33 = .ok (.iload 4, 2) := by decide +kernel
theorem dX4_tryGoings_35 : decode cX4_tryGoings 35 = .ok (.iaload, 1) := by decide +kernel
theorem dX4_tryGoings_36 : decode cX4_tryGoings 36 = .ok (.invokestatic 71, 3) := by decide +kernel
theorem dX4_tryGoings_39 : decode cX4_tryGoings 39 = .ok (.istore 5, 2) := by decide +kernel
theorem dX4_tryGoings_41 : decode cX4_tryGoings 41 = .ok (.iconst 0, 1) := by decide +kernel
theorem dX4_tryGoings_42 : decode cX4_tryGoings 42 = .ok (.istore 6, 2) := by decide +kernel
theorem dX4_tryGoings_44 : decode cX4_tryGoings 44 = .ok (.iload 6, 2) := by decide +kernel
theorem dX4_tryGoings_46 : decode cX4_tryGoings 46 = .ok (.iconst 3, 1) := by decide +kernel
theorem dX4_tryGoings_47 : decode cX4_tryGoings 47 = .ok (.if_icmp .ge 33, 3) := by decide +kernel
theorem dX4_tryGoings_50 : decode cX4_tryGoings 50 = .ok (.lload_n 2, 1) := by decide +kernel
theorem dX4_tryGoings_51 : decode cX4_tryGoings 51 = .ok (.iload 6, 2) := by decide +kernel
theorem dX4_tryGoings_53 : decode cX4_tryGoings 53 = .ok (.invokestatic 74, 3) := by decide +kernel
theorem dX4_tryGoings_56 : decode cX4_tryGoings 56 = .ok (.iload 5, 2) := by decide +kernel
theorem dX4_tryGoings_58 : decode cX4_tryGoings 58 = .ok (.if_icmp .ne 16, 3) := by decide +kernel
theorem dX4_tryGoings_61 : decode cX4_tryGoings 61 = .ok (.aload_n 0, 1) := by decide +kernel
theorem dX4_tryGoings_62 : decode cX4_tryGoings 62 = .ok (.lload_n 2, 1) := by decide +kernel
theorem dX4_tryGoings_63 : decode cX4_tryGoings 63 = .ok (.iload 6, 2) := by decide +kernel
theorem dX4_tryGoings_65 : decode cX4_tryGoings 65 = .ok (.invokestatic 78, 3) := by decide +kernel
theorem dX4_tryGoings_68 : decode cX4_tryGoings 68 = .ok (.iload_n 1, 1) := by decide +kernel
theorem dX4_tryGoings_69 : decode cX4_tryGoings 69 = .ok (.iload 6, 2) := by decide +kernel
theorem dX4_tryGoings_71 : decode cX4_tryGoings 71 = .ok (.invokevirtual 42, 3) := by decide +kernel
theorem dX4_tryGoings_74 : decode cX4_tryGoings 74 = .ok (.iinc 6 1, 3) := by decide +kernel
theorem dX4_tryGoings_77 : decode cX4_tryGoings 77 = .ok (.goto (-33), 3) := by decide +kernel
theorem dX4_tryGoings_80 : decode cX4_tryGoings 80 = .ok (.return_, 1) := by decide +kernel
set_option maxRecDepth 20000 in
theorem ggX4_tryShunts_X2_lastMark : GoodIn wsX4_tryShunts wsX2_lastMark := goodIn_r _ [7, 8, 9, 6, 10, 11] (by decide +kernel) (by decide +kernel)
set_option maxRecDepth 20000 in
theorem gX4_tryShunts_X2_lastMark : GoodIn wsX4_tryShunts (va_wsS RX4 74 yX2_lastMark wsX2_lastMark) := goodIn_app (goodIn_of _ (by decide +kernel)) ggX4_tryShunts_X2_lastMark
set_option maxRecDepth 20000 in
theorem ggX4_tryShunts_X2_standing : GoodIn wsX4_tryShunts wsX2_standing := goodIn_r _ [14, 8, 9, 6, 10, 11] (by decide +kernel) (by decide +kernel)
set_option maxRecDepth 20000 in
theorem gX4_tryShunts_X2_standing : GoodIn wsX4_tryShunts (va_wsS RX4 82 yX2_standing wsX2_standing) := goodIn_app (goodIn_of _ (by decide +kernel)) ggX4_tryShunts_X2_standing
set_option maxRecDepth 20000 in
theorem ggX4_tryShunts_X2_shunt : GoodIn wsX4_tryShunts wsX2_shunt := goodIn_r _ [17, 18, 19, 6, 20, 8, 9, 10, 11, 21, 22, 23, 24, 25, 5, 7, 26, 27, 28] (by decide +kernel) (by decide +kernel)
set_option maxRecDepth 20000 in
theorem gX4_tryShunts_X2_shunt : GoodIn wsX4_tryShunts (va_wsS RX4 88 yX2_shunt wsX2_shunt) := goodIn_app (goodIn_of _ (by decide +kernel)) ggX4_tryShunts_X2_shunt
set_option maxRecDepth 20000 in
theorem ggX4_tryShunts_X4_meet : GoodIn wsX4_tryShunts wsX4_meet := goodIn_r _ [33, 34, 35, 1, 36, 37, 38, 2, 39, 40, 41, 42, 32, 43, 44, 45, 46, 6, 47, 48, 49, 50, 51, 52, 53, 54, 55, 56, 57, 58, 59, 60, 61, 62, 63, 64, 65] (by decide +kernel) (by decide +kernel)
set_option maxRecDepth 20000 in
theorem gX4_tryShunts_X4_meet : GoodIn wsX4_tryShunts (wsV RX4 42 RX4 yX4_meet wsX4_meet) := goodIn_app (goodIn_of _ (by decide +kernel)) ggX4_tryShunts_X4_meet
theorem dX4_tryShunts_0 : decode cX4_tryShunts 0 = .ok (.aload_n 0, 1) := by decide +kernel
theorem dX4_tryShunts_1 : decode cX4_tryShunts 1 = .ok (.getfield 11, 3) := by decide +kernel
theorem dX4_tryShunts_4 : decode cX4_tryShunts 4 = .ok (.iload_n 1, 1) := by decide +kernel
theorem dX4_tryShunts_5 : decode cX4_tryShunts 5 = .ok (.laload, 1) := by decide +kernel
theorem dX4_tryShunts_6 : decode cX4_tryShunts 6 = .ok (.lstore_n 2, 1) := by decide +kernel
theorem dX4_tryShunts_7 : decode cX4_tryShunts 7 = .ok (.iconst 0, 1) := by decide +kernel
theorem dX4_tryShunts_8 : decode cX4_tryShunts 8 = .ok (.istore 4, 2) := by decide +kernel
theorem dX4_tryShunts_10 : decode cX4_tryShunts 10 = .ok (.iload 4, 2) := by decide +kernel
theorem dX4_tryShunts_12 : decode cX4_tryShunts 12 = .ok (.iconst 3, 1) := by decide +kernel
theorem dX4_tryShunts_13 : decode cX4_tryShunts 13 = .ok (.if_icmp .ge 85, 3) := by decide +kernel
theorem dX4_tryShunts_16 : decode cX4_tryShunts 16 = .ok (.lload_n 2, 1) := by decide +kernel
theorem dX4_tryShunts_17 : decode cX4_tryShunts 17 = .ok (.iload 4, 2) := by decide +kernel
theorem dX4_tryShunts_19 : decode cX4_tryShunts 19 = .ok (.invokestatic 74, 3) := by decide +kernel
theorem dX4_tryShunts_22 : decode cX4_tryShunts 22 = .ok (.ifCond .ne 6, 3) := by decide +kernel
theorem dX4_tryShunts_25 : decode cX4_tryShunts 25 = .ok (.goto 67, 3) := by decide +kernel
theorem dX4_tryShunts_28 : decode cX4_tryShunts 28 = .ok (.iconst 0, 1) := by decide +kernel
theorem dX4_tryShunts_29 : decode cX4_tryShunts 29 = .ok (.istore 5, 2) := by decide +kernel
theorem dX4_tryShunts_31 : decode cX4_tryShunts 31 = .ok (.iload 5, 2) := by decide +kernel
theorem dX4_tryShunts_33 : decode cX4_tryShunts 33 = .ok (.iconst 3, 1) := by decide +kernel
theorem dX4_tryShunts_34 : decode cX4_tryShunts 34 = .ok (.if_icmp .ge 58, 3) := by decide +kernel
theorem dX4_tryShunts_37 : decode cX4_tryShunts 37 = .ok (.iload 5, 2) := by decide +kernel
theorem dX4_tryShunts_39 : decode cX4_tryShunts 39 = .ok (.iload 4, 2) := by decide +kernel
theorem dX4_tryShunts_41 : decode cX4_tryShunts 41 = .ok (.if_icmp .eq 45, 3) := by decide +kernel
theorem dX4_tryShunts_44 : decode cX4_tryShunts 44 = .ok (.lload_n 2, 1) := by decide +kernel
theorem dX4_tryShunts_45 : decode cX4_tryShunts 45 = .ok (.iload 5, 2) := by decide +kernel
theorem dX4_tryShunts_47 : decode cX4_tryShunts 47 = .ok (.invokestatic 82, 3) := by decide +kernel
theorem dX4_tryShunts_50 : decode cX4_tryShunts 50 = .ok (.aload_n 0, 1) := by decide +kernel
theorem dX4_tryShunts_51 : decode cX4_tryShunts 51 = .ok (.getfield 32, 3) := by decide +kernel
theorem dX4_tryShunts_54 : decode cX4_tryShunts 54 = .ok (.getfield 85, 3) := by decide +kernel
theorem dX4_tryShunts_57 : decode cX4_tryShunts 57 = .ok (.iload 5, 2) := by decide +kernel
theorem dX4_tryShunts_59 : decode cX4_tryShunts 59 = .ok (.iaload, 1) := by decide +kernel
theorem dX4_tryShunts_60 : decode cX4_tryShunts 60 = .ok (.if_icmp .ge 26, 3) := by decide +kernel
theorem dX4_tryShunts_63 : decode cX4_tryShunts 63 = .ok (.aload_n 0, 1) := by decide +kernel
theorem dX4_tryShunts_64 : decode cX4_tryShunts 64 = .ok (.lload_n 2, 1) := by decide +kernel
theorem dX4_tryShunts_65 : decode cX4_tryShunts 65 = .ok (.iload 4, 2) := by decide +kernel
theorem dX4_tryShunts_67 : decode cX4_tryShunts 67 = .ok (.iload 5, 2) := by decide +kernel
theorem dX4_tryShunts_69 : decode cX4_tryShunts 69 = .ok (.invokestatic 88, 3) := by decide +kernel
theorem dX4_tryShunts_72 : decode cX4_tryShunts 72 = .ok (.iload_n 1, 1) := by decide +kernel
theorem dX4_tryShunts_73 : decode cX4_tryShunts 73 = .ok (.bipush 10, 2) := by decide +kernel
theorem dX4_tryShunts_75 : decode cX4_tryShunts 75 = .ok (.iconst 3, 1) := by decide +kernel
theorem dX4_tryShunts_76 : decode cX4_tryShunts 76 = .ok (.iload 4, 2) := by decide +kernel
theorem dX4_tryShunts_78 : decode cX4_tryShunts 78 = .ok (.imul, 1) := by decide +kernel
theorem dX4_tryShunts_79 : decode cX4_tryShunts 79 = .ok (.iadd, 1) := by decide +kernel
theorem dX4_tryShunts_80 : decode cX4_tryShunts 80 = .ok (.iload 5, 2) := by decide +kernel
theorem dX4_tryShunts_82 : decode cX4_tryShunts 82 = .ok (.iadd, 1) := by decide +kernel
theorem dX4_tryShunts_83 : decode cX4_tryShunts 83 = .ok (.invokevirtual 42, 3) := by decide +kernel
theorem dX4_tryShunts_86 : decode cX4_tryShunts 86 = .ok (.iinc 5 1, 3) := by decide +kernel
theorem dX4_tryShunts_89 : decode cX4_tryShunts 89 = .ok (.goto (-58), 3) := by decide +kernel
theorem dX4_tryShunts_92 : decode cX4_tryShunts 92 = .ok (.iinc 4 1, 3) := by decide +kernel
theorem dX4_tryShunts_95 : decode cX4_tryShunts 95 = .ok (.goto (-85), 3) := by decide +kernel
theorem dX4_tryShunts_98 : decode cX4_tryShunts 98 = .ok (.return_, 1) := by decide +kernel
set_option maxRecDepth 20000 in
theorem ggX4_meet_X4_slotFor : GoodIn wsX4_meet wsX4_slotFor := goodIn_r _ [13, 14, 1, 3, 19, 20, 21, 22, 23, 24, 25] (by decide +kernel) (by decide +kernel)
set_option maxRecDepth 20000 in
theorem gX4_meet_X4_slotFor : GoodIn wsX4_meet (wsV RX4 92 RX4 yX4_slotFor wsX4_slotFor) := goodIn_app (goodIn_of _ (by decide +kernel)) ggX4_meet_X4_slotFor
set_option maxRecDepth 20000 in
theorem ggX4_meet_X2_gone : GoodIn wsX4_meet wsX2_gone := goodIn_r _ [18] (by decide +kernel) (by decide +kernel)
set_option maxRecDepth 20000 in
theorem gX4_meet_X2_gone : GoodIn wsX4_meet (va_wsS RX4 57 yX2_gone wsX2_gone) := goodIn_app (goodIn_of _ (by decide +kernel)) ggX4_meet_X2_gone
theorem dX4_meet_0 : decode cX4_meet 0 = .ok (.aload_n 0, 1) := by decide +kernel
theorem dX4_meet_1 : decode cX4_meet 1 = .ok (.lload_n 1, 1) := by decide +kernel
theorem dX4_meet_2 : decode cX4_meet 2 = .ok (.invokevirtual 92, 3) := by decide +kernel
theorem dX4_meet_5 : decode cX4_meet 5 = .ok (.istore 5, 2) := by decide +kernel
theorem dX4_meet_7 : decode cX4_meet 7 = .ok (.iload 5, 2) := by decide +kernel
theorem dX4_meet_9 : decode cX4_meet 9 = .ok (.iconst (-1), 1) := by decide +kernel
theorem dX4_meet_10 : decode cX4_meet 10 = .ok (.if_icmp .eq 23, 3) := by decide +kernel
theorem dX4_meet_13 : decode cX4_meet 13 = .ok (.aload_n 0, 1) := by decide +kernel
theorem dX4_meet_14 : decode cX4_meet 14 = .ok (.getfield 22, 3) := by decide +kernel
theorem dX4_meet_17 : decode cX4_meet 17 = .ok (.iload 5, 2) := by decide +kernel
theorem dX4_meet_19 : decode cX4_meet 19 = .ok (.iaload, 1) := by decide +kernel
theorem dX4_meet_20 : decode cX4_meet 20 = .ok (.ifCond .ne 13, 3) := by decide +kernel
theorem dX4_meet_23 : decode cX4_meet 23 = .ok (.aload_n 0, 1) := by decide +kernel
theorem dX4_meet_24 : decode cX4_meet 24 = .ok (.getfield 25, 3) := by decide +kernel
theorem dX4_meet_27 : decode cX4_meet 27 = .ok (.sipush 2956, 3) := by decide +kernel
theorem dX4_meet_30 : decode cX4_meet 30 = .ok (.if_icmp .lt 4, 3) := by decide +kernel
theorem dX4_meet_33 : decode cX4_meet 33 = .ok (.return_, 1) := by decide +kernel
theorem dX4_meet_34 : decode cX4_meet 34 = .ok (.aload_n 0, 1) := by decide +kernel
theorem dX4_meet_35 : decode cX4_meet 35 = .ok (.getfield 11, 3) := by decide +kernel
theorem dX4_meet_38 : decode cX4_meet 38 = .ok (.aload_n 0, 1) := by decide +kernel
theorem dX4_meet_39 : decode cX4_meet 39 = .ok (.getfield 25, 3) := by decide +kernel
theorem dX4_meet_42 : decode cX4_meet 42 = .ok (.lload_n 1, 1) := by decide +kernel
theorem dX4_meet_43 : decode cX4_meet 43 = .ok (.lastore, 1) := by decide +kernel
theorem dX4_meet_44 : decode cX4_meet 44 = .ok (.aload_n 0, 1) := by decide +kernel
theorem dX4_meet_45 : decode cX4_meet 45 = .ok (.getfield 15, 3) := by decide +kernel
theorem dX4_meet_48 : decode cX4_meet 48 = .ok (.aload_n 0, 1) := by decide +kernel
theorem dX4_meet_49 : decode cX4_meet 49 = .ok (.getfield 25, 3) := by decide +kernel
theorem dX4_meet_52 : decode cX4_meet 52 = .ok (.iload_n 3, 1) := by decide +kernel
theorem dX4_meet_53 : decode cX4_meet 53 = .ok (.iastore, 1) := by decide +kernel
theorem dX4_meet_54 : decode cX4_meet 54 = .ok (.aload_n 0, 1) := by decide +kernel
theorem dX4_meet_55 : decode cX4_meet 55 = .ok (.getfield 19, 3) := by decide +kernel
theorem dX4_meet_58 : decode cX4_meet 58 = .ok (.aload_n 0, 1) := by decide +kernel
theorem dX4_meet_59 : decode cX4_meet 59 = .ok (.getfield 25, 3) := by decide +kernel
theorem dX4_meet_62 : decode cX4_meet 62 = .ok (.iload 4, 2) := by decide +kernel
theorem dX4_meet_64 : decode cX4_meet 64 = .ok (.iastore, 1) := by decide +kernel
theorem dX4_meet_65 : decode cX4_meet 65 = .ok (.aload_n 0, 1) := by decide +kernel
theorem dX4_meet_66 : decode cX4_meet 66 = .ok (.getfield 29, 3) := by decide +kernel
theorem dX4_meet_69 : decode cX4_meet 69 = .ok (.iconst (-1), 1) := by decide +kernel
theorem dX4_meet_70 : decode cX4_meet 70 = .ok (.if_icmp .ne 25, 3) := by decide +kernel
theorem dX4_meet_73 : decode cX4_meet 73 = .ok (.lload_n 1, 1) := by decide +kernel
theorem dX4_meet_74 : decode cX4_meet 74 = .ok (.invokestatic 57, 3) := by decide +kernel
theorem dX4_meet_77 : decode cX4_meet 77 = .ok (.aload_n 0, 1) := by decide +kernel
theorem dX4_meet_78 : decode cX4_meet 78 = .ok (.getfield 32, 3) := by decide +kernel
theorem dX4_meet_81 : decode cX4_meet 81 = .ok (.getfield 63, 3) := by decide +kernel
theorem dX4_meet_84 : decode cX4_meet 84 = .ok (.if_icmp .lt 11, 3) := by decide +kernel
theorem dX4_meet_87 : decode cX4_meet 87 = .ok (.aload_n 0, 1) := by decide +kernel
theorem dX4_meet_88 : decode cX4_meet 88 = .ok (.aload_n 0, 1) := by decide +kernel
theorem dX4_meet_89 : decode cX4_meet 89 = .ok (.getfield 25, 3) := by decide +kernel
theorem dX4_meet_92 : decode cX4_meet 92 = .ok (.putfield 29, 3) := by decide +kernel
theorem dX4_meet_95 : decode cX4_meet 95 = .ok (.aload_n 0, 1) := by decide +kernel
theorem dX4_meet_96 : decode cX4_meet 96 = .ok (.dup, 1) := by decide +kernel
theorem dX4_meet_97 : decode cX4_meet 97 = .ok (.getfield 25, 3) := by decide +kernel
theorem dX4_meet_100 : decode cX4_meet 100 = .ok (.iconst 1, 1) := by decide +kernel
theorem dX4_meet_101 : decode cX4_meet 101 = .ok (.iadd, 1) := by decide +kernel
theorem dX4_meet_102 : decode cX4_meet 102 = .ok (.putfield 25, 3) := by decide +kernel
theorem dX4_meet_105 : decode cX4_meet 105 = .ok (.aload_n 0, 1) := by decide +kernel
theorem dX4_meet_106 : decode cX4_meet 106 = .ok (.getfield 22, 3) := by decide +kernel
theorem dX4_meet_109 : decode cX4_meet 109 = .ok (.iload 5, 2) := by decide +kernel
theorem dX4_meet_111 : decode cX4_meet 111 = .ok (.aload_n 0, 1) := by decide +kernel
theorem dX4_meet_112 : decode cX4_meet 112 = .ok (.getfield 25, 3) := by decide +kernel
theorem dX4_meet_115 : decode cX4_meet 115 = .ok (.iastore, 1) := by decide +kernel
theorem dX4_meet_116 : decode cX4_meet 116 = .ok (.return_, 1) := by decide +kernel
theorem dX4_slotFor_0 : decode cX4_slotFor 0 = .ok (.lload_n 1, 1) := by decide +kernel
theorem dX4_slotFor_1 : decode cX4_slotFor 1 = .ok (.ldc2_w 95, 3) := by decide +kernel
theorem dX4_slotFor_4 : decode cX4_slotFor 4 = .ok (.lmul, 1) := by decide +kernel
theorem dX4_slotFor_5 : decode cX4_slotFor 5 = .ok (.bipush 52, 2) := by decide +kernel
theorem dX4_slotFor_7 : decode cX4_slotFor 7 = .ok (.lushr, 1) := by decide +kernel
theorem dX4_slotFor_8 : decode cX4_slotFor 8 = .ok (.l2i, 1) := by decide +kernel
theorem dX4_slotFor_9 : decode cX4_slotFor 9 = .ok (.istore_n 3, 1) := by decide +kernel
theorem dX4_slotFor_10 : decode cX4_slotFor 10 = .ok (.iconst 0, 1) := by decide +kernel
theorem dX4_slotFor_11 : decode cX4_slotFor 11 = .ok (.istore 4, 2) := by decide +kernel
theorem dX4_slotFor_13 : decode cX4_slotFor 13 = .ok (.iload 4, 2) := by decide +kernel
theorem dX4_slotFor_15 : decode cX4_slotFor 15 = .ok (.sipush 4096, 3) := by decide +kernel
theorem dX4_slotFor_18 : decode cX4_slotFor 18 = .ok (.if_icmp .ge 50, 3) := by decide +kernel
theorem dX4_slotFor_21 : decode cX4_slotFor 21 = .ok (.iload_n 3, 1) := by decide +kernel
theorem dX4_slotFor_22 : decode cX4_slotFor 22 = .ok (.iload 4, 2) := by decide +kernel
theorem dX4_slotFor_24 : decode cX4_slotFor 24 = .ok (.iadd, 1) := by decide +kernel
theorem dX4_slotFor_25 : decode cX4_slotFor 25 = .ok (.sipush 4095, 3) := by decide +kernel
theorem dX4_slotFor_28 : decode cX4_slotFor 28 = .ok (.iand, 1) := by decide +kernel
theorem dX4_slotFor_29 : decode cX4_slotFor 29 = .ok (.istore 5, 2) := by decide +kernel
theorem dX4_slotFor_31 : decode cX4_slotFor 31 = .ok (.aload_n 0, 1) := by decide +kernel
theorem dX4_slotFor_32 : decode cX4_slotFor 32 = .ok (.getfield 22, 3) := by decide +kernel
theorem dX4_slotFor_35 : decode cX4_slotFor 35 = .ok (.iload 5, 2) := by decide +kernel
theorem dX4_slotFor_37 : decode cX4_slotFor 37 = .ok (.iaload, 1) := by decide +kernel
theorem dX4_slotFor_38 : decode cX4_slotFor 38 = .ok (.istore 6, 2) := by decide +kernel
theorem dX4_slotFor_40 : decode cX4_slotFor 40 = .ok (.iload 6, 2) := by decide +kernel
theorem dX4_slotFor_42 : decode cX4_slotFor 42 = .ok (.ifCond .eq 17, 3) := by decide +kernel
theorem dX4_slotFor_45 : decode cX4_slotFor 45 = .ok (.aload_n 0, 1) := by decide +kernel
theorem dX4_slotFor_46 : decode cX4_slotFor 46 = .ok (.getfield 11, 3) := by decide +kernel
theorem dX4_slotFor_49 : decode cX4_slotFor 49 = .ok (.iload 6, 2) := by decide +kernel
theorem dX4_slotFor_51 : decode cX4_slotFor 51 = .ok (.iconst 1, 1) := by decide +kernel
theorem dX4_slotFor_52 : decode cX4_slotFor 52 = .ok (.isub, 1) := by decide +kernel
theorem dX4_slotFor_53 : decode cX4_slotFor 53 = .ok (.laload, 1) := by decide +kernel
theorem dX4_slotFor_54 : decode cX4_slotFor 54 = .ok (.lload_n 1, 1) := by decide +kernel
theorem dX4_slotFor_55 : decode cX4_slotFor 55 = .ok (.lcmp, 1) := by decide +kernel
theorem dX4_slotFor_56 : decode cX4_slotFor 56 = .ok (.ifCond .ne 6, 3) := by decide +kernel
theorem dX4_slotFor_59 : decode cX4_slotFor 59 = .ok (.iload 5, 2) := by decide +kernel
theorem dX4_slotFor_61 : decode cX4_slotFor 61 = .ok (.ireturn, 1) := by decide +kernel
theorem dX4_slotFor_62 : decode cX4_slotFor 62 = .ok (.iinc 4 1, 3) := by decide +kernel
theorem dX4_slotFor_65 : decode cX4_slotFor 65 = .ok (.goto (-52), 3) := by decide +kernel
theorem dX4_slotFor_68 : decode cX4_slotFor 68 = .ok (.iconst (-1), 1) := by decide +kernel
theorem dX4_slotFor_69 : decode cX4_slotFor 69 = .ok (.ireturn, 1) := by decide +kernel
theorem dX5_init_0 : decode cX5_init 0 = .ok (.aload_n 0, 1) := by decide +kernel
theorem dX5_init_1 : decode cX5_init 1 = .ok (.invokespecial 3, 3) := by decide +kernel
theorem dX5_init_4 : decode cX5_init 4 = .ok (.aload_n 0, 1) := by decide +kernel
theorem dX5_init_5 : decode cX5_init 5 = .ok (.iconst 5, 1) := by decide +kernel
theorem dX5_init_6 : decode cX5_init 6 = .ok (.newarray .int, 2) := by decide +kernel
theorem dX5_init_8 : decode cX5_init 8 = .ok (.putfield 9, 3) := by decide +kernel
theorem dX5_init_11 : decode cX5_init 11 = .ok (.aload_n 0, 1) := by decide +kernel
theorem dX5_init_12 : decode cX5_init 12 = .ok (.iconst 5, 1) := by decide +kernel
theorem dX5_init_13 : decode cX5_init 13 = .ok (.newarray .int, 2) := by decide +kernel
theorem dX5_init_15 : decode cX5_init 15 = .ok (.putfield 15, 3) := by decide +kernel
theorem dX5_init_18 : decode cX5_init 18 = .ok (.aload_n 0, 1) := by decide +kernel
theorem dX5_init_19 : decode cX5_init 19 = .ok (.iconst 5, 1) := by decide +kernel
theorem dX5_init_20 : decode cX5_init 20 = .ok (.newarray .int, 2) := by decide +kernel
theorem dX5_init_22 : decode cX5_init 22 = .ok (.putfield 18, 3) := by decide +kernel
theorem dX5_init_25 : decode cX5_init 25 = .ok (.aload_n 0, 1) := by decide +kernel
theorem dX5_init_26 : decode cX5_init 26 = .ok (.iconst 5, 1) := by decide +kernel
theorem dX5_init_27 : decode cX5_init 27 = .ok (.newarray .int, 2) := by decide +kernel
theorem dX5_init_29 : decode cX5_init 29 = .ok (.putfield 21, 3) := by decide +kernel
theorem dX5_init_32 : decode cX5_init 32 = .ok (.aload_n 0, 1) := by decide +kernel
theorem dX5_init_33 : decode cX5_init 33 = .ok (.iconst 5, 1) := by decide +kernel
theorem dX5_init_34 : decode cX5_init 34 = .ok (.newarray .int, 2) := by decide +kernel
theorem dX5_init_36 : decode cX5_init 36 = .ok (.putfield 24, 3) := by decide +kernel
theorem dX5_init_39 : decode cX5_init 39 = .ok (.aload_n 0, 1) := by decide +kernel
theorem dX5_init_40 : decode cX5_init 40 = .ok (.iconst 0, 1) := by decide +kernel
theorem dX5_init_41 : decode cX5_init 41 = .ok (.putfield 27, 3) := by decide +kernel
theorem dX5_init_44 : decode cX5_init 44 = .ok (.aload_n 0, 1) := by decide +kernel
theorem dX5_init_45 : decode cX5_init 45 = .ok (.iconst 0, 1) := by decide +kernel
theorem dX5_init_46 : decode cX5_init 46 = .ok (.putfield 31, 3) := by decide +kernel
theorem dX5_init_49 : decode cX5_init 49 = .ok (.aload_n 0, 1) := by decide +kernel
theorem dX5_init_50 : decode cX5_init 50 = .ok (.aload_n 1, 1) := by decide +kernel
theorem dX5_init_51 : decode cX5_init 51 = .ok (.putfield 34, 3) := by decide +kernel
theorem dX5_init_54 : decode cX5_init 54 = .ok (.iconst 0, 1) := by decide +kernel
theorem dX5_init_55 : decode cX5_init 55 = .ok (.istore_n 2, 1) := by decide +kernel
theorem dX5_init_56 : decode cX5_init 56 = .ok (.iload_n 2, 1) := by decide +kernel
theorem dX5_init_57 : decode cX5_init 57 = .ok (.iconst 5, 1) := by decide +kernel
theorem dX5_init_58 : decode cX5_init 58 = .ok (.if_icmp .ge 16, 3) := by decide +kernel
theorem dX5_init_61 : decode cX5_init 61 = .ok (.aload_n 0, 1) := by decide +kernel
theorem dX5_init_62 : decode cX5_init 62 = .ok (.getfield 9, 3) := by decide +kernel
theorem dX5_init_65 : decode cX5_init 65 = .ok (.iload_n 2, 1) := by decide +kernel
theorem dX5_init_66 : decode cX5_init 66 = .ok (.iload_n 2, 1) := by decide +kernel
theorem dX5_init_67 : decode cX5_init 67 = .ok (.iastore, 1) := by decide +kernel
theorem dX5_init_68 : decode cX5_init 68 = .ok (.iinc 2 1, 3) := by decide +kernel
theorem dX5_init_71 : decode cX5_init 71 = .ok (.goto (-15), 3) := by decide +kernel
theorem dX5_init_74 : decode cX5_init 74 = .ok (.return_, 1) := by decide +kernel
set_option maxRecDepth 20000 in
theorem ggX5_refresh_X5_tryOrders : GoodIn wsX5_refresh wsX5_tryOrders := goodIn_r _ [13, 4, 2, 3, 14, 7, 15, 16, 17, 18, 19, 20, 21, 22, 23, 24, 9, 10, 11, 12, 29, 30, 31, 32, 33, 34, 35, 36, 37, 38, 39, 40, 41, 42, 43, 44, 45, 46, 47] (by decide +kernel) (by decide +kernel)
set_option maxRecDepth 20000 in
theorem gX5_refresh_X5_tryOrders : GoodIn wsX5_refresh (wsV RX5 43 RX5 yX5_tryOrders wsX5_tryOrders) := goodIn_app (goodIn_of _ (by decide +kernel)) ggX5_refresh_X5_tryOrders
set_option maxRecDepth 20000 in
theorem ggX5_refresh_X5_fillReady : GoodIn wsX5_refresh wsX5_fillReady := goodIn_r _ [28, 2, 3, 19, 20, 21, 22, 23, 24, 29, 30, 31, 32, 33, 34, 35, 36, 37, 38, 39, 40, 41, 42, 43, 44, 45, 46, 47] (by decide +kernel) (by decide +kernel)
set_option maxRecDepth 20000 in
theorem gX5_refresh_X5_fillReady : GoodIn wsX5_refresh (wsV RX5 47 RX5 yX5_fillReady wsX5_fillReady) := goodIn_app (goodIn_of _ (by decide +kernel)) ggX5_refresh_X5_fillReady
theorem dX5_refresh_0 : decode cX5_refresh 0 = .ok (.aload_n 0, 1) := by decide +kernel
theorem dX5_refresh_1 : decode cX5_refresh 1 = .ok (.getfield 31, 3) := by decide +kernel
theorem dX5_refresh_4 : decode cX5_refresh 4 = .ok (.aload_n 0, 1) := by decide +kernel
theorem dX5_refresh_5 : decode cX5_refresh 5 = .ok (.getfield 34, 3) := by decide +kernel
theorem dX5_refresh_8 : decode cX5_refresh 8 = .ok (.getfield 38, 3) := by decide +kernel
theorem dX5_refresh_11 : decode cX5_refresh 11 = .ok (.if_icmp .ne 4, 3) := by decide +kernel
theorem dX5_refresh_14 : decode cX5_refresh 14 = .ok (.return_, 1) := by decide +kernel
theorem dX5_refresh_15 : decode cX5_refresh 15 = .ok (.aload_n 0, 1) := by decide +kernel
theorem dX5_refresh_16 : decode cX5_refresh 16 = .ok (.aload_n 0, 1) := by decide +kernel
theorem dX5_refresh_17 : decode cX5_refresh 17 = .ok (.getfield 34, 3) := by decide +kernel
theorem dX5_refresh_20 : decode cX5_refresh 20 = .ok (.getfield 38, 3) := by decide +kernel
theorem dX5_refresh_23 : decode cX5_refresh 23 = .ok (.putfield 31, 3) := by decide +kernel
theorem dX5_refresh_26 : decode cX5_refresh 26 = .ok (.aload_n 0, 1) := by decide +kernel
theorem dX5_refresh_27 : decode cX5_refresh 27 = .ok (.sipush 601, 3) := by decide +kernel
theorem dX5_refresh_30 : decode cX5_refresh 30 = .ok (.putfield 27, 3) := by decide +kernel
theorem dX5_refresh_33 : decode cX5_refresh 33 = .ok (.aload_n 0, 1) := by decide +kernel
theorem dX5_refresh_34 : decode cX5_refresh 34 = .ok (.iconst 0, 1) := by decide +kernel
theorem dX5_refresh_35 : decode cX5_refresh 35 = .ok (.iconst 0, 1) := by decide +kernel
theorem dX5_refresh_36 : decode cX5_refresh 36 = .ok (.iconst 0, 1) := by decide +kernel
theorem dX5_refresh_37 : decode cX5_refresh 37 = .ok (.iconst 0, 1) := by decide +kernel
theorem dX5_refresh_38 : decode cX5_refresh 38 = .ok (.invokevirtual 43, 3) := by decide +kernel
theorem dX5_refresh_41 : decode cX5_refresh 41 = .ok (.aload_n 0, 1) := by decide +kernel
theorem dX5_refresh_42 : decode cX5_refresh 42 = .ok (.aload_n 0, 1) := by decide +kernel
theorem dX5_refresh_43 : decode cX5_refresh 43 = .ok (.getfield 9, 3) := by decide +kernel
theorem dX5_refresh_46 : decode cX5_refresh 46 = .ok (.aload_n 0, 1) := by decide +kernel
theorem dX5_refresh_47 : decode cX5_refresh 47 = .ok (.getfield 21, 3) := by decide +kernel
theorem dX5_refresh_50 : decode cX5_refresh 50 = .ok (.invokevirtual 47, 3) := by decide +kernel
theorem dX5_refresh_53 : decode cX5_refresh 53 = .ok (.aload_n 0, 1) := by decide +kernel
theorem dX5_refresh_54 : decode cX5_refresh 54 = .ok (.aload_n 0, 1) := by decide +kernel
theorem dX5_refresh_55 : decode cX5_refresh 55 = .ok (.getfield 18, 3) := by decide +kernel
theorem dX5_refresh_58 : decode cX5_refresh 58 = .ok (.aload_n 0, 1) := by decide +kernel
theorem dX5_refresh_59 : decode cX5_refresh 59 = .ok (.getfield 24, 3) := by decide +kernel
theorem dX5_refresh_62 : decode cX5_refresh 62 = .ok (.invokevirtual 47, 3) := by decide +kernel
theorem dX5_refresh_65 : decode cX5_refresh 65 = .ok (.return_, 1) := by decide +kernel
set_option maxRecDepth 20000 in
theorem ggX5_tryOrders_X5_tryOrders : GoodIn wsX5_tryOrders wsX5_tryOrders := goodIn_r _ [0, 1, 2, 3, 4, 5, 6, 7, 8, 9, 10, 11, 12, 13, 14, 15, 16, 17, 18, 19, 20, 21, 22, 23, 24, 25, 26, 27, 28, 29, 30, 31, 32, 33, 34, 35, 36, 37, 38] (by decide +kernel) (by decide +kernel)
set_option maxRecDepth 20000 in
theorem gX5_tryOrders_X5_tryOrders : GoodIn wsX5_tryOrders (wsV RX5 43 RX5 yX5_tryOrders wsX5_tryOrders) := goodIn_app (goodIn_of _ (by decide +kernel)) ggX5_tryOrders_X5_tryOrders
theorem dX5_tryOrders_0 : decode cX5_tryOrders 0 = .ok (.iload 4, 2) := by decide +kernel
theorem dX5_tryOrders_2 : decode cX5_tryOrders 2 = .ok (.aload_n 0, 1) := by decide +kernel
theorem dX5_tryOrders_3 : decode cX5_tryOrders 3 = .ok (.getfield 27, 3) := by decide +kernel
theorem dX5_tryOrders_6 : decode cX5_tryOrders 6 = .ok (.if_icmp .lt 4, 3) := by decide +kernel
theorem dX5_tryOrders_9 : decode cX5_tryOrders 9 = .ok (.return_, 1) := by decide +kernel
theorem dX5_tryOrders_10 : decode cX5_tryOrders 10 = .ok (.iload_n 1, 1) := by decide +kernel
theorem dX5_tryOrders_11 : decode cX5_tryOrders 11 = .ok (.aload_n 0, 1) := by decide +kernel
theorem dX5_tryOrders_12 : decode cX5_tryOrders 12 = .ok (.getfield 34, 3) := by decide +kernel
theorem dX5_tryOrders_15 : decode cX5_tryOrders 15 = .ok (.getfield 38, 3) := by decide +kernel
theorem dX5_tryOrders_18 : decode cX5_tryOrders 18 = .ok (.if_icmp .lt 24, 3) := by decide +kernel
theorem dX5_tryOrders_21 : decode cX5_tryOrders 21 = .ok (.aload_n 0, 1) := by decide +kernel
theorem dX5_tryOrders_22 : decode cX5_tryOrders 22 = .ok (.iload 4, 2) := by decide +kernel
theorem dX5_tryOrders_24 : decode cX5_tryOrders 24 = .ok (.putfield 27, 3) := by decide +kernel
theorem dX5_tryOrders_27 : decode cX5_tryOrders 27 = .ok (.aload_n 0, 1) := by decide +kernel
theorem dX5_tryOrders_28 : decode cX5_tryOrders 28 = .ok (.getfield 15, 3) := by decide +kernel
theorem dX5_tryOrders_31 : decode cX5_tryOrders 31 = .ok (.iconst 0, 1) := by decide +kernel
theorem dX5_tryOrders_32 : decode cX5_tryOrders 32 = .ok (.aload_n 0, 1) := by decide +kernel
theorem dX5_tryOrders_33 : decode cX5_tryOrders 33 = .ok (.getfield 18, 3) := by decide +kernel
theorem dX5_tryOrders_36 : decode cX5_tryOrders 36 = .ok (.iconst 0, 1) := by decide +kernel
theorem dX5_tryOrders_37 : decode cX5_tryOrders 37 = .ok (.iconst 5, 1) := by decide +kernel
theorem dX5_tryOrders_38 : decode cX5_tryOrders 38 = .ok (.invokestatic 51, 3) := by decide +kernel
theorem dX5_tryOrders_41 : decode cX5_tryOrders 41 = .ok (.return_, 1) := by decide +kernel
theorem dX5_tryOrders_42 : decode cX5_tryOrders 42 = .ok (.iconst 0, 1) := by decide +kernel
theorem dX5_tryOrders_43 : decode cX5_tryOrders 43 = .ok (.istore 5, 2) := by decide +kernel
theorem dX5_tryOrders_45 : decode cX5_tryOrders 45 = .ok (.iload 5, 2) := by decide +kernel
theorem dX5_tryOrders_47 : decode cX5_tryOrders 47 = .ok (.aload_n 0, 1) := by decide +kernel
theorem dX5_tryOrders_48 : decode cX5_tryOrders 48 = .ok (.getfield 34, 3) := by decide +kernel
theorem dX5_tryOrders_51 : decode cX5_tryOrders 51 = .ok (.getfield 38, 3) := by decide +kernel
theorem dX5_tryOrders_54 : decode cX5_tryOrders 54 = .ok (.if_icmp .ge 77, 3) := by decide +kernel
theorem dX5_tryOrders_57 : decode cX5_tryOrders 57 = .ok (.iload_n 2, 1) := by decide +kernel
theorem dX5_tryOrders_58 : decode cX5_tryOrders 58 = .ok (.iload 5, 2) := by decide +kernel
theorem dX5_tryOrders_60 : decode cX5_tryOrders 60 = .ok (.ishr, 1) := by decide +kernel
theorem dX5_tryOrders_61 : decode cX5_tryOrders 61 = .ok (.iconst 1, 1) := by decide +kernel
theorem dX5_tryOrders_62 : decode cX5_tryOrders 62 = .ok (.iand, 1) := by decide +kernel
theorem dX5_tryOrders_63 : decode cX5_tryOrders 63 = .ok (.ifCond .ne 62, 3) := by decide +kernel
theorem dX5_tryOrders_66 : decode cX5_tryOrders 66 = .ok (.aload_n 0, 1) := by decide +kernel
theorem dX5_tryOrders_67 : decode cX5_tryOrders 67 = .ok (.getfield 15, 3) := by decide +kernel
theorem dX5_tryOrders_70 : decode cX5_tryOrders 70 = .ok (.iload_n 1, 1) := by decide +kernel
theorem dX5_tryOrders_71 : decode cX5_tryOrders 71 = .ok (.iload 5, 2) := by decide +kernel
theorem dX5_tryOrders_73 : decode cX5_tryOrders 73 = .ok (.iastore, 1) := by decide +kernel
theorem dX5_tryOrders_74 : decode cX5_tryOrders 74 = .ok (.iload_n 3, 1) := by decide +kernel
theorem dX5_tryOrders_75 : decode cX5_tryOrders 75 = .ok (.aload_n 0, 1) := by decide +kernel
theorem dX5_tryOrders_76 : decode cX5_tryOrders 76 = .ok (.getfield 34, 3) := by decide +kernel
theorem dX5_tryOrders_79 : decode cX5_tryOrders 79 = .ok (.getfield 57, 3) := by decide +kernel
theorem dX5_tryOrders_82 : decode cX5_tryOrders 82 = .ok (.iload 5, 2) := by decide +kernel
theorem dX5_tryOrders_84 : decode cX5_tryOrders 84 = .ok (.iaload, 1) := by decide +kernel
theorem dX5_tryOrders_85 : decode cX5_tryOrders 85 = .ok (.iadd, 1) := by decide +kernel
theorem dX5_tryOrders_86 : decode cX5_tryOrders 86 = .ok (.istore 6, 2) := by decide +kernel
theorem dX5_tryOrders_88 : decode cX5_tryOrders 88 = .ok (.iload 6, 2) := by decide +kernel
theorem dX5_tryOrders_90 : decode cX5_tryOrders 90 = .ok (.iload 4, 2) := by decide +kernel
theorem dX5_tryOrders_92 : decode cX5_tryOrders 92 = .ok (.invokestatic 60, 3) := by decide +kernel
theorem dX5_tryOrders_95 : decode cX5_tryOrders 95 = .ok (.aload_n 0, 1) := by decide +kernel
theorem dX5_tryOrders_96 : decode cX5_tryOrders 96 = .ok (.getfield 34, 3) := by decide +kernel
theorem dX5_tryOrders_99 : decode cX5_tryOrders 99 = .ok (.getfield 66, 3) := by decide +kernel
theorem dX5_tryOrders_102 : decode cX5_tryOrders 102 = .ok (.iload 5, 2) := by decide +kernel
theorem dX5_tryOrders_104 : decode cX5_tryOrders 104 = .ok (.iaload, 1) := by decide +kernel
theorem dX5_tryOrders_105 : decode cX5_tryOrders 105 = .ok (.iadd, 1) := by decide +kernel
theorem dX5_tryOrders_106 : decode cX5_tryOrders 106 = .ok (.istore 7, 2) := by decide +kernel
theorem dX5_tryOrders_108 : decode cX5_tryOrders 108 = .ok (.aload_n 0, 1) := by decide +kernel
theorem dX5_tryOrders_109 : decode cX5_tryOrders 109 = .ok (.iload_n 1, 1) := by decide +kernel
theorem dX5_tryOrders_110 : decode cX5_tryOrders 110 = .ok (.iconst 1, 1) := by decide +kernel
theorem dX5_tryOrders_111 : decode cX5_tryOrders 111 = .ok (.iadd, 1) := by decide +kernel
theorem dX5_tryOrders_112 : decode cX5_tryOrders 112 = .ok (.iload_n 2, 1) := by decide +kernel
theorem dX5_tryOrders_113 : decode cX5_tryOrders 113 = .ok (.iconst 1, 1) := by decide +kernel
theorem dX5_tryOrders_114 : decode cX5_tryOrders 114 = .ok (.iload 5, 2) := by decide +kernel
theorem dX5_tryOrders_116 : decode cX5_tryOrders 116 = .ok (.ishl, 1) := by decide +kernel
theorem dX5_tryOrders_117 : decode cX5_tryOrders 117 = .ok (.ior, 1) := by decide +kernel
theorem dX5_tryOrders_118 : decode cX5_tryOrders 118 = .ok (.iload 6, 2) := by decide +kernel
theorem dX5_tryOrders_120 : decode cX5_tryOrders 120 = .ok (.iload 7, 2) := by decide +kernel
theorem dX5_tryOrders_122 : decode cX5_tryOrders 122 = .ok (.invokevirtual 43, 3) := by decide +kernel
theorem dX5_tryOrders_125 : decode cX5_tryOrders 125 = .ok (.iinc 5 1, 3) := by decide +kernel
theorem dX5_tryOrders_128 : decode cX5_tryOrders 128 = .ok (.goto (-83), 3) := by decide +kernel
theorem dX5_tryOrders_131 : decode cX5_tryOrders 131 = .ok (.return_, 1) := by decide +kernel
theorem dX5_fillReady_0 : decode cX5_fillReady 0 = .ok (.iconst 0, 1) := by decide +kernel
theorem dX5_fillReady_1 : decode cX5_fillReady 1 = .ok (.istore_n 3, 1) := by decide +kernel
theorem dX5_fillReady_2 : decode cX5_fillReady 2 = .ok (.iconst 0, 1) := by decide +kernel
theorem dX5_fillReady_3 : decode cX5_fillReady 3 = .ok (.istore 4, 2) := by decide +kernel
theorem dX5_fillReady_5 : decode cX5_fillReady 5 = .ok (.iconst 0, 1) := by decide +kernel
theorem dX5_fillReady_6 : decode cX5_fillReady 6 = .ok (.istore 5, 2) := by decide +kernel
theorem dX5_fillReady_8 : decode cX5_fillReady 8 = .ok (.iload 5, 2) := by decide +kernel
theorem dX5_fillReady_10 : decode cX5_fillReady 10 = .ok (.aload_n 0, 1) := by decide +kernel
theorem dX5_fillReady_11 : decode cX5_fillReady 11 = .ok (.getfield 34, 3) := by decide +kernel
theorem dX5_fillReady_14 : decode cX5_fillReady 14 = .ok (.getfield 38, 3) := by decide +kernel
theorem dX5_fillReady_17 : decode cX5_fillReady 17 = .ok (.if_icmp .ge 53, 3) := by decide +kernel
theorem dX5_fillReady_20 : decode cX5_fillReady 20 = .ok (.aload_n 1, 1) := by decide +kernel
theorem dX5_fillReady_21 : decode cX5_fillReady 21 = .ok (.iload 5, 2) := by decide +kernel
theorem dX5_fillReady_23 : decode cX5_fillReady 23 = .ok (.iaload, 1) := by decide +kernel
theorem dX5_fillReady_24 : decode cX5_fillReady 24 = .ok (.istore 6, 2) := by decide +kernel
theorem dX5_fillReady_26 : decode cX5_fillReady 26 = .ok (.iload_n 3, 1) := by decide +kernel
theorem dX5_fillReady_27 : decode cX5_fillReady 27 = .ok (.aload_n 0, 1) := by decide +kernel
theorem dX5_fillReady_28 : decode cX5_fillReady 28 = .ok (.getfield 34, 3) := by decide +kernel
theorem dX5_fillReady_31 : decode cX5_fillReady 31 = .ok (.getfield 57, 3) := by decide +kernel
theorem dX5_fillReady_34 : decode cX5_fillReady 34 = .ok (.iload 6, 2) := by decide +kernel
theorem dX5_fillReady_36 : decode cX5_fillReady 36 = .ok (.iaload, 1) := by decide +kernel
theorem dX5_fillReady_37 : decode cX5_fillReady 37 = .ok (.iadd, 1) := by decide +kernel
theorem dX5_fillReady_38 : decode cX5_fillReady 38 = .ok (.istore_n 3, 1) := by decide +kernel
theorem dX5_fillReady_39 : decode cX5_fillReady 39 = .ok (.iload_n 3, 1) := by decide +kernel
theorem dX5_fillReady_40 : decode cX5_fillReady 40 = .ok (.iload 4, 2) := by decide +kernel
theorem dX5_fillReady_42 : decode cX5_fillReady 42 = .ok (.invokestatic 60, 3) := by decide +kernel
theorem dX5_fillReady_45 : decode cX5_fillReady 45 = .ok (.aload_n 0, 1) := by decide +kernel
theorem dX5_fillReady_46 : decode cX5_fillReady 46 = .ok (.getfield 34, 3) := by decide +kernel
theorem dX5_fillReady_49 : decode cX5_fillReady 49 = .ok (.getfield 66, 3) := by decide +kernel
theorem dX5_fillReady_52 : decode cX5_fillReady 52 = .ok (.iload 6, 2) := by decide +kernel
theorem dX5_fillReady_54 : decode cX5_fillReady 54 = .ok (.iaload, 1) := by decide +kernel
theorem dX5_fillReady_55 : decode cX5_fillReady 55 = .ok (.iadd, 1) := by decide +kernel
theorem dX5_fillReady_56 : decode cX5_fillReady 56 = .ok (.istore 4, 2) := by decide +kernel
theorem dX5_fillReady_58 : decode cX5_fillReady 58 = .ok (.aload_n 2, 1) := by decide +kernel
theorem dX5_fillReady_59 : decode cX5_fillReady 59 = .ok (.iload 6, 2) := by decide +kernel
theorem dX5_fillReady_61 : decode cX5_fillReady 61 = .ok (.iload 4, 2) := by decide +kernel
theorem dX5_fillReady_63 : decode cX5_fillReady 63 = .ok (.iastore, 1) := by decide +kernel
theorem dX5_fillReady_64 : decode cX5_fillReady 64 = .ok (.iinc 5 1, 3) := by decide +kernel
theorem dX5_fillReady_67 : decode cX5_fillReady 67 = .ok (.goto (-59), 3) := by decide +kernel
theorem dX5_fillReady_70 : decode cX5_fillReady 70 = .ok (.return_, 1) := by decide +kernel
set_option maxRecDepth 20000 in
theorem ggX6_init_X0_init : GoodIn wsX6_init wsX0_init := goodIn_r _ [22, 23, 2, 3, 24, 25, 26, 27, 28, 29, 30, 31, 32, 33, 34, 35, 36, 37, 38, 39, 40, 73, 74, 75, 76, 77, 78, 79, 80, 81, 82, 83] (by decide +kernel) (by decide +kernel)
set_option maxRecDepth 20000 in
theorem gX6_init_X0_init : GoodIn wsX6_init (wsX0_init) := ggX6_init_X0_init
set_option maxRecDepth 20000 in
theorem ggX6_init_X1_init : GoodIn wsX6_init wsX1_init := goodIn_r _ [43, 44, 2, 3, 24, 45, 46, 47, 48, 49, 50, 88, 89, 90, 91, 92, 93] (by decide +kernel) (by decide +kernel)
set_option maxRecDepth 20000 in
theorem gX6_init_X1_init : GoodIn wsX6_init (wsX1_init) := ggX6_init_X1_init
set_option maxRecDepth 20000 in
theorem ggX6_init_X3_init : GoodIn wsX6_init wsX3_init := goodIn_r _ [53, 54, 2, 3, 24, 55, 56, 57, 58, 59, 60, 94, 95, 96, 97, 98, 99] (by decide +kernel) (by decide +kernel)
set_option maxRecDepth 20000 in
theorem gX6_init_X3_init : GoodIn wsX6_init (wsX3_init) := ggX6_init_X3_init
set_option maxRecDepth 20000 in
theorem ggX6_init_X5_init : GoodIn wsX6_init wsX5_init := goodIn_r _ [63, 64, 2, 3, 24, 65, 66, 67, 68, 69, 70, 71, 72, 100, 101, 102, 103, 104, 105, 106, 107] (by decide +kernel) (by decide +kernel)
set_option maxRecDepth 20000 in
theorem gX6_init_X5_init : GoodIn wsX6_init (wsX5_init) := ggX6_init_X5_init
theorem dX6_init_0 : decode cX6_init 0 = .ok (.aload_n 0, 1) := by decide +kernel
theorem dX6_init_1 : decode cX6_init 1 = .ok (.invokespecial 1, 3) := by decide +kernel
theorem dX6_init_4 : decode cX6_init 4 = .ok (.aload_n 0, 1) := by decide +kernel
theorem dX6_init_5 : decode cX6_init 5 = .ok (.new 7, 3) := by decide +kernel
theorem dX6_init_8 : decode cX6_init 8 = .ok (.dup, 1) := by decide +kernel
theorem dX6_init_9 : decode cX6_init 9 = .ok (.invokespecial 9, 3) := by decide +kernel
theorem dX6_init_12 : decode cX6_init 12 = .ok (.putfield 10, 3) := by decide +kernel
theorem dX6_init_15 : decode cX6_init 15 = .ok (.aload_n 0, 1) := by decide +kernel
theorem dX6_init_16 : decode cX6_init 16 = .ok (.new 16, 3) := by decide +kernel
theorem dX6_init_19 : decode cX6_init 19 = .ok (.dup, 1) := by decide +kernel
theorem dX6_init_20 : decode cX6_init 20 = .ok (.aload_n 0, 1) := by decide +kernel
theorem dX6_init_21 : decode cX6_init 21 = .ok (.getfield 10, 3) := by decide +kernel
theorem dX6_init_24 : decode cX6_init 24 = .ok (.invokespecial 18, 3) := by decide +kernel
theorem dX6_init_27 : decode cX6_init 27 = .ok (.putfield 21, 3) := by decide +kernel
theorem dX6_init_30 : decode cX6_init 30 = .ok (.aload_n 0, 1) := by decide +kernel
theorem dX6_init_31 : decode cX6_init 31 = .ok (.new 25, 3) := by decide +kernel
theorem dX6_init_34 : decode cX6_init 34 = .ok (.dup, 1) := by decide +kernel
theorem dX6_init_35 : decode cX6_init 35 = .ok (.aload_n 0, 1) := by decide +kernel
theorem dX6_init_36 : decode cX6_init 36 = .ok (.getfield 10, 3) := by decide +kernel
theorem dX6_init_39 : decode cX6_init 39 = .ok (.invokespecial 27, 3) := by decide +kernel
theorem dX6_init_42 : decode cX6_init 42 = .ok (.putfield 28, 3) := by decide +kernel
theorem dX6_init_45 : decode cX6_init 45 = .ok (.aload_n 0, 1) := by decide +kernel
theorem dX6_init_46 : decode cX6_init 46 = .ok (.new 32, 3) := by decide +kernel
theorem dX6_init_49 : decode cX6_init 49 = .ok (.dup, 1) := by decide +kernel
theorem dX6_init_50 : decode cX6_init 50 = .ok (.aload_n 0, 1) := by decide +kernel
theorem dX6_init_51 : decode cX6_init 51 = .ok (.getfield 10, 3) := by decide +kernel
theorem dX6_init_54 : decode cX6_init 54 = .ok (.invokespecial 34, 3) := by decide +kernel
theorem dX6_init_57 : decode cX6_init 57 = .ok (.putfield 35, 3) := by decide +kernel
theorem dX6_init_60 : decode cX6_init 60 = .ok (.return_, 1) := by decide +kernel
set_option maxRecDepth 20000 in
theorem ggX6_unit_X6_isKind : GoodIn wsX6_unit wsX6_isKind := goodIn_r _ [6] (by decide +kernel) (by decide +kernel)
set_option maxRecDepth 20000 in
theorem gX6_unit_X6_isKind : GoodIn wsX6_unit (va_wsS RX6 39 yX6_isKind wsX6_isKind) := goodIn_app (goodIn_of _ (by decide +kernel)) ggX6_unit_X6_isKind
set_option maxRecDepth 20000 in
theorem ggX6_unit_X6_isWork : GoodIn wsX6_unit wsX6_isWork := goodIn_r _ [9] (by decide +kernel) (by decide +kernel)
set_option maxRecDepth 20000 in
theorem gX6_unit_X6_isWork : GoodIn wsX6_unit (va_wsS RX6 43 yX6_isWork wsX6_isWork) := goodIn_app (goodIn_of _ (by decide +kernel)) ggX6_unit_X6_isWork
set_option maxRecDepth 20000 in
theorem ggX6_unit_X0_addUnit : GoodIn wsX6_unit wsX0_addUnit := goodIn_r _ [14, 15, 16, 17, 18, 19, 24, 25, 26, 27, 28, 29, 30, 31, 32, 33, 34] (by decide +kernel) (by decide +kernel)
set_option maxRecDepth 20000 in
theorem gX6_unit_X0_addUnit : GoodIn wsX6_unit (wsV RX6 50 RX0 yX0_addUnit wsX0_addUnit) := goodIn_app (goodIn_of _ (by decide +kernel)) ggX6_unit_X0_addUnit
theorem dX6_unit_0 : decode cX6_unit 0 = .ok (.iload_n 1, 1) := by decide +kernel
theorem dX6_unit_1 : decode cX6_unit 1 = .ok (.invokestatic 39, 3) := by decide +kernel
theorem dX6_unit_4 : decode cX6_unit 4 = .ok (.ifCond .eq 17, 3) := by decide +kernel
theorem dX6_unit_7 : decode cX6_unit 7 = .ok (.iload_n 2, 1) := by decide +kernel
theorem dX6_unit_8 : decode cX6_unit 8 = .ok (.invokestatic 43, 3) := by decide +kernel
theorem dX6_unit_11 : decode cX6_unit 11 = .ok (.ifCond .eq 10, 3) := by decide +kernel
theorem dX6_unit_14 : decode cX6_unit 14 = .ok (.iload_n 3, 1) := by decide +kernel
theorem dX6_unit_15 : decode cX6_unit 15 = .ok (.invokestatic 43, 3) := by decide +kernel
theorem dX6_unit_18 : decode cX6_unit 18 = .ok (.ifCond .ne 6, 3) := by decide +kernel
theorem dX6_unit_21 : decode cX6_unit 21 = .ok (.bipush (-3), 2) := by decide +kernel
theorem dX6_unit_23 : decode cX6_unit 23 = .ok (.ireturn, 1) := by decide +kernel
theorem dX6_unit_24 : decode cX6_unit 24 = .ok (.aload_n 0, 1) := by decide +kernel
theorem dX6_unit_25 : decode cX6_unit 25 = .ok (.getfield 10, 3) := by decide +kernel
theorem dX6_unit_28 : decode cX6_unit 28 = .ok (.getfield 46, 3) := by decide +kernel
theorem dX6_unit_31 : decode cX6_unit 31 = .ok (.iconst 5, 1) := by decide +kernel
theorem dX6_unit_32 : decode cX6_unit 32 = .ok (.if_icmp .lt 6, 3) := by decide +kernel
theorem dX6_unit_35 : decode cX6_unit 35 = .ok (.bipush (-5), 2) := by decide +kernel
theorem dX6_unit_37 : decode cX6_unit 37 = .ok (.ireturn, 1) := by decide +kernel
theorem dX6_unit_38 : decode cX6_unit 38 = .ok (.aload_n 0, 1) := by decide +kernel
theorem dX6_unit_39 : decode cX6_unit 39 = .ok (.getfield 10, 3) := by decide +kernel
theorem dX6_unit_42 : decode cX6_unit 42 = .ok (.iload_n 1, 1) := by decide +kernel
theorem dX6_unit_43 : decode cX6_unit 43 = .ok (.iload_n 2, 1) := by decide +kernel
theorem dX6_unit_44 : decode cX6_unit 44 = .ok (.iload_n 3, 1) := by decide +kernel
theorem dX6_unit_45 : decode cX6_unit 45 = .ok (.invokevirtual 50, 3) := by decide +kernel
theorem dX6_unit_48 : decode cX6_unit 48 = .ok (.ireturn, 1) := by decide +kernel
set_option maxRecDepth 20000 in
theorem ggX6_broken_X0_hasUnit : GoodIn wsX6_broken wsX0_hasUnit := goodIn_r _ [6, 7, 18, 19, 20, 21, 22, 23, 24, 25, 26, 27, 28] (by decide +kernel) (by decide +kernel)
set_option maxRecDepth 20000 in
theorem gX6_broken_X0_hasUnit : GoodIn wsX6_broken (wsV RX6 54 RX0 yX0_hasUnit wsX0_hasUnit) := goodIn_app (goodIn_of _ (by decide +kernel)) ggX6_broken_X0_hasUnit
set_option maxRecDepth 20000 in
theorem ggX6_broken_X0_setBroken : GoodIn wsX6_broken wsX0_setBroken := goodIn_r _ [11, 12, 13, 18, 19, 20, 21, 22, 23, 24, 25, 26, 27, 28] (by decide +kernel) (by decide +kernel)
set_option maxRecDepth 20000 in
theorem gX6_broken_X0_setBroken : GoodIn wsX6_broken (wsV RX6 57 RX0 yX0_setBroken wsX0_setBroken) := goodIn_app (goodIn_of _ (by decide +kernel)) ggX6_broken_X0_setBroken
theorem dX6_broken_0 : decode cX6_broken 0 = .ok (.aload_n 0, 1) := by decide +kernel
theorem dX6_broken_1 : decode cX6_broken 1 = .ok (.getfield 10, 3) := by decide +kernel
theorem dX6_broken_4 : decode cX6_broken 4 = .ok (.iload_n 1, 1) := by decide +kernel
theorem dX6_broken_5 : decode cX6_broken 5 = .ok (.invokevirtual 54, 3) := by decide +kernel
theorem dX6_broken_8 : decode cX6_broken 8 = .ok (.ifCond .ne 6, 3) := by decide +kernel
theorem dX6_broken_11 : decode cX6_broken 11 = .ok (.bipush (-2), 2) := by decide +kernel
theorem dX6_broken_13 : decode cX6_broken 13 = .ok (.ireturn, 1) := by decide +kernel
theorem dX6_broken_14 : decode cX6_broken 14 = .ok (.aload_n 0, 1) := by decide +kernel
theorem dX6_broken_15 : decode cX6_broken 15 = .ok (.getfield 10, 3) := by decide +kernel
theorem dX6_broken_18 : decode cX6_broken 18 = .ok (.iload_n 1, 1) := by decide +kernel
theorem dX6_broken_19 : decode cX6_broken 19 = .ok (.iload_n 2, 1) := by decide +kernel
theorem dX6_broken_20 : decode cX6_broken 20 = .ok (.invokevirtual 57, 3) := by decide +kernel
theorem dX6_broken_23 : decode cX6_broken 23 = .ok (.ifCond .eq 7, 3) := by decide +kernel
theorem dX6_broken_26 : decode cX6_broken 26 = .ok (.iconst 1, 1) := by decide +kernel
theorem dX6_broken_27 : decode cX6_broken 27 = .ok (.goto 4, 3) := by decide +kernel
theorem dX6_broken_30 : decode cX6_broken 30 = .ok (.iconst 0, 1) := by decide +kernel
theorem dX6_broken_31 : decode cX6_broken 31 = .ok (.ireturn, 1) := by decide +kernel
set_option maxRecDepth 20000 in
theorem ggX6_length_X6_isTrack : GoodIn wsX6_length wsX6_isTrack := goodIn_r _ [5] (by decide +kernel) (by decide +kernel)
set_option maxRecDepth 20000 in
theorem gX6_length_X6_isTrack : GoodIn wsX6_length (va_wsS RX6 61 yX6_isTrack wsX6_isTrack) := goodIn_app (goodIn_of _ (by decide +kernel)) ggX6_length_X6_isTrack
set_option maxRecDepth 20000 in
theorem ggX6_length_X0_setLength : GoodIn wsX6_length wsX0_setLength := goodIn_r _ [10, 11, 12, 17, 18, 19, 20, 21, 22, 23, 24, 25, 26, 27] (by decide +kernel) (by decide +kernel)
set_option maxRecDepth 20000 in
theorem gX6_length_X0_setLength : GoodIn wsX6_length (wsV RX6 64 RX0 yX0_setLength wsX0_setLength) := goodIn_app (goodIn_of _ (by decide +kernel)) ggX6_length_X0_setLength
theorem dX6_length_0 : decode cX6_length 0 = .ok (.iload_n 1, 1) := by decide +kernel
theorem dX6_length_1 : decode cX6_length 1 = .ok (.invokestatic 61, 3) := by decide +kernel
theorem dX6_length_4 : decode cX6_length 4 = .ok (.ifCond .ne 6, 3) := by decide +kernel
theorem dX6_length_7 : decode cX6_length 7 = .ok (.bipush (-2), 2) := by decide +kernel
theorem dX6_length_9 : decode cX6_length 9 = .ok (.ireturn, 1) := by decide +kernel
theorem dX6_length_10 : decode cX6_length 10 = .ok (.iload_n 2, 1) := by decide +kernel
theorem dX6_length_11 : decode cX6_length 11 = .ok (.iconst 1, 1) := by decide +kernel
theorem dX6_length_12 : decode cX6_length 12 = .ok (.if_icmp .lt 8, 3) := by decide +kernel
theorem dX6_length_15 : decode cX6_length 15 = .ok (.iload_n 2, 1) := by decide +kernel
theorem dX6_length_16 : decode cX6_length 16 = .ok (.iconst 5, 1) := by decide +kernel
theorem dX6_length_17 : decode cX6_length 17 = .ok (.if_icmp .le 6, 3) := by decide +kernel
theorem dX6_length_20 : decode cX6_length 20 = .ok (.bipush (-3), 2) := by decide +kernel
theorem dX6_length_22 : decode cX6_length 22 = .ok (.ireturn, 1) := by decide +kernel
theorem dX6_length_23 : decode cX6_length 23 = .ok (.aload_n 0, 1) := by decide +kernel
theorem dX6_length_24 : decode cX6_length 24 = .ok (.getfield 10, 3) := by decide +kernel
theorem dX6_length_27 : decode cX6_length 27 = .ok (.iload_n 1, 1) := by decide +kernel
theorem dX6_length_28 : decode cX6_length 28 = .ok (.iload_n 2, 1) := by decide +kernel
theorem dX6_length_29 : decode cX6_length 29 = .ok (.invokevirtual 64, 3) := by decide +kernel
theorem dX6_length_32 : decode cX6_length 32 = .ok (.ireturn, 1) := by decide +kernel
set_option maxRecDepth 20000 in
theorem ggX6_leave_X6_isKind : GoodIn wsX6_leave wsX6_isKind := goodIn_r _ [6] (by decide +kernel) (by decide +kernel)
set_option maxRecDepth 20000 in
theorem gX6_leave_X6_isKind : GoodIn wsX6_leave (va_wsS RX6 39 yX6_isKind wsX6_isKind) := goodIn_app (goodIn_of _ (by decide +kernel)) ggX6_leave_X6_isKind
set_option maxRecDepth 20000 in
theorem ggX6_leave_X0_addWanted : GoodIn wsX6_leave wsX0_addWanted := goodIn_r _ [11, 12, 13, 14, 19, 20, 21, 22, 23, 24, 25, 26, 27, 28, 29] (by decide +kernel) (by decide +kernel)
set_option maxRecDepth 20000 in
theorem gX6_leave_X0_addWanted : GoodIn wsX6_leave (wsV RX6 71 RX0 yX0_addWanted wsX0_addWanted) := goodIn_app (goodIn_of _ (by decide +kernel)) ggX6_leave_X0_addWanted
theorem dX6_leave_0 : decode cX6_leave 0 = .ok (.iload_n 1, 1) := by decide +kernel
theorem dX6_leave_1 : decode cX6_leave 1 = .ok (.invokestatic 39, 3) := by decide +kernel
theorem dX6_leave_4 : decode cX6_leave 4 = .ok (.ifCond .ne 6, 3) := by decide +kernel
theorem dX6_leave_7 : decode cX6_leave 7 = .ok (.bipush (-3), 2) := by decide +kernel
theorem dX6_leave_9 : decode cX6_leave 9 = .ok (.ireturn, 1) := by decide +kernel
theorem dX6_leave_10 : decode cX6_leave 10 = .ok (.aload_n 0, 1) := by decide +kernel
theorem dX6_leave_11 : decode cX6_leave 11 = .ok (.getfield 10, 3) := by decide +kernel
theorem dX6_leave_14 : decode cX6_leave 14 = .ok (.getfield 68, 3) := by decide +kernel
theorem dX6_leave_17 : decode cX6_leave 17 = .ok (.iconst 5, 1) := by decide +kernel
theorem dX6_leave_18 : decode cX6_leave 18 = .ok (.if_icmp .lt 6, 3) := by decide +kernel
theorem dX6_leave_21 : decode cX6_leave 21 = .ok (.bipush (-5), 2) := by decide +kernel
theorem dX6_leave_23 : decode cX6_leave 23 = .ok (.ireturn, 1) := by decide +kernel
theorem dX6_leave_24 : decode cX6_leave 24 = .ok (.aload_n 0, 1) := by decide +kernel
theorem dX6_leave_25 : decode cX6_leave 25 = .ok (.getfield 10, 3) := by decide +kernel
theorem dX6_leave_28 : decode cX6_leave 28 = .ok (.iload_n 1, 1) := by decide +kernel
theorem dX6_leave_29 : decode cX6_leave 29 = .ok (.invokevirtual 71, 3) := by decide +kernel
theorem dX6_leave_32 : decode cX6_leave 32 = .ok (.ireturn, 1) := by decide +kernel
set_option maxRecDepth 20000 in
theorem ggX6_stay_X0_dropWanted : GoodIn wsX6_stay wsX0_dropWanted := goodIn_r _ [6, 7, 8, 13, 14, 15, 16, 17, 18, 19, 20, 21, 22, 23] (by decide +kernel) (by decide +kernel)
set_option maxRecDepth 20000 in
theorem gX6_stay_X0_dropWanted : GoodIn wsX6_stay (wsV RX6 75 RX0 yX0_dropWanted wsX0_dropWanted) := goodIn_app (goodIn_of _ (by decide +kernel)) ggX6_stay_X0_dropWanted
theorem dX6_stay_0 : decode cX6_stay 0 = .ok (.aload_n 0, 1) := by decide +kernel
theorem dX6_stay_1 : decode cX6_stay 1 = .ok (.getfield 10, 3) := by decide +kernel
theorem dX6_stay_4 : decode cX6_stay 4 = .ok (.invokevirtual 75, 3) := by decide +kernel
theorem dX6_stay_7 : decode cX6_stay 7 = .ok (.ireturn, 1) := by decide +kernel
set_option maxRecDepth 20000 in
theorem ggX6_clean_X1_refresh : GoodIn wsX6_clean wsX1_refresh := goodIn_r _ [7, 8, 9, 10, 11, 12, 13, 14, 15, 16, 17, 18, 19, 20, 21, 22, 23, 24, 25, 26, 27, 28, 29, 30, 31, 32, 33, 34, 35, 36, 37, 6, 38, 39, 40, 41, 42, 43, 44, 45, 46, 47, 48, 49, 50, 51, 52, 53, 54, 55, 56, 57, 58, 59, 60, 61, 62, 63, 64, 65, 66, 67, 68, 69, 70, 71, 72, 73, 74, 75, 76, 77, 78, 79, 80, 81, 82, 83, 84, 85, 86, 87, 92, 93, 94, 95, 96, 97, 98, 99, 100, 101, 102, 103, 104, 105, 106, 107, 108] (by decide +kernel) (by decide +kernel)
set_option maxRecDepth 20000 in
theorem gX6_clean_X1_refresh : GoodIn wsX6_clean (wsV RX6 79 RX1 yX1_refresh wsX1_refresh) := goodIn_app (goodIn_of _ (by decide +kernel)) ggX6_clean_X1_refresh
theorem dX6_clean_0 : decode cX6_clean 0 = .ok (.aload_n 0, 1) := by decide +kernel
theorem dX6_clean_1 : decode cX6_clean 1 = .ok (.getfield 21, 3) := by decide +kernel
theorem dX6_clean_4 : decode cX6_clean 4 = .ok (.invokevirtual 79, 3) := by decide +kernel
theorem dX6_clean_7 : decode cX6_clean 7 = .ok (.aload_n 0, 1) := by decide +kernel
theorem dX6_clean_8 : decode cX6_clean 8 = .ok (.getfield 21, 3) := by decide +kernel
theorem dX6_clean_11 : decode cX6_clean 11 = .ok (.getfield 82, 3) := by decide +kernel
theorem dX6_clean_14 : decode cX6_clean 14 = .ok (.ireturn, 1) := by decide +kernel
set_option maxRecDepth 20000 in
theorem ggX6_parking_X0_hasUnit : GoodIn wsX6_parking wsX0_hasUnit := goodIn_r _ [8, 9, 105, 106, 107, 108, 109, 110, 111, 112, 113, 114, 115] (by decide +kernel) (by decide +kernel)
set_option maxRecDepth 20000 in
theorem gX6_parking_X0_hasUnit : GoodIn wsX6_parking (wsV RX6 54 RX0 yX0_hasUnit wsX0_hasUnit) := goodIn_app (goodIn_of _ (by decide +kernel)) ggX6_parking_X0_hasUnit
set_option maxRecDepth 20000 in
theorem ggX6_parking_X1_refresh : GoodIn wsX6_parking wsX1_refresh := goodIn_r _ [14, 15, 16, 17, 18, 19, 20, 21, 22, 23, 7, 24, 25, 26, 27, 28, 29, 30, 31, 32, 33, 34, 35, 36, 37, 38, 39, 40, 41, 42, 43, 13, 44, 45, 46, 47, 48, 49, 50, 51, 52, 53, 54, 55, 56, 57, 58, 59, 60, 61, 62, 63, 64, 65, 66, 67, 68, 69, 70, 71, 72, 73, 74, 75, 76, 77, 78, 79, 80, 81, 82, 83, 84, 85, 86, 87, 88, 89, 90, 91, 92, 93, 99, 100, 101, 102, 103, 104, 105, 106, 107, 108, 109, 110, 111, 112, 113, 114, 115] (by decide +kernel) (by decide +kernel)
set_option maxRecDepth 20000 in
theorem gX6_parking_X1_refresh : GoodIn wsX6_parking (wsV RX6 79 RX1 yX1_refresh wsX1_refresh) := goodIn_app (goodIn_of _ (by decide +kernel)) ggX6_parking_X1_refresh
set_option maxRecDepth 20000 in
theorem ggX6_parking_X1_trackIn : GoodIn wsX6_parking wsX1_trackIn := goodIn_r _ [86, 46, 99, 100, 101, 102, 103, 104] (by decide +kernel) (by decide +kernel)
set_option maxRecDepth 20000 in
theorem gX6_parking_X1_trackIn : GoodIn wsX6_parking (wsV RX6 85 RX1 yX1_trackIn wsX1_trackIn) := goodIn_app (goodIn_of _ (by decide +kernel)) ggX6_parking_X1_trackIn
theorem dX6_parking_0 : decode cX6_parking 0 = .ok (.aload_n 0, 1) := by decide +kernel
theorem dX6_parking_1 : decode cX6_parking 1 = .ok (.getfield 10, 3) := by decide +kernel
theorem dX6_parking_4 : decode cX6_parking 4 = .ok (.iload_n 2, 1) := by decide +kernel
theorem dX6_parking_5 : decode cX6_parking 5 = .ok (.invokevirtual 54, 3) := by decide +kernel
theorem dX6_parking_8 : decode cX6_parking 8 = .ok (.ifCond .ne 6, 3) := by decide +kernel
theorem dX6_parking_11 : decode cX6_parking 11 = .ok (.bipush (-2), 2) := by decide +kernel
theorem dX6_parking_13 : decode cX6_parking 13 = .ok (.ireturn, 1) := by decide +kernel
theorem dX6_parking_14 : decode cX6_parking 14 = .ok (.aload_n 0, 1) := by decide +kernel
theorem dX6_parking_15 : decode cX6_parking 15 = .ok (.getfield 21, 3) := by decide +kernel
theorem dX6_parking_18 : decode cX6_parking 18 = .ok (.invokevirtual 79, 3) := by decide +kernel
theorem dX6_parking_21 : decode cX6_parking 21 = .ok (.iload_n 1, 1) := by decide +kernel
theorem dX6_parking_22 : decode cX6_parking 22 = .ok (.ifCond .lt 14, 3) := by decide +kernel
theorem dX6_parking_25 : decode cX6_parking 25 = .ok (.iload_n 1, 1) := by decide +kernel
theorem dX6_parking_26 : decode cX6_parking 26 = .ok (.aload_n 0, 1) := by decide +kernel
theorem dX6_parking_27 : decode cX6_parking 27 = .ok (.getfield 21, 3) := by decide +kernel
theorem dX6_parking_30 : decode cX6_parking 30 = .ok (.getfield 82, 3) := by decide +kernel
theorem dX6_parking_33 : decode cX6_parking 33 = .ok (.if_icmp .lt 6, 3) := by decide +kernel
