theorem dX7_canLeave_223 : decode cX7_canLeave 223 = .ok (.isub, 1) := by decide +kernel
theorem dX7_canLeave_224 : decode cX7_canLeave 224 = .ok (.aload_n 0, 1) := by decide +kernel
theorem dX7_canLeave_225 : decode cX7_canLeave 225 = .ok (.getfield 26, 3) := by decide +kernel
theorem dX7_canLeave_228 : decode cX7_canLeave 228 = .ok (.iload 5, 2) := by decide +kernel
theorem dX7_canLeave_230 : decode cX7_canLeave 230 = .ok (.iaload, 1) := by decide +kernel
theorem dX7_canLeave_231 : decode cX7_canLeave 231 = .ok (.invokevirtual 110, 3) := by decide +kernel
theorem dX7_canLeave_234 : decode cX7_canLeave 234 = .ok (.iinc 4 (-1), 3) := by decide +kernel
theorem dX7_canLeave_237 : decode cX7_canLeave 237 = .ok (.goto (-151), 3) := by decide +kernel
theorem dX7_canLeave_240 : decode cX7_canLeave 240 = .ok (.iinc 3 (-1), 3) := by decide +kernel
theorem dX7_canLeave_243 : decode cX7_canLeave 243 = .ok (.goto (-169), 3) := by decide +kernel
theorem dX7_canLeave_246 : decode cX7_canLeave 246 = .ok (.iinc 2 (-1), 3) := by decide +kernel
theorem dX7_canLeave_249 : decode cX7_canLeave 249 = .ok (.goto (-186), 3) := by decide +kernel
theorem dX7_canLeave_252 : decode cX7_canLeave 252 = .ok (.iload_n 1, 1) := by decide +kernel
theorem dX7_canLeave_253 : decode cX7_canLeave 253 = .ok (.ireturn, 1) := by decide +kernel
set_option maxRecDepth 20000 in
theorem ggX7_off_X7_isWanted : GoodIn wsX7_off wsX7_isWanted := goodIn_r _ [7, 8, 9, 10, 11, 12, 13, 14, 15, 16, 17, 18, 19, 20, 21, 22, 23, 24, 25, 26, 27, 28, 29, 30, 31, 32, 33, 34, 35, 36, 37, 38, 39] (by decide +kernel) (by decide +kernel)
set_option maxRecDepth 20000 in
theorem gX7_off_X7_isWanted : GoodIn wsX7_off (wsV RX7 114 RX7 yX7_isWanted wsX7_isWanted) := goodIn_app (goodIn_of _ (by decide +kernel)) ggX7_off_X7_isWanted
theorem dX7_off_0 : decode cX7_off 0 = .ok (.iload_n 1, 1) := by decide +kernel
theorem dX7_off_1 : decode cX7_off 1 = .ok (.ifCond .le 31, 3) := by decide +kernel
theorem dX7_off_4 : decode cX7_off 4 = .ok (.aload_n 0, 1) := by decide +kernel
theorem dX7_off_5 : decode cX7_off 5 = .ok (.aload_n 0, 1) := by decide +kernel
theorem dX7_off_6 : decode cX7_off 6 = .ok (.getfield 38, 3) := by decide +kernel
theorem dX7_off_9 : decode cX7_off 9 = .ok (.iconst 5, 1) := by decide +kernel
theorem dX7_off_10 : decode cX7_off 10 = .ok (.iload_n 2, 1) := by decide +kernel
theorem dX7_off_11 : decode cX7_off 11 = .ok (.imul, 1) := by decide +kernel
theorem dX7_off_12 : decode cX7_off 12 = .ok (.iload_n 1, 1) := by decide +kernel
theorem dX7_off_13 : decode cX7_off 13 = .ok (.iadd, 1) := by decide +kernel
theorem dX7_off_14 : decode cX7_off 14 = .ok (.iconst 1, 1) := by decide +kernel
theorem dX7_off_15 : decode cX7_off 15 = .ok (.isub, 1) := by decide +kernel
theorem dX7_off_16 : decode cX7_off 16 = .ok (.iaload, 1) := by decide +kernel
theorem dX7_off_17 : decode cX7_off 17 = .ok (.iload 4, 2) := by decide +kernel
theorem dX7_off_19 : decode cX7_off 19 = .ok (.invokevirtual 114, 3) := by decide +kernel
theorem dX7_off_22 : decode cX7_off 22 = .ok (.ifCond .eq 10, 3) := by decide +kernel
theorem dX7_off_25 : decode cX7_off 25 = .ok (.aload_n 0, 1) := by decide +kernel
theorem dX7_off_26 : decode cX7_off 26 = .ok (.getfield 44, 3) := by decide +kernel
theorem dX7_off_29 : decode cX7_off 29 = .ok (.iload_n 3, 1) := by decide +kernel
theorem dX7_off_30 : decode cX7_off 30 = .ok (.iconst 1, 1) := by decide +kernel
theorem dX7_off_31 : decode cX7_off 31 = .ok (.bastore, 1) := by decide +kernel
theorem dX7_off_32 : decode cX7_off 32 = .ok (.return_, 1) := by decide +kernel
theorem dX7_isWanted_0 : decode cX7_isWanted 0 = .ok (.aload_n 0, 1) := by decide +kernel
theorem dX7_isWanted_1 : decode cX7_isWanted 1 = .ok (.getfield 19, 3) := by decide +kernel
theorem dX7_isWanted_4 : decode cX7_isWanted 4 = .ok (.iload_n 1, 1) := by decide +kernel
theorem dX7_isWanted_5 : decode cX7_isWanted 5 = .ok (.baload, 1) := by decide +kernel
theorem dX7_isWanted_6 : decode cX7_isWanted 6 = .ok (.ifCond .ne 17, 3) := by decide +kernel
theorem dX7_isWanted_9 : decode cX7_isWanted 9 = .ok (.aload_n 0, 1) := by decide +kernel
theorem dX7_isWanted_10 : decode cX7_isWanted 10 = .ok (.getfield 7, 3) := by decide +kernel
theorem dX7_isWanted_13 : decode cX7_isWanted 13 = .ok (.iload_n 1, 1) := by decide +kernel
theorem dX7_isWanted_14 : decode cX7_isWanted 14 = .ok (.iaload, 1) := by decide +kernel
theorem dX7_isWanted_15 : decode cX7_isWanted 15 = .ok (.iload_n 2, 1) := by decide +kernel
theorem dX7_isWanted_16 : decode cX7_isWanted 16 = .ok (.if_icmp .ne 7, 3) := by decide +kernel
theorem dX7_isWanted_19 : decode cX7_isWanted 19 = .ok (.iconst 1, 1) := by decide +kernel
theorem dX7_isWanted_20 : decode cX7_isWanted 20 = .ok (.goto 4, 3) := by decide +kernel
theorem dX7_isWanted_23 : decode cX7_isWanted 23 = .ok (.iconst 0, 1) := by decide +kernel
theorem dX7_isWanted_24 : decode cX7_isWanted 24 = .ok (.ireturn, 1) := by decide +kernel
set_option maxRecDepth 20000 in
theorem ggX7_clean_X7_parkings : GoodIn wsX7_clean wsX7_parkings := goodIn_r _ [5, 6, 32, 33, 34, 35, 36, 37, 38, 39, 40, 41, 42, 43, 44, 45, 46, 47, 48, 49, 50, 51, 52, 53, 54, 55, 56, 57, 58, 59, 60, 61] (by decide +kernel) (by decide +kernel)
set_option maxRecDepth 20000 in
theorem gX7_clean_X7_parkings : GoodIn wsX7_clean (wsV RX7 118 RX7 yX7_parkings wsX7_parkings) := goodIn_app (goodIn_of _ (by decide +kernel)) ggX7_clean_X7_parkings
set_option maxRecDepth 20000 in
theorem ggX7_clean_X7_isClean : GoodIn wsX7_clean wsX7_isClean := goodIn_r _ [10, 6, 11, 12, 13, 14, 15, 16, 17, 4, 18, 19, 20, 21, 22, 23, 24, 25, 26, 27, 28, 29, 30, 31, 32, 33, 34, 35, 36, 37, 38, 39, 40, 41, 42, 43, 44, 45, 46, 47, 48, 49, 50, 51, 52, 53, 54, 55, 56, 57, 58, 59, 60, 61] (by decide +kernel) (by decide +kernel)
set_option maxRecDepth 20000 in
theorem gX7_clean_X7_isClean : GoodIn wsX7_clean (wsV RX7 122 RX7 yX7_isClean wsX7_isClean) := goodIn_app (goodIn_of _ (by decide +kernel)) ggX7_clean_X7_isClean
theorem dX7_clean_0 : decode cX7_clean 0 = .ok (.iconst 0, 1) := by decide +kernel
theorem dX7_clean_1 : decode cX7_clean 1 = .ok (.istore_n 1, 1) := by decide +kernel
theorem dX7_clean_2 : decode cX7_clean 2 = .ok (.aload_n 0, 1) := by decide +kernel
theorem dX7_clean_3 : decode cX7_clean 3 = .ok (.invokevirtual 118, 3) := by decide +kernel
theorem dX7_clean_6 : decode cX7_clean 6 = .ok (.istore_n 2, 1) := by decide +kernel
theorem dX7_clean_7 : decode cX7_clean 7 = .ok (.iconst 0, 1) := by decide +kernel
theorem dX7_clean_8 : decode cX7_clean 8 = .ok (.istore_n 3, 1) := by decide +kernel
theorem dX7_clean_9 : decode cX7_clean 9 = .ok (.iload_n 3, 1) := by decide +kernel
theorem dX7_clean_10 : decode cX7_clean 10 = .ok (.iload_n 2, 1) := by decide +kernel
theorem dX7_clean_11 : decode cX7_clean 11 = .ok (.if_icmp .ge 25, 3) := by decide +kernel
theorem dX7_clean_14 : decode cX7_clean 14 = .ok (.iload_n 1, 1) := by decide +kernel
theorem dX7_clean_15 : decode cX7_clean 15 = .ok (.aload_n 0, 1) := by decide +kernel
theorem dX7_clean_16 : decode cX7_clean 16 = .ok (.iload_n 3, 1) := by decide +kernel
theorem dX7_clean_17 : decode cX7_clean 17 = .ok (.invokevirtual 122, 3) := by decide +kernel
theorem dX7_clean_20 : decode cX7_clean 20 = .ok (.ifCond .eq 7, 3) := by decide +kernel
theorem dX7_clean_23 : decode cX7_clean 23 = .ok (.iconst 1, 1) := by decide +kernel
theorem dX7_clean_24 : decode cX7_clean 24 = .ok (.goto 4, 3) := by decide +kernel
theorem dX7_clean_27 : decode cX7_clean 27 = .ok (.iconst 0, 1) := by decide +kernel
theorem dX7_clean_28 : decode cX7_clean 28 = .ok (.iadd, 1) := by decide +kernel
theorem dX7_clean_29 : decode cX7_clean 29 = .ok (.istore_n 1, 1) := by decide +kernel
theorem dX7_clean_30 : decode cX7_clean 30 = .ok (.iinc 3 1, 3) := by decide +kernel
theorem dX7_clean_33 : decode cX7_clean 33 = .ok (.goto (-24), 3) := by decide +kernel
theorem dX7_clean_36 : decode cX7_clean 36 = .ok (.iload_n 1, 1) := by decide +kernel
theorem dX7_clean_37 : decode cX7_clean 37 = .ok (.ireturn, 1) := by decide +kernel
set_option maxRecDepth 20000 in
theorem ggX7_parking_X7_isUnit : GoodIn wsX7_parking wsX7_isUnit := goodIn_r _ [6, 7, 8, 9, 5, 10, 39, 40, 41, 42, 43, 44, 45, 46, 47, 48, 49, 50, 51, 52, 53, 54, 55, 56, 57, 58, 59, 60, 61, 62, 63, 64, 65, 66, 67, 68] (by decide +kernel) (by decide +kernel)
set_option maxRecDepth 20000 in
theorem gX7_parking_X7_isUnit : GoodIn wsX7_parking (wsV RX7 96 RX7 yX7_isUnit wsX7_isUnit) := goodIn_app (goodIn_of _ (by decide +kernel)) ggX7_parking_X7_isUnit
set_option maxRecDepth 20000 in
theorem ggX7_parking_X7_parkings : GoodIn wsX7_parking wsX7_parkings := goodIn_r _ [14, 7, 39, 40, 41, 42, 43, 44, 45, 46, 47, 48, 49, 50, 51, 52, 53, 54, 55, 56, 57, 58, 59, 60, 61, 62, 63, 64, 65, 66, 67, 68] (by decide +kernel) (by decide +kernel)
set_option maxRecDepth 20000 in
theorem gX7_parking_X7_parkings : GoodIn wsX7_parking (wsV RX7 118 RX7 yX7_parkings wsX7_parkings) := goodIn_app (goodIn_of _ (by decide +kernel)) ggX7_parking_X7_parkings
set_option maxRecDepth 20000 in
theorem ggX7_parking_X7_isClean : GoodIn wsX7_parking wsX7_isClean := goodIn_r _ [18, 7, 1, 19, 20, 21, 22, 23, 24, 5, 25, 26, 27, 28, 29, 30, 31, 32, 33, 34, 35, 36, 37, 38, 39, 40, 41, 42, 43, 44, 45, 46, 47, 48, 49, 50, 51, 52, 53, 54, 55, 56, 57, 58, 59, 60, 61, 62, 63, 64, 65, 66, 67, 68] (by decide +kernel) (by decide +kernel)
set_option maxRecDepth 20000 in
theorem gX7_parking_X7_isClean : GoodIn wsX7_parking (wsV RX7 122 RX7 yX7_isClean wsX7_isClean) := goodIn_app (goodIn_of _ (by decide +kernel)) ggX7_parking_X7_isClean
theorem dX7_parking_0 : decode cX7_parking 0 = .ok (.aload_n 0, 1) := by decide +kernel
theorem dX7_parking_1 : decode cX7_parking 1 = .ok (.iload_n 2, 1) := by decide +kernel
theorem dX7_parking_2 : decode cX7_parking 2 = .ok (.invokevirtual 96, 3) := by decide +kernel
theorem dX7_parking_5 : decode cX7_parking 5 = .ok (.ifCond .ne 6, 3) := by decide +kernel
theorem dX7_parking_8 : decode cX7_parking 8 = .ok (.bipush (-2), 2) := by decide +kernel
theorem dX7_parking_10 : decode cX7_parking 10 = .ok (.ireturn, 1) := by decide +kernel
theorem dX7_parking_11 : decode cX7_parking 11 = .ok (.iload_n 1, 1) := by decide +kernel
theorem dX7_parking_12 : decode cX7_parking 12 = .ok (.istore_n 3, 1) := by decide +kernel
theorem dX7_parking_13 : decode cX7_parking 13 = .ok (.aload_n 0, 1) := by decide +kernel
theorem dX7_parking_14 : decode cX7_parking 14 = .ok (.invokevirtual 118, 3) := by decide +kernel
theorem dX7_parking_17 : decode cX7_parking 17 = .ok (.istore 4, 2) := by decide +kernel
theorem dX7_parking_19 : decode cX7_parking 19 = .ok (.iconst 0, 1) := by decide +kernel
theorem dX7_parking_20 : decode cX7_parking 20 = .ok (.istore 5, 2) := by decide +kernel
theorem dX7_parking_22 : decode cX7_parking 22 = .ok (.iload 5, 2) := by decide +kernel
theorem dX7_parking_24 : decode cX7_parking 24 = .ok (.iload 4, 2) := by decide +kernel
theorem dX7_parking_26 : decode cX7_parking 26 = .ok (.if_icmp .ge 36, 3) := by decide +kernel
theorem dX7_parking_29 : decode cX7_parking 29 = .ok (.iload_n 3, 1) := by decide +kernel
theorem dX7_parking_30 : decode cX7_parking 30 = .ok (.ifCond .lt 32, 3) := by decide +kernel
theorem dX7_parking_33 : decode cX7_parking 33 = .ok (.aload_n 0, 1) := by decide +kernel
theorem dX7_parking_34 : decode cX7_parking 34 = .ok (.iload 5, 2) := by decide +kernel
theorem dX7_parking_36 : decode cX7_parking 36 = .ok (.invokevirtual 122, 3) := by decide +kernel
theorem dX7_parking_39 : decode cX7_parking 39 = .ok (.ifCond .eq 17, 3) := by decide +kernel
theorem dX7_parking_42 : decode cX7_parking 42 = .ok (.iload_n 3, 1) := by decide +kernel
theorem dX7_parking_43 : decode cX7_parking 43 = .ok (.ifCond .ne 10, 3) := by decide +kernel
theorem dX7_parking_46 : decode cX7_parking 46 = .ok (.aload_n 0, 1) := by decide +kernel
theorem dX7_parking_47 : decode cX7_parking 47 = .ok (.getfield 35, 3) := by decide +kernel
theorem dX7_parking_50 : decode cX7_parking 50 = .ok (.iload_n 2, 1) := by decide +kernel
theorem dX7_parking_51 : decode cX7_parking 51 = .ok (.iaload, 1) := by decide +kernel
theorem dX7_parking_52 : decode cX7_parking 52 = .ok (.ireturn, 1) := by decide +kernel
theorem dX7_parking_53 : decode cX7_parking 53 = .ok (.iinc 3 (-1), 3) := by decide +kernel
theorem dX7_parking_56 : decode cX7_parking 56 = .ok (.iinc 5 1, 3) := by decide +kernel
theorem dX7_parking_59 : decode cX7_parking 59 = .ok (.goto (-37), 3) := by decide +kernel
theorem dX7_parking_62 : decode cX7_parking 62 = .ok (.bipush (-3), 2) := by decide +kernel
theorem dX7_parking_64 : decode cX7_parking 64 = .ok (.ireturn, 1) := by decide +kernel
set_option maxRecDepth 20000 in
theorem ggX7_narrow_X7_parkings : GoodIn wsX7_narrow wsX7_parkings := goodIn_r _ [6, 7, 32, 33, 34, 35, 36, 37, 38, 39, 40, 41, 42, 43, 44, 45, 46, 47, 48, 49, 50, 51, 52, 53, 54, 55, 56, 57, 58, 59, 60, 61] (by decide +kernel) (by decide +kernel)
set_option maxRecDepth 20000 in
theorem gX7_narrow_X7_parkings : GoodIn wsX7_narrow (wsV RX7 118 RX7 yX7_parkings wsX7_parkings) := goodIn_app (goodIn_of _ (by decide +kernel)) ggX7_narrow_X7_parkings
set_option maxRecDepth 20000 in
theorem ggX7_narrow_X7_isClean : GoodIn wsX7_narrow wsX7_isClean := goodIn_r _ [11, 7, 12, 1, 13, 14, 15, 16, 17, 5, 18, 19, 20, 21, 22, 23, 24, 25, 26, 27, 28, 29, 30, 31, 32, 33, 34, 35, 36, 37, 38, 39, 40, 41, 42, 43, 44, 45, 46, 47, 48, 49, 50, 51, 52, 53, 54, 55, 56, 57, 58, 59, 60, 61] (by decide +kernel) (by decide +kernel)
set_option maxRecDepth 20000 in
theorem gX7_narrow_X7_isClean : GoodIn wsX7_narrow (wsV RX7 122 RX7 yX7_isClean wsX7_isClean) := goodIn_app (goodIn_of _ (by decide +kernel)) ggX7_narrow_X7_isClean
theorem dX7_narrow_0 : decode cX7_narrow 0 = .ok (.iconst (-1), 1) := by decide +kernel
theorem dX7_narrow_1 : decode cX7_narrow 1 = .ok (.istore_n 1, 1) := by decide +kernel
theorem dX7_narrow_2 : decode cX7_narrow 2 = .ok (.iconst 4, 1) := by decide +kernel
theorem dX7_narrow_3 : decode cX7_narrow 3 = .ok (.istore_n 2, 1) := by decide +kernel
theorem dX7_narrow_4 : decode cX7_narrow 4 = .ok (.iconst 0, 1) := by decide +kernel
theorem dX7_narrow_5 : decode cX7_narrow 5 = .ok (.istore_n 3, 1) := by decide +kernel
theorem dX7_narrow_6 : decode cX7_narrow 6 = .ok (.aload_n 0, 1) := by decide +kernel
theorem dX7_narrow_7 : decode cX7_narrow 7 = .ok (.invokevirtual 118, 3) := by decide +kernel
theorem dX7_narrow_10 : decode cX7_narrow 10 = .ok (.istore 4, 2) := by decide +kernel
theorem dX7_narrow_12 : decode cX7_narrow 12 = .ok (.iconst 0, 1) := by decide +kernel
theorem dX7_narrow_13 : decode cX7_narrow 13 = .ok (.istore 5, 2) := by decide +kernel
theorem dX7_narrow_15 : decode cX7_narrow 15 = .ok (.iload 5, 2) := by decide +kernel
theorem dX7_narrow_17 : decode cX7_narrow 17 = .ok (.iload 4, 2) := by decide +kernel
theorem dX7_narrow_19 : decode cX7_narrow 19 = .ok (.if_icmp .ge 78, 3) := by decide +kernel
theorem dX7_narrow_22 : decode cX7_narrow 22 = .ok (.aload_n 0, 1) := by decide +kernel
theorem dX7_narrow_23 : decode cX7_narrow 23 = .ok (.iload 5, 2) := by decide +kernel
theorem dX7_narrow_25 : decode cX7_narrow 25 = .ok (.invokevirtual 122, 3) := by decide +kernel
theorem dX7_narrow_28 : decode cX7_narrow 28 = .ok (.ifCond .eq 63, 3) := by decide +kernel
theorem dX7_narrow_31 : decode cX7_narrow 31 = .ok (.aload_n 0, 1) := by decide +kernel
theorem dX7_narrow_32 : decode cX7_narrow 32 = .ok (.getfield 41, 3) := by decide +kernel
theorem dX7_narrow_35 : decode cX7_narrow 35 = .ok (.iconst 0, 1) := by decide +kernel
theorem dX7_narrow_36 : decode cX7_narrow 36 = .ok (.iaload, 1) := by decide +kernel
theorem dX7_narrow_37 : decode cX7_narrow 37 = .ok (.ifCond .le 7, 3) := by decide +kernel
theorem dX7_narrow_40 : decode cX7_narrow 40 = .ok (.iconst 1, 1) := by decide +kernel
theorem dX7_narrow_41 : decode cX7_narrow 41 = .ok (.goto 4, 3) := by decide +kernel
theorem dX7_narrow_44 : decode cX7_narrow 44 = .ok (.iconst 0, 1) := by decide +kernel
theorem dX7_narrow_45 : decode cX7_narrow 45 = .ok (.aload_n 0, 1) := by decide +kernel
theorem dX7_narrow_46 : decode cX7_narrow 46 = .ok (.getfield 41, 3) := by decide +kernel
theorem dX7_narrow_49 : decode cX7_narrow 49 = .ok (.iconst 1, 1) := by decide +kernel
theorem dX7_narrow_50 : decode cX7_narrow 50 = .ok (.iaload, 1) := by decide +kernel
theorem dX7_narrow_51 : decode cX7_narrow 51 = .ok (.ifCond .le 7, 3) := by decide +kernel
theorem dX7_narrow_54 : decode cX7_narrow 54 = .ok (.iconst 1, 1) := by decide +kernel
theorem dX7_narrow_55 : decode cX7_narrow 55 = .ok (.goto 4, 3) := by decide +kernel
theorem dX7_narrow_58 : decode cX7_narrow 58 = .ok (.iconst 0, 1) := by decide +kernel
theorem dX7_narrow_59 : decode cX7_narrow 59 = .ok (.iadd, 1) := by decide +kernel
theorem dX7_narrow_60 : decode cX7_narrow 60 = .ok (.aload_n 0, 1) := by decide +kernel
theorem dX7_narrow_61 : decode cX7_narrow 61 = .ok (.getfield 41, 3) := by decide +kernel
theorem dX7_narrow_64 : decode cX7_narrow 64 = .ok (.iconst 2, 1) := by decide +kernel
theorem dX7_narrow_65 : decode cX7_narrow 65 = .ok (.iaload, 1) := by decide +kernel
theorem dX7_narrow_66 : decode cX7_narrow 66 = .ok (.ifCond .le 7, 3) := by decide +kernel
theorem dX7_narrow_69 : decode cX7_narrow 69 = .ok (.iconst 1, 1) := by decide +kernel
theorem dX7_narrow_70 : decode cX7_narrow 70 = .ok (.goto 4, 3) := by decide +kernel
theorem dX7_narrow_73 : decode cX7_narrow 73 = .ok (.iconst 0, 1) := by decide +kernel
theorem dX7_narrow_74 : decode cX7_narrow 74 = .ok (.iadd, 1) := by decide +kernel
theorem dX7_narrow_75 : decode cX7_narrow 75 = .ok (.istore 6, 2) := by decide +kernel
theorem dX7_narrow_77 : decode cX7_narrow 77 = .ok (.iload 6, 2) := by decide +kernel
theorem dX7_narrow_79 : decode cX7_narrow 79 = .ok (.iload_n 2, 1) := by decide +kernel
theorem dX7_narrow_80 : decode cX7_narrow 80 = .ok (.if_icmp .ge 8, 3) := by decide +kernel
theorem dX7_narrow_83 : decode cX7_narrow 83 = .ok (.iload 6, 2) := by decide +kernel
theorem dX7_narrow_85 : decode cX7_narrow 85 = .ok (.istore_n 2, 1) := by decide +kernel
theorem dX7_narrow_86 : decode cX7_narrow 86 = .ok (.iload_n 3, 1) := by decide +kernel
theorem dX7_narrow_87 : decode cX7_narrow 87 = .ok (.istore_n 1, 1) := by decide +kernel
theorem dX7_narrow_88 : decode cX7_narrow 88 = .ok (.iinc 3 1, 3) := by decide +kernel
theorem dX7_narrow_91 : decode cX7_narrow 91 = .ok (.iinc 5 1, 3) := by decide +kernel
theorem dX7_narrow_94 : decode cX7_narrow 94 = .ok (.goto (-79), 3) := by decide +kernel
theorem dX7_narrow_97 : decode cX7_narrow 97 = .ok (.iload_n 1, 1) := by decide +kernel
theorem dX7_narrow_98 : decode cX7_narrow 98 = .ok (.ireturn, 1) := by decide +kernel
set_option maxRecDepth 20000 in
theorem ggX7_why_X7_clean : GoodIn wsX7_why wsX7_clean := goodIn_r _ [9, 10, 11, 12, 8, 13, 3, 14, 15, 16, 17, 18, 19, 20, 4, 21, 22, 23, 24, 25, 1, 2, 26, 27, 28, 29, 30, 31, 32, 33, 34, 35, 36, 37, 38, 39, 40, 41, 42, 43, 44, 45, 46, 47, 48, 49, 50, 51, 52, 53, 54, 55, 56, 57, 58, 59, 60, 61, 62, 63, 64, 65] (by decide +kernel) (by decide +kernel)
set_option maxRecDepth 20000 in
theorem gX7_why_X7_clean : GoodIn wsX7_why (wsV RX7 125 RX7 yX7_clean wsX7_clean) := goodIn_app (goodIn_of _ (by decide +kernel)) ggX7_why_X7_clean
set_option maxRecDepth 20000 in
theorem ggX7_why_X7_isWanted : GoodIn wsX7_why wsX7_isWanted := goodIn_r _ [33, 34, 35, 36, 37, 38, 39, 40, 41, 42, 43, 44, 45, 46, 47, 48, 49, 50, 51, 52, 53, 54, 55, 56, 57, 58, 59, 60, 61, 62, 63, 64, 65] (by decide +kernel) (by decide +kernel)
set_option maxRecDepth 20000 in
theorem gX7_why_X7_isWanted : GoodIn wsX7_why (wsV RX7 114 RX7 yX7_isWanted wsX7_isWanted) := goodIn_app (goodIn_of _ (by decide +kernel)) ggX7_why_X7_isWanted
theorem dX7_why_0 : decode cX7_why 0 = .ok (.aload_n 0, 1) := by decide +kernel
theorem dX7_why_1 : decode cX7_why 1 = .ok (.invokevirtual 125, 3) := by decide +kernel
theorem dX7_why_4 : decode cX7_why 4 = .ok (.ifCond .le 5, 3) := by decide +kernel
theorem dX7_why_7 : decode cX7_why 7 = .ok (.iconst 0, 1) := by decide +kernel
theorem dX7_why_8 : decode cX7_why 8 = .ok (.ireturn, 1) := by decide +kernel
theorem dX7_why_9 : decode cX7_why 9 = .ok (.iconst 0, 1) := by decide +kernel
theorem dX7_why_10 : decode cX7_why 10 = .ok (.istore_n 1, 1) := by decide +kernel
theorem dX7_why_11 : decode cX7_why 11 = .ok (.iload_n 1, 1) := by decide +kernel
theorem dX7_why_12 : decode cX7_why 12 = .ok (.iconst 4, 1) := by decide +kernel
theorem dX7_why_13 : decode cX7_why 13 = .ok (.if_icmp .ge 93, 3) := by decide +kernel
theorem dX7_why_16 : decode cX7_why 16 = .ok (.iconst 0, 1) := by decide +kernel
theorem dX7_why_17 : decode cX7_why 17 = .ok (.istore_n 2, 1) := by decide +kernel
theorem dX7_why_18 : decode cX7_why 18 = .ok (.iconst 0, 1) := by decide +kernel
theorem dX7_why_19 : decode cX7_why 19 = .ok (.istore_n 3, 1) := by decide +kernel
theorem dX7_why_20 : decode cX7_why 20 = .ok (.iconst 0, 1) := by decide +kernel
theorem dX7_why_21 : decode cX7_why 21 = .ok (.istore 4, 2) := by decide +kernel
theorem dX7_why_23 : decode cX7_why 23 = .ok (.iload 4, 2) := by decide +kernel
theorem dX7_why_25 : decode cX7_why 25 = .ok (.aload_n 0, 1) := by decide +kernel
theorem dX7_why_26 : decode cX7_why 26 = .ok (.getfield 103, 3) := by decide +kernel
theorem dX7_why_29 : decode cX7_why 29 = .ok (.if_icmp .ge 28, 3) := by decide +kernel
theorem dX7_why_32 : decode cX7_why 32 = .ok (.iload_n 2, 1) := by decide +kernel
theorem dX7_why_33 : decode cX7_why 33 = .ok (.aload_n 0, 1) := by decide +kernel
theorem dX7_why_34 : decode cX7_why 34 = .ok (.getfield 26, 3) := by decide +kernel
theorem dX7_why_37 : decode cX7_why 37 = .ok (.iload 4, 2) := by decide +kernel
theorem dX7_why_39 : decode cX7_why 39 = .ok (.iaload, 1) := by decide +kernel
theorem dX7_why_40 : decode cX7_why 40 = .ok (.iload_n 1, 1) := by decide +kernel
theorem dX7_why_41 : decode cX7_why 41 = .ok (.if_icmp .ne 7, 3) := by decide +kernel
theorem dX7_why_44 : decode cX7_why 44 = .ok (.iconst 1, 1) := by decide +kernel
theorem dX7_why_45 : decode cX7_why 45 = .ok (.goto 4, 3) := by decide +kernel
theorem dX7_why_48 : decode cX7_why 48 = .ok (.iconst 0, 1) := by decide +kernel
theorem dX7_why_49 : decode cX7_why 49 = .ok (.iadd, 1) := by decide +kernel
theorem dX7_why_50 : decode cX7_why 50 = .ok (.istore_n 2, 1) := by decide +kernel
theorem dX7_why_51 : decode cX7_why 51 = .ok (.iinc 4 1, 3) := by decide +kernel
theorem dX7_why_54 : decode cX7_why 54 = .ok (.goto (-31), 3) := by decide +kernel
theorem dX7_why_57 : decode cX7_why 57 = .ok (.iconst 0, 1) := by decide +kernel
theorem dX7_why_58 : decode cX7_why 58 = .ok (.istore 4, 2) := by decide +kernel
theorem dX7_why_60 : decode cX7_why 60 = .ok (.iload 4, 2) := by decide +kernel
theorem dX7_why_62 : decode cX7_why 62 = .ok (.aload_n 0, 1) := by decide +kernel
theorem dX7_why_63 : decode cX7_why 63 = .ok (.getfield 88, 3) := by decide +kernel
theorem dX7_why_66 : decode cX7_why 66 = .ok (.if_icmp .ge 27, 3) := by decide +kernel
theorem dX7_why_69 : decode cX7_why 69 = .ok (.iload_n 3, 1) := by decide +kernel
theorem dX7_why_70 : decode cX7_why 70 = .ok (.aload_n 0, 1) := by decide +kernel
theorem dX7_why_71 : decode cX7_why 71 = .ok (.iload 4, 2) := by decide +kernel
theorem dX7_why_73 : decode cX7_why 73 = .ok (.iload_n 1, 1) := by decide +kernel
theorem dX7_why_74 : decode cX7_why 74 = .ok (.invokevirtual 114, 3) := by decide +kernel
theorem dX7_why_77 : decode cX7_why 77 = .ok (.ifCond .eq 7, 3) := by decide +kernel
theorem dX7_why_80 : decode cX7_why 80 = .ok (.iconst 1, 1) := by decide +kernel
theorem dX7_why_81 : decode cX7_why 81 = .ok (.goto 4, 3) := by decide +kernel
theorem dX7_why_84 : decode cX7_why 84 = .ok (.iconst 0, 1) := by decide +kernel
theorem dX7_why_85 : decode cX7_why 85 = .ok (.iadd, 1) := by decide +kernel
theorem dX7_why_86 : decode cX7_why 86 = .ok (.istore_n 3, 1) := by decide +kernel
theorem dX7_why_87 : decode cX7_why 87 = .ok (.iinc 4 1, 3) := by decide +kernel
theorem dX7_why_90 : decode cX7_why 90 = .ok (.goto (-30), 3) := by decide +kernel
theorem dX7_why_93 : decode cX7_why 93 = .ok (.iload_n 2, 1) := by decide +kernel
theorem dX7_why_94 : decode cX7_why 94 = .ok (.iload_n 3, 1) := by decide +kernel
theorem dX7_why_95 : decode cX7_why 95 = .ok (.if_icmp .le 5, 3) := by decide +kernel
theorem dX7_why_98 : decode cX7_why 98 = .ok (.iconst 1, 1) := by decide +kernel
theorem dX7_why_99 : decode cX7_why 99 = .ok (.ireturn, 1) := by decide +kernel
theorem dX7_why_100 : decode cX7_why 100 = .ok (.iinc 1 1, 3) := by decide +kernel
theorem dX7_why_103 : decode cX7_why 103 = .ok (.goto (-92), 3) := by decide +kernel
theorem dX7_why_106 : decode cX7_why 106 = .ok (.aload_n 0, 1) := by decide +kernel
theorem dX7_why_107 : decode cX7_why 107 = .ok (.getfield 88, 3) := by decide +kernel
theorem dX7_why_110 : decode cX7_why 110 = .ok (.aload_n 0, 1) := by decide +kernel
theorem dX7_why_111 : decode cX7_why 111 = .ok (.getfield 23, 3) := by decide +kernel
theorem dX7_why_114 : decode cX7_why 114 = .ok (.iconst 0, 1) := by decide +kernel
theorem dX7_why_115 : decode cX7_why 115 = .ok (.iaload, 1) := by decide +kernel
theorem dX7_why_116 : decode cX7_why 116 = .ok (.aload_n 0, 1) := by decide +kernel
theorem dX7_why_117 : decode cX7_why 117 = .ok (.getfield 23, 3) := by decide +kernel
theorem dX7_why_120 : decode cX7_why 120 = .ok (.iconst 1, 1) := by decide +kernel
theorem dX7_why_121 : decode cX7_why 121 = .ok (.iaload, 1) := by decide +kernel
theorem dX7_why_122 : decode cX7_why 122 = .ok (.iadd, 1) := by decide +kernel
theorem dX7_why_123 : decode cX7_why 123 = .ok (.aload_n 0, 1) := by decide +kernel
theorem dX7_why_124 : decode cX7_why 124 = .ok (.getfield 23, 3) := by decide +kernel
theorem dX7_why_127 : decode cX7_why 127 = .ok (.iconst 2, 1) := by decide +kernel
theorem dX7_why_128 : decode cX7_why 128 = .ok (.iaload, 1) := by decide +kernel
theorem dX7_why_129 : decode cX7_why 129 = .ok (.iadd, 1) := by decide +kernel
theorem dX7_why_130 : decode cX7_why 130 = .ok (.if_icmp .le 7, 3) := by decide +kernel
theorem dX7_why_133 : decode cX7_why 133 = .ok (.iconst 2, 1) := by decide +kernel
theorem dX7_why_134 : decode cX7_why 134 = .ok (.goto 4, 3) := by decide +kernel
theorem dX7_why_137 : decode cX7_why 137 = .ok (.iconst 3, 1) := by decide +kernel
theorem dX7_why_138 : decode cX7_why 138 = .ok (.ireturn, 1) := by decide +kernel
set_option maxRecDepth 20000 in
theorem ggX7_park_X7_isTrack : GoodIn wsX7_park wsX7_isTrack := goodIn_r _ [9, 10, 11, 8, 12] (by decide +kernel) (by decide +kernel)
set_option maxRecDepth 20000 in
theorem gX7_park_X7_isTrack : GoodIn wsX7_park (va_wsS RX7 100 yX7_isTrack wsX7_isTrack) := goodIn_app (goodIn_of _ (by decide +kernel)) ggX7_park_X7_isTrack
theorem dX7_park_0 : decode cX7_park 0 = .ok (.iload_n 1, 1) := by decide +kernel
theorem dX7_park_1 : decode cX7_park 1 = .ok (.invokestatic 100, 3) := by decide +kernel
theorem dX7_park_4 : decode cX7_park 4 = .ok (.ifCond .ne 6, 3) := by decide +kernel
theorem dX7_park_7 : decode cX7_park 7 = .ok (.bipush (-2), 2) := by decide +kernel
theorem dX7_park_9 : decode cX7_park 9 = .ok (.ireturn, 1) := by decide +kernel
theorem dX7_park_10 : decode cX7_park 10 = .ok (.aload_n 0, 1) := by decide +kernel
theorem dX7_park_11 : decode cX7_park 11 = .ok (.getfield 128, 3) := by decide +kernel
theorem dX7_park_14 : decode cX7_park 14 = .ok (.aload_n 0, 1) := by decide +kernel
theorem dX7_park_15 : decode cX7_park 15 = .ok (.getfield 88, 3) := by decide +kernel
theorem dX7_park_18 : decode cX7_park 18 = .ok (.if_icmp .ne 6, 3) := by decide +kernel
theorem dX7_park_21 : decode cX7_park 21 = .ok (.bipush (-4), 2) := by decide +kernel
theorem dX7_park_23 : decode cX7_park 23 = .ok (.ireturn, 1) := by decide +kernel
theorem dX7_park_24 : decode cX7_park 24 = .ok (.aload_n 0, 1) := by decide +kernel
theorem dX7_park_25 : decode cX7_park 25 = .ok (.getfield 32, 3) := by decide +kernel
theorem dX7_park_28 : decode cX7_park 28 = .ok (.iload_n 1, 1) := by decide +kernel
theorem dX7_park_29 : decode cX7_park 29 = .ok (.iaload, 1) := by decide +kernel
theorem dX7_park_30 : decode cX7_park 30 = .ok (.aload_n 0, 1) := by decide +kernel
theorem dX7_park_31 : decode cX7_park 31 = .ok (.getfield 23, 3) := by decide +kernel
theorem dX7_park_34 : decode cX7_park 34 = .ok (.iload_n 1, 1) := by decide +kernel
theorem dX7_park_35 : decode cX7_park 35 = .ok (.iaload, 1) := by decide +kernel
theorem dX7_park_36 : decode cX7_park 36 = .ok (.if_icmp .lt 6, 3) := by decide +kernel
theorem dX7_park_39 : decode cX7_park 39 = .ok (.bipush (-5), 2) := by decide +kernel
theorem dX7_park_41 : decode cX7_park 41 = .ok (.ireturn, 1) := by decide +kernel
theorem dX7_park_42 : decode cX7_park 42 = .ok (.aload_n 0, 1) := by decide +kernel
theorem dX7_park_43 : decode cX7_park 43 = .ok (.getfield 29, 3) := by decide +kernel
theorem dX7_park_46 : decode cX7_park 46 = .ok (.iconst 5, 1) := by decide +kernel
theorem dX7_park_47 : decode cX7_park 47 = .ok (.iload_n 1, 1) := by decide +kernel
theorem dX7_park_48 : decode cX7_park 48 = .ok (.imul, 1) := by decide +kernel
theorem dX7_park_49 : decode cX7_park 49 = .ok (.aload_n 0, 1) := by decide +kernel
theorem dX7_park_50 : decode cX7_park 50 = .ok (.getfield 32, 3) := by decide +kernel
theorem dX7_park_53 : decode cX7_park 53 = .ok (.iload_n 1, 1) := by decide +kernel
theorem dX7_park_54 : decode cX7_park 54 = .ok (.iaload, 1) := by decide +kernel
theorem dX7_park_55 : decode cX7_park 55 = .ok (.iadd, 1) := by decide +kernel
theorem dX7_park_56 : decode cX7_park 56 = .ok (.aload_n 0, 1) := by decide +kernel
theorem dX7_park_57 : decode cX7_park 57 = .ok (.getfield 128, 3) := by decide +kernel
theorem dX7_park_60 : decode cX7_park 60 = .ok (.iastore, 1) := by decide +kernel
theorem dX7_park_61 : decode cX7_park 61 = .ok (.aload_n 0, 1) := by decide +kernel
theorem dX7_park_62 : decode cX7_park 62 = .ok (.getfield 32, 3) := by decide +kernel
theorem dX7_park_65 : decode cX7_park 65 = .ok (.iload_n 1, 1) := by decide +kernel
theorem dX7_park_66 : decode cX7_park 66 = .ok (.dup2, 1) := by decide +kernel
theorem dX7_park_67 : decode cX7_park 67 = .ok (.iaload, 1) := by decide +kernel
theorem dX7_park_68 : decode cX7_park 68 = .ok (.iconst 1, 1) := by decide +kernel
theorem dX7_park_69 : decode cX7_park 69 = .ok (.iadd, 1) := by decide +kernel
theorem dX7_park_70 : decode cX7_park 70 = .ok (.iastore, 1) := by decide +kernel
theorem dX7_park_71 : decode cX7_park 71 = .ok (.aload_n 0, 1) := by decide +kernel
theorem dX7_park_72 : decode cX7_park 72 = .ok (.dup, 1) := by decide +kernel
theorem dX7_park_73 : decode cX7_park 73 = .ok (.getfield 128, 3) := by decide +kernel
theorem dX7_park_76 : decode cX7_park 76 = .ok (.iconst 1, 1) := by decide +kernel
theorem dX7_park_77 : decode cX7_park 77 = .ok (.iadd, 1) := by decide +kernel
theorem dX7_park_78 : decode cX7_park 78 = .ok (.putfield 128, 3) := by decide +kernel
theorem dX7_park_81 : decode cX7_park 81 = .ok (.aload_n 0, 1) := by decide +kernel
theorem dX7_park_82 : decode cX7_park 82 = .ok (.getfield 128, 3) := by decide +kernel
theorem dX7_park_85 : decode cX7_park 85 = .ok (.iconst 1, 1) := by decide +kernel
theorem dX7_park_86 : decode cX7_park 86 = .ok (.isub, 1) := by decide +kernel
theorem dX7_park_87 : decode cX7_park 87 = .ok (.ireturn, 1) := by decide +kernel
theorem dX7_clear_0 : decode cX7_clear 0 = .ok (.aload_n 0, 1) := by decide +kernel
theorem dX7_clear_1 : decode cX7_clear 1 = .ok (.getfield 128, 3) := by decide +kernel
theorem dX7_clear_4 : decode cX7_clear 4 = .ok (.istore_n 1, 1) := by decide +kernel
theorem dX7_clear_5 : decode cX7_clear 5 = .ok (.aload_n 0, 1) := by decide +kernel
theorem dX7_clear_6 : decode cX7_clear 6 = .ok (.iconst 0, 1) := by decide +kernel
theorem dX7_clear_7 : decode cX7_clear 7 = .ok (.putfield 128, 3) := by decide +kernel
theorem dX7_clear_10 : decode cX7_clear 10 = .ok (.iconst 0, 1) := by decide +kernel
theorem dX7_clear_11 : decode cX7_clear 11 = .ok (.istore_n 2, 1) := by decide +kernel
theorem dX7_clear_12 : decode cX7_clear 12 = .ok (.iload_n 2, 1) := by decide +kernel
theorem dX7_clear_13 : decode cX7_clear 13 = .ok (.iconst 3, 1) := by decide +kernel
theorem dX7_clear_14 : decode cX7_clear 14 = .ok (.if_icmp .ge 16, 3) := by decide +kernel
theorem dX7_clear_17 : decode cX7_clear 17 = .ok (.aload_n 0, 1) := by decide +kernel
theorem dX7_clear_18 : decode cX7_clear 18 = .ok (.getfield 32, 3) := by decide +kernel
theorem dX7_clear_21 : decode cX7_clear 21 = .ok (.iload_n 2, 1) := by decide +kernel
theorem dX7_clear_22 : decode cX7_clear 22 = .ok (.iconst 0, 1) := by decide +kernel
theorem dX7_clear_23 : decode cX7_clear 23 = .ok (.iastore, 1) := by decide +kernel
theorem dX7_clear_24 : decode cX7_clear 24 = .ok (.iinc 2 1, 3) := by decide +kernel
theorem dX7_clear_27 : decode cX7_clear 27 = .ok (.goto (-15), 3) := by decide +kernel
theorem dX7_clear_30 : decode cX7_clear 30 = .ok (.iload_n 1, 1) := by decide +kernel
theorem dX7_clear_31 : decode cX7_clear 31 = .ok (.ireturn, 1) := by decide +kernel
set_option maxRecDepth 20000 in
theorem ggX7_at_X7_isTrack : GoodIn wsX7_at wsX7_isTrack := goodIn_r _ [6, 7, 8, 5, 9] (by decide +kernel) (by decide +kernel)
set_option maxRecDepth 20000 in
theorem gX7_at_X7_isTrack : GoodIn wsX7_at (va_wsS RX7 100 yX7_isTrack wsX7_isTrack) := goodIn_app (goodIn_of _ (by decide +kernel)) ggX7_at_X7_isTrack
theorem dX7_at_0 : decode cX7_at 0 = .ok (.iload_n 1, 1) := by decide +kernel
theorem dX7_at_1 : decode cX7_at 1 = .ok (.invokestatic 100, 3) := by decide +kernel
theorem dX7_at_4 : decode cX7_at 4 = .ok (.ifCond .ne 6, 3) := by decide +kernel
theorem dX7_at_7 : decode cX7_at 7 = .ok (.bipush (-2), 2) := by decide +kernel
theorem dX7_at_9 : decode cX7_at 9 = .ok (.ireturn, 1) := by decide +kernel
theorem dX7_at_10 : decode cX7_at 10 = .ok (.iload_n 2, 1) := by decide +kernel
theorem dX7_at_11 : decode cX7_at 11 = .ok (.ifCond .ge 6, 3) := by decide +kernel
theorem dX7_at_14 : decode cX7_at 14 = .ok (.bipush (-3), 2) := by decide +kernel
theorem dX7_at_16 : decode cX7_at 16 = .ok (.ireturn, 1) := by decide +kernel
theorem dX7_at_17 : decode cX7_at 17 = .ok (.iload_n 2, 1) := by decide +kernel
theorem dX7_at_18 : decode cX7_at 18 = .ok (.aload_n 0, 1) := by decide +kernel
theorem dX7_at_19 : decode cX7_at 19 = .ok (.getfield 32, 3) := by decide +kernel
theorem dX7_at_22 : decode cX7_at 22 = .ok (.iload_n 1, 1) := by decide +kernel
theorem dX7_at_23 : decode cX7_at 23 = .ok (.iaload, 1) := by decide +kernel
theorem dX7_at_24 : decode cX7_at 24 = .ok (.if_icmp .ge 25, 3) := by decide +kernel
theorem dX7_at_27 : decode cX7_at 27 = .ok (.aload_n 0, 1) := by decide +kernel
theorem dX7_at_28 : decode cX7_at 28 = .ok (.getfield 29, 3) := by decide +kernel
theorem dX7_at_31 : decode cX7_at 31 = .ok (.iconst 5, 1) := by decide +kernel
theorem dX7_at_32 : decode cX7_at 32 = .ok (.iload_n 1, 1) := by decide +kernel
theorem dX7_at_33 : decode cX7_at 33 = .ok (.imul, 1) := by decide +kernel
theorem dX7_at_34 : decode cX7_at 34 = .ok (.aload_n 0, 1) := by decide +kernel
theorem dX7_at_35 : decode cX7_at 35 = .ok (.getfield 32, 3) := by decide +kernel
theorem dX7_at_38 : decode cX7_at 38 = .ok (.iload_n 1, 1) := by decide +kernel
theorem dX7_at_39 : decode cX7_at 39 = .ok (.iaload, 1) := by decide +kernel
theorem dX7_at_40 : decode cX7_at 40 = .ok (.iadd, 1) := by decide +kernel
theorem dX7_at_41 : decode cX7_at 41 = .ok (.iconst 1, 1) := by decide +kernel
theorem dX7_at_42 : decode cX7_at 42 = .ok (.isub, 1) := by decide +kernel
theorem dX7_at_43 : decode cX7_at 43 = .ok (.iload_n 2, 1) := by decide +kernel
theorem dX7_at_44 : decode cX7_at 44 = .ok (.isub, 1) := by decide +kernel
theorem dX7_at_45 : decode cX7_at 45 = .ok (.iaload, 1) := by decide +kernel
theorem dX7_at_46 : decode cX7_at 46 = .ok (.goto 4, 3) := by decide +kernel
theorem dX7_at_49 : decode cX7_at 49 = .ok (.iconst (-1), 1) := by decide +kernel
theorem dX7_at_50 : decode cX7_at 50 = .ok (.ireturn, 1) := by decide +kernel
theorem dX7_number_0 : decode cX7_number 0 = .ok (.lconst 0, 1) := by decide +kernel
theorem dX7_number_1 : decode cX7_number 1 = .ok (.lstore_n 1, 1) := by decide +kernel
theorem dX7_number_2 : decode cX7_number 2 = .ok (.iconst 0, 1) := by decide +kernel
theorem dX7_number_3 : decode cX7_number 3 = .ok (.istore_n 3, 1) := by decide +kernel
theorem dX7_number_4 : decode cX7_number 4 = .ok (.iload_n 3, 1) := by decide +kernel
theorem dX7_number_5 : decode cX7_number 5 = .ok (.iconst 3, 1) := by decide +kernel
theorem dX7_number_6 : decode cX7_number 6 = .ok (.if_icmp .ge 59, 3) := by decide +kernel
theorem dX7_number_9 : decode cX7_number 9 = .ok (.iconst 4, 1) := by decide +kernel
theorem dX7_number_10 : decode cX7_number 10 = .ok (.istore 4, 2) := by decide +kernel
theorem dX7_number_12 : decode cX7_number 12 = .ok (.iload 4, 2) := by decide +kernel
theorem dX7_number_14 : decode cX7_number 14 = .ok (.ifCond .lt 45, 3) := by decide +kernel
theorem dX7_number_17 : decode cX7_number 17 = .ok (.ldc2_w 131, 3) := by decide +kernel
theorem dX7_number_20 : decode cX7_number 20 = .ok (.lload_n 1, 1) := by decide +kernel
theorem dX7_number_21 : decode cX7_number 21 = .ok (.lmul, 1) := by decide +kernel
theorem dX7_number_22 : decode cX7_number 22 = .ok (.iload 4, 2) := by decide +kernel
theorem dX7_number_24 : decode cX7_number 24 = .ok (.aload_n 0, 1) := by decide +kernel
theorem dX7_number_25 : decode cX7_number 25 = .ok (.getfield 67, 3) := by decide +kernel
theorem dX7_number_28 : decode cX7_number 28 = .ok (.iload_n 3, 1) := by decide +kernel
theorem dX7_number_29 : decode cX7_number 29 = .ok (.iaload, 1) := by decide +kernel
theorem dX7_number_30 : decode cX7_number 30 = .ok (.if_icmp .ge 19, 3) := by decide +kernel
theorem dX7_number_33 : decode cX7_number 33 = .ok (.aload_n 0, 1) := by decide +kernel
theorem dX7_number_34 : decode cX7_number 34 = .ok (.getfield 64, 3) := by decide +kernel
theorem dX7_number_37 : decode cX7_number 37 = .ok (.iconst 5, 1) := by decide +kernel
theorem dX7_number_38 : decode cX7_number 38 = .ok (.iload_n 3, 1) := by decide +kernel
theorem dX7_number_39 : decode cX7_number 39 = .ok (.imul, 1) := by decide +kernel
theorem dX7_number_40 : decode cX7_number 40 = .ok (.iload 4, 2) := by decide +kernel
theorem dX7_number_42 : decode cX7_number 42 = .ok (.iadd, 1) := by decide +kernel
theorem dX7_number_43 : decode cX7_number 43 = .ok (.iaload, 1) := by decide +kernel
theorem dX7_number_44 : decode cX7_number 44 = .ok (.iconst 1, 1) := by decide +kernel
theorem dX7_number_45 : decode cX7_number 45 = .ok (.iadd, 1) := by decide +kernel
theorem dX7_number_46 : decode cX7_number 46 = .ok (.goto 4, 3) := by decide +kernel
theorem dX7_number_49 : decode cX7_number 49 = .ok (.iconst 0, 1) := by decide +kernel
theorem dX7_number_50 : decode cX7_number 50 = .ok (.i2l, 1) := by decide +kernel
theorem dX7_number_51 : decode cX7_number 51 = .ok (.ladd, 1) := by decide +kernel
theorem dX7_number_52 : decode cX7_number 52 = .ok (.lstore_n 1, 1) := by decide +kernel
theorem dX7_number_53 : decode cX7_number 53 = .ok (.iinc 4 (-1), 3) := by decide +kernel
theorem dX7_number_56 : decode cX7_number 56 = .ok (.goto (-44), 3) := by decide +kernel
theorem dX7_number_59 : decode cX7_number 59 = .ok (.iinc 3 1, 3) := by decide +kernel
theorem dX7_number_62 : decode cX7_number 62 = .ok (.goto (-58), 3) := by decide +kernel
theorem dX7_number_65 : decode cX7_number 65 = .ok (.lload_n 1, 1) := by decide +kernel
theorem dX7_number_66 : decode cX7_number 66 = .ok (.lreturn, 1) := by decide +kernel
theorem dX7_read_0 : decode cX7_read 0 = .ok (.lload_n 1, 1) := by decide +kernel
theorem dX7_read_1 : decode cX7_read 1 = .ok (.lstore_n 3, 1) := by decide +kernel
theorem dX7_read_2 : decode cX7_read 2 = .ok (.iconst 2, 1) := by decide +kernel
theorem dX7_read_3 : decode cX7_read 3 = .ok (.istore 5, 2) := by decide +kernel
theorem dX7_read_5 : decode cX7_read 5 = .ok (.iload 5, 2) := by decide +kernel
theorem dX7_read_7 : decode cX7_read 7 = .ok (.ifCond .lt 78, 3) := by decide +kernel
theorem dX7_read_10 : decode cX7_read 10 = .ok (.aload_n 0, 1) := by decide +kernel
theorem dX7_read_11 : decode cX7_read 11 = .ok (.getfield 67, 3) := by decide +kernel
theorem dX7_read_14 : decode cX7_read 14 = .ok (.iload 5, 2) := by decide +kernel
theorem dX7_read_16 : decode cX7_read 16 = .ok (.iconst 0, 1) := by decide +kernel
theorem dX7_read_17 : decode cX7_read 17 = .ok (.iastore, 1) := by decide +kernel
theorem dX7_read_18 : decode cX7_read 18 = .ok (.iconst 0, 1) := by decide +kernel
theorem dX7_read_19 : decode cX7_read 19 = .ok (.istore 6, 2) := by decide +kernel
theorem dX7_read_21 : decode cX7_read 21 = .ok (.iload 6, 2) := by decide +kernel
theorem dX7_read_23 : decode cX7_read 23 = .ok (.iconst 5, 1) := by decide +kernel
theorem dX7_read_24 : decode cX7_read 24 = .ok (.if_icmp .ge 55, 3) := by decide +kernel
theorem dX7_read_27 : decode cX7_read 27 = .ok (.lload_n 3, 1) := by decide +kernel
theorem dX7_read_28 : decode cX7_read 28 = .ok (.ldc2_w 131, 3) := by decide +kernel
theorem dX7_read_31 : decode cX7_read 31 = .ok (.lrem, 1) := by decide +kernel
theorem dX7_read_32 : decode cX7_read 32 = .ok (.l2i, 1) := by decide +kernel
theorem dX7_read_33 : decode cX7_read 33 = .ok (.istore 7, 2) := by decide +kernel
theorem dX7_read_35 : decode cX7_read 35 = .ok (.lload_n 3, 1) := by decide +kernel
theorem dX7_read_36 : decode cX7_read 36 = .ok (.ldc2_w 131, 3) := by decide +kernel
theorem dX7_read_39 : decode cX7_read 39 = .ok (.ldiv, 1) := by decide +kernel
theorem dX7_read_40 : decode cX7_read 40 = .ok (.lstore_n 3, 1) := by decide +kernel
theorem dX7_read_41 : decode cX7_read 41 = .ok (.iload 7, 2) := by decide +kernel
theorem dX7_read_43 : decode cX7_read 43 = .ok (.ifCond .le 30, 3) := by decide +kernel
theorem dX7_read_46 : decode cX7_read 46 = .ok (.aload_n 0, 1) := by decide +kernel
theorem dX7_read_47 : decode cX7_read 47 = .ok (.getfield 64, 3) := by decide +kernel
theorem dX7_read_50 : decode cX7_read 50 = .ok (.iconst 5, 1) := by decide +kernel
theorem dX7_read_51 : decode cX7_read 51 = .ok (.iload 5, 2) := by decide +kernel
theorem dX7_read_53 : decode cX7_read 53 = .ok (.imul, 1) := by decide +kernel
theorem dX7_read_54 : decode cX7_read 54 = .ok (.iload 6, 2) := by decide +kernel
theorem dX7_read_56 : decode cX7_read 56 = .ok (.iadd, 1) := by decide +kernel
theorem dX7_read_57 : decode cX7_read 57 = .ok (.iload 7, 2) := by decide +kernel
theorem dX7_read_59 : decode cX7_read 59 = .ok (.iconst 1, 1) := by decide +kernel
theorem dX7_read_60 : decode cX7_read 60 = .ok (.isub, 1) := by decide +kernel
theorem dX7_read_61 : decode cX7_read 61 = .ok (.iastore, 1) := by decide +kernel
theorem dX7_read_62 : decode cX7_read 62 = .ok (.aload_n 0, 1) := by decide +kernel
theorem dX7_read_63 : decode cX7_read 63 = .ok (.getfield 67, 3) := by decide +kernel
theorem dX7_read_66 : decode cX7_read 66 = .ok (.iload 5, 2) := by decide +kernel
theorem dX7_read_68 : decode cX7_read 68 = .ok (.dup2, 1) := by decide +kernel
theorem dX7_read_69 : decode cX7_read 69 = .ok (.iaload, 1) := by decide +kernel
theorem dX7_read_70 : decode cX7_read 70 = .ok (.iconst 1, 1) := by decide +kernel
theorem dX7_read_71 : decode cX7_read 71 = .ok (.iadd, 1) := by decide +kernel
theorem dX7_read_72 : decode cX7_read 72 = .ok (.iastore, 1) := by decide +kernel
theorem dX7_read_73 : decode cX7_read 73 = .ok (.iinc 6 1, 3) := by decide +kernel
theorem dX7_read_76 : decode cX7_read 76 = .ok (.goto (-55), 3) := by decide +kernel
theorem dX7_read_79 : decode cX7_read 79 = .ok (.iinc 5 (-1), 3) := by decide +kernel
theorem dX7_read_82 : decode cX7_read 82 = .ok (.goto (-77), 3) := by decide +kernel
theorem dX7_read_85 : decode cX7_read 85 = .ok (.return_, 1) := by decide +kernel
set_option maxRecDepth 20000 in
theorem ggX7_find_X7_number : GoodIn wsX7_find wsX7_number := goodIn_r _ [10, 11, 12, 13, 14, 15, 16, 17, 18, 19, 20, 21, 22, 23, 24, 25, 26, 27, 28, 29, 30, 31, 32, 33, 34, 35, 36, 37, 38, 39, 40, 41, 42, 43] (by decide +kernel) (by decide +kernel)
set_option maxRecDepth 20000 in
theorem gX7_find_X7_number : GoodIn wsX7_find (wsV RX7 133 RX7 yX7_number wsX7_number) := goodIn_app (goodIn_of _ (by decide +kernel)) ggX7_find_X7_number
theorem dX7_find_0 : decode cX7_find 0 = .ok (.aload_n 0, 1) := by decide +kernel
theorem dX7_find_1 : decode cX7_find 1 = .ok (.invokevirtual 133, 3) := by decide +kernel
theorem dX7_find_4 : decode cX7_find 4 = .ok (.lstore_n 2, 1) := by decide +kernel
theorem dX7_find_5 : decode cX7_find 5 = .ok (.lload_n 2, 1) := by decide +kernel
theorem dX7_find_6 : decode cX7_find 6 = .ok (.ldc2_w 137, 3) := by decide +kernel
theorem dX7_find_9 : decode cX7_find 9 = .ok (.lrem, 1) := by decide +kernel
theorem dX7_find_10 : decode cX7_find 10 = .ok (.l2i, 1) := by decide +kernel
theorem dX7_find_11 : decode cX7_find 11 = .ok (.istore 4, 2) := by decide +kernel
theorem dX7_find_13 : decode cX7_find 13 = .ok (.aload_n 0, 1) := by decide +kernel
theorem dX7_find_14 : decode cX7_find 14 = .ok (.getfield 61, 3) := by decide +kernel
theorem dX7_find_17 : decode cX7_find 17 = .ok (.iload 4, 2) := by decide +kernel
theorem dX7_find_19 : decode cX7_find 19 = .ok (.iaload, 1) := by decide +kernel
theorem dX7_find_20 : decode cX7_find 20 = .ok (.ifCond .le 43, 3) := by decide +kernel
theorem dX7_find_23 : decode cX7_find 23 = .ok (.aload_n 0, 1) := by decide +kernel
theorem dX7_find_24 : decode cX7_find 24 = .ok (.getfield 47, 3) := by decide +kernel
theorem dX7_find_27 : decode cX7_find 27 = .ok (.aload_n 0, 1) := by decide +kernel
theorem dX7_find_28 : decode cX7_find 28 = .ok (.getfield 61, 3) := by decide +kernel
theorem dX7_find_31 : decode cX7_find 31 = .ok (.iload 4, 2) := by decide +kernel
theorem dX7_find_33 : decode cX7_find 33 = .ok (.iaload, 1) := by decide +kernel
theorem dX7_find_34 : decode cX7_find 34 = .ok (.iconst 1, 1) := by decide +kernel
theorem dX7_find_35 : decode cX7_find 35 = .ok (.isub, 1) := by decide +kernel
theorem dX7_find_36 : decode cX7_find 36 = .ok (.laload, 1) := by decide +kernel
theorem dX7_find_37 : decode cX7_find 37 = .ok (.lload_n 2, 1) := by decide +kernel
theorem dX7_find_38 : decode cX7_find 38 = .ok (.lcmp, 1) := by decide +kernel
theorem dX7_find_39 : decode cX7_find 39 = .ok (.ifCond .eq 24, 3) := by decide +kernel
theorem dX7_find_42 : decode cX7_find 42 = .ok (.iload 4, 2) := by decide +kernel
theorem dX7_find_44 : decode cX7_find 44 = .ok (.sipush 16383, 3) := by decide +kernel
theorem dX7_find_47 : decode cX7_find 47 = .ok (.if_icmp .ne 7, 3) := by decide +kernel
theorem dX7_find_50 : decode cX7_find 50 = .ok (.iconst 0, 1) := by decide +kernel
theorem dX7_find_51 : decode cX7_find 51 = .ok (.goto 7, 3) := by decide +kernel
theorem dX7_find_54 : decode cX7_find 54 = .ok (.iload 4, 2) := by decide +kernel
theorem dX7_find_56 : decode cX7_find 56 = .ok (.iconst 1, 1) := by decide +kernel
theorem dX7_find_57 : decode cX7_find 57 = .ok (.iadd, 1) := by decide +kernel
theorem dX7_find_58 : decode cX7_find 58 = .ok (.istore 4, 2) := by decide +kernel
theorem dX7_find_60 : decode cX7_find 60 = .ok (.goto (-47), 3) := by decide +kernel
theorem dX7_find_63 : decode cX7_find 63 = .ok (.aload_n 0, 1) := by decide +kernel
theorem dX7_find_64 : decode cX7_find 64 = .ok (.getfield 61, 3) := by decide +kernel
theorem dX7_find_67 : decode cX7_find 67 = .ok (.iload 4, 2) := by decide +kernel
theorem dX7_find_69 : decode cX7_find 69 = .ok (.iaload, 1) := by decide +kernel
theorem dX7_find_70 : decode cX7_find 70 = .ok (.ifCond .ne 44, 3) := by decide +kernel
theorem dX7_find_73 : decode cX7_find 73 = .ok (.aload_n 0, 1) := by decide +kernel
theorem dX7_find_74 : decode cX7_find 74 = .ok (.getfield 47, 3) := by decide +kernel
theorem dX7_find_77 : decode cX7_find 77 = .ok (.aload_n 0, 1) := by decide +kernel
theorem dX7_find_78 : decode cX7_find 78 = .ok (.getfield 139, 3) := by decide +kernel
theorem dX7_find_81 : decode cX7_find 81 = .ok (.lload_n 2, 1) := by decide +kernel
theorem dX7_find_82 : decode cX7_find 82 = .ok (.lastore, 1) := by decide +kernel
theorem dX7_find_83 : decode cX7_find 83 = .ok (.aload_n 0, 1) := by decide +kernel
theorem dX7_find_84 : decode cX7_find 84 = .ok (.getfield 51, 3) := by decide +kernel
theorem dX7_find_87 : decode cX7_find 87 = .ok (.aload_n 0, 1) := by decide +kernel
theorem dX7_find_88 : decode cX7_find 88 = .ok (.getfield 139, 3) := by decide +kernel
theorem dX7_find_91 : decode cX7_find 91 = .ok (.iload_n 1, 1) := by decide +kernel
theorem dX7_find_92 : decode cX7_find 92 = .ok (.iastore, 1) := by decide +kernel
theorem dX7_find_93 : decode cX7_find 93 = .ok (.aload_n 0, 1) := by decide +kernel
theorem dX7_find_94 : decode cX7_find 94 = .ok (.dup, 1) := by decide +kernel
theorem dX7_find_95 : decode cX7_find 95 = .ok (.getfield 139, 3) := by decide +kernel
theorem dX7_find_98 : decode cX7_find 98 = .ok (.iconst 1, 1) := by decide +kernel
theorem dX7_find_99 : decode cX7_find 99 = .ok (.iadd, 1) := by decide +kernel
theorem dX7_find_100 : decode cX7_find 100 = .ok (.putfield 139, 3) := by decide +kernel
theorem dX7_find_103 : decode cX7_find 103 = .ok (.aload_n 0, 1) := by decide +kernel
theorem dX7_find_104 : decode cX7_find 104 = .ok (.getfield 61, 3) := by decide +kernel
theorem dX7_find_107 : decode cX7_find 107 = .ok (.iload 4, 2) := by decide +kernel
theorem dX7_find_109 : decode cX7_find 109 = .ok (.aload_n 0, 1) := by decide +kernel
theorem dX7_find_110 : decode cX7_find 110 = .ok (.getfield 139, 3) := by decide +kernel
theorem dX7_find_113 : decode cX7_find 113 = .ok (.iastore, 1) := by decide +kernel
theorem dX7_find_114 : decode cX7_find 114 = .ok (.aload_n 0, 1) := by decide +kernel
theorem dX7_find_115 : decode cX7_find 115 = .ok (.getfield 61, 3) := by decide +kernel
theorem dX7_find_118 : decode cX7_find 118 = .ok (.iload 4, 2) := by decide +kernel
theorem dX7_find_120 : decode cX7_find 120 = .ok (.iaload, 1) := by decide +kernel
theorem dX7_find_121 : decode cX7_find 121 = .ok (.iconst 1, 1) := by decide +kernel
theorem dX7_find_122 : decode cX7_find 122 = .ok (.isub, 1) := by decide +kernel
theorem dX7_find_123 : decode cX7_find 123 = .ok (.ireturn, 1) := by decide +kernel
set_option maxRecDepth 20000 in
theorem ggX7_findStates_X7_find : GoodIn wsX7_findStates wsX7_find := goodIn_r _ [17, 18, 1, 10, 6, 8, 19, 20, 21, 16, 22, 23, 4, 2, 34, 35, 36, 37, 38, 39, 40, 41, 42, 43, 44, 45, 46, 47, 48, 49, 50, 51, 52, 53, 54, 55, 56, 57, 58, 59, 60, 61, 62, 63] (by decide +kernel) (by decide +kernel)
set_option maxRecDepth 20000 in
theorem gX7_findStates_X7_find : GoodIn wsX7_findStates (wsV RX7 142 RX7 yX7_find wsX7_find) := goodIn_app (goodIn_of _ (by decide +kernel)) ggX7_findStates_X7_find
set_option maxRecDepth 20000 in
theorem ggX7_findStates_X7_read : GoodIn wsX7_findStates wsX7_read := goodIn_r _ [27, 4, 23, 2, 34, 35, 36, 37, 38, 39, 40, 41, 42, 43, 44, 45, 46, 47, 48, 49, 50, 51, 52, 53, 54, 55, 56, 57, 58, 59, 60, 61, 62, 63] (by decide +kernel) (by decide +kernel)
set_option maxRecDepth 20000 in
theorem gX7_findStates_X7_read : GoodIn wsX7_findStates (wsV RX7 146 RX7 yX7_read wsX7_read) := goodIn_app (goodIn_of _ (by decide +kernel)) ggX7_findStates_X7_read
set_option maxRecDepth 20000 in
theorem ggX7_findStates_X7_isWanted : GoodIn wsX7_findStates wsX7_isWanted := goodIn_r _ [31, 32, 33, 34, 35, 36, 37, 38, 39, 40, 41, 42, 43, 44, 45, 46, 47, 48, 49, 50, 51, 52, 53, 54, 55, 56, 57, 58, 59, 60, 61, 62, 63] (by decide +kernel) (by decide +kernel)
set_option maxRecDepth 20000 in
theorem gX7_findStates_X7_isWanted : GoodIn wsX7_findStates (wsV RX7 114 RX7 yX7_isWanted wsX7_isWanted) := goodIn_app (goodIn_of _ (by decide +kernel)) ggX7_findStates_X7_isWanted
theorem dX7_findStates_0 : decode cX7_findStates 0 = .ok (.iconst 0, 1) := by decide +kernel
theorem dX7_findStates_1 : decode cX7_findStates 1 = .ok (.istore_n 1, 1) := by decide +kernel
theorem dX7_findStates_2 : decode cX7_findStates 2 = .ok (.iload_n 1, 1) := by decide +kernel
theorem dX7_findStates_3 : decode cX7_findStates 3 = .ok (.sipush 16384, 3) := by decide +kernel
theorem dX7_findStates_6 : decode cX7_findStates 6 = .ok (.if_icmp .ge 16, 3) := by decide +kernel
theorem dX7_findStates_9 : decode cX7_findStates 9 = .ok (.aload_n 0, 1) := by decide +kernel
theorem dX7_findStates_10 : decode cX7_findStates 10 = .ok (.getfield 61, 3) := by decide +kernel
theorem dX7_findStates_13 : decode cX7_findStates 13 = .ok (.iload_n 1, 1) := by decide +kernel
theorem dX7_findStates_14 : decode cX7_findStates 14 = .ok (.iconst 0, 1) := by decide +kernel
theorem dX7_findStates_15 : decode cX7_findStates 15 = .ok (.iastore, 1) := by decide +kernel
theorem dX7_findStates_16 : decode cX7_findStates 16 = .ok (.iinc 1 1, 3) := by decide +kernel
theorem dX7_findStates_19 : decode cX7_findStates 19 = .ok (.goto (-17), 3) := by decide +kernel
theorem dX7_findStates_22 : decode cX7_findStates 22 = .ok (.iconst 0, 1) := by decide +kernel
theorem dX7_findStates_23 : decode cX7_findStates 23 = .ok (.istore_n 1, 1) := by decide +kernel
theorem dX7_findStates_24 : decode cX7_findStates 24 = .ok (.iload_n 1, 1) := by decide +kernel
theorem dX7_findStates_25 : decode cX7_findStates 25 = .ok (.bipush 15, 2) := by decide +kernel
theorem dX7_findStates_27 : decode cX7_findStates 27 = .ok (.if_icmp .ge 21, 3) := by decide +kernel
theorem dX7_findStates_30 : decode cX7_findStates 30 = .ok (.aload_n 0, 1) := by decide +kernel
theorem dX7_findStates_31 : decode cX7_findStates 31 = .ok (.getfield 64, 3) := by decide +kernel
theorem dX7_findStates_34 : decode cX7_findStates 34 = .ok (.iload_n 1, 1) := by decide +kernel
theorem dX7_findStates_35 : decode cX7_findStates 35 = .ok (.aload_n 0, 1) := by decide +kernel
theorem dX7_findStates_36 : decode cX7_findStates 36 = .ok (.getfield 29, 3) := by decide +kernel
theorem dX7_findStates_39 : decode cX7_findStates 39 = .ok (.iload_n 1, 1) := by decide +kernel
theorem dX7_findStates_40 : decode cX7_findStates 40 = .ok (.iaload, 1) := by decide +kernel
theorem dX7_findStates_41 : decode cX7_findStates 41 = .ok (.iastore, 1) := by decide +kernel
theorem dX7_findStates_42 : decode cX7_findStates 42 = .ok (.iinc 1 1, 3) := by decide +kernel
theorem dX7_findStates_45 : decode cX7_findStates 45 = .ok (.goto (-21), 3) := by decide +kernel
theorem dX7_findStates_48 : decode cX7_findStates 48 = .ok (.iconst 0, 1) := by decide +kernel
theorem dX7_findStates_49 : decode cX7_findStates 49 = .ok (.istore_n 1, 1) := by decide +kernel
theorem dX7_findStates_50 : decode cX7_findStates 50 = .ok (.iload_n 1, 1) := by decide +kernel
theorem dX7_findStates_51 : decode cX7_findStates 51 = .ok (.iconst 3, 1) := by decide +kernel
theorem dX7_findStates_52 : decode cX7_findStates 52 = .ok (.if_icmp .ge 21, 3) := by decide +kernel
theorem dX7_findStates_55 : decode cX7_findStates 55 = .ok (.aload_n 0, 1) := by decide +kernel
theorem dX7_findStates_56 : decode cX7_findStates 56 = .ok (.getfield 67, 3) := by decide +kernel
theorem dX7_findStates_59 : decode cX7_findStates 59 = .ok (.iload_n 1, 1) := by decide +kernel
theorem dX7_findStates_60 : decode cX7_findStates 60 = .ok (.aload_n 0, 1) := by decide +kernel
theorem dX7_findStates_61 : decode cX7_findStates 61 = .ok (.getfield 32, 3) := by decide +kernel
theorem dX7_findStates_64 : decode cX7_findStates 64 = .ok (.iload_n 1, 1) := by decide +kernel
theorem dX7_findStates_65 : decode cX7_findStates 65 = .ok (.iaload, 1) := by decide +kernel
theorem dX7_findStates_66 : decode cX7_findStates 66 = .ok (.iastore, 1) := by decide +kernel
theorem dX7_findStates_67 : decode cX7_findStates 67 = .ok (.iinc 1 1, 3) := by decide +kernel
theorem dX7_findStates_70 : decode cX7_findStates 70 = .ok (.goto (-20), 3) := by decide +kernel
theorem dX7_findStates_73 : decode cX7_findStates 73 = .ok (.aload_n 0, 1) := by decide +kernel
theorem dX7_findStates_74 : decode cX7_findStates 74 = .ok (.iconst 0, 1) := by decide +kernel
theorem dX7_findStates_75 : decode cX7_findStates 75 = .ok (.putfield 139, 3) := by decide +kernel
theorem dX7_findStates_78 : decode cX7_findStates 78 = .ok (.aload_n 0, 1) := by decide +kernel
theorem dX7_findStates_79 : decode cX7_findStates 79 = .ok (.iconst 0, 1) := by decide +kernel
theorem dX7_findStates_80 : decode cX7_findStates 80 = .ok (.invokevirtual 142, 3) := by decide +kernel
theorem dX7_findStates_83 : decode cX7_findStates 83 = .ok (.istore_n 1, 1) := by decide +kernel
theorem dX7_findStates_84 : decode cX7_findStates 84 = .ok (.iload_n 1, 1) := by decide +kernel
theorem dX7_findStates_85 : decode cX7_findStates 85 = .ok (.istore_n 2, 1) := by decide +kernel
theorem dX7_findStates_86 : decode cX7_findStates 86 = .ok (.iload_n 2, 1) := by decide +kernel
theorem dX7_findStates_87 : decode cX7_findStates 87 = .ok (.aload_n 0, 1) := by decide +kernel
theorem dX7_findStates_88 : decode cX7_findStates 88 = .ok (.getfield 139, 3) := by decide +kernel
theorem dX7_findStates_91 : decode cX7_findStates 91 = .ok (.if_icmp .ge 293, 3) := by decide +kernel
theorem dX7_findStates_94 : decode cX7_findStates 94 = .ok (.iconst 0, 1) := by decide +kernel
theorem dX7_findStates_95 : decode cX7_findStates 95 = .ok (.istore_n 3, 1) := by decide +kernel
theorem dX7_findStates_96 : decode cX7_findStates 96 = .ok (.iload_n 3, 1) := by decide +kernel
theorem dX7_findStates_97 : decode cX7_findStates 97 = .ok (.bipush 9, 2) := by decide +kernel
theorem dX7_findStates_99 : decode cX7_findStates 99 = .ok (.if_icmp .ge 21, 3) := by decide +kernel
theorem dX7_findStates_102 : decode cX7_findStates 102 = .ok (.aload_n 0, 1) := by decide +kernel
theorem dX7_findStates_103 : decode cX7_findStates 103 = .ok (.getfield 58, 3) := by decide +kernel
theorem dX7_findStates_106 : decode cX7_findStates 106 = .ok (.bipush 9, 2) := by decide +kernel
theorem dX7_findStates_108 : decode cX7_findStates 108 = .ok (.iload_n 2, 1) := by decide +kernel
theorem dX7_findStates_109 : decode cX7_findStates 109 = .ok (.imul, 1) := by decide +kernel
theorem dX7_findStates_110 : decode cX7_findStates 110 = .ok (.iload_n 3, 1) := by decide +kernel
theorem dX7_findStates_111 : decode cX7_findStates 111 = .ok (.iadd, 1) := by decide +kernel
theorem dX7_findStates_112 : decode cX7_findStates 112 = .ok (.iconst (-1), 1) := by decide +kernel
theorem dX7_findStates_113 : decode cX7_findStates 113 = .ok (.iastore, 1) := by decide +kernel
theorem dX7_findStates_114 : decode cX7_findStates 114 = .ok (.iinc 3 1, 3) := by decide +kernel
theorem dX7_findStates_117 : decode cX7_findStates 117 = .ok (.goto (-21), 3) := by decide +kernel
theorem dX7_findStates_120 : decode cX7_findStates 120 = .ok (.iconst 0, 1) := by decide +kernel
theorem dX7_findStates_121 : decode cX7_findStates 121 = .ok (.istore_n 3, 1) := by decide +kernel
theorem dX7_findStates_122 : decode cX7_findStates 122 = .ok (.iload_n 3, 1) := by decide +kernel
theorem dX7_findStates_123 : decode cX7_findStates 123 = .ok (.bipush 9, 2) := by decide +kernel
theorem dX7_findStates_125 : decode cX7_findStates 125 = .ok (.if_icmp .ge 253, 3) := by decide +kernel
theorem dX7_findStates_128 : decode cX7_findStates 128 = .ok (.aload_n 0, 1) := by decide +kernel
theorem dX7_findStates_129 : decode cX7_findStates 129 = .ok (.getfield 51, 3) := by decide +kernel
theorem dX7_findStates_132 : decode cX7_findStates 132 = .ok (.iload_n 2, 1) := by decide +kernel
theorem dX7_findStates_133 : decode cX7_findStates 133 = .ok (.iaload, 1) := by decide +kernel
theorem dX7_findStates_134 : decode cX7_findStates 134 = .ok (.aload_n 0, 1) := by decide +kernel
theorem dX7_findStates_135 : decode cX7_findStates 135 = .ok (.getfield 103, 3) := by decide +kernel
theorem dX7_findStates_138 : decode cX7_findStates 138 = .ok (.if_icmp .ge 240, 3) := by decide +kernel
theorem dX7_findStates_141 : decode cX7_findStates 141 = .ok (.aload_n 0, 1) := by decide +kernel
theorem dX7_findStates_142 : decode cX7_findStates 142 = .ok (.aload_n 0, 1) := by decide +kernel
theorem dX7_findStates_143 : decode cX7_findStates 143 = .ok (.getfield 47, 3) := by decide +kernel
theorem dX7_findStates_146 : decode cX7_findStates 146 = .ok (.iload_n 2, 1) := by decide +kernel
theorem dX7_findStates_147 : decode cX7_findStates 147 = .ok (.laload, 1) := by decide +kernel
theorem dX7_findStates_148 : decode cX7_findStates 148 = .ok (.invokevirtual 146, 3) := by decide +kernel
theorem dX7_findStates_151 : decode cX7_findStates 151 = .ok (.iload_n 3, 1) := by decide +kernel
theorem dX7_findStates_152 : decode cX7_findStates 152 = .ok (.iconst 3, 1) := by decide +kernel
theorem dX7_findStates_153 : decode cX7_findStates 153 = .ok (.if_icmp .ge 83, 3) := by decide +kernel
theorem dX7_findStates_156 : decode cX7_findStates 156 = .ok (.aload_n 0, 1) := by decide +kernel
theorem dX7_findStates_157 : decode cX7_findStates 157 = .ok (.getfield 67, 3) := by decide +kernel
theorem dX7_findStates_160 : decode cX7_findStates 160 = .ok (.iload_n 3, 1) := by decide +kernel
theorem dX7_findStates_161 : decode cX7_findStates 161 = .ok (.iaload, 1) := by decide +kernel
theorem dX7_findStates_162 : decode cX7_findStates 162 = .ok (.ifCond .le 210, 3) := by decide +kernel
theorem dX7_findStates_165 : decode cX7_findStates 165 = .ok (.aload_n 0, 1) := by decide +kernel
theorem dX7_findStates_166 : decode cX7_findStates 166 = .ok (.aload_n 0, 1) := by decide +kernel
theorem dX7_findStates_167 : decode cX7_findStates 167 = .ok (.getfield 64, 3) := by decide +kernel
theorem dX7_findStates_170 : decode cX7_findStates 170 = .ok (.iconst 5, 1) := by decide +kernel
theorem dX7_findStates_171 : decode cX7_findStates 171 = .ok (.iload_n 3, 1) := by decide +kernel
theorem dX7_findStates_172 : decode cX7_findStates 172 = .ok (.imul, 1) := by decide +kernel
theorem dX7_findStates_173 : decode cX7_findStates 173 = .ok (.aload_n 0, 1) := by decide +kernel
theorem dX7_findStates_174 : decode cX7_findStates 174 = .ok (.getfield 67, 3) := by decide +kernel
theorem dX7_findStates_177 : decode cX7_findStates 177 = .ok (.iload_n 3, 1) := by decide +kernel
theorem dX7_findStates_178 : decode cX7_findStates 178 = .ok (.iaload, 1) := by decide +kernel
theorem dX7_findStates_179 : decode cX7_findStates 179 = .ok (.iadd, 1) := by decide +kernel
theorem dX7_findStates_180 : decode cX7_findStates 180 = .ok (.iconst 1, 1) := by decide +kernel
theorem dX7_findStates_181 : decode cX7_findStates 181 = .ok (.isub, 1) := by decide +kernel
theorem dX7_findStates_182 : decode cX7_findStates 182 = .ok (.iaload, 1) := by decide +kernel
theorem dX7_findStates_183 : decode cX7_findStates 183 = .ok (.aload_n 0, 1) := by decide +kernel
theorem dX7_findStates_184 : decode cX7_findStates 184 = .ok (.getfield 26, 3) := by decide +kernel
theorem dX7_findStates_187 : decode cX7_findStates 187 = .ok (.aload_n 0, 1) := by decide +kernel
theorem dX7_findStates_188 : decode cX7_findStates 188 = .ok (.getfield 51, 3) := by decide +kernel
theorem dX7_findStates_191 : decode cX7_findStates 191 = .ok (.iload_n 2, 1) := by decide +kernel
theorem dX7_findStates_192 : decode cX7_findStates 192 = .ok (.iaload, 1) := by decide +kernel
theorem dX7_findStates_193 : decode cX7_findStates 193 = .ok (.iaload, 1) := by decide +kernel
theorem dX7_findStates_194 : decode cX7_findStates 194 = .ok (.invokevirtual 114, 3) := by decide +kernel
theorem dX7_findStates_197 : decode cX7_findStates 197 = .ok (.ifCond .eq 175, 3) := by decide +kernel
theorem dX7_findStates_200 : decode cX7_findStates 200 = .ok (.aload_n 0, 1) := by decide +kernel
theorem dX7_findStates_201 : decode cX7_findStates 201 = .ok (.getfield 67, 3) := by decide +kernel
theorem dX7_findStates_204 : decode cX7_findStates 204 = .ok (.iload_n 3, 1) := by decide +kernel
theorem dX7_findStates_205 : decode cX7_findStates 205 = .ok (.dup2, 1) := by decide +kernel
theorem dX7_findStates_206 : decode cX7_findStates 206 = .ok (.iaload, 1) := by decide +kernel
theorem dX7_findStates_207 : decode cX7_findStates 207 = .ok (.iconst 1, 1) := by decide +kernel
theorem dX7_findStates_208 : decode cX7_findStates 208 = .ok (.isub, 1) := by decide +kernel
theorem dX7_findStates_209 : decode cX7_findStates 209 = .ok (.iastore, 1) := by decide +kernel
theorem dX7_findStates_210 : decode cX7_findStates 210 = .ok (.aload_n 0, 1) := by decide +kernel
theorem dX7_findStates_211 : decode cX7_findStates 211 = .ok (.getfield 58, 3) := by decide +kernel
theorem dX7_findStates_214 : decode cX7_findStates 214 = .ok (.bipush 9, 2) := by decide +kernel
theorem dX7_findStates_216 : decode cX7_findStates 216 = .ok (.iload_n 2, 1) := by decide +kernel
theorem dX7_findStates_217 : decode cX7_findStates 217 = .ok (.imul, 1) := by decide +kernel
theorem dX7_findStates_218 : decode cX7_findStates 218 = .ok (.iload_n 3, 1) := by decide +kernel
theorem dX7_findStates_219 : decode cX7_findStates 219 = .ok (.iadd, 1) := by decide +kernel
theorem dX7_findStates_220 : decode cX7_findStates 220 = .ok (.aload_n 0, 1) := by decide +kernel
theorem dX7_findStates_221 : decode cX7_findStates 221 = .ok (.aload_n 0, 1) := by decide +kernel
theorem dX7_findStates_222 : decode cX7_findStates 222 = .ok (.getfield 51, 3) := by decide +kernel
theorem dX7_findStates_225 : decode cX7_findStates 225 = .ok (.iload_n 2, 1) := by decide +kernel
theorem dX7_findStates_226 : decode cX7_findStates 226 = .ok (.iaload, 1) := by decide +kernel
theorem dX7_findStates_227 : decode cX7_findStates 227 = .ok (.iconst 1, 1) := by decide +kernel
theorem dX7_findStates_228 : decode cX7_findStates 228 = .ok (.iadd, 1) := by decide +kernel
theorem dX7_findStates_229 : decode cX7_findStates 229 = .ok (.invokevirtual 142, 3) := by decide +kernel
theorem dX7_findStates_232 : decode cX7_findStates 232 = .ok (.iastore, 1) := by decide +kernel
theorem dX7_findStates_233 : decode cX7_findStates 233 = .ok (.goto 139, 3) := by decide +kernel
theorem dX7_findStates_236 : decode cX7_findStates 236 = .ok (.iload_n 3, 1) := by decide +kernel
theorem dX7_findStates_237 : decode cX7_findStates 237 = .ok (.iconst 3, 1) := by decide +kernel
theorem dX7_findStates_238 : decode cX7_findStates 238 = .ok (.isub, 1) := by decide +kernel
theorem dX7_findStates_239 : decode cX7_findStates 239 = .ok (.iconst 2, 1) := by decide +kernel
theorem dX7_findStates_240 : decode cX7_findStates 240 = .ok (.idiv, 1) := by decide +kernel
theorem dX7_findStates_241 : decode cX7_findStates 241 = .ok (.istore 4, 2) := by decide +kernel
theorem dX7_findStates_243 : decode cX7_findStates 243 = .ok (.iload_n 3, 1) := by decide +kernel
theorem dX7_findStates_244 : decode cX7_findStates 244 = .ok (.iconst 3, 1) := by decide +kernel
theorem dX7_findStates_245 : decode cX7_findStates 245 = .ok (.isub, 1) := by decide +kernel
theorem dX7_findStates_246 : decode cX7_findStates 246 = .ok (.iconst 2, 1) := by decide +kernel
theorem dX7_findStates_247 : decode cX7_findStates 247 = .ok (.irem, 1) := by decide +kernel
theorem dX7_findStates_248 : decode cX7_findStates 248 = .ok (.istore 5, 2) := by decide +kernel
theorem dX7_findStates_250 : decode cX7_findStates 250 = .ok (.iload 5, 2) := by decide +kernel
theorem dX7_findStates_252 : decode cX7_findStates 252 = .ok (.iload 4, 2) := by decide +kernel
theorem dX7_findStates_254 : decode cX7_findStates 254 = .ok (.if_icmp .lt 10, 3) := by decide +kernel
theorem dX7_findStates_257 : decode cX7_findStates 257 = .ok (.iload 5, 2) := by decide +kernel
theorem dX7_findStates_259 : decode cX7_findStates 259 = .ok (.iconst 1, 1) := by decide +kernel
theorem dX7_findStates_260 : decode cX7_findStates 260 = .ok (.iadd, 1) := by decide +kernel
theorem dX7_findStates_261 : decode cX7_findStates 261 = .ok (.goto 5, 3) := by decide +kernel
theorem dX7_findStates_264 : decode cX7_findStates 264 = .ok (.iload 5, 2) := by decide +kernel
theorem dX7_findStates_266 : decode cX7_findStates 266 = .ok (.istore 5, 2) := by decide +kernel
theorem dX7_findStates_268 : decode cX7_findStates 268 = .ok (.aload_n 0, 1) := by decide +kernel
theorem dX7_findStates_269 : decode cX7_findStates 269 = .ok (.getfield 67, 3) := by decide +kernel
theorem dX7_findStates_272 : decode cX7_findStates 272 = .ok (.iload 4, 2) := by decide +kernel
theorem dX7_findStates_274 : decode cX7_findStates 274 = .ok (.iaload, 1) := by decide +kernel
theorem dX7_findStates_275 : decode cX7_findStates 275 = .ok (.ifCond .le 97, 3) := by decide +kernel
theorem dX7_findStates_278 : decode cX7_findStates 278 = .ok (.aload_n 0, 1) := by decide +kernel
theorem dX7_findStates_279 : decode cX7_findStates 279 = .ok (.getfield 67, 3) := by decide +kernel
theorem dX7_findStates_282 : decode cX7_findStates 282 = .ok (.iload 5, 2) := by decide +kernel
theorem dX7_findStates_284 : decode cX7_findStates 284 = .ok (.iaload, 1) := by decide +kernel
theorem dX7_findStates_285 : decode cX7_findStates 285 = .ok (.aload_n 0, 1) := by decide +kernel
theorem dX7_findStates_286 : decode cX7_findStates 286 = .ok (.getfield 23, 3) := by decide +kernel
theorem dX7_findStates_289 : decode cX7_findStates 289 = .ok (.iload 5, 2) := by decide +kernel
theorem dX7_findStates_291 : decode cX7_findStates 291 = .ok (.iaload, 1) := by decide +kernel
theorem dX7_findStates_292 : decode cX7_findStates 292 = .ok (.if_icmp .ge 80, 3) := by decide +kernel
theorem dX7_findStates_295 : decode cX7_findStates 295 = .ok (.aload_n 0, 1) := by decide +kernel
theorem dX7_findStates_296 : decode cX7_findStates 296 = .ok (.getfield 67, 3) := by decide +kernel
theorem dX7_findStates_299 : decode cX7_findStates 299 = .ok (.iload 4, 2) := by decide +kernel
theorem dX7_findStates_301 : decode cX7_findStates 301 = .ok (.dup2, 1) := by decide +kernel
theorem dX7_findStates_302 : decode cX7_findStates 302 = .ok (.iaload, 1) := by decide +kernel
theorem dX7_findStates_303 : decode cX7_findStates 303 = .ok (.iconst 1, 1) := by decide +kernel
theorem dX7_findStates_304 : decode cX7_findStates 304 = .ok (.isub, 1) := by decide +kernel
theorem dX7_findStates_305 : decode cX7_findStates 305 = .ok (.iastore, 1) := by decide +kernel
theorem dX7_findStates_306 : decode cX7_findStates 306 = .ok (.aload_n 0, 1) := by decide +kernel
theorem dX7_findStates_307 : decode cX7_findStates 307 = .ok (.getfield 64, 3) := by decide +kernel
theorem dX7_findStates_310 : decode cX7_findStates 310 = .ok (.iconst 5, 1) := by decide +kernel
theorem dX7_findStates_311 : decode cX7_findStates 311 = .ok (.iload 5, 2) := by decide +kernel
theorem dX7_findStates_313 : decode cX7_findStates 313 = .ok (.imul, 1) := by decide +kernel
theorem dX7_findStates_314 : decode cX7_findStates 314 = .ok (.aload_n 0, 1) := by decide +kernel
theorem dX7_findStates_315 : decode cX7_findStates 315 = .ok (.getfield 67, 3) := by decide +kernel
theorem dX7_findStates_318 : decode cX7_findStates 318 = .ok (.iload 5, 2) := by decide +kernel
theorem dX7_findStates_320 : decode cX7_findStates 320 = .ok (.iaload, 1) := by decide +kernel
theorem dX7_findStates_321 : decode cX7_findStates 321 = .ok (.iadd, 1) := by decide +kernel
theorem dX7_findStates_322 : decode cX7_findStates 322 = .ok (.aload_n 0, 1) := by decide +kernel
theorem dX7_findStates_323 : decode cX7_findStates 323 = .ok (.getfield 64, 3) := by decide +kernel
theorem dX7_findStates_326 : decode cX7_findStates 326 = .ok (.iconst 5, 1) := by decide +kernel
theorem dX7_findStates_327 : decode cX7_findStates 327 = .ok (.iload 4, 2) := by decide +kernel
theorem dX7_findStates_329 : decode cX7_findStates 329 = .ok (.imul, 1) := by decide +kernel
theorem dX7_findStates_330 : decode cX7_findStates 330 = .ok (.aload_n 0, 1) := by decide +kernel
theorem dX7_findStates_331 : decode cX7_findStates 331 = .ok (.getfield 67, 3) := by decide +kernel
theorem dX7_findStates_334 : decode cX7_findStates 334 = .ok (.iload 4, 2) := by decide +kernel
theorem dX7_findStates_336 : decode cX7_findStates 336 = .ok (.iaload, 1) := by decide +kernel
theorem dX7_findStates_337 : decode cX7_findStates 337 = .ok (.iadd, 1) := by decide +kernel
theorem dX7_findStates_338 : decode cX7_findStates 338 = .ok (.iaload, 1) := by decide +kernel
theorem dX7_findStates_339 : decode cX7_findStates 339 = .ok (.iastore, 1) := by decide +kernel
theorem dX7_findStates_340 : decode cX7_findStates 340 = .ok (.aload_n 0, 1) := by decide +kernel
theorem dX7_findStates_341 : decode cX7_findStates 341 = .ok (.getfield 67, 3) := by decide +kernel
theorem dX7_findStates_344 : decode cX7_findStates 344 = .ok (.iload 5, 2) := by decide +kernel
theorem dX7_findStates_346 : decode cX7_findStates 346 = .ok (.dup2, 1) := by decide +kernel
theorem dX7_findStates_347 : decode cX7_findStates 347 = .ok (.iaload, 1) := by decide +kernel
theorem dX7_findStates_348 : decode cX7_findStates 348 = .ok (.iconst 1, 1) := by decide +kernel
theorem dX7_findStates_349 : decode cX7_findStates 349 = .ok (.iadd, 1) := by decide +kernel
theorem dX7_findStates_350 : decode cX7_findStates 350 = .ok (.iastore, 1) := by decide +kernel
theorem dX7_findStates_351 : decode cX7_findStates 351 = .ok (.aload_n 0, 1) := by decide +kernel
theorem dX7_findStates_352 : decode cX7_findStates 352 = .ok (.getfield 58, 3) := by decide +kernel
theorem dX7_findStates_355 : decode cX7_findStates 355 = .ok (.bipush 9, 2) := by decide +kernel
theorem dX7_findStates_357 : decode cX7_findStates 357 = .ok (.iload_n 2, 1) := by decide +kernel
theorem dX7_findStates_358 : decode cX7_findStates 358 = .ok (.imul, 1) := by decide +kernel
theorem dX7_findStates_359 : decode cX7_findStates 359 = .ok (.iload_n 3, 1) := by decide +kernel
theorem dX7_findStates_360 : decode cX7_findStates 360 = .ok (.iadd, 1) := by decide +kernel
theorem dX7_findStates_361 : decode cX7_findStates 361 = .ok (.aload_n 0, 1) := by decide +kernel
theorem dX7_findStates_362 : decode cX7_findStates 362 = .ok (.aload_n 0, 1) := by decide +kernel
theorem dX7_findStates_363 : decode cX7_findStates 363 = .ok (.getfield 51, 3) := by decide +kernel
theorem dX7_findStates_366 : decode cX7_findStates 366 = .ok (.iload_n 2, 1) := by decide +kernel
theorem dX7_findStates_367 : decode cX7_findStates 367 = .ok (.iaload, 1) := by decide +kernel
theorem dX7_findStates_368 : decode cX7_findStates 368 = .ok (.invokevirtual 142, 3) := by decide +kernel
theorem dX7_findStates_371 : decode cX7_findStates 371 = .ok (.iastore, 1) := by decide +kernel
theorem dX7_findStates_372 : decode cX7_findStates 372 = .ok (.iinc 3 1, 3) := by decide +kernel
theorem dX7_findStates_375 : decode cX7_findStates 375 = .ok (.goto (-253), 3) := by decide +kernel
theorem dX7_findStates_378 : decode cX7_findStates 378 = .ok (.iinc 2 1, 3) := by decide +kernel
theorem dX7_findStates_381 : decode cX7_findStates 381 = .ok (.goto (-295), 3) := by decide +kernel
theorem dX7_findStates_384 : decode cX7_findStates 384 = .ok (.return_, 1) := by decide +kernel
set_option maxRecDepth 20000 in
theorem ggX7_findRun_X7_findStates : GoodIn wsX7_findRun wsX7_findStates := goodIn_r _ [17, 18, 11, 19, 12, 20, 1, 6, 3, 4, 8, 21, 22, 23, 24, 25, 16, 26, 27, 28, 29, 30, 31, 32, 33, 34, 35, 36, 37, 38, 39, 40, 41, 42, 43, 44, 45, 46, 47, 48, 49, 50, 51, 52, 53, 54, 55, 56, 57, 58, 59, 60, 61, 62, 63, 64, 65, 66, 67, 68, 69, 70, 71, 72] (by decide +kernel) (by decide +kernel)
set_option maxRecDepth 20000 in
theorem gX7_findRun_X7_findStates : GoodIn wsX7_findRun (wsV RX7 150 RX7 yX7_findStates wsX7_findStates) := goodIn_app (goodIn_of _ (by decide +kernel)) ggX7_findRun_X7_findStates
set_option maxRecDepth 20000 in
theorem ggX7_findRun_X7_read : GoodIn wsX7_findRun wsX7_read := goodIn_r _ [36, 12, 32, 11, 43, 44, 45, 46, 47, 48, 49, 50, 51, 52, 53, 54, 55, 56, 57, 58, 59, 60, 61, 62, 63, 64, 65, 66, 67, 68, 69, 70, 71, 72] (by decide +kernel) (by decide +kernel)
set_option maxRecDepth 20000 in
theorem gX7_findRun_X7_read : GoodIn wsX7_findRun (wsV RX7 146 RX7 yX7_read wsX7_read) := goodIn_app (goodIn_of _ (by decide +kernel)) ggX7_findRun_X7_read
theorem dX7_findRun_0 : decode cX7_findRun 0 = .ok (.aload_n 0, 1) := by decide +kernel
theorem dX7_findRun_1 : decode cX7_findRun 1 = .ok (.invokevirtual 150, 3) := by decide +kernel
theorem dX7_findRun_4 : decode cX7_findRun 4 = .ok (.iconst 0, 1) := by decide +kernel
theorem dX7_findRun_5 : decode cX7_findRun 5 = .ok (.istore_n 1, 1) := by decide +kernel
theorem dX7_findRun_6 : decode cX7_findRun 6 = .ok (.iload_n 1, 1) := by decide +kernel
theorem dX7_findRun_7 : decode cX7_findRun 7 = .ok (.aload_n 0, 1) := by decide +kernel
theorem dX7_findRun_8 : decode cX7_findRun 8 = .ok (.getfield 139, 3) := by decide +kernel
theorem dX7_findRun_11 : decode cX7_findRun 11 = .ok (.if_icmp .ge 34, 3) := by decide +kernel
theorem dX7_findRun_14 : decode cX7_findRun 14 = .ok (.aload_n 0, 1) := by decide +kernel
theorem dX7_findRun_15 : decode cX7_findRun 15 = .ok (.getfield 54, 3) := by decide +kernel
theorem dX7_findRun_18 : decode cX7_findRun 18 = .ok (.iload_n 1, 1) := by decide +kernel
theorem dX7_findRun_19 : decode cX7_findRun 19 = .ok (.aload_n 0, 1) := by decide +kernel
theorem dX7_findRun_20 : decode cX7_findRun 20 = .ok (.getfield 51, 3) := by decide +kernel
theorem dX7_findRun_23 : decode cX7_findRun 23 = .ok (.iload_n 1, 1) := by decide +kernel
theorem dX7_findRun_24 : decode cX7_findRun 24 = .ok (.iaload, 1) := by decide +kernel
theorem dX7_findRun_25 : decode cX7_findRun 25 = .ok (.aload_n 0, 1) := by decide +kernel
theorem dX7_findRun_26 : decode cX7_findRun 26 = .ok (.getfield 103, 3) := by decide +kernel
theorem dX7_findRun_29 : decode cX7_findRun 29 = .ok (.if_icmp .ne 7, 3) := by decide +kernel
theorem dX7_findRun_32 : decode cX7_findRun 32 = .ok (.iconst 0, 1) := by decide +kernel
theorem dX7_findRun_33 : decode cX7_findRun 33 = .ok (.goto 5, 3) := by decide +kernel
theorem dX7_findRun_36 : decode cX7_findRun 36 = .ok (.ldc 153, 2) := by decide +kernel
theorem dX7_findRun_38 : decode cX7_findRun 38 = .ok (.iastore, 1) := by decide +kernel
theorem dX7_findRun_39 : decode cX7_findRun 39 = .ok (.iinc 1 1, 3) := by decide +kernel
theorem dX7_findRun_42 : decode cX7_findRun 42 = .ok (.goto (-36), 3) := by decide +kernel
theorem dX7_findRun_45 : decode cX7_findRun 45 = .ok (.iconst 1, 1) := by decide +kernel
theorem dX7_findRun_46 : decode cX7_findRun 46 = .ok (.istore_n 1, 1) := by decide +kernel
theorem dX7_findRun_47 : decode cX7_findRun 47 = .ok (.iload_n 1, 1) := by decide +kernel
theorem dX7_findRun_48 : decode cX7_findRun 48 = .ok (.ifCond .eq 104, 3) := by decide +kernel
theorem dX7_findRun_51 : decode cX7_findRun 51 = .ok (.iconst 0, 1) := by decide +kernel
theorem dX7_findRun_52 : decode cX7_findRun 52 = .ok (.istore_n 1, 1) := by decide +kernel
theorem dX7_findRun_53 : decode cX7_findRun 53 = .ok (.aload_n 0, 1) := by decide +kernel
theorem dX7_findRun_54 : decode cX7_findRun 54 = .ok (.getfield 139, 3) := by decide +kernel
theorem dX7_findRun_57 : decode cX7_findRun 57 = .ok (.iconst 1, 1) := by decide +kernel
theorem dX7_findRun_58 : decode cX7_findRun 58 = .ok (.isub, 1) := by decide +kernel
theorem dX7_findRun_59 : decode cX7_findRun 59 = .ok (.istore_n 2, 1) := by decide +kernel
theorem dX7_findRun_60 : decode cX7_findRun 60 = .ok (.iload_n 2, 1) := by decide +kernel
theorem dX7_findRun_61 : decode cX7_findRun 61 = .ok (.ifCond .lt 88, 3) := by decide +kernel
theorem dX7_findRun_64 : decode cX7_findRun 64 = .ok (.iconst 0, 1) := by decide +kernel
theorem dX7_findRun_65 : decode cX7_findRun 65 = .ok (.istore_n 3, 1) := by decide +kernel
theorem dX7_findRun_66 : decode cX7_findRun 66 = .ok (.iload_n 3, 1) := by decide +kernel
theorem dX7_findRun_67 : decode cX7_findRun 67 = .ok (.bipush 9, 2) := by decide +kernel
theorem dX7_findRun_69 : decode cX7_findRun 69 = .ok (.if_icmp .ge 74, 3) := by decide +kernel
theorem dX7_findRun_72 : decode cX7_findRun 72 = .ok (.aload_n 0, 1) := by decide +kernel
theorem dX7_findRun_73 : decode cX7_findRun 73 = .ok (.getfield 58, 3) := by decide +kernel
theorem dX7_findRun_76 : decode cX7_findRun 76 = .ok (.bipush 9, 2) := by decide +kernel
theorem dX7_findRun_78 : decode cX7_findRun 78 = .ok (.iload_n 2, 1) := by decide +kernel
theorem dX7_findRun_79 : decode cX7_findRun 79 = .ok (.imul, 1) := by decide +kernel
theorem dX7_findRun_80 : decode cX7_findRun 80 = .ok (.iload_n 3, 1) := by decide +kernel
theorem dX7_findRun_81 : decode cX7_findRun 81 = .ok (.iadd, 1) := by decide +kernel
theorem dX7_findRun_82 : decode cX7_findRun 82 = .ok (.iaload, 1) := by decide +kernel
theorem dX7_findRun_83 : decode cX7_findRun 83 = .ok (.istore 4, 2) := by decide +kernel
theorem dX7_findRun_85 : decode cX7_findRun 85 = .ok (.iload 4, 2) := by decide +kernel
theorem dX7_findRun_87 : decode cX7_findRun 87 = .ok (.iconst (-1), 1) := by decide +kernel
theorem dX7_findRun_88 : decode cX7_findRun 88 = .ok (.if_icmp .ne 8, 3) := by decide +kernel
theorem dX7_findRun_91 : decode cX7_findRun 91 = .ok (.ldc 153, 2) := by decide +kernel
theorem dX7_findRun_93 : decode cX7_findRun 93 = .ok (.goto 21, 3) := by decide +kernel
theorem dX7_findRun_96 : decode cX7_findRun 96 = .ok (.aload_n 0, 1) := by decide +kernel
theorem dX7_findRun_97 : decode cX7_findRun 97 = .ok (.getfield 54, 3) := by decide +kernel
theorem dX7_findRun_100 : decode cX7_findRun 100 = .ok (.iload 4, 2) := by decide +kernel
theorem dX7_findRun_102 : decode cX7_findRun 102 = .ok (.iaload, 1) := by decide +kernel
theorem dX7_findRun_103 : decode cX7_findRun 103 = .ok (.iload_n 3, 1) := by decide +kernel
theorem dX7_findRun_104 : decode cX7_findRun 104 = .ok (.iconst 3, 1) := by decide +kernel
theorem dX7_findRun_105 : decode cX7_findRun 105 = .ok (.if_icmp .ge 7, 3) := by decide +kernel
theorem dX7_findRun_108 : decode cX7_findRun 108 = .ok (.iconst 0, 1) := by decide +kernel
theorem dX7_findRun_109 : decode cX7_findRun 109 = .ok (.goto 4, 3) := by decide +kernel
theorem dX7_findRun_112 : decode cX7_findRun 112 = .ok (.iconst 1, 1) := by decide +kernel
theorem dX7_findRun_113 : decode cX7_findRun 113 = .ok (.iadd, 1) := by decide +kernel
theorem dX7_findRun_114 : decode cX7_findRun 114 = .ok (.istore 5, 2) := by decide +kernel
theorem dX7_findRun_116 : decode cX7_findRun 116 = .ok (.iload 5, 2) := by decide +kernel
theorem dX7_findRun_118 : decode cX7_findRun 118 = .ok (.aload_n 0, 1) := by decide +kernel
theorem dX7_findRun_119 : decode cX7_findRun 119 = .ok (.getfield 54, 3) := by decide +kernel
theorem dX7_findRun_122 : decode cX7_findRun 122 = .ok (.iload_n 2, 1) := by decide +kernel
theorem dX7_findRun_123 : decode cX7_findRun 123 = .ok (.iaload, 1) := by decide +kernel
theorem dX7_findRun_124 : decode cX7_findRun 124 = .ok (.if_icmp .ge 13, 3) := by decide +kernel
theorem dX7_findRun_127 : decode cX7_findRun 127 = .ok (.aload_n 0, 1) := by decide +kernel
theorem dX7_findRun_128 : decode cX7_findRun 128 = .ok (.getfield 54, 3) := by decide +kernel
theorem dX7_findRun_131 : decode cX7_findRun 131 = .ok (.iload_n 2, 1) := by decide +kernel
theorem dX7_findRun_132 : decode cX7_findRun 132 = .ok (.iload 5, 2) := by decide +kernel
theorem dX7_findRun_134 : decode cX7_findRun 134 = .ok (.iastore, 1) := by decide +kernel
theorem dX7_findRun_135 : decode cX7_findRun 135 = .ok (.iconst 1, 1) := by decide +kernel
theorem dX7_findRun_136 : decode cX7_findRun 136 = .ok (.istore_n 1, 1) := by decide +kernel
theorem dX7_findRun_137 : decode cX7_findRun 137 = .ok (.iinc 3 1, 3) := by decide +kernel
theorem dX7_findRun_140 : decode cX7_findRun 140 = .ok (.goto (-74), 3) := by decide +kernel
theorem dX7_findRun_143 : decode cX7_findRun 143 = .ok (.iinc 2 (-1), 3) := by decide +kernel
theorem dX7_findRun_146 : decode cX7_findRun 146 = .ok (.goto (-86), 3) := by decide +kernel
theorem dX7_findRun_149 : decode cX7_findRun 149 = .ok (.goto (-102), 3) := by decide +kernel
theorem dX7_findRun_152 : decode cX7_findRun 152 = .ok (.aload_n 0, 1) := by decide +kernel
theorem dX7_findRun_153 : decode cX7_findRun 153 = .ok (.iconst 0, 1) := by decide +kernel
theorem dX7_findRun_154 : decode cX7_findRun 154 = .ok (.putfield 154, 3) := by decide +kernel
theorem dX7_findRun_157 : decode cX7_findRun 157 = .ok (.iconst 0, 1) := by decide +kernel
theorem dX7_findRun_158 : decode cX7_findRun 158 = .ok (.istore_n 2, 1) := by decide +kernel
theorem dX7_findRun_159 : decode cX7_findRun 159 = .ok (.aload_n 0, 1) := by decide +kernel
theorem dX7_findRun_160 : decode cX7_findRun 160 = .ok (.getfield 54, 3) := by decide +kernel
theorem dX7_findRun_163 : decode cX7_findRun 163 = .ok (.iconst 0, 1) := by decide +kernel
theorem dX7_findRun_164 : decode cX7_findRun 164 = .ok (.iaload, 1) := by decide +kernel
theorem dX7_findRun_165 : decode cX7_findRun 165 = .ok (.ldc 153, 2) := by decide +kernel
theorem dX7_findRun_167 : decode cX7_findRun 167 = .ok (.if_icmp .ge 205, 3) := by decide +kernel
theorem dX7_findRun_170 : decode cX7_findRun 170 = .ok (.aload_n 0, 1) := by decide +kernel
theorem dX7_findRun_171 : decode cX7_findRun 171 = .ok (.getfield 51, 3) := by decide +kernel
theorem dX7_findRun_174 : decode cX7_findRun 174 = .ok (.iload_n 2, 1) := by decide +kernel
theorem dX7_findRun_175 : decode cX7_findRun 175 = .ok (.iaload, 1) := by decide +kernel
theorem dX7_findRun_176 : decode cX7_findRun 176 = .ok (.aload_n 0, 1) := by decide +kernel
theorem dX7_findRun_177 : decode cX7_findRun 177 = .ok (.getfield 103, 3) := by decide +kernel
theorem dX7_findRun_180 : decode cX7_findRun 180 = .ok (.if_icmp .ge 192, 3) := by decide +kernel
theorem dX7_findRun_183 : decode cX7_findRun 183 = .ok (.iconst 0, 1) := by decide +kernel
theorem dX7_findRun_184 : decode cX7_findRun 184 = .ok (.istore_n 3, 1) := by decide +kernel
theorem dX7_findRun_185 : decode cX7_findRun 185 = .ok (.aload_n 0, 1) := by decide +kernel
theorem dX7_findRun_186 : decode cX7_findRun 186 = .ok (.getfield 58, 3) := by decide +kernel
theorem dX7_findRun_189 : decode cX7_findRun 189 = .ok (.bipush 9, 2) := by decide +kernel
