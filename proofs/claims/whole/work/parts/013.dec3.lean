theorem dX6_parking_36 : decode cX6_parking 36 = .ok (.bipush (-3), 2) := by decide +kernel
theorem dX6_parking_38 : decode cX6_parking 38 = .ok (.ireturn, 1) := by decide +kernel
theorem dX6_parking_39 : decode cX6_parking 39 = .ok (.aload_n 0, 1) := by decide +kernel
theorem dX6_parking_40 : decode cX6_parking 40 = .ok (.getfield 21, 3) := by decide +kernel
theorem dX6_parking_43 : decode cX6_parking 43 = .ok (.iload_n 1, 1) := by decide +kernel
theorem dX6_parking_44 : decode cX6_parking 44 = .ok (.iload_n 2, 1) := by decide +kernel
theorem dX6_parking_45 : decode cX6_parking 45 = .ok (.invokevirtual 85, 3) := by decide +kernel
theorem dX6_parking_48 : decode cX6_parking 48 = .ok (.ireturn, 1) := by decide +kernel
set_option maxRecDepth 20000 in
theorem ggX6_narrow_X1_refresh : GoodIn wsX6_narrow wsX1_refresh := goodIn_r _ [7, 8, 9, 10, 11, 12, 13, 14, 15, 16, 17, 18, 19, 20, 21, 22, 23, 24, 25, 26, 27, 28, 29, 30, 31, 32, 33, 34, 35, 36, 37, 6, 38, 39, 40, 41, 42, 43, 44, 45, 46, 47, 48, 49, 50, 51, 52, 53, 54, 55, 56, 57, 58, 59, 60, 61, 62, 63, 64, 65, 66, 67, 68, 69, 70, 71, 72, 73, 74, 75, 76, 77, 78, 79, 80, 81, 82, 83, 84, 85, 86, 87, 92, 93, 94, 95, 96, 97, 98, 99, 100, 101, 102, 103, 104, 105, 106, 107, 108] (by decide +kernel) (by decide +kernel)
set_option maxRecDepth 20000 in
theorem gX6_narrow_X1_refresh : GoodIn wsX6_narrow (wsV RX6 79 RX1 yX1_refresh wsX1_refresh) := goodIn_app (goodIn_of _ (by decide +kernel)) ggX6_narrow_X1_refresh
theorem dX6_narrow_0 : decode cX6_narrow 0 = .ok (.aload_n 0, 1) := by decide +kernel
theorem dX6_narrow_1 : decode cX6_narrow 1 = .ok (.getfield 21, 3) := by decide +kernel
theorem dX6_narrow_4 : decode cX6_narrow 4 = .ok (.invokevirtual 79, 3) := by decide +kernel
theorem dX6_narrow_7 : decode cX6_narrow 7 = .ok (.aload_n 0, 1) := by decide +kernel
theorem dX6_narrow_8 : decode cX6_narrow 8 = .ok (.getfield 21, 3) := by decide +kernel
theorem dX6_narrow_11 : decode cX6_narrow 11 = .ok (.getfield 88, 3) := by decide +kernel
theorem dX6_narrow_14 : decode cX6_narrow 14 = .ok (.ireturn, 1) := by decide +kernel
set_option maxRecDepth 20000 in
theorem ggX6_why_X1_refresh : GoodIn wsX6_why wsX1_refresh := goodIn_r _ [9, 10, 11, 12, 13, 14, 15, 16, 17, 18, 19, 20, 21, 22, 23, 24, 25, 26, 27, 28, 29, 30, 31, 32, 33, 34, 35, 36, 37, 38, 39, 8, 40, 41, 42, 43, 44, 45, 46, 47, 48, 49, 50, 51, 52, 53, 54, 55, 56, 57, 58, 59, 60, 61, 62, 63, 64, 65, 66, 67, 68, 69, 70, 71, 72, 73, 74, 75, 76, 77, 78, 79, 80, 81, 82, 83, 84, 85, 86, 87, 88, 89, 100, 101, 102, 103, 104, 105, 106, 107, 108, 109, 110, 111, 112, 113, 114, 115, 116] (by decide +kernel) (by decide +kernel)
set_option maxRecDepth 20000 in
theorem gX6_why_X1_refresh : GoodIn wsX6_why (wsV RX6 79 RX1 yX1_refresh wsX1_refresh) := goodIn_app (goodIn_of _ (by decide +kernel)) ggX6_why_X1_refresh
set_option maxRecDepth 20000 in
theorem ggX6_why_X0_hasEnough : GoodIn wsX6_why wsX0_hasEnough := goodIn_r _ [20, 21, 22, 23, 19, 24, 25, 26, 27, 28, 29, 30, 31, 32, 33, 34, 35, 36, 106, 107, 108, 109, 110, 111, 112, 113, 114, 115, 116] (by decide +kernel) (by decide +kernel)
set_option maxRecDepth 20000 in
theorem gX6_why_X0_hasEnough : GoodIn wsX6_why (wsV RX6 91 RX0 yX0_hasEnough wsX0_hasEnough) := goodIn_app (goodIn_of _ (by decide +kernel)) ggX6_why_X0_hasEnough
set_option maxRecDepth 20000 in
theorem ggX6_why_X0_room : GoodIn wsX6_why wsX0_room := goodIn_r _ [94, 95, 106, 107, 108, 109, 110, 111, 112, 113, 114, 115, 116] (by decide +kernel) (by decide +kernel)
set_option maxRecDepth 20000 in
theorem gX6_why_X0_room : GoodIn wsX6_why (wsV RX6 94 RX0 yX0_room wsX0_room) := goodIn_app (goodIn_of _ (by decide +kernel)) ggX6_why_X0_room
theorem dX6_why_0 : decode cX6_why 0 = .ok (.aload_n 0, 1) := by decide +kernel
theorem dX6_why_1 : decode cX6_why 1 = .ok (.getfield 21, 3) := by decide +kernel
theorem dX6_why_4 : decode cX6_why 4 = .ok (.invokevirtual 79, 3) := by decide +kernel
theorem dX6_why_7 : decode cX6_why 7 = .ok (.aload_n 0, 1) := by decide +kernel
theorem dX6_why_8 : decode cX6_why 8 = .ok (.getfield 21, 3) := by decide +kernel
theorem dX6_why_11 : decode cX6_why 11 = .ok (.getfield 82, 3) := by decide +kernel
theorem dX6_why_14 : decode cX6_why 14 = .ok (.ifCond .le 5, 3) := by decide +kernel
theorem dX6_why_17 : decode cX6_why 17 = .ok (.iconst 0, 1) := by decide +kernel
theorem dX6_why_18 : decode cX6_why 18 = .ok (.ireturn, 1) := by decide +kernel
theorem dX6_why_19 : decode cX6_why 19 = .ok (.aload_n 0, 1) := by decide +kernel
theorem dX6_why_20 : decode cX6_why 20 = .ok (.getfield 10, 3) := by decide +kernel
theorem dX6_why_23 : decode cX6_why 23 = .ok (.aload_n 0, 1) := by decide +kernel
theorem dX6_why_24 : decode cX6_why 24 = .ok (.getfield 10, 3) := by decide +kernel
theorem dX6_why_27 : decode cX6_why 27 = .ok (.getfield 46, 3) := by decide +kernel
theorem dX6_why_30 : decode cX6_why 30 = .ok (.invokevirtual 91, 3) := by decide +kernel
theorem dX6_why_33 : decode cX6_why 33 = .ok (.ifCond .ne 5, 3) := by decide +kernel
theorem dX6_why_36 : decode cX6_why 36 = .ok (.iconst 1, 1) := by decide +kernel
theorem dX6_why_37 : decode cX6_why 37 = .ok (.ireturn, 1) := by decide +kernel
theorem dX6_why_38 : decode cX6_why 38 = .ok (.aload_n 0, 1) := by decide +kernel
theorem dX6_why_39 : decode cX6_why 39 = .ok (.getfield 10, 3) := by decide +kernel
theorem dX6_why_42 : decode cX6_why 42 = .ok (.getfield 46, 3) := by decide +kernel
theorem dX6_why_45 : decode cX6_why 45 = .ok (.aload_n 0, 1) := by decide +kernel
theorem dX6_why_46 : decode cX6_why 46 = .ok (.getfield 10, 3) := by decide +kernel
theorem dX6_why_49 : decode cX6_why 49 = .ok (.invokevirtual 94, 3) := by decide +kernel
theorem dX6_why_52 : decode cX6_why 52 = .ok (.if_icmp .le 7, 3) := by decide +kernel
theorem dX6_why_55 : decode cX6_why 55 = .ok (.iconst 2, 1) := by decide +kernel
theorem dX6_why_56 : decode cX6_why 56 = .ok (.goto 4, 3) := by decide +kernel
theorem dX6_why_59 : decode cX6_why 59 = .ok (.iconst 3, 1) := by decide +kernel
theorem dX6_why_60 : decode cX6_why 60 = .ok (.ireturn, 1) := by decide +kernel
set_option maxRecDepth 20000 in
theorem ggX6_park_X6_isTrack : GoodIn wsX6_park wsX6_isTrack := goodIn_r _ [8] (by decide +kernel) (by decide +kernel)
set_option maxRecDepth 20000 in
theorem gX6_park_X6_isTrack : GoodIn wsX6_park (va_wsS RX6 61 yX6_isTrack wsX6_isTrack) := goodIn_app (goodIn_of _ (by decide +kernel)) ggX6_park_X6_isTrack
set_option maxRecDepth 20000 in
theorem ggX6_park_X0_standingOn : GoodIn wsX6_park wsX0_standingOn := goodIn_r _ [13, 14, 15, 25, 26, 27, 28, 29, 30, 31, 32, 33, 34, 35] (by decide +kernel) (by decide +kernel)
set_option maxRecDepth 20000 in
theorem gX6_park_X0_standingOn : GoodIn wsX6_park (wsV RX6 100 RX0 yX0_standingOn wsX0_standingOn) := goodIn_app (goodIn_of _ (by decide +kernel)) ggX6_park_X0_standingOn
set_option maxRecDepth 20000 in
theorem ggX6_park_X0_parkNext : GoodIn wsX6_park wsX0_parkNext := goodIn_r _ [19, 14, 15, 20, 25, 26, 27, 28, 29, 30, 31, 32, 33, 34, 35] (by decide +kernel) (by decide +kernel)
set_option maxRecDepth 20000 in
theorem gX6_park_X0_parkNext : GoodIn wsX6_park (wsV RX6 107 RX0 yX0_parkNext wsX0_parkNext) := goodIn_app (goodIn_of _ (by decide +kernel)) ggX6_park_X0_parkNext
theorem dX6_park_0 : decode cX6_park 0 = .ok (.iload_n 1, 1) := by decide +kernel
theorem dX6_park_1 : decode cX6_park 1 = .ok (.invokestatic 61, 3) := by decide +kernel
theorem dX6_park_4 : decode cX6_park 4 = .ok (.ifCond .ne 6, 3) := by decide +kernel
theorem dX6_park_7 : decode cX6_park 7 = .ok (.bipush (-2), 2) := by decide +kernel
theorem dX6_park_9 : decode cX6_park 9 = .ok (.ireturn, 1) := by decide +kernel
theorem dX6_park_10 : decode cX6_park 10 = .ok (.aload_n 0, 1) := by decide +kernel
theorem dX6_park_11 : decode cX6_park 11 = .ok (.getfield 10, 3) := by decide +kernel
theorem dX6_park_14 : decode cX6_park 14 = .ok (.getfield 97, 3) := by decide +kernel
theorem dX6_park_17 : decode cX6_park 17 = .ok (.aload_n 0, 1) := by decide +kernel
theorem dX6_park_18 : decode cX6_park 18 = .ok (.getfield 10, 3) := by decide +kernel
theorem dX6_park_21 : decode cX6_park 21 = .ok (.getfield 46, 3) := by decide +kernel
theorem dX6_park_24 : decode cX6_park 24 = .ok (.if_icmp .lt 6, 3) := by decide +kernel
theorem dX6_park_27 : decode cX6_park 27 = .ok (.bipush (-4), 2) := by decide +kernel
theorem dX6_park_29 : decode cX6_park 29 = .ok (.ireturn, 1) := by decide +kernel
theorem dX6_park_30 : decode cX6_park 30 = .ok (.aload_n 0, 1) := by decide +kernel
theorem dX6_park_31 : decode cX6_park 31 = .ok (.getfield 10, 3) := by decide +kernel
theorem dX6_park_34 : decode cX6_park 34 = .ok (.iload_n 1, 1) := by decide +kernel
theorem dX6_park_35 : decode cX6_park 35 = .ok (.invokevirtual 100, 3) := by decide +kernel
theorem dX6_park_38 : decode cX6_park 38 = .ok (.aload_n 0, 1) := by decide +kernel
theorem dX6_park_39 : decode cX6_park 39 = .ok (.getfield 10, 3) := by decide +kernel
theorem dX6_park_42 : decode cX6_park 42 = .ok (.getfield 103, 3) := by decide +kernel
theorem dX6_park_45 : decode cX6_park 45 = .ok (.iload_n 1, 1) := by decide +kernel
theorem dX6_park_46 : decode cX6_park 46 = .ok (.iaload, 1) := by decide +kernel
theorem dX6_park_47 : decode cX6_park 47 = .ok (.if_icmp .lt 6, 3) := by decide +kernel
theorem dX6_park_50 : decode cX6_park 50 = .ok (.bipush (-5), 2) := by decide +kernel
theorem dX6_park_52 : decode cX6_park 52 = .ok (.ireturn, 1) := by decide +kernel
theorem dX6_park_53 : decode cX6_park 53 = .ok (.aload_n 0, 1) := by decide +kernel
theorem dX6_park_54 : decode cX6_park 54 = .ok (.getfield 10, 3) := by decide +kernel
theorem dX6_park_57 : decode cX6_park 57 = .ok (.iload_n 1, 1) := by decide +kernel
theorem dX6_park_58 : decode cX6_park 58 = .ok (.invokevirtual 107, 3) := by decide +kernel
theorem dX6_park_61 : decode cX6_park 61 = .ok (.ireturn, 1) := by decide +kernel
set_option maxRecDepth 20000 in
theorem ggX6_clear_X0_unparkAll : GoodIn wsX6_clear wsX0_unparkAll := goodIn_r _ [6, 7, 8, 13, 14, 15, 16, 17, 18, 19, 20, 21, 22, 23] (by decide +kernel) (by decide +kernel)
set_option maxRecDepth 20000 in
theorem gX6_clear_X0_unparkAll : GoodIn wsX6_clear (wsV RX6 110 RX0 yX0_unparkAll wsX0_unparkAll) := goodIn_app (goodIn_of _ (by decide +kernel)) ggX6_clear_X0_unparkAll
theorem dX6_clear_0 : decode cX6_clear 0 = .ok (.aload_n 0, 1) := by decide +kernel
theorem dX6_clear_1 : decode cX6_clear 1 = .ok (.getfield 10, 3) := by decide +kernel
theorem dX6_clear_4 : decode cX6_clear 4 = .ok (.invokevirtual 110, 3) := by decide +kernel
theorem dX6_clear_7 : decode cX6_clear 7 = .ok (.ireturn, 1) := by decide +kernel
set_option maxRecDepth 20000 in
theorem ggX6_at_X6_isTrack : GoodIn wsX6_at wsX6_isTrack := goodIn_r _ [5] (by decide +kernel) (by decide +kernel)
set_option maxRecDepth 20000 in
theorem gX6_at_X6_isTrack : GoodIn wsX6_at (va_wsS RX6 61 yX6_isTrack wsX6_isTrack) := goodIn_app (goodIn_of _ (by decide +kernel)) ggX6_at_X6_isTrack
set_option maxRecDepth 20000 in
theorem ggX6_at_X0_fromLast : GoodIn wsX6_at wsX0_fromLast := goodIn_r _ [10, 11, 12, 17, 18, 19, 20, 21, 22, 23, 24, 25, 26, 27] (by decide +kernel) (by decide +kernel)
set_option maxRecDepth 20000 in
theorem gX6_at_X0_fromLast : GoodIn wsX6_at (wsV RX6 113 RX0 yX0_fromLast wsX0_fromLast) := goodIn_app (goodIn_of _ (by decide +kernel)) ggX6_at_X0_fromLast
theorem dX6_at_0 : decode cX6_at 0 = .ok (.iload_n 1, 1) := by decide +kernel
theorem dX6_at_1 : decode cX6_at 1 = .ok (.invokestatic 61, 3) := by decide +kernel
theorem dX6_at_4 : decode cX6_at 4 = .ok (.ifCond .ne 6, 3) := by decide +kernel
theorem dX6_at_7 : decode cX6_at 7 = .ok (.bipush (-2), 2) := by decide +kernel
theorem dX6_at_9 : decode cX6_at 9 = .ok (.ireturn, 1) := by decide +kernel
theorem dX6_at_10 : decode cX6_at 10 = .ok (.iload_n 2, 1) := by decide +kernel
theorem dX6_at_11 : decode cX6_at 11 = .ok (.ifCond .ge 6, 3) := by decide +kernel
theorem dX6_at_14 : decode cX6_at 14 = .ok (.bipush (-3), 2) := by decide +kernel
theorem dX6_at_16 : decode cX6_at 16 = .ok (.ireturn, 1) := by decide +kernel
theorem dX6_at_17 : decode cX6_at 17 = .ok (.aload_n 0, 1) := by decide +kernel
theorem dX6_at_18 : decode cX6_at 18 = .ok (.getfield 10, 3) := by decide +kernel
theorem dX6_at_21 : decode cX6_at 21 = .ok (.iload_n 1, 1) := by decide +kernel
theorem dX6_at_22 : decode cX6_at 22 = .ok (.iload_n 2, 1) := by decide +kernel
theorem dX6_at_23 : decode cX6_at 23 = .ok (.invokevirtual 113, 3) := by decide +kernel
theorem dX6_at_26 : decode cX6_at 26 = .ok (.ireturn, 1) := by decide +kernel
set_option maxRecDepth 20000 in
theorem ggX6_shunts_X3_refresh : GoodIn wsX6_shunts wsX3_refresh := goodIn_r _ [7, 8, 9, 10, 11, 12, 13, 14, 15, 16, 17, 18, 19, 20, 21, 22, 23, 24, 25, 26, 27, 28, 29, 30, 31, 32, 33, 34, 35, 36, 37, 38, 39, 40, 41, 42, 43, 44, 45, 46, 47, 48, 49, 50, 51, 52, 53, 54, 55, 56, 57, 6, 58, 59, 60, 61, 62, 63, 64, 65, 66, 67, 68, 69, 70, 71, 72, 73, 74, 75, 76, 77, 78, 79, 80, 81, 82, 83, 84, 85, 86, 87, 88, 89, 90, 91, 92, 93, 94, 95, 96, 97, 98, 99, 100, 101, 102, 103, 104, 105, 106, 107, 108, 109, 110, 111, 112, 113, 114, 115, 116, 117, 118, 119, 120, 121, 122, 123, 124, 125, 126, 127, 128, 129, 130, 131, 132, 133, 134, 135, 136, 137, 138, 139, 140, 141, 142, 143, 144, 145, 146, 151, 152, 153, 154, 155, 156, 157, 158, 159, 160, 161, 162, 163, 164, 165, 166, 167, 168, 169, 170, 171, 172, 173, 174] (by decide +kernel) (by decide +kernel)
set_option maxRecDepth 20000 in
theorem gX6_shunts_X3_refresh : GoodIn wsX6_shunts (wsV RX6 116 RX3 yX3_refresh wsX3_refresh) := goodIn_app (goodIn_of _ (by decide +kernel)) ggX6_shunts_X3_refresh
theorem dX6_shunts_0 : decode cX6_shunts 0 = .ok (.aload_n 0, 1) := by decide +kernel
theorem dX6_shunts_1 : decode cX6_shunts 1 = .ok (.getfield 28, 3) := by decide +kernel
theorem dX6_shunts_4 : decode cX6_shunts 4 = .ok (.invokevirtual 116, 3) := by decide +kernel
theorem dX6_shunts_7 : decode cX6_shunts 7 = .ok (.aload_n 0, 1) := by decide +kernel
theorem dX6_shunts_8 : decode cX6_shunts 8 = .ok (.getfield 28, 3) := by decide +kernel
theorem dX6_shunts_11 : decode cX6_shunts 11 = .ok (.getfield 117, 3) := by decide +kernel
theorem dX6_shunts_14 : decode cX6_shunts 14 = .ok (.ireturn, 1) := by decide +kernel
set_option maxRecDepth 20000 in
theorem ggX6_step_X3_refresh : GoodIn wsX6_step wsX3_refresh := goodIn_r _ [6, 7, 8, 9, 10, 11, 12, 13, 14, 15, 16, 17, 18, 19, 20, 21, 22, 23, 24, 25, 26, 27, 28, 29, 30, 31, 32, 33, 34, 35, 36, 37, 38, 39, 40, 41, 42, 43, 44, 45, 46, 47, 48, 49, 50, 51, 52, 53, 54, 55, 56, 5, 57, 58, 59, 60, 61, 62, 63, 64, 65, 66, 67, 68, 69, 70, 71, 72, 73, 74, 75, 76, 77, 78, 79, 80, 81, 82, 83, 84, 85, 86, 87, 88, 89, 90, 91, 92, 93, 94, 95, 96, 97, 98, 99, 100, 101, 102, 103, 104, 105, 106, 107, 108, 109, 110, 111, 112, 113, 114, 115, 116, 117, 118, 119, 120, 121, 122, 123, 124, 125, 126, 127, 128, 129, 130, 131, 132, 133, 134, 135, 136, 137, 138, 139, 140, 141, 142, 143, 144, 145, 154, 155, 156, 157, 158, 159, 160, 161, 162, 163, 164, 165, 166, 167, 168, 169, 170, 171, 172, 173, 174, 175, 176, 177] (by decide +kernel) (by decide +kernel)
set_option maxRecDepth 20000 in
theorem gX6_step_X3_refresh : GoodIn wsX6_step (wsV RX6 116 RX3 yX3_refresh wsX3_refresh) := goodIn_app (goodIn_of _ (by decide +kernel)) ggX6_step_X3_refresh
set_option maxRecDepth 20000 in
theorem ggX6_step_X3_stepNumber : GoodIn wsX6_step wsX3_stepNumber := goodIn_r _ [149, 10, 16, 154, 155, 156, 157, 158, 159] (by decide +kernel) (by decide +kernel)
set_option maxRecDepth 20000 in
theorem gX6_step_X3_stepNumber : GoodIn wsX6_step (wsV RX6 120 RX3 yX3_stepNumber wsX3_stepNumber) := goodIn_app (goodIn_of _ (by decide +kernel)) ggX6_step_X3_stepNumber
theorem dX6_step_0 : decode cX6_step 0 = .ok (.iload_n 1, 1) := by decide +kernel
theorem dX6_step_1 : decode cX6_step 1 = .ok (.ifCond .ge 6, 3) := by decide +kernel
theorem dX6_step_4 : decode cX6_step 4 = .ok (.bipush (-3), 2) := by decide +kernel
theorem dX6_step_6 : decode cX6_step 6 = .ok (.ireturn, 1) := by decide +kernel
theorem dX6_step_7 : decode cX6_step 7 = .ok (.aload_n 0, 1) := by decide +kernel
theorem dX6_step_8 : decode cX6_step 8 = .ok (.getfield 28, 3) := by decide +kernel
theorem dX6_step_11 : decode cX6_step 11 = .ok (.invokevirtual 116, 3) := by decide +kernel
theorem dX6_step_14 : decode cX6_step 14 = .ok (.aload_n 0, 1) := by decide +kernel
theorem dX6_step_15 : decode cX6_step 15 = .ok (.getfield 28, 3) := by decide +kernel
theorem dX6_step_18 : decode cX6_step 18 = .ok (.iload_n 1, 1) := by decide +kernel
theorem dX6_step_19 : decode cX6_step 19 = .ok (.invokevirtual 120, 3) := by decide +kernel
theorem dX6_step_22 : decode cX6_step 22 = .ok (.ireturn, 1) := by decide +kernel
set_option maxRecDepth 20000 in
theorem ggX6_leaves_X3_refresh : GoodIn wsX6_leaves wsX3_refresh := goodIn_r _ [6, 7, 8, 9, 10, 11, 12, 13, 14, 15, 16, 17, 18, 19, 20, 21, 22, 23, 24, 25, 26, 27, 28, 29, 30, 31, 32, 33, 34, 35, 36, 37, 38, 39, 40, 41, 42, 43, 44, 45, 46, 47, 48, 49, 50, 51, 52, 53, 54, 55, 56, 5, 57, 58, 59, 60, 61, 62, 63, 64, 65, 66, 67, 68, 69, 70, 71, 72, 73, 74, 75, 76, 77, 78, 79, 80, 81, 82, 83, 84, 85, 86, 87, 88, 89, 90, 91, 92, 93, 94, 95, 96, 97, 98, 99, 100, 101, 102, 103, 104, 105, 106, 107, 108, 109, 110, 111, 112, 113, 114, 115, 116, 117, 118, 119, 120, 121, 122, 123, 124, 125, 126, 127, 128, 129, 130, 131, 132, 133, 134, 135, 136, 137, 138, 139, 140, 141, 142, 143, 144, 145, 154, 155, 156, 157, 158, 159, 160, 161, 162, 163, 164, 165, 166, 167, 168, 169, 170, 171, 172, 173, 174, 175, 176, 177] (by decide +kernel) (by decide +kernel)
set_option maxRecDepth 20000 in
theorem gX6_leaves_X3_refresh : GoodIn wsX6_leaves (wsV RX6 116 RX3 yX3_refresh wsX3_refresh) := goodIn_app (goodIn_of _ (by decide +kernel)) ggX6_leaves_X3_refresh
set_option maxRecDepth 20000 in
theorem ggX6_leaves_X3_leaver : GoodIn wsX6_leaves wsX3_leaver := goodIn_r _ [149, 10, 8, 17, 142, 154, 155, 156, 157, 158, 159, 160, 161, 162, 163, 164, 165, 166, 167, 168, 169, 170] (by decide +kernel) (by decide +kernel)
set_option maxRecDepth 20000 in
theorem gX6_leaves_X3_leaver : GoodIn wsX6_leaves (wsV RX6 123 RX3 yX3_leaver wsX3_leaver) := goodIn_app (goodIn_of _ (by decide +kernel)) ggX6_leaves_X3_leaver
theorem dX6_leaves_0 : decode cX6_leaves 0 = .ok (.iload_n 1, 1) := by decide +kernel
theorem dX6_leaves_1 : decode cX6_leaves 1 = .ok (.ifCond .ge 6, 3) := by decide +kernel
theorem dX6_leaves_4 : decode cX6_leaves 4 = .ok (.bipush (-3), 2) := by decide +kernel
theorem dX6_leaves_6 : decode cX6_leaves 6 = .ok (.ireturn, 1) := by decide +kernel
theorem dX6_leaves_7 : decode cX6_leaves 7 = .ok (.aload_n 0, 1) := by decide +kernel
theorem dX6_leaves_8 : decode cX6_leaves 8 = .ok (.getfield 28, 3) := by decide +kernel
theorem dX6_leaves_11 : decode cX6_leaves 11 = .ok (.invokevirtual 116, 3) := by decide +kernel
theorem dX6_leaves_14 : decode cX6_leaves 14 = .ok (.aload_n 0, 1) := by decide +kernel
theorem dX6_leaves_15 : decode cX6_leaves 15 = .ok (.getfield 28, 3) := by decide +kernel
theorem dX6_leaves_18 : decode cX6_leaves 18 = .ok (.iload_n 1, 1) := by decide +kernel
theorem dX6_leaves_19 : decode cX6_leaves 19 = .ok (.invokevirtual 123, 3) := by decide +kernel
theorem dX6_leaves_22 : decode cX6_leaves 22 = .ok (.ireturn, 1) := by decide +kernel
set_option maxRecDepth 20000 in
theorem ggX6_ready_X0_hasUnit : GoodIn wsX6_ready wsX0_hasUnit := goodIn_r _ [8, 9, 54, 55, 56, 57, 58, 59, 60, 61, 62, 63, 64] (by decide +kernel) (by decide +kernel)
set_option maxRecDepth 20000 in
theorem gX6_ready_X0_hasUnit : GoodIn wsX6_ready (wsV RX6 54 RX0 yX0_hasUnit wsX0_hasUnit) := goodIn_app (goodIn_of _ (by decide +kernel)) ggX6_ready_X0_hasUnit
set_option maxRecDepth 20000 in
theorem ggX6_ready_X5_refresh : GoodIn wsX6_ready wsX5_refresh := goodIn_r _ [14, 15, 16, 17, 18, 19, 20, 21, 22, 23, 24, 25, 13, 26, 27, 28, 29, 30, 31, 32, 33, 34, 35, 36, 37, 38, 39, 40, 41, 46, 47, 48, 49, 50, 51, 52, 53, 54, 55, 56, 57, 58, 59, 60, 61, 62, 63, 64] (by decide +kernel) (by decide +kernel)
set_option maxRecDepth 20000 in
theorem gX6_ready_X5_refresh : GoodIn wsX6_ready (wsV RX6 126 RX5 yX5_refresh wsX5_refresh) := goodIn_app (goodIn_of _ (by decide +kernel)) ggX6_ready_X5_refresh
theorem dX6_ready_0 : decode cX6_ready 0 = .ok (.aload_n 0, 1) := by decide +kernel
theorem dX6_ready_1 : decode cX6_ready 1 = .ok (.getfield 10, 3) := by decide +kernel
theorem dX6_ready_4 : decode cX6_ready 4 = .ok (.iload_n 1, 1) := by decide +kernel
theorem dX6_ready_5 : decode cX6_ready 5 = .ok (.invokevirtual 54, 3) := by decide +kernel
theorem dX6_ready_8 : decode cX6_ready 8 = .ok (.ifCond .ne 6, 3) := by decide +kernel
theorem dX6_ready_11 : decode cX6_ready 11 = .ok (.bipush (-2), 2) := by decide +kernel
theorem dX6_ready_13 : decode cX6_ready 13 = .ok (.ireturn, 1) := by decide +kernel
theorem dX6_ready_14 : decode cX6_ready 14 = .ok (.aload_n 0, 1) := by decide +kernel
theorem dX6_ready_15 : decode cX6_ready 15 = .ok (.getfield 35, 3) := by decide +kernel
theorem dX6_ready_18 : decode cX6_ready 18 = .ok (.invokevirtual 126, 3) := by decide +kernel
theorem dX6_ready_21 : decode cX6_ready 21 = .ok (.aload_n 0, 1) := by decide +kernel
theorem dX6_ready_22 : decode cX6_ready 22 = .ok (.getfield 35, 3) := by decide +kernel
theorem dX6_ready_25 : decode cX6_ready 25 = .ok (.getfield 127, 3) := by decide +kernel
theorem dX6_ready_28 : decode cX6_ready 28 = .ok (.iload_n 1, 1) := by decide +kernel
theorem dX6_ready_29 : decode cX6_ready 29 = .ok (.iaload, 1) := by decide +kernel
theorem dX6_ready_30 : decode cX6_ready 30 = .ok (.ireturn, 1) := by decide +kernel
set_option maxRecDepth 20000 in
theorem ggX6_ends_X5_refresh : GoodIn wsX6_ends wsX5_refresh := goodIn_r _ [7, 8, 9, 10, 11, 12, 13, 14, 15, 16, 17, 18, 6, 19, 20, 21, 22, 23, 24, 25, 26, 27, 28, 29, 30, 31, 32, 33, 34, 39, 40, 41, 42, 43, 44, 45, 46, 47, 48, 49, 50, 51, 52, 53, 54, 55, 56, 57] (by decide +kernel) (by decide +kernel)
set_option maxRecDepth 20000 in
theorem gX6_ends_X5_refresh : GoodIn wsX6_ends (wsV RX6 126 RX5 yX5_refresh wsX5_refresh) := goodIn_app (goodIn_of _ (by decide +kernel)) ggX6_ends_X5_refresh
theorem dX6_ends_0 : decode cX6_ends 0 = .ok (.aload_n 0, 1) := by decide +kernel
theorem dX6_ends_1 : decode cX6_ends 1 = .ok (.getfield 35, 3) := by decide +kernel
theorem dX6_ends_4 : decode cX6_ends 4 = .ok (.invokevirtual 126, 3) := by decide +kernel
theorem dX6_ends_7 : decode cX6_ends 7 = .ok (.aload_n 0, 1) := by decide +kernel
theorem dX6_ends_8 : decode cX6_ends 8 = .ok (.getfield 35, 3) := by decide +kernel
theorem dX6_ends_11 : decode cX6_ends 11 = .ok (.getfield 130, 3) := by decide +kernel
theorem dX6_ends_14 : decode cX6_ends 14 = .ok (.ireturn, 1) := by decide +kernel
set_option maxRecDepth 20000 in
theorem ggX6_best_X5_refresh : GoodIn wsX6_best wsX5_refresh := goodIn_r _ [10, 11, 12, 13, 14, 15, 16, 17, 18, 19, 20, 21, 9, 22, 23, 24, 25, 26, 27, 28, 29, 30, 31, 32, 33, 34, 35, 36, 37, 53, 54, 55, 56, 57, 58, 59, 60, 42, 43, 44, 45, 46, 47, 48, 49, 50, 51, 52] (by decide +kernel) (by decide +kernel)
set_option maxRecDepth 20000 in
theorem gX6_best_X5_refresh : GoodIn wsX6_best (wsV RX6 126 RX5 yX5_refresh wsX5_refresh) := goodIn_app (goodIn_of _ (by decide +kernel)) ggX6_best_X5_refresh
theorem dX6_best_0 : decode cX6_best 0 = .ok (.iload_n 1, 1) := by decide +kernel
theorem dX6_best_1 : decode cX6_best 1 = .ok (.ifCond .lt 23, 3) := by decide +kernel
theorem dX6_best_4 : decode cX6_best 4 = .ok (.iload_n 1, 1) := by decide +kernel
theorem dX6_best_5 : decode cX6_best 5 = .ok (.aload_n 0, 1) := by decide +kernel
theorem dX6_best_6 : decode cX6_best 6 = .ok (.getfield 10, 3) := by decide +kernel
theorem dX6_best_9 : decode cX6_best 9 = .ok (.getfield 46, 3) := by decide +kernel
theorem dX6_best_12 : decode cX6_best 12 = .ok (.if_icmp .ge 12, 3) := by decide +kernel
theorem dX6_best_15 : decode cX6_best 15 = .ok (.iload_n 2, 1) := by decide +kernel
theorem dX6_best_16 : decode cX6_best 16 = .ok (.ifCond .lt 8, 3) := by decide +kernel
theorem dX6_best_19 : decode cX6_best 19 = .ok (.iload_n 2, 1) := by decide +kernel
theorem dX6_best_20 : decode cX6_best 20 = .ok (.iconst 1, 1) := by decide +kernel
theorem dX6_best_21 : decode cX6_best 21 = .ok (.if_icmp .le 6, 3) := by decide +kernel
theorem dX6_best_24 : decode cX6_best 24 = .ok (.bipush (-3), 2) := by decide +kernel
theorem dX6_best_26 : decode cX6_best 26 = .ok (.ireturn, 1) := by decide +kernel
theorem dX6_best_27 : decode cX6_best 27 = .ok (.aload_n 0, 1) := by decide +kernel
theorem dX6_best_28 : decode cX6_best 28 = .ok (.getfield 35, 3) := by decide +kernel
theorem dX6_best_31 : decode cX6_best 31 = .ok (.invokevirtual 126, 3) := by decide +kernel
theorem dX6_best_34 : decode cX6_best 34 = .ok (.aload_n 0, 1) := by decide +kernel
theorem dX6_best_35 : decode cX6_best 35 = .ok (.getfield 35, 3) := by decide +kernel
theorem dX6_best_38 : decode cX6_best 38 = .ok (.getfield 133, 3) := by decide +kernel
theorem dX6_best_41 : decode cX6_best 41 = .ok (.iload_n 1, 1) := by decide +kernel
theorem dX6_best_42 : decode cX6_best 42 = .ok (.iaload, 1) := by decide +kernel
theorem dX6_best_43 : decode cX6_best 43 = .ok (.istore_n 3, 1) := by decide +kernel
theorem dX6_best_44 : decode cX6_best 44 = .ok (.iload_n 2, 1) := by decide +kernel
theorem dX6_best_45 : decode cX6_best 45 = .ok (.ifCond .ne 7, 3) := by decide +kernel
theorem dX6_best_48 : decode cX6_best 48 = .ok (.iload_n 3, 1) := by decide +kernel
theorem dX6_best_49 : decode cX6_best 49 = .ok (.goto 12, 3) := by decide +kernel
theorem dX6_best_52 : decode cX6_best 52 = .ok (.aload_n 0, 1) := by decide +kernel
theorem dX6_best_53 : decode cX6_best 53 = .ok (.getfield 35, 3) := by decide +kernel
theorem dX6_best_56 : decode cX6_best 56 = .ok (.getfield 136, 3) := by decide +kernel
theorem dX6_best_59 : decode cX6_best 59 = .ok (.iload_n 3, 1) := by decide +kernel
theorem dX6_best_60 : decode cX6_best 60 = .ok (.iaload, 1) := by decide +kernel
theorem dX6_best_61 : decode cX6_best 61 = .ok (.ireturn, 1) := by decide +kernel
set_option maxRecDepth 20000 in
theorem ggX6_late_X3_refresh : GoodIn wsX6_late wsX3_refresh := goodIn_r _ [10, 11, 12, 13, 14, 15, 16, 17, 18, 19, 20, 21, 22, 23, 24, 25, 26, 27, 28, 29, 30, 31, 32, 33, 34, 35, 36, 37, 38, 39, 40, 41, 42, 43, 44, 45, 46, 47, 48, 49, 50, 51, 52, 53, 54, 55, 56, 57, 58, 59, 60, 9, 61, 62, 63, 64, 65, 66, 67, 68, 69, 70, 71, 72, 73, 74, 75, 76, 77, 78, 79, 80, 81, 82, 83, 84, 85, 86, 87, 88, 89, 90, 91, 92, 93, 94, 95, 96, 97, 98, 99, 100, 101, 102, 103, 104, 105, 106, 107, 108, 109, 110, 111, 112, 113, 114, 115, 116, 117, 118, 119, 120, 121, 122, 123, 124, 125, 126, 127, 128, 129, 130, 131, 132, 133, 134, 135, 136, 137, 138, 139, 140, 141, 142, 143, 144, 145, 146, 147, 148, 149, 202, 203, 204, 205, 206, 207, 216, 217, 218, 219, 220, 221, 222, 223, 224, 225, 226, 227, 228, 229, 230, 231, 232, 233] (by decide +kernel) (by decide +kernel)
set_option maxRecDepth 20000 in
theorem gX6_late_X3_refresh : GoodIn wsX6_late (wsV RX6 116 RX3 yX3_refresh wsX3_refresh) := goodIn_app (goodIn_of _ (by decide +kernel)) ggX6_late_X3_refresh
set_option maxRecDepth 20000 in
theorem ggX6_late_X5_refresh : GoodIn wsX6_late wsX5_refresh := goodIn_r _ [154, 155, 156, 157, 158, 159, 160, 161, 162, 163, 164, 165, 153, 166, 167, 168, 169, 170, 171, 172, 173, 174, 175, 176, 177, 178, 179, 180, 181, 208, 209, 210, 211, 212, 213, 214, 215, 216, 217, 218, 219, 220, 221, 222, 223, 224, 225, 226] (by decide +kernel) (by decide +kernel)
set_option maxRecDepth 20000 in
theorem gX6_late_X5_refresh : GoodIn wsX6_late (wsV RX6 126 RX5 yX5_refresh wsX5_refresh) := goodIn_app (goodIn_of _ (by decide +kernel)) ggX6_late_X5_refresh
set_option maxRecDepth 20000 in
theorem ggX6_late_X6_lateBits : GoodIn wsX6_late wsX6_lateBits := goodIn_r _ [186, 187, 188, 1, 189, 190, 191, 9, 192, 14, 12, 21, 146, 193, 194, 195, 25, 196, 197, 198, 199, 200, 201, 216, 217, 218, 219, 220, 221, 222, 223, 224, 225, 226, 202, 203, 204, 205, 206, 207] (by decide +kernel) (by decide +kernel)
set_option maxRecDepth 20000 in
theorem gX6_late_X6_lateBits : GoodIn wsX6_late (wsV RX6 139 RX6 yX6_lateBits wsX6_lateBits) := goodIn_app (goodIn_of _ (by decide +kernel)) ggX6_late_X6_lateBits
theorem dX6_late_0 : decode cX6_late 0 = .ok (.iload_n 1, 1) := by decide +kernel
theorem dX6_late_1 : decode cX6_late 1 = .ok (.ifCond .lt 19, 3) := by decide +kernel
theorem dX6_late_4 : decode cX6_late 4 = .ok (.iload_n 1, 1) := by decide +kernel
theorem dX6_late_5 : decode cX6_late 5 = .ok (.iconst 1, 1) := by decide +kernel
theorem dX6_late_6 : decode cX6_late 6 = .ok (.if_icmp .gt 14, 3) := by decide +kernel
theorem dX6_late_9 : decode cX6_late 9 = .ok (.iload_n 2, 1) := by decide +kernel
theorem dX6_late_10 : decode cX6_late 10 = .ok (.ifCond .lt 10, 3) := by decide +kernel
theorem dX6_late_13 : decode cX6_late 13 = .ok (.iload_n 2, 1) := by decide +kernel
theorem dX6_late_14 : decode cX6_late 14 = .ok (.sipush 1000, 3) := by decide +kernel
theorem dX6_late_17 : decode cX6_late 17 = .ok (.if_icmp .le 6, 3) := by decide +kernel
theorem dX6_late_20 : decode cX6_late 20 = .ok (.bipush (-3), 2) := by decide +kernel
theorem dX6_late_22 : decode cX6_late 22 = .ok (.ireturn, 1) := by decide +kernel
theorem dX6_late_23 : decode cX6_late 23 = .ok (.aload_n 0, 1) := by decide +kernel
theorem dX6_late_24 : decode cX6_late 24 = .ok (.getfield 28, 3) := by decide +kernel
theorem dX6_late_27 : decode cX6_late 27 = .ok (.invokevirtual 116, 3) := by decide +kernel
theorem dX6_late_30 : decode cX6_late 30 = .ok (.aload_n 0, 1) := by decide +kernel
theorem dX6_late_31 : decode cX6_late 31 = .ok (.getfield 28, 3) := by decide +kernel
theorem dX6_late_34 : decode cX6_late 34 = .ok (.getfield 117, 3) := by decide +kernel
theorem dX6_late_37 : decode cX6_late 37 = .ok (.iconst (-1), 1) := by decide +kernel
theorem dX6_late_38 : decode cX6_late 38 = .ok (.if_icmp .ne 6, 3) := by decide +kernel
theorem dX6_late_41 : decode cX6_late 41 = .ok (.bipush (-4), 2) := by decide +kernel
theorem dX6_late_43 : decode cX6_late 43 = .ok (.ireturn, 1) := by decide +kernel
theorem dX6_late_44 : decode cX6_late 44 = .ok (.aload_n 0, 1) := by decide +kernel
theorem dX6_late_45 : decode cX6_late 45 = .ok (.getfield 35, 3) := by decide +kernel
theorem dX6_late_48 : decode cX6_late 48 = .ok (.invokevirtual 126, 3) := by decide +kernel
theorem dX6_late_51 : decode cX6_late 51 = .ok (.aload_n 0, 1) := by decide +kernel
theorem dX6_late_52 : decode cX6_late 52 = .ok (.iload_n 1, 1) := by decide +kernel
theorem dX6_late_53 : decode cX6_late 53 = .ok (.ifCond .ne 13, 3) := by decide +kernel
theorem dX6_late_56 : decode cX6_late 56 = .ok (.aload_n 0, 1) := by decide +kernel
theorem dX6_late_57 : decode cX6_late 57 = .ok (.getfield 35, 3) := by decide +kernel
theorem dX6_late_60 : decode cX6_late 60 = .ok (.getfield 127, 3) := by decide +kernel
theorem dX6_late_63 : decode cX6_late 63 = .ok (.goto 10, 3) := by decide +kernel
theorem dX6_late_66 : decode cX6_late 66 = .ok (.aload_n 0, 1) := by decide +kernel
theorem dX6_late_67 : decode cX6_late 67 = .ok (.getfield 35, 3) := by decide +kernel
theorem dX6_late_70 : decode cX6_late 70 = .ok (.getfield 136, 3) := by decide +kernel
theorem dX6_late_73 : decode cX6_late 73 = .ok (.iload_n 2, 1) := by decide +kernel
theorem dX6_late_74 : decode cX6_late 74 = .ok (.invokevirtual 139, 3) := by decide +kernel
theorem dX6_late_77 : decode cX6_late 77 = .ok (.ireturn, 1) := by decide +kernel
set_option maxRecDepth 20000 in
theorem ggX6_count_X0_brokenUnits : GoodIn wsX6_count wsX0_brokenUnits := goodIn_r _ [9, 10, 11, 16, 17, 18, 19, 20, 21, 22, 23, 24, 25, 26] (by decide +kernel) (by decide +kernel)
set_option maxRecDepth 20000 in
theorem gX6_count_X0_brokenUnits : GoodIn wsX6_count (wsV RX6 143 RX0 yX0_brokenUnits wsX0_brokenUnits) := goodIn_app (goodIn_of _ (by decide +kernel)) ggX6_count_X0_brokenUnits
theorem dX6_count_0 : decode cX6_count 0 = .ok (.iload_n 1, 1) := by decide +kernel
theorem dX6_count_1 : decode cX6_count 1 = .ok (.tableswitch 63 0 3 #[31, 39, 47, 55], 31) := by decide +kernel
theorem dX6_count_32 : decode cX6_count 32 = .ok (.aload_n 0, 1) := by decide +kernel
theorem dX6_count_33 : decode cX6_count 33 = .ok (.getfield 10, 3) := by decide +kernel
theorem dX6_count_36 : decode cX6_count 36 = .ok (.getfield 46, 3) := by decide +kernel
theorem dX6_count_39 : decode cX6_count 39 = .ok (.ireturn, 1) := by decide +kernel
theorem dX6_count_40 : decode cX6_count 40 = .ok (.aload_n 0, 1) := by decide +kernel
theorem dX6_count_41 : decode cX6_count 41 = .ok (.getfield 10, 3) := by decide +kernel
theorem dX6_count_44 : decode cX6_count 44 = .ok (.getfield 68, 3) := by decide +kernel
theorem dX6_count_47 : decode cX6_count 47 = .ok (.ireturn, 1) := by decide +kernel
theorem dX6_count_48 : decode cX6_count 48 = .ok (.aload_n 0, 1) := by decide +kernel
theorem dX6_count_49 : decode cX6_count 49 = .ok (.getfield 10, 3) := by decide +kernel
theorem dX6_count_52 : decode cX6_count 52 = .ok (.getfield 97, 3) := by decide +kernel
theorem dX6_count_55 : decode cX6_count 55 = .ok (.ireturn, 1) := by decide +kernel
theorem dX6_count_56 : decode cX6_count 56 = .ok (.aload_n 0, 1) := by decide +kernel
theorem dX6_count_57 : decode cX6_count 57 = .ok (.getfield 10, 3) := by decide +kernel
theorem dX6_count_60 : decode cX6_count 60 = .ok (.invokevirtual 143, 3) := by decide +kernel
theorem dX6_count_63 : decode cX6_count 63 = .ok (.ireturn, 1) := by decide +kernel
theorem dX6_count_64 : decode cX6_count 64 = .ok (.bipush (-3), 2) := by decide +kernel
theorem dX6_count_66 : decode cX6_count 66 = .ok (.ireturn, 1) := by decide +kernel
set_option maxRecDepth 20000 in
theorem ggX6_lateBits_X3_leaver : GoodIn wsX6_lateBits wsX3_leaver := goodIn_r _ [8, 9, 10, 11, 12, 34, 35, 36, 37, 38, 39, 23, 24, 25, 26, 27, 28, 29, 30, 31, 32, 33] (by decide +kernel) (by decide +kernel)
set_option maxRecDepth 20000 in
theorem gX6_lateBits_X3_leaver : GoodIn wsX6_lateBits (wsV RX6 123 RX3 yX3_leaver wsX3_leaver) := goodIn_app (goodIn_of _ (by decide +kernel)) ggX6_lateBits_X3_leaver
set_option maxRecDepth 20000 in
theorem ggX6_lateBits_X0_hasUnit : GoodIn wsX6_lateBits wsX0_hasUnit := goodIn_r _ [17, 18, 23, 24, 25, 26, 27, 28, 29, 30, 31, 32, 33] (by decide +kernel) (by decide +kernel)
set_option maxRecDepth 20000 in
theorem gX6_lateBits_X0_hasUnit : GoodIn wsX6_lateBits (wsV RX6 54 RX0 yX0_hasUnit wsX0_hasUnit) := goodIn_app (goodIn_of _ (by decide +kernel)) ggX6_lateBits_X0_hasUnit
theorem dX6_lateBits_0 : decode cX6_lateBits 0 = .ok (.iconst 0, 1) := by decide +kernel
theorem dX6_lateBits_1 : decode cX6_lateBits 1 = .ok (.istore_n 3, 1) := by decide +kernel
theorem dX6_lateBits_2 : decode cX6_lateBits 2 = .ok (.iconst 0, 1) := by decide +kernel
theorem dX6_lateBits_3 : decode cX6_lateBits 3 = .ok (.istore 4, 2) := by decide +kernel
theorem dX6_lateBits_5 : decode cX6_lateBits 5 = .ok (.iload 4, 2) := by decide +kernel
theorem dX6_lateBits_7 : decode cX6_lateBits 7 = .ok (.aload_n 0, 1) := by decide +kernel
theorem dX6_lateBits_8 : decode cX6_lateBits 8 = .ok (.getfield 10, 3) := by decide +kernel
theorem dX6_lateBits_11 : decode cX6_lateBits 11 = .ok (.getfield 68, 3) := by decide +kernel
theorem dX6_lateBits_14 : decode cX6_lateBits 14 = .ok (.if_icmp .ge 53, 3) := by decide +kernel
theorem dX6_lateBits_17 : decode cX6_lateBits 17 = .ok (.aload_n 0, 1) := by decide +kernel
theorem dX6_lateBits_18 : decode cX6_lateBits 18 = .ok (.getfield 28, 3) := by decide +kernel
theorem dX6_lateBits_21 : decode cX6_lateBits 21 = .ok (.iload 4, 2) := by decide +kernel
theorem dX6_lateBits_23 : decode cX6_lateBits 23 = .ok (.invokevirtual 123, 3) := by decide +kernel
theorem dX6_lateBits_26 : decode cX6_lateBits 26 = .ok (.istore 5, 2) := by decide +kernel
theorem dX6_lateBits_28 : decode cX6_lateBits 28 = .ok (.aload_n 0, 1) := by decide +kernel
theorem dX6_lateBits_29 : decode cX6_lateBits 29 = .ok (.getfield 10, 3) := by decide +kernel
theorem dX6_lateBits_32 : decode cX6_lateBits 32 = .ok (.iload 5, 2) := by decide +kernel
theorem dX6_lateBits_34 : decode cX6_lateBits 34 = .ok (.invokevirtual 54, 3) := by decide +kernel
theorem dX6_lateBits_37 : decode cX6_lateBits 37 = .ok (.ifCond .eq 24, 3) := by decide +kernel
theorem dX6_lateBits_40 : decode cX6_lateBits 40 = .ok (.aload_n 1, 1) := by decide +kernel
theorem dX6_lateBits_41 : decode cX6_lateBits 41 = .ok (.iload 5, 2) := by decide +kernel
theorem dX6_lateBits_43 : decode cX6_lateBits 43 = .ok (.iaload, 1) := by decide +kernel
theorem dX6_lateBits_44 : decode cX6_lateBits 44 = .ok (.iload_n 2, 1) := by decide +kernel
theorem dX6_lateBits_45 : decode cX6_lateBits 45 = .ok (.bipush 10, 2) := by decide +kernel
theorem dX6_lateBits_47 : decode cX6_lateBits 47 = .ok (.iload 4, 2) := by decide +kernel
theorem dX6_lateBits_49 : decode cX6_lateBits 49 = .ok (.imul, 1) := by decide +kernel
theorem dX6_lateBits_50 : decode cX6_lateBits 50 = .ok (.iadd, 1) := by decide +kernel
theorem dX6_lateBits_51 : decode cX6_lateBits 51 = .ok (.if_icmp .le 10, 3) := by decide +kernel
theorem dX6_lateBits_54 : decode cX6_lateBits 54 = .ok (.iload_n 3, 1) := by decide +kernel
theorem dX6_lateBits_55 : decode cX6_lateBits 55 = .ok (.iconst 1, 1) := by decide +kernel
theorem dX6_lateBits_56 : decode cX6_lateBits 56 = .ok (.iload 5, 2) := by decide +kernel
theorem dX6_lateBits_58 : decode cX6_lateBits 58 = .ok (.ishl, 1) := by decide +kernel
theorem dX6_lateBits_59 : decode cX6_lateBits 59 = .ok (.ior, 1) := by decide +kernel
theorem dX6_lateBits_60 : decode cX6_lateBits 60 = .ok (.istore_n 3, 1) := by decide +kernel
theorem dX6_lateBits_61 : decode cX6_lateBits 61 = .ok (.iinc 4 1, 3) := by decide +kernel
theorem dX6_lateBits_64 : decode cX6_lateBits 64 = .ok (.goto (-59), 3) := by decide +kernel
theorem dX6_lateBits_67 : decode cX6_lateBits 67 = .ok (.iload_n 3, 1) := by decide +kernel
theorem dX6_lateBits_68 : decode cX6_lateBits 68 = .ok (.ireturn, 1) := by decide +kernel
theorem dX6_isKind_0 : decode cX6_isKind 0 = .ok (.iload_n 0, 1) := by decide +kernel
theorem dX6_isKind_1 : decode cX6_isKind 1 = .ok (.ifCond .lt 12, 3) := by decide +kernel
theorem dX6_isKind_4 : decode cX6_isKind 4 = .ok (.iload_n 0, 1) := by decide +kernel
theorem dX6_isKind_5 : decode cX6_isKind 5 = .ok (.iconst 4, 1) := by decide +kernel
theorem dX6_isKind_6 : decode cX6_isKind 6 = .ok (.if_icmp .ge 7, 3) := by decide +kernel
theorem dX6_isKind_9 : decode cX6_isKind 9 = .ok (.iconst 1, 1) := by decide +kernel
theorem dX6_isKind_10 : decode cX6_isKind 10 = .ok (.goto 4, 3) := by decide +kernel
theorem dX6_isKind_13 : decode cX6_isKind 13 = .ok (.iconst 0, 1) := by decide +kernel
theorem dX6_isKind_14 : decode cX6_isKind 14 = .ok (.ireturn, 1) := by decide +kernel
theorem dX6_isTrack_0 : decode cX6_isTrack 0 = .ok (.iload_n 0, 1) := by decide +kernel
theorem dX6_isTrack_1 : decode cX6_isTrack 1 = .ok (.ifCond .lt 12, 3) := by decide +kernel
theorem dX6_isTrack_4 : decode cX6_isTrack 4 = .ok (.iload_n 0, 1) := by decide +kernel
theorem dX6_isTrack_5 : decode cX6_isTrack 5 = .ok (.iconst 3, 1) := by decide +kernel
theorem dX6_isTrack_6 : decode cX6_isTrack 6 = .ok (.if_icmp .ge 7, 3) := by decide +kernel
theorem dX6_isTrack_9 : decode cX6_isTrack 9 = .ok (.iconst 1, 1) := by decide +kernel
theorem dX6_isTrack_10 : decode cX6_isTrack 10 = .ok (.goto 4, 3) := by decide +kernel
theorem dX6_isTrack_13 : decode cX6_isTrack 13 = .ok (.iconst 0, 1) := by decide +kernel
theorem dX6_isTrack_14 : decode cX6_isTrack 14 = .ok (.ireturn, 1) := by decide +kernel
theorem dX6_isWork_0 : decode cX6_isWork 0 = .ok (.iload_n 0, 1) := by decide +kernel
theorem dX6_isWork_1 : decode cX6_isWork 1 = .ok (.ifCond .lt 13, 3) := by decide +kernel
theorem dX6_isWork_4 : decode cX6_isWork 4 = .ok (.iload_n 0, 1) := by decide +kernel
theorem dX6_isWork_5 : decode cX6_isWork 5 = .ok (.bipush 60, 2) := by decide +kernel
theorem dX6_isWork_7 : decode cX6_isWork 7 = .ok (.if_icmp .gt 7, 3) := by decide +kernel
theorem dX6_isWork_10 : decode cX6_isWork 10 = .ok (.iconst 1, 1) := by decide +kernel
theorem dX6_isWork_11 : decode cX6_isWork 11 = .ok (.goto 4, 3) := by decide +kernel
theorem dX6_isWork_14 : decode cX6_isWork 14 = .ok (.iconst 0, 1) := by decide +kernel
theorem dX6_isWork_15 : decode cX6_isWork 15 = .ok (.ireturn, 1) := by decide +kernel
theorem dX7_init_0 : decode cX7_init 0 = .ok (.aload_n 0, 1) := by decide +kernel
theorem dX7_init_1 : decode cX7_init 1 = .ok (.invokespecial 1, 3) := by decide +kernel
theorem dX7_init_4 : decode cX7_init 4 = .ok (.aload_n 0, 1) := by decide +kernel
theorem dX7_init_5 : decode cX7_init 5 = .ok (.iconst 5, 1) := by decide +kernel
theorem dX7_init_6 : decode cX7_init 6 = .ok (.newarray .int, 2) := by decide +kernel
theorem dX7_init_8 : decode cX7_init 8 = .ok (.putfield 7, 3) := by decide +kernel
theorem dX7_init_11 : decode cX7_init 11 = .ok (.aload_n 0, 1) := by decide +kernel
theorem dX7_init_12 : decode cX7_init 12 = .ok (.iconst 5, 1) := by decide +kernel
theorem dX7_init_13 : decode cX7_init 13 = .ok (.newarray .int, 2) := by decide +kernel
theorem dX7_init_15 : decode cX7_init 15 = .ok (.putfield 13, 3) := by decide +kernel
theorem dX7_init_18 : decode cX7_init 18 = .ok (.aload_n 0, 1) := by decide +kernel
theorem dX7_init_19 : decode cX7_init 19 = .ok (.iconst 5, 1) := by decide +kernel
theorem dX7_init_20 : decode cX7_init 20 = .ok (.newarray .int, 2) := by decide +kernel
theorem dX7_init_22 : decode cX7_init 22 = .ok (.putfield 16, 3) := by decide +kernel
theorem dX7_init_25 : decode cX7_init 25 = .ok (.aload_n 0, 1) := by decide +kernel
theorem dX7_init_26 : decode cX7_init 26 = .ok (.iconst 5, 1) := by decide +kernel
theorem dX7_init_27 : decode cX7_init 27 = .ok (.newarray .boolean, 2) := by decide +kernel
theorem dX7_init_29 : decode cX7_init 29 = .ok (.putfield 19, 3) := by decide +kernel
theorem dX7_init_32 : decode cX7_init 32 = .ok (.aload_n 0, 1) := by decide +kernel
theorem dX7_init_33 : decode cX7_init 33 = .ok (.iconst 3, 1) := by decide +kernel
theorem dX7_init_34 : decode cX7_init 34 = .ok (.newarray .int, 2) := by decide +kernel
theorem dX7_init_36 : decode cX7_init 36 = .ok (.putfield 23, 3) := by decide +kernel
theorem dX7_init_39 : decode cX7_init 39 = .ok (.aload_n 0, 1) := by decide +kernel
theorem dX7_init_40 : decode cX7_init 40 = .ok (.iconst 5, 1) := by decide +kernel
theorem dX7_init_41 : decode cX7_init 41 = .ok (.newarray .int, 2) := by decide +kernel
theorem dX7_init_43 : decode cX7_init 43 = .ok (.putfield 26, 3) := by decide +kernel
theorem dX7_init_46 : decode cX7_init 46 = .ok (.aload_n 0, 1) := by decide +kernel
theorem dX7_init_47 : decode cX7_init 47 = .ok (.bipush 15, 2) := by decide +kernel
theorem dX7_init_49 : decode cX7_init 49 = .ok (.newarray .int, 2) := by decide +kernel
theorem dX7_init_51 : decode cX7_init 51 = .ok (.putfield 29, 3) := by decide +kernel
theorem dX7_init_54 : decode cX7_init 54 = .ok (.aload_n 0, 1) := by decide +kernel
theorem dX7_init_55 : decode cX7_init 55 = .ok (.iconst 3, 1) := by decide +kernel
theorem dX7_init_56 : decode cX7_init 56 = .ok (.newarray .int, 2) := by decide +kernel
theorem dX7_init_58 : decode cX7_init 58 = .ok (.putfield 32, 3) := by decide +kernel
theorem dX7_init_61 : decode cX7_init 61 = .ok (.aload_n 0, 1) := by decide +kernel
theorem dX7_init_62 : decode cX7_init 62 = .ok (.iconst 5, 1) := by decide +kernel
theorem dX7_init_63 : decode cX7_init 63 = .ok (.newarray .int, 2) := by decide +kernel
theorem dX7_init_65 : decode cX7_init 65 = .ok (.putfield 35, 3) := by decide +kernel
theorem dX7_init_68 : decode cX7_init 68 = .ok (.aload_n 0, 1) := by decide +kernel
theorem dX7_init_69 : decode cX7_init 69 = .ok (.bipush 15, 2) := by decide +kernel
theorem dX7_init_71 : decode cX7_init 71 = .ok (.newarray .int, 2) := by decide +kernel
theorem dX7_init_73 : decode cX7_init 73 = .ok (.putfield 38, 3) := by decide +kernel
theorem dX7_init_76 : decode cX7_init 76 = .ok (.aload_n 0, 1) := by decide +kernel
theorem dX7_init_77 : decode cX7_init 77 = .ok (.iconst 3, 1) := by decide +kernel
theorem dX7_init_78 : decode cX7_init 78 = .ok (.newarray .int, 2) := by decide +kernel
theorem dX7_init_80 : decode cX7_init 80 = .ok (.putfield 41, 3) := by decide +kernel
theorem dX7_init_83 : decode cX7_init 83 = .ok (.aload_n 0, 1) := by decide +kernel
theorem dX7_init_84 : decode cX7_init 84 = .ok (.sipush 216, 3) := by decide +kernel
theorem dX7_init_87 : decode cX7_init 87 = .ok (.newarray .boolean, 2) := by decide +kernel
theorem dX7_init_89 : decode cX7_init 89 = .ok (.putfield 44, 3) := by decide +kernel
theorem dX7_init_92 : decode cX7_init 92 = .ok (.aload_n 0, 1) := by decide +kernel
theorem dX7_init_93 : decode cX7_init 93 = .ok (.sipush 5200, 3) := by decide +kernel
theorem dX7_init_96 : decode cX7_init 96 = .ok (.newarray .long, 2) := by decide +kernel
theorem dX7_init_98 : decode cX7_init 98 = .ok (.putfield 47, 3) := by decide +kernel
theorem dX7_init_101 : decode cX7_init 101 = .ok (.aload_n 0, 1) := by decide +kernel
theorem dX7_init_102 : decode cX7_init 102 = .ok (.sipush 5200, 3) := by decide +kernel
theorem dX7_init_105 : decode cX7_init 105 = .ok (.newarray .int, 2) := by decide +kernel
theorem dX7_init_107 : decode cX7_init 107 = .ok (.putfield 51, 3) := by decide +kernel
theorem dX7_init_110 : decode cX7_init 110 = .ok (.aload_n 0, 1) := by decide +kernel
theorem dX7_init_111 : decode cX7_init 111 = .ok (.sipush 5200, 3) := by decide +kernel
theorem dX7_init_114 : decode cX7_init 114 = .ok (.newarray .int, 2) := by decide +kernel
theorem dX7_init_116 : decode cX7_init 116 = .ok (.putfield 54, 3) := by decide +kernel
theorem dX7_init_119 : decode cX7_init 119 = .ok (.aload_n 0, 1) := by decide +kernel
theorem dX7_init_120 : decode cX7_init 120 = .ok (.ldc 57, 2) := by decide +kernel
theorem dX7_init_122 : decode cX7_init 122 = .ok (.newarray .int, 2) := by decide +kernel
theorem dX7_init_124 : decode cX7_init 124 = .ok (.putfield 58, 3) := by decide +kernel
theorem dX7_init_127 : decode cX7_init 127 = .ok (.aload_n 0, 1) := by decide +kernel
theorem dX7_init_128 : decode cX7_init 128 = .ok (.sipush 16384, 3) := by decide +kernel
theorem dX7_init_131 : decode cX7_init 131 = .ok (.newarray .int, 2) := by decide +kernel
theorem dX7_init_133 : decode cX7_init 133 = .ok (.putfield 61, 3) := by decide +kernel
theorem dX7_init_136 : decode cX7_init 136 = .ok (.aload_n 0, 1) := by decide +kernel
theorem dX7_init_137 : decode cX7_init 137 = .ok (.bipush 15, 2) := by decide +kernel
theorem dX7_init_139 : decode cX7_init 139 = .ok (.newarray .int, 2) := by decide +kernel
theorem dX7_init_141 : decode cX7_init 141 = .ok (.putfield 64, 3) := by decide +kernel
theorem dX7_init_144 : decode cX7_init 144 = .ok (.aload_n 0, 1) := by decide +kernel
theorem dX7_init_145 : decode cX7_init 145 = .ok (.iconst 3, 1) := by decide +kernel
theorem dX7_init_146 : decode cX7_init 146 = .ok (.newarray .int, 2) := by decide +kernel
theorem dX7_init_148 : decode cX7_init 148 = .ok (.putfield 67, 3) := by decide +kernel
theorem dX7_init_151 : decode cX7_init 151 = .ok (.aload_n 0, 1) := by decide +kernel
theorem dX7_init_152 : decode cX7_init 152 = .ok (.sipush 400, 3) := by decide +kernel
theorem dX7_init_155 : decode cX7_init 155 = .ok (.newarray .int, 2) := by decide +kernel
theorem dX7_init_157 : decode cX7_init 157 = .ok (.putfield 70, 3) := by decide +kernel
theorem dX7_init_160 : decode cX7_init 160 = .ok (.aload_n 0, 1) := by decide +kernel
theorem dX7_init_161 : decode cX7_init 161 = .ok (.sipush 400, 3) := by decide +kernel
theorem dX7_init_164 : decode cX7_init 164 = .ok (.newarray .int, 2) := by decide +kernel
theorem dX7_init_166 : decode cX7_init 166 = .ok (.putfield 73, 3) := by decide +kernel
theorem dX7_init_169 : decode cX7_init 169 = .ok (.aload_n 0, 1) := by decide +kernel
theorem dX7_init_170 : decode cX7_init 170 = .ok (.iconst 5, 1) := by decide +kernel
theorem dX7_init_171 : decode cX7_init 171 = .ok (.newarray .int, 2) := by decide +kernel
theorem dX7_init_173 : decode cX7_init 173 = .ok (.putfield 76, 3) := by decide +kernel
theorem dX7_init_176 : decode cX7_init 176 = .ok (.aload_n 0, 1) := by decide +kernel
theorem dX7_init_177 : decode cX7_init 177 = .ok (.iconst 5, 1) := by decide +kernel
theorem dX7_init_178 : decode cX7_init 178 = .ok (.newarray .int, 2) := by decide +kernel
theorem dX7_init_180 : decode cX7_init 180 = .ok (.putfield 79, 3) := by decide +kernel
theorem dX7_init_183 : decode cX7_init 183 = .ok (.aload_n 0, 1) := by decide +kernel
theorem dX7_init_184 : decode cX7_init 184 = .ok (.iconst 5, 1) := by decide +kernel
theorem dX7_init_185 : decode cX7_init 185 = .ok (.newarray .int, 2) := by decide +kernel
theorem dX7_init_187 : decode cX7_init 187 = .ok (.putfield 82, 3) := by decide +kernel
theorem dX7_init_190 : decode cX7_init 190 = .ok (.aload_n 0, 1) := by decide +kernel
theorem dX7_init_191 : decode cX7_init 191 = .ok (.iconst 5, 1) := by decide +kernel
theorem dX7_init_192 : decode cX7_init 192 = .ok (.newarray .int, 2) := by decide +kernel
theorem dX7_init_194 : decode cX7_init 194 = .ok (.putfield 85, 3) := by decide +kernel
theorem dX7_init_197 : decode cX7_init 197 = .ok (.aload_n 0, 1) := by decide +kernel
theorem dX7_init_198 : decode cX7_init 198 = .ok (.getfield 23, 3) := by decide +kernel
theorem dX7_init_201 : decode cX7_init 201 = .ok (.iconst 0, 1) := by decide +kernel
theorem dX7_init_202 : decode cX7_init 202 = .ok (.iconst 5, 1) := by decide +kernel
theorem dX7_init_203 : decode cX7_init 203 = .ok (.iastore, 1) := by decide +kernel
theorem dX7_init_204 : decode cX7_init 204 = .ok (.aload_n 0, 1) := by decide +kernel
theorem dX7_init_205 : decode cX7_init 205 = .ok (.getfield 23, 3) := by decide +kernel
theorem dX7_init_208 : decode cX7_init 208 = .ok (.iconst 1, 1) := by decide +kernel
theorem dX7_init_209 : decode cX7_init 209 = .ok (.iconst 5, 1) := by decide +kernel
theorem dX7_init_210 : decode cX7_init 210 = .ok (.iastore, 1) := by decide +kernel
theorem dX7_init_211 : decode cX7_init 211 = .ok (.aload_n 0, 1) := by decide +kernel
theorem dX7_init_212 : decode cX7_init 212 = .ok (.getfield 23, 3) := by decide +kernel
theorem dX7_init_215 : decode cX7_init 215 = .ok (.iconst 2, 1) := by decide +kernel
theorem dX7_init_216 : decode cX7_init 216 = .ok (.iconst 5, 1) := by decide +kernel
theorem dX7_init_217 : decode cX7_init 217 = .ok (.iastore, 1) := by decide +kernel
theorem dX7_init_218 : decode cX7_init 218 = .ok (.return_, 1) := by decide +kernel
theorem dX7_in_0 : decode cX7_in 0 = .ok (.iload_n 0, 1) := by decide +kernel
theorem dX7_in_1 : decode cX7_in 1 = .ok (.iload_n 1, 1) := by decide +kernel
theorem dX7_in_2 : decode cX7_in 2 = .ok (.if_icmp .lt 12, 3) := by decide +kernel
theorem dX7_in_5 : decode cX7_in 5 = .ok (.iload_n 0, 1) := by decide +kernel
theorem dX7_in_6 : decode cX7_in 6 = .ok (.iload_n 2, 1) := by decide +kernel
theorem dX7_in_7 : decode cX7_in 7 = .ok (.if_icmp .gt 7, 3) := by decide +kernel
theorem dX7_in_10 : decode cX7_in 10 = .ok (.iconst 1, 1) := by decide +kernel
theorem dX7_in_11 : decode cX7_in 11 = .ok (.goto 4, 3) := by decide +kernel
theorem dX7_in_14 : decode cX7_in 14 = .ok (.iconst 0, 1) := by decide +kernel
theorem dX7_in_15 : decode cX7_in 15 = .ok (.ireturn, 1) := by decide +kernel
set_option maxRecDepth 20000 in
theorem ggX7_isUnit_X7_in : GoodIn wsX7_isUnit wsX7_in := goodIn_r _ [5] (by decide +kernel) (by decide +kernel)
set_option maxRecDepth 20000 in
theorem gX7_isUnit_X7_in : GoodIn wsX7_isUnit (va_wsS RX7 92 yX7_in wsX7_in) := goodIn_app (goodIn_of _ (by decide +kernel)) ggX7_isUnit_X7_in
theorem dX7_isUnit_0 : decode cX7_isUnit 0 = .ok (.iload_n 1, 1) := by decide +kernel
theorem dX7_isUnit_1 : decode cX7_isUnit 1 = .ok (.iconst 0, 1) := by decide +kernel
theorem dX7_isUnit_2 : decode cX7_isUnit 2 = .ok (.aload_n 0, 1) := by decide +kernel
theorem dX7_isUnit_3 : decode cX7_isUnit 3 = .ok (.getfield 88, 3) := by decide +kernel
theorem dX7_isUnit_6 : decode cX7_isUnit 6 = .ok (.iconst 1, 1) := by decide +kernel
theorem dX7_isUnit_7 : decode cX7_isUnit 7 = .ok (.isub, 1) := by decide +kernel
theorem dX7_isUnit_8 : decode cX7_isUnit 8 = .ok (.invokestatic 92, 3) := by decide +kernel
theorem dX7_isUnit_11 : decode cX7_isUnit 11 = .ok (.ireturn, 1) := by decide +kernel
set_option maxRecDepth 20000 in
theorem ggX7_isTrack_X7_in : GoodIn wsX7_isTrack wsX7_in := goodIn_r _ [4] (by decide +kernel) (by decide +kernel)
set_option maxRecDepth 20000 in
theorem gX7_isTrack_X7_in : GoodIn wsX7_isTrack (va_wsS RX7 92 yX7_in wsX7_in) := goodIn_app (goodIn_of _ (by decide +kernel)) ggX7_isTrack_X7_in
theorem dX7_isTrack_0 : decode cX7_isTrack 0 = .ok (.iload_n 0, 1) := by decide +kernel
theorem dX7_isTrack_1 : decode cX7_isTrack 1 = .ok (.iconst 0, 1) := by decide +kernel
theorem dX7_isTrack_2 : decode cX7_isTrack 2 = .ok (.iconst 2, 1) := by decide +kernel
theorem dX7_isTrack_3 : decode cX7_isTrack 3 = .ok (.invokestatic 92, 3) := by decide +kernel
theorem dX7_isTrack_6 : decode cX7_isTrack 6 = .ok (.ireturn, 1) := by decide +kernel
set_option maxRecDepth 20000 in
theorem ggX7_unit_X7_in : GoodIn wsX7_unit wsX7_in := goodIn_r _ [8] (by decide +kernel) (by decide +kernel)
set_option maxRecDepth 20000 in
theorem gX7_unit_X7_in : GoodIn wsX7_unit (va_wsS RX7 92 yX7_in wsX7_in) := goodIn_app (goodIn_of _ (by decide +kernel)) ggX7_unit_X7_in
theorem dX7_unit_0 : decode cX7_unit 0 = .ok (.iload_n 1, 1) := by decide +kernel
theorem dX7_unit_1 : decode cX7_unit 1 = .ok (.iconst 0, 1) := by decide +kernel
theorem dX7_unit_2 : decode cX7_unit 2 = .ok (.iconst 3, 1) := by decide +kernel
theorem dX7_unit_3 : decode cX7_unit 3 = .ok (.invokestatic 92, 3) := by decide +kernel
theorem dX7_unit_6 : decode cX7_unit 6 = .ok (.ifCond .eq 23, 3) := by decide +kernel
theorem dX7_unit_9 : decode cX7_unit 9 = .ok (.iload_n 2, 1) := by decide +kernel
theorem dX7_unit_10 : decode cX7_unit 10 = .ok (.iconst 0, 1) := by decide +kernel
theorem dX7_unit_11 : decode cX7_unit 11 = .ok (.bipush 60, 2) := by decide +kernel
theorem dX7_unit_13 : decode cX7_unit 13 = .ok (.invokestatic 92, 3) := by decide +kernel
theorem dX7_unit_16 : decode cX7_unit 16 = .ok (.ifCond .eq 13, 3) := by decide +kernel
theorem dX7_unit_19 : decode cX7_unit 19 = .ok (.iload_n 3, 1) := by decide +kernel
theorem dX7_unit_20 : decode cX7_unit 20 = .ok (.iconst 0, 1) := by decide +kernel
theorem dX7_unit_21 : decode cX7_unit 21 = .ok (.bipush 60, 2) := by decide +kernel
theorem dX7_unit_23 : decode cX7_unit 23 = .ok (.invokestatic 92, 3) := by decide +kernel
theorem dX7_unit_26 : decode cX7_unit 26 = .ok (.ifCond .ne 6, 3) := by decide +kernel
theorem dX7_unit_29 : decode cX7_unit 29 = .ok (.bipush (-3), 2) := by decide +kernel
theorem dX7_unit_31 : decode cX7_unit 31 = .ok (.ireturn, 1) := by decide +kernel
theorem dX7_unit_32 : decode cX7_unit 32 = .ok (.aload_n 0, 1) := by decide +kernel
theorem dX7_unit_33 : decode cX7_unit 33 = .ok (.getfield 88, 3) := by decide +kernel
theorem dX7_unit_36 : decode cX7_unit 36 = .ok (.iconst 5, 1) := by decide +kernel
theorem dX7_unit_37 : decode cX7_unit 37 = .ok (.if_icmp .ne 6, 3) := by decide +kernel
theorem dX7_unit_40 : decode cX7_unit 40 = .ok (.bipush (-5), 2) := by decide +kernel
theorem dX7_unit_42 : decode cX7_unit 42 = .ok (.ireturn, 1) := by decide +kernel
theorem dX7_unit_43 : decode cX7_unit 43 = .ok (.aload_n 0, 1) := by decide +kernel
theorem dX7_unit_44 : decode cX7_unit 44 = .ok (.getfield 7, 3) := by decide +kernel
theorem dX7_unit_47 : decode cX7_unit 47 = .ok (.aload_n 0, 1) := by decide +kernel
theorem dX7_unit_48 : decode cX7_unit 48 = .ok (.getfield 88, 3) := by decide +kernel
theorem dX7_unit_51 : decode cX7_unit 51 = .ok (.iload_n 1, 1) := by decide +kernel
theorem dX7_unit_52 : decode cX7_unit 52 = .ok (.iastore, 1) := by decide +kernel
theorem dX7_unit_53 : decode cX7_unit 53 = .ok (.aload_n 0, 1) := by decide +kernel
theorem dX7_unit_54 : decode cX7_unit 54 = .ok (.getfield 13, 3) := by decide +kernel
theorem dX7_unit_57 : decode cX7_unit 57 = .ok (.aload_n 0, 1) := by decide +kernel
theorem dX7_unit_58 : decode cX7_unit 58 = .ok (.getfield 88, 3) := by decide +kernel
theorem dX7_unit_61 : decode cX7_unit 61 = .ok (.iload_n 2, 1) := by decide +kernel
theorem dX7_unit_62 : decode cX7_unit 62 = .ok (.iastore, 1) := by decide +kernel
theorem dX7_unit_63 : decode cX7_unit 63 = .ok (.aload_n 0, 1) := by decide +kernel
theorem dX7_unit_64 : decode cX7_unit 64 = .ok (.getfield 16, 3) := by decide +kernel
theorem dX7_unit_67 : decode cX7_unit 67 = .ok (.aload_n 0, 1) := by decide +kernel
theorem dX7_unit_68 : decode cX7_unit 68 = .ok (.getfield 88, 3) := by decide +kernel
theorem dX7_unit_71 : decode cX7_unit 71 = .ok (.iload_n 3, 1) := by decide +kernel
theorem dX7_unit_72 : decode cX7_unit 72 = .ok (.iastore, 1) := by decide +kernel
theorem dX7_unit_73 : decode cX7_unit 73 = .ok (.aload_n 0, 1) := by decide +kernel
theorem dX7_unit_74 : decode cX7_unit 74 = .ok (.dup, 1) := by decide +kernel
theorem dX7_unit_75 : decode cX7_unit 75 = .ok (.getfield 88, 3) := by decide +kernel
theorem dX7_unit_78 : decode cX7_unit 78 = .ok (.iconst 1, 1) := by decide +kernel
theorem dX7_unit_79 : decode cX7_unit 79 = .ok (.iadd, 1) := by decide +kernel
theorem dX7_unit_80 : decode cX7_unit 80 = .ok (.putfield 88, 3) := by decide +kernel
theorem dX7_unit_83 : decode cX7_unit 83 = .ok (.aload_n 0, 1) := by decide +kernel
theorem dX7_unit_84 : decode cX7_unit 84 = .ok (.getfield 88, 3) := by decide +kernel
theorem dX7_unit_87 : decode cX7_unit 87 = .ok (.iconst 1, 1) := by decide +kernel
theorem dX7_unit_88 : decode cX7_unit 88 = .ok (.isub, 1) := by decide +kernel
theorem dX7_unit_89 : decode cX7_unit 89 = .ok (.ireturn, 1) := by decide +kernel
set_option maxRecDepth 20000 in
theorem ggX7_broken_X7_isUnit : GoodIn wsX7_broken wsX7_isUnit := goodIn_r _ [6, 7, 8, 9, 5, 10, 11, 12, 13, 14, 15, 16, 17, 18, 19, 20, 21, 22, 23, 24, 25, 26, 27, 28, 29, 30, 31, 32, 33, 34, 35, 36, 37, 38, 39, 40] (by decide +kernel) (by decide +kernel)
set_option maxRecDepth 20000 in
theorem gX7_broken_X7_isUnit : GoodIn wsX7_broken (wsV RX7 96 RX7 yX7_isUnit wsX7_isUnit) := goodIn_app (goodIn_of _ (by decide +kernel)) ggX7_broken_X7_isUnit
theorem dX7_broken_0 : decode cX7_broken 0 = .ok (.aload_n 0, 1) := by decide +kernel
theorem dX7_broken_1 : decode cX7_broken 1 = .ok (.iload_n 1, 1) := by decide +kernel
theorem dX7_broken_2 : decode cX7_broken 2 = .ok (.invokevirtual 96, 3) := by decide +kernel
theorem dX7_broken_5 : decode cX7_broken 5 = .ok (.ifCond .ne 6, 3) := by decide +kernel
theorem dX7_broken_8 : decode cX7_broken 8 = .ok (.bipush (-2), 2) := by decide +kernel
theorem dX7_broken_10 : decode cX7_broken 10 = .ok (.ireturn, 1) := by decide +kernel
theorem dX7_broken_11 : decode cX7_broken 11 = .ok (.aload_n 0, 1) := by decide +kernel
theorem dX7_broken_12 : decode cX7_broken 12 = .ok (.getfield 19, 3) := by decide +kernel
theorem dX7_broken_15 : decode cX7_broken 15 = .ok (.iload_n 1, 1) := by decide +kernel
theorem dX7_broken_16 : decode cX7_broken 16 = .ok (.baload, 1) := by decide +kernel
theorem dX7_broken_17 : decode cX7_broken 17 = .ok (.istore_n 3, 1) := by decide +kernel
theorem dX7_broken_18 : decode cX7_broken 18 = .ok (.aload_n 0, 1) := by decide +kernel
theorem dX7_broken_19 : decode cX7_broken 19 = .ok (.getfield 19, 3) := by decide +kernel
theorem dX7_broken_22 : decode cX7_broken 22 = .ok (.iload_n 1, 1) := by decide +kernel
theorem dX7_broken_23 : decode cX7_broken 23 = .ok (.iload_n 2, 1) := by decide +kernel
theorem dX7_broken_24 : decode cX7_broken 24 = .ok (.bastore, 1) := by decide +kernel
theorem dX7_broken_25 : decode cX7_broken 25 = .ok (.iload_n 3, 1) := by decide +kernel
theorem dX7_broken_26 : decode cX7_broken 26 = .ok (.ifCond .eq 7, 3) := by decide +kernel
theorem dX7_broken_29 : decode cX7_broken 29 = .ok (.iconst 1, 1) := by decide +kernel
theorem dX7_broken_30 : decode cX7_broken 30 = .ok (.goto 4, 3) := by decide +kernel
theorem dX7_broken_33 : decode cX7_broken 33 = .ok (.iconst 0, 1) := by decide +kernel
theorem dX7_broken_34 : decode cX7_broken 34 = .ok (.ireturn, 1) := by decide +kernel
set_option maxRecDepth 20000 in
theorem ggX7_length_X7_isTrack : GoodIn wsX7_length wsX7_isTrack := goodIn_r _ [5, 6, 7, 4, 8] (by decide +kernel) (by decide +kernel)
set_option maxRecDepth 20000 in
theorem gX7_length_X7_isTrack : GoodIn wsX7_length (va_wsS RX7 100 yX7_isTrack wsX7_isTrack) := goodIn_app (goodIn_of _ (by decide +kernel)) ggX7_length_X7_isTrack
set_option maxRecDepth 20000 in
theorem ggX7_length_X7_in : GoodIn wsX7_length wsX7_in := goodIn_r _ [8] (by decide +kernel) (by decide +kernel)
set_option maxRecDepth 20000 in
theorem gX7_length_X7_in : GoodIn wsX7_length (va_wsS RX7 92 yX7_in wsX7_in) := goodIn_app (goodIn_of _ (by decide +kernel)) ggX7_length_X7_in
theorem dX7_length_0 : decode cX7_length 0 = .ok (.iload_n 1, 1) := by decide +kernel
theorem dX7_length_1 : decode cX7_length 1 = .ok (.invokestatic 100, 3) := by decide +kernel
theorem dX7_length_4 : decode cX7_length 4 = .ok (.ifCond .ne 6, 3) := by decide +kernel
theorem dX7_length_7 : decode cX7_length 7 = .ok (.bipush (-2), 2) := by decide +kernel
theorem dX7_length_9 : decode cX7_length 9 = .ok (.ireturn, 1) := by decide +kernel
theorem dX7_length_10 : decode cX7_length 10 = .ok (.iload_n 2, 1) := by decide +kernel
theorem dX7_length_11 : decode cX7_length 11 = .ok (.iconst 1, 1) := by decide +kernel
theorem dX7_length_12 : decode cX7_length 12 = .ok (.iconst 5, 1) := by decide +kernel
theorem dX7_length_13 : decode cX7_length 13 = .ok (.invokestatic 92, 3) := by decide +kernel
theorem dX7_length_16 : decode cX7_length 16 = .ok (.ifCond .ne 6, 3) := by decide +kernel
theorem dX7_length_19 : decode cX7_length 19 = .ok (.bipush (-3), 2) := by decide +kernel
theorem dX7_length_21 : decode cX7_length 21 = .ok (.ireturn, 1) := by decide +kernel
theorem dX7_length_22 : decode cX7_length 22 = .ok (.aload_n 0, 1) := by decide +kernel
theorem dX7_length_23 : decode cX7_length 23 = .ok (.getfield 23, 3) := by decide +kernel
theorem dX7_length_26 : decode cX7_length 26 = .ok (.iload_n 1, 1) := by decide +kernel
theorem dX7_length_27 : decode cX7_length 27 = .ok (.iaload, 1) := by decide +kernel
theorem dX7_length_28 : decode cX7_length 28 = .ok (.istore_n 3, 1) := by decide +kernel
theorem dX7_length_29 : decode cX7_length 29 = .ok (.aload_n 0, 1) := by decide +kernel
theorem dX7_length_30 : decode cX7_length 30 = .ok (.getfield 23, 3) := by decide +kernel
theorem dX7_length_33 : decode cX7_length 33 = .ok (.iload_n 1, 1) := by decide +kernel
theorem dX7_length_34 : decode cX7_length 34 = .ok (.iload_n 2, 1) := by decide +kernel
theorem dX7_length_35 : decode cX7_length 35 = .ok (.iastore, 1) := by decide +kernel
theorem dX7_length_36 : decode cX7_length 36 = .ok (.iload_n 3, 1) := by decide +kernel
theorem dX7_length_37 : decode cX7_length 37 = .ok (.ireturn, 1) := by decide +kernel
set_option maxRecDepth 20000 in
theorem ggX7_leave_X7_in : GoodIn wsX7_leave wsX7_in := goodIn_r _ [6] (by decide +kernel) (by decide +kernel)
set_option maxRecDepth 20000 in
theorem gX7_leave_X7_in : GoodIn wsX7_leave (va_wsS RX7 92 yX7_in wsX7_in) := goodIn_app (goodIn_of _ (by decide +kernel)) ggX7_leave_X7_in
theorem dX7_leave_0 : decode cX7_leave 0 = .ok (.iload_n 1, 1) := by decide +kernel
theorem dX7_leave_1 : decode cX7_leave 1 = .ok (.iconst 0, 1) := by decide +kernel
theorem dX7_leave_2 : decode cX7_leave 2 = .ok (.iconst 3, 1) := by decide +kernel
theorem dX7_leave_3 : decode cX7_leave 3 = .ok (.invokestatic 92, 3) := by decide +kernel
theorem dX7_leave_6 : decode cX7_leave 6 = .ok (.ifCond .ne 6, 3) := by decide +kernel
theorem dX7_leave_9 : decode cX7_leave 9 = .ok (.bipush (-3), 2) := by decide +kernel
theorem dX7_leave_11 : decode cX7_leave 11 = .ok (.ireturn, 1) := by decide +kernel
theorem dX7_leave_12 : decode cX7_leave 12 = .ok (.aload_n 0, 1) := by decide +kernel
theorem dX7_leave_13 : decode cX7_leave 13 = .ok (.getfield 103, 3) := by decide +kernel
theorem dX7_leave_16 : decode cX7_leave 16 = .ok (.iconst 5, 1) := by decide +kernel
theorem dX7_leave_17 : decode cX7_leave 17 = .ok (.if_icmp .ne 6, 3) := by decide +kernel
theorem dX7_leave_20 : decode cX7_leave 20 = .ok (.bipush (-5), 2) := by decide +kernel
theorem dX7_leave_22 : decode cX7_leave 22 = .ok (.ireturn, 1) := by decide +kernel
theorem dX7_leave_23 : decode cX7_leave 23 = .ok (.aload_n 0, 1) := by decide +kernel
theorem dX7_leave_24 : decode cX7_leave 24 = .ok (.getfield 26, 3) := by decide +kernel
theorem dX7_leave_27 : decode cX7_leave 27 = .ok (.aload_n 0, 1) := by decide +kernel
theorem dX7_leave_28 : decode cX7_leave 28 = .ok (.getfield 103, 3) := by decide +kernel
theorem dX7_leave_31 : decode cX7_leave 31 = .ok (.iload_n 1, 1) := by decide +kernel
theorem dX7_leave_32 : decode cX7_leave 32 = .ok (.iastore, 1) := by decide +kernel
theorem dX7_leave_33 : decode cX7_leave 33 = .ok (.aload_n 0, 1) := by decide +kernel
theorem dX7_leave_34 : decode cX7_leave 34 = .ok (.dup, 1) := by decide +kernel
theorem dX7_leave_35 : decode cX7_leave 35 = .ok (.getfield 103, 3) := by decide +kernel
theorem dX7_leave_38 : decode cX7_leave 38 = .ok (.iconst 1, 1) := by decide +kernel
theorem dX7_leave_39 : decode cX7_leave 39 = .ok (.iadd, 1) := by decide +kernel
theorem dX7_leave_40 : decode cX7_leave 40 = .ok (.putfield 103, 3) := by decide +kernel
theorem dX7_leave_43 : decode cX7_leave 43 = .ok (.aload_n 0, 1) := by decide +kernel
theorem dX7_leave_44 : decode cX7_leave 44 = .ok (.getfield 103, 3) := by decide +kernel
theorem dX7_leave_47 : decode cX7_leave 47 = .ok (.ireturn, 1) := by decide +kernel
theorem dX7_stay_0 : decode cX7_stay 0 = .ok (.aload_n 0, 1) := by decide +kernel
theorem dX7_stay_1 : decode cX7_stay 1 = .ok (.getfield 103, 3) := by decide +kernel
theorem dX7_stay_4 : decode cX7_stay 4 = .ok (.istore_n 1, 1) := by decide +kernel
theorem dX7_stay_5 : decode cX7_stay 5 = .ok (.aload_n 0, 1) := by decide +kernel
theorem dX7_stay_6 : decode cX7_stay 6 = .ok (.iconst 0, 1) := by decide +kernel
theorem dX7_stay_7 : decode cX7_stay 7 = .ok (.putfield 103, 3) := by decide +kernel
theorem dX7_stay_10 : decode cX7_stay 10 = .ok (.iload_n 1, 1) := by decide +kernel
theorem dX7_stay_11 : decode cX7_stay 11 = .ok (.ireturn, 1) := by decide +kernel
theorem dX7_parkings_0 : decode cX7_parkings 0 = .ok (.iconst 1, 1) := by decide +kernel
theorem dX7_parkings_1 : decode cX7_parkings 1 = .ok (.istore_n 1, 1) := by decide +kernel
theorem dX7_parkings_2 : decode cX7_parkings 2 = .ok (.iconst 0, 1) := by decide +kernel
theorem dX7_parkings_3 : decode cX7_parkings 3 = .ok (.istore_n 2, 1) := by decide +kernel
theorem dX7_parkings_4 : decode cX7_parkings 4 = .ok (.iload_n 2, 1) := by decide +kernel
theorem dX7_parkings_5 : decode cX7_parkings 5 = .ok (.aload_n 0, 1) := by decide +kernel
theorem dX7_parkings_6 : decode cX7_parkings 6 = .ok (.getfield 88, 3) := by decide +kernel
theorem dX7_parkings_9 : decode cX7_parkings 9 = .ok (.if_icmp .ge 13, 3) := by decide +kernel
theorem dX7_parkings_12 : decode cX7_parkings 12 = .ok (.iload_n 1, 1) := by decide +kernel
theorem dX7_parkings_13 : decode cX7_parkings 13 = .ok (.iconst 3, 1) := by decide +kernel
theorem dX7_parkings_14 : decode cX7_parkings 14 = .ok (.imul, 1) := by decide +kernel
theorem dX7_parkings_15 : decode cX7_parkings 15 = .ok (.istore_n 1, 1) := by decide +kernel
theorem dX7_parkings_16 : decode cX7_parkings 16 = .ok (.iinc 2 1, 3) := by decide +kernel
theorem dX7_parkings_19 : decode cX7_parkings 19 = .ok (.goto (-15), 3) := by decide +kernel
theorem dX7_parkings_22 : decode cX7_parkings 22 = .ok (.iload_n 1, 1) := by decide +kernel
theorem dX7_parkings_23 : decode cX7_parkings 23 = .ok (.ireturn, 1) := by decide +kernel
set_option maxRecDepth 20000 in
theorem ggX7_isClean_X7_canLeave : GoodIn wsX7_isClean wsX7_canLeave := goodIn_r _ [10, 11, 3, 1, 12, 13, 14, 15, 16, 9, 17, 4, 18, 19, 20, 21, 22, 23, 24, 25, 26, 27, 28, 29, 30, 31, 32, 33, 34, 35, 36, 37, 38, 39, 40, 41, 42, 43, 44, 45, 46, 47, 48, 49, 50, 51, 52, 53] (by decide +kernel) (by decide +kernel)
set_option maxRecDepth 20000 in
theorem gX7_isClean_X7_canLeave : GoodIn wsX7_isClean (wsV RX7 106 RX7 yX7_canLeave wsX7_canLeave) := goodIn_app (goodIn_of _ (by decide +kernel)) ggX7_isClean_X7_canLeave
theorem dX7_isClean_0 : decode cX7_isClean 0 = .ok (.iload_n 1, 1) := by decide +kernel
theorem dX7_isClean_1 : decode cX7_isClean 1 = .ok (.istore_n 2, 1) := by decide +kernel
theorem dX7_isClean_2 : decode cX7_isClean 2 = .ok (.aload_n 0, 1) := by decide +kernel
theorem dX7_isClean_3 : decode cX7_isClean 3 = .ok (.getfield 88, 3) := by decide +kernel
theorem dX7_isClean_6 : decode cX7_isClean 6 = .ok (.iconst 1, 1) := by decide +kernel
theorem dX7_isClean_7 : decode cX7_isClean 7 = .ok (.isub, 1) := by decide +kernel
theorem dX7_isClean_8 : decode cX7_isClean 8 = .ok (.istore_n 3, 1) := by decide +kernel
theorem dX7_isClean_9 : decode cX7_isClean 9 = .ok (.iload_n 3, 1) := by decide +kernel
theorem dX7_isClean_10 : decode cX7_isClean 10 = .ok (.ifCond .lt 22, 3) := by decide +kernel
theorem dX7_isClean_13 : decode cX7_isClean 13 = .ok (.aload_n 0, 1) := by decide +kernel
theorem dX7_isClean_14 : decode cX7_isClean 14 = .ok (.getfield 35, 3) := by decide +kernel
theorem dX7_isClean_17 : decode cX7_isClean 17 = .ok (.iload_n 3, 1) := by decide +kernel
theorem dX7_isClean_18 : decode cX7_isClean 18 = .ok (.iload_n 2, 1) := by decide +kernel
theorem dX7_isClean_19 : decode cX7_isClean 19 = .ok (.iconst 3, 1) := by decide +kernel
theorem dX7_isClean_20 : decode cX7_isClean 20 = .ok (.irem, 1) := by decide +kernel
theorem dX7_isClean_21 : decode cX7_isClean 21 = .ok (.iastore, 1) := by decide +kernel
theorem dX7_isClean_22 : decode cX7_isClean 22 = .ok (.iload_n 2, 1) := by decide +kernel
theorem dX7_isClean_23 : decode cX7_isClean 23 = .ok (.iconst 3, 1) := by decide +kernel
theorem dX7_isClean_24 : decode cX7_isClean 24 = .ok (.idiv, 1) := by decide +kernel
theorem dX7_isClean_25 : decode cX7_isClean 25 = .ok (.istore_n 2, 1) := by decide +kernel
theorem dX7_isClean_26 : decode cX7_isClean 26 = .ok (.iinc 3 (-1), 3) := by decide +kernel
theorem dX7_isClean_29 : decode cX7_isClean 29 = .ok (.goto (-20), 3) := by decide +kernel
theorem dX7_isClean_32 : decode cX7_isClean 32 = .ok (.iconst 0, 1) := by decide +kernel
theorem dX7_isClean_33 : decode cX7_isClean 33 = .ok (.istore_n 3, 1) := by decide +kernel
theorem dX7_isClean_34 : decode cX7_isClean 34 = .ok (.iload_n 3, 1) := by decide +kernel
theorem dX7_isClean_35 : decode cX7_isClean 35 = .ok (.iconst 3, 1) := by decide +kernel
theorem dX7_isClean_36 : decode cX7_isClean 36 = .ok (.if_icmp .ge 16, 3) := by decide +kernel
theorem dX7_isClean_39 : decode cX7_isClean 39 = .ok (.aload_n 0, 1) := by decide +kernel
theorem dX7_isClean_40 : decode cX7_isClean 40 = .ok (.getfield 41, 3) := by decide +kernel
theorem dX7_isClean_43 : decode cX7_isClean 43 = .ok (.iload_n 3, 1) := by decide +kernel
theorem dX7_isClean_44 : decode cX7_isClean 44 = .ok (.iconst 0, 1) := by decide +kernel
theorem dX7_isClean_45 : decode cX7_isClean 45 = .ok (.iastore, 1) := by decide +kernel
theorem dX7_isClean_46 : decode cX7_isClean 46 = .ok (.iinc 3 1, 3) := by decide +kernel
theorem dX7_isClean_49 : decode cX7_isClean 49 = .ok (.goto (-15), 3) := by decide +kernel
theorem dX7_isClean_52 : decode cX7_isClean 52 = .ok (.iconst 1, 1) := by decide +kernel
theorem dX7_isClean_53 : decode cX7_isClean 53 = .ok (.istore_n 3, 1) := by decide +kernel
theorem dX7_isClean_54 : decode cX7_isClean 54 = .ok (.iconst 0, 1) := by decide +kernel
theorem dX7_isClean_55 : decode cX7_isClean 55 = .ok (.istore 4, 2) := by decide +kernel
theorem dX7_isClean_57 : decode cX7_isClean 57 = .ok (.iload 4, 2) := by decide +kernel
theorem dX7_isClean_59 : decode cX7_isClean 59 = .ok (.aload_n 0, 1) := by decide +kernel
theorem dX7_isClean_60 : decode cX7_isClean 60 = .ok (.getfield 88, 3) := by decide +kernel
theorem dX7_isClean_63 : decode cX7_isClean 63 = .ok (.if_icmp .ge 75, 3) := by decide +kernel
theorem dX7_isClean_66 : decode cX7_isClean 66 = .ok (.aload_n 0, 1) := by decide +kernel
theorem dX7_isClean_67 : decode cX7_isClean 67 = .ok (.getfield 35, 3) := by decide +kernel
theorem dX7_isClean_70 : decode cX7_isClean 70 = .ok (.iload 4, 2) := by decide +kernel
theorem dX7_isClean_72 : decode cX7_isClean 72 = .ok (.iaload, 1) := by decide +kernel
theorem dX7_isClean_73 : decode cX7_isClean 73 = .ok (.istore 5, 2) := by decide +kernel
theorem dX7_isClean_75 : decode cX7_isClean 75 = .ok (.aload_n 0, 1) := by decide +kernel
theorem dX7_isClean_76 : decode cX7_isClean 76 = .ok (.getfield 38, 3) := by decide +kernel
theorem dX7_isClean_79 : decode cX7_isClean 79 = .ok (.iconst 5, 1) := by decide +kernel
theorem dX7_isClean_80 : decode cX7_isClean 80 = .ok (.iload 5, 2) := by decide +kernel
theorem dX7_isClean_82 : decode cX7_isClean 82 = .ok (.imul, 1) := by decide +kernel
theorem dX7_isClean_83 : decode cX7_isClean 83 = .ok (.aload_n 0, 1) := by decide +kernel
theorem dX7_isClean_84 : decode cX7_isClean 84 = .ok (.getfield 41, 3) := by decide +kernel
theorem dX7_isClean_87 : decode cX7_isClean 87 = .ok (.iload 5, 2) := by decide +kernel
theorem dX7_isClean_89 : decode cX7_isClean 89 = .ok (.iaload, 1) := by decide +kernel
theorem dX7_isClean_90 : decode cX7_isClean 90 = .ok (.iadd, 1) := by decide +kernel
theorem dX7_isClean_91 : decode cX7_isClean 91 = .ok (.iload 4, 2) := by decide +kernel
theorem dX7_isClean_93 : decode cX7_isClean 93 = .ok (.iastore, 1) := by decide +kernel
theorem dX7_isClean_94 : decode cX7_isClean 94 = .ok (.aload_n 0, 1) := by decide +kernel
theorem dX7_isClean_95 : decode cX7_isClean 95 = .ok (.getfield 41, 3) := by decide +kernel
theorem dX7_isClean_98 : decode cX7_isClean 98 = .ok (.iload 5, 2) := by decide +kernel
theorem dX7_isClean_100 : decode cX7_isClean 100 = .ok (.dup2, 1) := by decide +kernel
theorem dX7_isClean_101 : decode cX7_isClean 101 = .ok (.iaload, 1) := by decide +kernel
theorem dX7_isClean_102 : decode cX7_isClean 102 = .ok (.iconst 1, 1) := by decide +kernel
theorem dX7_isClean_103 : decode cX7_isClean 103 = .ok (.iadd, 1) := by decide +kernel
theorem dX7_isClean_104 : decode cX7_isClean 104 = .ok (.iastore, 1) := by decide +kernel
theorem dX7_isClean_105 : decode cX7_isClean 105 = .ok (.iload_n 3, 1) := by decide +kernel
theorem dX7_isClean_106 : decode cX7_isClean 106 = .ok (.ifCond .eq 24, 3) := by decide +kernel
theorem dX7_isClean_109 : decode cX7_isClean 109 = .ok (.aload_n 0, 1) := by decide +kernel
theorem dX7_isClean_110 : decode cX7_isClean 110 = .ok (.getfield 41, 3) := by decide +kernel
theorem dX7_isClean_113 : decode cX7_isClean 113 = .ok (.iload 5, 2) := by decide +kernel
theorem dX7_isClean_115 : decode cX7_isClean 115 = .ok (.iaload, 1) := by decide +kernel
theorem dX7_isClean_116 : decode cX7_isClean 116 = .ok (.aload_n 0, 1) := by decide +kernel
theorem dX7_isClean_117 : decode cX7_isClean 117 = .ok (.getfield 23, 3) := by decide +kernel
theorem dX7_isClean_120 : decode cX7_isClean 120 = .ok (.iload 5, 2) := by decide +kernel
theorem dX7_isClean_122 : decode cX7_isClean 122 = .ok (.iaload, 1) := by decide +kernel
theorem dX7_isClean_123 : decode cX7_isClean 123 = .ok (.if_icmp .gt 7, 3) := by decide +kernel
theorem dX7_isClean_126 : decode cX7_isClean 126 = .ok (.iconst 1, 1) := by decide +kernel
theorem dX7_isClean_127 : decode cX7_isClean 127 = .ok (.goto 4, 3) := by decide +kernel
theorem dX7_isClean_130 : decode cX7_isClean 130 = .ok (.iconst 0, 1) := by decide +kernel
theorem dX7_isClean_131 : decode cX7_isClean 131 = .ok (.istore_n 3, 1) := by decide +kernel
theorem dX7_isClean_132 : decode cX7_isClean 132 = .ok (.iinc 4 1, 3) := by decide +kernel
theorem dX7_isClean_135 : decode cX7_isClean 135 = .ok (.goto (-78), 3) := by decide +kernel
theorem dX7_isClean_138 : decode cX7_isClean 138 = .ok (.iload_n 3, 1) := by decide +kernel
theorem dX7_isClean_139 : decode cX7_isClean 139 = .ok (.ifCond .eq 14, 3) := by decide +kernel
theorem dX7_isClean_142 : decode cX7_isClean 142 = .ok (.aload_n 0, 1) := by decide +kernel
theorem dX7_isClean_143 : decode cX7_isClean 143 = .ok (.invokevirtual 106, 3) := by decide +kernel
theorem dX7_isClean_146 : decode cX7_isClean 146 = .ok (.ifCond .eq 7, 3) := by decide +kernel
theorem dX7_isClean_149 : decode cX7_isClean 149 = .ok (.iconst 1, 1) := by decide +kernel
theorem dX7_isClean_150 : decode cX7_isClean 150 = .ok (.goto 4, 3) := by decide +kernel
theorem dX7_isClean_153 : decode cX7_isClean 153 = .ok (.iconst 0, 1) := by decide +kernel
theorem dX7_isClean_154 : decode cX7_isClean 154 = .ok (.ireturn, 1) := by decide +kernel
set_option maxRecDepth 20000 in
theorem ggX7_canLeave_X7_off : GoodIn wsX7_canLeave wsX7_off := goodIn_r _ [10, 11, 1, 12, 13, 14, 9, 15, 16, 17, 18, 19, 20, 21, 22, 23, 24, 25, 26, 27, 28, 29, 30, 31, 32, 33, 34, 35, 36, 37, 38, 39, 40, 41, 42, 43, 44, 45, 46, 47] (by decide +kernel) (by decide +kernel)
set_option maxRecDepth 20000 in
theorem gX7_canLeave_X7_off : GoodIn wsX7_canLeave (wsV RX7 110 RX7 yX7_off wsX7_off) := goodIn_app (goodIn_of _ (by decide +kernel)) ggX7_canLeave_X7_off
theorem dX7_canLeave_0 : decode cX7_canLeave 0 = .ok (.iconst 0, 1) := by decide +kernel
theorem dX7_canLeave_1 : decode cX7_canLeave 1 = .ok (.istore_n 1, 1) := by decide +kernel
theorem dX7_canLeave_2 : decode cX7_canLeave 2 = .ok (.iload_n 1, 1) := by decide +kernel
theorem dX7_canLeave_3 : decode cX7_canLeave 3 = .ok (.sipush 216, 3) := by decide +kernel
theorem dX7_canLeave_6 : decode cX7_canLeave 6 = .ok (.if_icmp .ge 16, 3) := by decide +kernel
theorem dX7_canLeave_9 : decode cX7_canLeave 9 = .ok (.aload_n 0, 1) := by decide +kernel
theorem dX7_canLeave_10 : decode cX7_canLeave 10 = .ok (.getfield 44, 3) := by decide +kernel
theorem dX7_canLeave_13 : decode cX7_canLeave 13 = .ok (.iload_n 1, 1) := by decide +kernel
theorem dX7_canLeave_14 : decode cX7_canLeave 14 = .ok (.iconst 0, 1) := by decide +kernel
theorem dX7_canLeave_15 : decode cX7_canLeave 15 = .ok (.bastore, 1) := by decide +kernel
theorem dX7_canLeave_16 : decode cX7_canLeave 16 = .ok (.iinc 1 1, 3) := by decide +kernel
theorem dX7_canLeave_19 : decode cX7_canLeave 19 = .ok (.goto (-17), 3) := by decide +kernel
theorem dX7_canLeave_22 : decode cX7_canLeave 22 = .ok (.aload_n 0, 1) := by decide +kernel
theorem dX7_canLeave_23 : decode cX7_canLeave 23 = .ok (.getfield 44, 3) := by decide +kernel
theorem dX7_canLeave_26 : decode cX7_canLeave 26 = .ok (.bipush 36, 2) := by decide +kernel
theorem dX7_canLeave_28 : decode cX7_canLeave 28 = .ok (.aload_n 0, 1) := by decide +kernel
theorem dX7_canLeave_29 : decode cX7_canLeave 29 = .ok (.getfield 41, 3) := by decide +kernel
theorem dX7_canLeave_32 : decode cX7_canLeave 32 = .ok (.iconst 0, 1) := by decide +kernel
theorem dX7_canLeave_33 : decode cX7_canLeave 33 = .ok (.iaload, 1) := by decide +kernel
theorem dX7_canLeave_34 : decode cX7_canLeave 34 = .ok (.imul, 1) := by decide +kernel
theorem dX7_canLeave_35 : decode cX7_canLeave 35 = .ok (.bipush 6, 2) := by decide +kernel
theorem dX7_canLeave_37 : decode cX7_canLeave 37 = .ok (.aload_n 0, 1) := by decide +kernel
theorem dX7_canLeave_38 : decode cX7_canLeave 38 = .ok (.getfield 41, 3) := by decide +kernel
theorem dX7_canLeave_41 : decode cX7_canLeave 41 = .ok (.iconst 1, 1) := by decide +kernel
theorem dX7_canLeave_42 : decode cX7_canLeave 42 = .ok (.iaload, 1) := by decide +kernel
theorem dX7_canLeave_43 : decode cX7_canLeave 43 = .ok (.imul, 1) := by decide +kernel
theorem dX7_canLeave_44 : decode cX7_canLeave 44 = .ok (.iadd, 1) := by decide +kernel
theorem dX7_canLeave_45 : decode cX7_canLeave 45 = .ok (.aload_n 0, 1) := by decide +kernel
theorem dX7_canLeave_46 : decode cX7_canLeave 46 = .ok (.getfield 41, 3) := by decide +kernel
theorem dX7_canLeave_49 : decode cX7_canLeave 49 = .ok (.iconst 2, 1) := by decide +kernel
theorem dX7_canLeave_50 : decode cX7_canLeave 50 = .ok (.iaload, 1) := by decide +kernel
theorem dX7_canLeave_51 : decode cX7_canLeave 51 = .ok (.iadd, 1) := by decide +kernel
theorem dX7_canLeave_52 : decode cX7_canLeave 52 = .ok (.iconst 1, 1) := by decide +kernel
theorem dX7_canLeave_53 : decode cX7_canLeave 53 = .ok (.bastore, 1) := by decide +kernel
theorem dX7_canLeave_54 : decode cX7_canLeave 54 = .ok (.iconst 0, 1) := by decide +kernel
theorem dX7_canLeave_55 : decode cX7_canLeave 55 = .ok (.istore_n 1, 1) := by decide +kernel
theorem dX7_canLeave_56 : decode cX7_canLeave 56 = .ok (.aload_n 0, 1) := by decide +kernel
theorem dX7_canLeave_57 : decode cX7_canLeave 57 = .ok (.getfield 41, 3) := by decide +kernel
theorem dX7_canLeave_60 : decode cX7_canLeave 60 = .ok (.iconst 0, 1) := by decide +kernel
theorem dX7_canLeave_61 : decode cX7_canLeave 61 = .ok (.iaload, 1) := by decide +kernel
theorem dX7_canLeave_62 : decode cX7_canLeave 62 = .ok (.istore_n 2, 1) := by decide +kernel
theorem dX7_canLeave_63 : decode cX7_canLeave 63 = .ok (.iload_n 2, 1) := by decide +kernel
theorem dX7_canLeave_64 : decode cX7_canLeave 64 = .ok (.ifCond .lt 188, 3) := by decide +kernel
theorem dX7_canLeave_67 : decode cX7_canLeave 67 = .ok (.aload_n 0, 1) := by decide +kernel
theorem dX7_canLeave_68 : decode cX7_canLeave 68 = .ok (.getfield 41, 3) := by decide +kernel
theorem dX7_canLeave_71 : decode cX7_canLeave 71 = .ok (.iconst 1, 1) := by decide +kernel
theorem dX7_canLeave_72 : decode cX7_canLeave 72 = .ok (.iaload, 1) := by decide +kernel
theorem dX7_canLeave_73 : decode cX7_canLeave 73 = .ok (.istore_n 3, 1) := by decide +kernel
theorem dX7_canLeave_74 : decode cX7_canLeave 74 = .ok (.iload_n 3, 1) := by decide +kernel
theorem dX7_canLeave_75 : decode cX7_canLeave 75 = .ok (.ifCond .lt 171, 3) := by decide +kernel
theorem dX7_canLeave_78 : decode cX7_canLeave 78 = .ok (.aload_n 0, 1) := by decide +kernel
theorem dX7_canLeave_79 : decode cX7_canLeave 79 = .ok (.getfield 41, 3) := by decide +kernel
theorem dX7_canLeave_82 : decode cX7_canLeave 82 = .ok (.iconst 2, 1) := by decide +kernel
theorem dX7_canLeave_83 : decode cX7_canLeave 83 = .ok (.iaload, 1) := by decide +kernel
theorem dX7_canLeave_84 : decode cX7_canLeave 84 = .ok (.istore 4, 2) := by decide +kernel
theorem dX7_canLeave_86 : decode cX7_canLeave 86 = .ok (.iload 4, 2) := by decide +kernel
theorem dX7_canLeave_88 : decode cX7_canLeave 88 = .ok (.ifCond .lt 152, 3) := by decide +kernel
theorem dX7_canLeave_91 : decode cX7_canLeave 91 = .ok (.aload_n 0, 1) := by decide +kernel
theorem dX7_canLeave_92 : decode cX7_canLeave 92 = .ok (.getfield 88, 3) := by decide +kernel
theorem dX7_canLeave_95 : decode cX7_canLeave 95 = .ok (.iload_n 2, 1) := by decide +kernel
theorem dX7_canLeave_96 : decode cX7_canLeave 96 = .ok (.isub, 1) := by decide +kernel
theorem dX7_canLeave_97 : decode cX7_canLeave 97 = .ok (.iload_n 3, 1) := by decide +kernel
theorem dX7_canLeave_98 : decode cX7_canLeave 98 = .ok (.isub, 1) := by decide +kernel
theorem dX7_canLeave_99 : decode cX7_canLeave 99 = .ok (.iload 4, 2) := by decide +kernel
theorem dX7_canLeave_101 : decode cX7_canLeave 101 = .ok (.isub, 1) := by decide +kernel
theorem dX7_canLeave_102 : decode cX7_canLeave 102 = .ok (.istore 5, 2) := by decide +kernel
theorem dX7_canLeave_104 : decode cX7_canLeave 104 = .ok (.aload_n 0, 1) := by decide +kernel
theorem dX7_canLeave_105 : decode cX7_canLeave 105 = .ok (.getfield 44, 3) := by decide +kernel
theorem dX7_canLeave_108 : decode cX7_canLeave 108 = .ok (.bipush 36, 2) := by decide +kernel
theorem dX7_canLeave_110 : decode cX7_canLeave 110 = .ok (.iload_n 2, 1) := by decide +kernel
theorem dX7_canLeave_111 : decode cX7_canLeave 111 = .ok (.imul, 1) := by decide +kernel
theorem dX7_canLeave_112 : decode cX7_canLeave 112 = .ok (.bipush 6, 2) := by decide +kernel
theorem dX7_canLeave_114 : decode cX7_canLeave 114 = .ok (.iload_n 3, 1) := by decide +kernel
theorem dX7_canLeave_115 : decode cX7_canLeave 115 = .ok (.imul, 1) := by decide +kernel
theorem dX7_canLeave_116 : decode cX7_canLeave 116 = .ok (.iadd, 1) := by decide +kernel
theorem dX7_canLeave_117 : decode cX7_canLeave 117 = .ok (.iload 4, 2) := by decide +kernel
theorem dX7_canLeave_119 : decode cX7_canLeave 119 = .ok (.iadd, 1) := by decide +kernel
theorem dX7_canLeave_120 : decode cX7_canLeave 120 = .ok (.baload, 1) := by decide +kernel
theorem dX7_canLeave_121 : decode cX7_canLeave 121 = .ok (.ifCond .eq 113, 3) := by decide +kernel
theorem dX7_canLeave_124 : decode cX7_canLeave 124 = .ok (.iload_n 1, 1) := by decide +kernel
theorem dX7_canLeave_125 : decode cX7_canLeave 125 = .ok (.ifCond .ne 12, 3) := by decide +kernel
theorem dX7_canLeave_128 : decode cX7_canLeave 128 = .ok (.iload 5, 2) := by decide +kernel
theorem dX7_canLeave_130 : decode cX7_canLeave 130 = .ok (.aload_n 0, 1) := by decide +kernel
theorem dX7_canLeave_131 : decode cX7_canLeave 131 = .ok (.getfield 103, 3) := by decide +kernel
theorem dX7_canLeave_134 : decode cX7_canLeave 134 = .ok (.if_icmp .ne 7, 3) := by decide +kernel
theorem dX7_canLeave_137 : decode cX7_canLeave 137 = .ok (.iconst 1, 1) := by decide +kernel
theorem dX7_canLeave_138 : decode cX7_canLeave 138 = .ok (.goto 4, 3) := by decide +kernel
theorem dX7_canLeave_141 : decode cX7_canLeave 141 = .ok (.iconst 0, 1) := by decide +kernel
theorem dX7_canLeave_142 : decode cX7_canLeave 142 = .ok (.istore_n 1, 1) := by decide +kernel
theorem dX7_canLeave_143 : decode cX7_canLeave 143 = .ok (.iload 5, 2) := by decide +kernel
theorem dX7_canLeave_145 : decode cX7_canLeave 145 = .ok (.aload_n 0, 1) := by decide +kernel
theorem dX7_canLeave_146 : decode cX7_canLeave 146 = .ok (.getfield 103, 3) := by decide +kernel
theorem dX7_canLeave_149 : decode cX7_canLeave 149 = .ok (.if_icmp .ge 85, 3) := by decide +kernel
theorem dX7_canLeave_152 : decode cX7_canLeave 152 = .ok (.aload_n 0, 1) := by decide +kernel
theorem dX7_canLeave_153 : decode cX7_canLeave 153 = .ok (.iload_n 2, 1) := by decide +kernel
theorem dX7_canLeave_154 : decode cX7_canLeave 154 = .ok (.iconst 0, 1) := by decide +kernel
theorem dX7_canLeave_155 : decode cX7_canLeave 155 = .ok (.bipush 36, 2) := by decide +kernel
theorem dX7_canLeave_157 : decode cX7_canLeave 157 = .ok (.iload_n 2, 1) := by decide +kernel
theorem dX7_canLeave_158 : decode cX7_canLeave 158 = .ok (.iconst 1, 1) := by decide +kernel
theorem dX7_canLeave_159 : decode cX7_canLeave 159 = .ok (.isub, 1) := by decide +kernel
theorem dX7_canLeave_160 : decode cX7_canLeave 160 = .ok (.imul, 1) := by decide +kernel
theorem dX7_canLeave_161 : decode cX7_canLeave 161 = .ok (.bipush 6, 2) := by decide +kernel
theorem dX7_canLeave_163 : decode cX7_canLeave 163 = .ok (.iload_n 3, 1) := by decide +kernel
theorem dX7_canLeave_164 : decode cX7_canLeave 164 = .ok (.imul, 1) := by decide +kernel
theorem dX7_canLeave_165 : decode cX7_canLeave 165 = .ok (.iadd, 1) := by decide +kernel
theorem dX7_canLeave_166 : decode cX7_canLeave 166 = .ok (.iload 4, 2) := by decide +kernel
theorem dX7_canLeave_168 : decode cX7_canLeave 168 = .ok (.iadd, 1) := by decide +kernel
theorem dX7_canLeave_169 : decode cX7_canLeave 169 = .ok (.aload_n 0, 1) := by decide +kernel
theorem dX7_canLeave_170 : decode cX7_canLeave 170 = .ok (.getfield 26, 3) := by decide +kernel
theorem dX7_canLeave_173 : decode cX7_canLeave 173 = .ok (.iload 5, 2) := by decide +kernel
theorem dX7_canLeave_175 : decode cX7_canLeave 175 = .ok (.iaload, 1) := by decide +kernel
theorem dX7_canLeave_176 : decode cX7_canLeave 176 = .ok (.invokevirtual 110, 3) := by decide +kernel
theorem dX7_canLeave_179 : decode cX7_canLeave 179 = .ok (.aload_n 0, 1) := by decide +kernel
theorem dX7_canLeave_180 : decode cX7_canLeave 180 = .ok (.iload_n 3, 1) := by decide +kernel
theorem dX7_canLeave_181 : decode cX7_canLeave 181 = .ok (.iconst 1, 1) := by decide +kernel
theorem dX7_canLeave_182 : decode cX7_canLeave 182 = .ok (.bipush 36, 2) := by decide +kernel
theorem dX7_canLeave_184 : decode cX7_canLeave 184 = .ok (.iload_n 2, 1) := by decide +kernel
theorem dX7_canLeave_185 : decode cX7_canLeave 185 = .ok (.imul, 1) := by decide +kernel
theorem dX7_canLeave_186 : decode cX7_canLeave 186 = .ok (.bipush 6, 2) := by decide +kernel
theorem dX7_canLeave_188 : decode cX7_canLeave 188 = .ok (.iload_n 3, 1) := by decide +kernel
theorem dX7_canLeave_189 : decode cX7_canLeave 189 = .ok (.iconst 1, 1) := by decide +kernel
theorem dX7_canLeave_190 : decode cX7_canLeave 190 = .ok (.isub, 1) := by decide +kernel
theorem dX7_canLeave_191 : decode cX7_canLeave 191 = .ok (.imul, 1) := by decide +kernel
theorem dX7_canLeave_192 : decode cX7_canLeave 192 = .ok (.iadd, 1) := by decide +kernel
theorem dX7_canLeave_193 : decode cX7_canLeave 193 = .ok (.iload 4, 2) := by decide +kernel
theorem dX7_canLeave_195 : decode cX7_canLeave 195 = .ok (.iadd, 1) := by decide +kernel
theorem dX7_canLeave_196 : decode cX7_canLeave 196 = .ok (.aload_n 0, 1) := by decide +kernel
theorem dX7_canLeave_197 : decode cX7_canLeave 197 = .ok (.getfield 26, 3) := by decide +kernel
theorem dX7_canLeave_200 : decode cX7_canLeave 200 = .ok (.iload 5, 2) := by decide +kernel
theorem dX7_canLeave_202 : decode cX7_canLeave 202 = .ok (.iaload, 1) := by decide +kernel
theorem dX7_canLeave_203 : decode cX7_canLeave 203 = .ok (.invokevirtual 110, 3) := by decide +kernel
theorem dX7_canLeave_206 : decode cX7_canLeave 206 = .ok (.aload_n 0, 1) := by decide +kernel
theorem dX7_canLeave_207 : decode cX7_canLeave 207 = .ok (.iload 4, 2) := by decide +kernel
theorem dX7_canLeave_209 : decode cX7_canLeave 209 = .ok (.iconst 2, 1) := by decide +kernel
theorem dX7_canLeave_210 : decode cX7_canLeave 210 = .ok (.bipush 36, 2) := by decide +kernel
theorem dX7_canLeave_212 : decode cX7_canLeave 212 = .ok (.iload_n 2, 1) := by decide +kernel
theorem dX7_canLeave_213 : decode cX7_canLeave 213 = .ok (.imul, 1) := by decide +kernel
theorem dX7_canLeave_214 : decode cX7_canLeave 214 = .ok (.bipush 6, 2) := by decide +kernel
theorem dX7_canLeave_216 : decode cX7_canLeave 216 = .ok (.iload_n 3, 1) := by decide +kernel
theorem dX7_canLeave_217 : decode cX7_canLeave 217 = .ok (.imul, 1) := by decide +kernel
theorem dX7_canLeave_218 : decode cX7_canLeave 218 = .ok (.iadd, 1) := by decide +kernel
theorem dX7_canLeave_219 : decode cX7_canLeave 219 = .ok (.iload 4, 2) := by decide +kernel
theorem dX7_canLeave_221 : decode cX7_canLeave 221 = .ok (.iadd, 1) := by decide +kernel
theorem dX7_canLeave_222 : decode cX7_canLeave 222 = .ok (.iconst 1, 1) := by decide +kernel
