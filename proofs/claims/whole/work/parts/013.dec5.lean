set_option maxRecDepth 20000 in
theorem ggX7_best_X7_in : GoodIn wsX7_best wsX7_in := goodIn_r _ [7] (by decide +kernel) (by decide +kernel)
set_option maxRecDepth 20000 in
theorem gX7_best_X7_in : GoodIn wsX7_best (va_wsS RX7 92 yX7_in wsX7_in) := goodIn_app (goodIn_of _ (by decide +kernel)) ggX7_best_X7_in
set_option maxRecDepth 20000 in
theorem ggX7_best_X7_findBest : GoodIn wsX7_best wsX7_findBest := goodIn_r _ [11, 1, 12, 2, 13, 3, 14, 15, 16, 17, 6, 18, 19, 20, 21, 22, 23, 24, 25, 26, 27, 28, 29, 30, 31, 32, 33, 34, 35, 36, 37, 38, 39, 40, 41, 42, 43, 44, 45, 46, 47, 48, 49, 50, 51, 52, 53, 54] (by decide +kernel) (by decide +kernel)
set_option maxRecDepth 20000 in
theorem gX7_best_X7_findBest : GoodIn wsX7_best (wsV RX7 170 RX7 yX7_findBest wsX7_findBest) := goodIn_app (goodIn_of _ (by decide +kernel)) ggX7_best_X7_findBest
theorem dX7_best_0 : decode cX7_best 0 = .ok (.iload_n 1, 1) := by decide +kernel
theorem dX7_best_1 : decode cX7_best 1 = .ok (.iconst 0, 1) := by decide +kernel
theorem dX7_best_2 : decode cX7_best 2 = .ok (.aload_n 0, 1) := by decide +kernel
theorem dX7_best_3 : decode cX7_best 3 = .ok (.getfield 88, 3) := by decide +kernel
theorem dX7_best_6 : decode cX7_best 6 = .ok (.iconst 1, 1) := by decide +kernel
theorem dX7_best_7 : decode cX7_best 7 = .ok (.isub, 1) := by decide +kernel
theorem dX7_best_8 : decode cX7_best 8 = .ok (.invokestatic 92, 3) := by decide +kernel
theorem dX7_best_11 : decode cX7_best 11 = .ok (.ifCond .eq 12, 3) := by decide +kernel
theorem dX7_best_14 : decode cX7_best 14 = .ok (.iload_n 2, 1) := by decide +kernel
theorem dX7_best_15 : decode cX7_best 15 = .ok (.iconst 0, 1) := by decide +kernel
theorem dX7_best_16 : decode cX7_best 16 = .ok (.iconst 1, 1) := by decide +kernel
theorem dX7_best_17 : decode cX7_best 17 = .ok (.invokestatic 92, 3) := by decide +kernel
theorem dX7_best_20 : decode cX7_best 20 = .ok (.ifCond .ne 6, 3) := by decide +kernel
theorem dX7_best_23 : decode cX7_best 23 = .ok (.bipush (-3), 2) := by decide +kernel
theorem dX7_best_25 : decode cX7_best 25 = .ok (.ireturn, 1) := by decide +kernel
theorem dX7_best_26 : decode cX7_best 26 = .ok (.aload_n 0, 1) := by decide +kernel
theorem dX7_best_27 : decode cX7_best 27 = .ok (.invokevirtual 170, 3) := by decide +kernel
theorem dX7_best_30 : decode cX7_best 30 = .ok (.pop, 1) := by decide +kernel
theorem dX7_best_31 : decode cX7_best 31 = .ok (.iload_n 2, 1) := by decide +kernel
theorem dX7_best_32 : decode cX7_best 32 = .ok (.ifCond .ne 12, 3) := by decide +kernel
theorem dX7_best_35 : decode cX7_best 35 = .ok (.aload_n 0, 1) := by decide +kernel
theorem dX7_best_36 : decode cX7_best 36 = .ok (.getfield 82, 3) := by decide +kernel
theorem dX7_best_39 : decode cX7_best 39 = .ok (.iload_n 1, 1) := by decide +kernel
theorem dX7_best_40 : decode cX7_best 40 = .ok (.iaload, 1) := by decide +kernel
theorem dX7_best_41 : decode cX7_best 41 = .ok (.goto 9, 3) := by decide +kernel
theorem dX7_best_44 : decode cX7_best 44 = .ok (.aload_n 0, 1) := by decide +kernel
theorem dX7_best_45 : decode cX7_best 45 = .ok (.getfield 85, 3) := by decide +kernel
theorem dX7_best_48 : decode cX7_best 48 = .ok (.iload_n 1, 1) := by decide +kernel
theorem dX7_best_49 : decode cX7_best 49 = .ok (.iaload, 1) := by decide +kernel
theorem dX7_best_50 : decode cX7_best 50 = .ok (.ireturn, 1) := by decide +kernel
set_option maxRecDepth 20000 in
theorem ggX7_late_X7_in : GoodIn wsX7_late wsX7_in := goodIn_r _ [12] (by decide +kernel) (by decide +kernel)
set_option maxRecDepth 20000 in
theorem gX7_late_X7_in : GoodIn wsX7_late (va_wsS RX7 92 yX7_in wsX7_in) := goodIn_app (goodIn_of _ (by decide +kernel)) ggX7_late_X7_in
set_option maxRecDepth 20000 in
theorem ggX7_late_X7_findRun : GoodIn wsX7_late wsX7_findRun := goodIn_r _ [16, 17, 18, 19, 20, 1, 21, 2, 22, 23, 3, 24, 25, 26, 27, 28, 11, 29, 30, 31, 32, 33, 34, 35, 36, 37, 38, 39, 40, 41, 42, 43, 44, 45, 46, 47, 48, 49, 50, 51, 52, 53, 54, 73, 74, 75, 76, 77, 78, 79, 80, 81, 82, 83, 84, 85, 86, 87, 88, 89, 90, 91, 92, 93, 94, 95, 96, 97, 98, 99, 100, 101, 102] (by decide +kernel) (by decide +kernel)
set_option maxRecDepth 20000 in
theorem gX7_late_X7_findRun : GoodIn wsX7_late (wsV RX7 157 RX7 yX7_findRun wsX7_findRun) := goodIn_app (goodIn_of _ (by decide +kernel)) ggX7_late_X7_findRun
set_option maxRecDepth 20000 in
theorem ggX7_late_X7_takeNumbers : GoodIn wsX7_late wsX7_takeNumbers := goodIn_r _ [58, 4, 5, 73, 74, 75, 76, 77, 78, 79, 80, 81, 82, 83, 84, 85, 86, 87, 88, 89, 90, 91, 92, 93, 94, 95, 96, 97, 98, 99, 100, 101, 102] (by decide +kernel) (by decide +kernel)
set_option maxRecDepth 20000 in
theorem gX7_late_X7_takeNumbers : GoodIn wsX7_late (wsV RX7 167 RX7 yX7_takeNumbers wsX7_takeNumbers) := goodIn_app (goodIn_of _ (by decide +kernel)) ggX7_late_X7_takeNumbers
set_option maxRecDepth 20000 in
theorem ggX7_late_X7_findEnds : GoodIn wsX7_late wsX7_findEnds := goodIn_r _ [62, 4, 63, 5, 64, 7, 73, 74, 75, 76, 77, 78, 79, 80, 81, 82, 83, 84, 85, 86, 87, 88, 89, 90, 91, 92, 93, 94, 95, 96, 97, 98, 99, 100, 101, 102] (by decide +kernel) (by decide +kernel)
set_option maxRecDepth 20000 in
theorem gX7_late_X7_findEnds : GoodIn wsX7_late (wsV RX7 164 RX7 yX7_findEnds wsX7_findEnds) := goodIn_app (goodIn_of _ (by decide +kernel)) ggX7_late_X7_findEnds
set_option maxRecDepth 20000 in
theorem ggX7_late_X7_findBest : GoodIn wsX7_late wsX7_findBest := goodIn_r _ [68, 4, 1, 6, 5, 8, 7, 69, 70, 71, 11, 72, 59, 60, 61, 62, 63, 64, 73, 74, 75, 76, 77, 78, 79, 80, 81, 82, 83, 84, 85, 86, 87, 88, 89, 90, 91, 92, 93, 94, 95, 96, 97, 98, 99, 100, 101, 102] (by decide +kernel) (by decide +kernel)
set_option maxRecDepth 20000 in
theorem gX7_late_X7_findBest : GoodIn wsX7_late (wsV RX7 170 RX7 yX7_findBest wsX7_findBest) := goodIn_app (goodIn_of _ (by decide +kernel)) ggX7_late_X7_findBest
theorem dX7_late_0 : decode cX7_late 0 = .ok (.iload_n 1, 1) := by decide +kernel
theorem dX7_late_1 : decode cX7_late 1 = .ok (.iconst 0, 1) := by decide +kernel
theorem dX7_late_2 : decode cX7_late 2 = .ok (.iconst 1, 1) := by decide +kernel
theorem dX7_late_3 : decode cX7_late 3 = .ok (.invokestatic 92, 3) := by decide +kernel
theorem dX7_late_6 : decode cX7_late 6 = .ok (.ifCond .eq 14, 3) := by decide +kernel
theorem dX7_late_9 : decode cX7_late 9 = .ok (.iload_n 2, 1) := by decide +kernel
theorem dX7_late_10 : decode cX7_late 10 = .ok (.iconst 0, 1) := by decide +kernel
theorem dX7_late_11 : decode cX7_late 11 = .ok (.sipush 1000, 3) := by decide +kernel
theorem dX7_late_14 : decode cX7_late 14 = .ok (.invokestatic 92, 3) := by decide +kernel
theorem dX7_late_17 : decode cX7_late 17 = .ok (.ifCond .ne 6, 3) := by decide +kernel
theorem dX7_late_20 : decode cX7_late 20 = .ok (.bipush (-3), 2) := by decide +kernel
theorem dX7_late_22 : decode cX7_late 22 = .ok (.ireturn, 1) := by decide +kernel
theorem dX7_late_23 : decode cX7_late 23 = .ok (.aload_n 0, 1) := by decide +kernel
theorem dX7_late_24 : decode cX7_late 24 = .ok (.invokevirtual 157, 3) := by decide +kernel
theorem dX7_late_27 : decode cX7_late 27 = .ok (.ldc 153, 2) := by decide +kernel
theorem dX7_late_29 : decode cX7_late 29 = .ok (.if_icmp .ne 6, 3) := by decide +kernel
theorem dX7_late_32 : decode cX7_late 32 = .ok (.bipush (-4), 2) := by decide +kernel
theorem dX7_late_34 : decode cX7_late 34 = .ok (.ireturn, 1) := by decide +kernel
theorem dX7_late_35 : decode cX7_late 35 = .ok (.iload_n 1, 1) := by decide +kernel
theorem dX7_late_36 : decode cX7_late 36 = .ok (.ifCond .ne 15, 3) := by decide +kernel
theorem dX7_late_39 : decode cX7_late 39 = .ok (.aload_n 0, 1) := by decide +kernel
theorem dX7_late_40 : decode cX7_late 40 = .ok (.invokevirtual 167, 3) := by decide +kernel
theorem dX7_late_43 : decode cX7_late 43 = .ok (.aload_n 0, 1) := by decide +kernel
theorem dX7_late_44 : decode cX7_late 44 = .ok (.invokevirtual 164, 3) := by decide +kernel
theorem dX7_late_47 : decode cX7_late 47 = .ok (.pop, 1) := by decide +kernel
theorem dX7_late_48 : decode cX7_late 48 = .ok (.goto 8, 3) := by decide +kernel
theorem dX7_late_51 : decode cX7_late 51 = .ok (.aload_n 0, 1) := by decide +kernel
theorem dX7_late_52 : decode cX7_late 52 = .ok (.invokevirtual 170, 3) := by decide +kernel
theorem dX7_late_55 : decode cX7_late 55 = .ok (.pop, 1) := by decide +kernel
theorem dX7_late_56 : decode cX7_late 56 = .ok (.iconst 0, 1) := by decide +kernel
theorem dX7_late_57 : decode cX7_late 57 = .ok (.istore_n 3, 1) := by decide +kernel
theorem dX7_late_58 : decode cX7_late 58 = .ok (.iconst 0, 1) := by decide +kernel
theorem dX7_late_59 : decode cX7_late 59 = .ok (.istore 4, 2) := by decide +kernel
theorem dX7_late_61 : decode cX7_late 61 = .ok (.iconst 0, 1) := by decide +kernel
theorem dX7_late_62 : decode cX7_late 62 = .ok (.istore 5, 2) := by decide +kernel
theorem dX7_late_64 : decode cX7_late 64 = .ok (.iload 5, 2) := by decide +kernel
theorem dX7_late_66 : decode cX7_late 66 = .ok (.aload_n 0, 1) := by decide +kernel
theorem dX7_late_67 : decode cX7_late 67 = .ok (.getfield 154, 3) := by decide +kernel
theorem dX7_late_70 : decode cX7_late 70 = .ok (.if_icmp .ge 134, 3) := by decide +kernel
theorem dX7_late_73 : decode cX7_late 73 = .ok (.aload_n 0, 1) := by decide +kernel
theorem dX7_late_74 : decode cX7_late 74 = .ok (.getfield 73, 3) := by decide +kernel
theorem dX7_late_77 : decode cX7_late 77 = .ok (.iload 5, 2) := by decide +kernel
theorem dX7_late_79 : decode cX7_late 79 = .ok (.iaload, 1) := by decide +kernel
theorem dX7_late_80 : decode cX7_late 80 = .ok (.istore 6, 2) := by decide +kernel
theorem dX7_late_82 : decode cX7_late 82 = .ok (.iconst 0, 1) := by decide +kernel
theorem dX7_late_83 : decode cX7_late 83 = .ok (.istore 7, 2) := by decide +kernel
theorem dX7_late_85 : decode cX7_late 85 = .ok (.iload 7, 2) := by decide +kernel
theorem dX7_late_87 : decode cX7_late 87 = .ok (.aload_n 0, 1) := by decide +kernel
theorem dX7_late_88 : decode cX7_late 88 = .ok (.getfield 88, 3) := by decide +kernel
theorem dX7_late_91 : decode cX7_late 91 = .ok (.if_icmp .ge 91, 3) := by decide +kernel
theorem dX7_late_94 : decode cX7_late 94 = .ok (.iload 6, 2) := by decide +kernel
theorem dX7_late_96 : decode cX7_late 96 = .ok (.iconst (-1), 1) := by decide +kernel
theorem dX7_late_97 : decode cX7_late 97 = .ok (.if_icmp .eq 85, 3) := by decide +kernel
theorem dX7_late_100 : decode cX7_late 100 = .ok (.iload_n 1, 1) := by decide +kernel
theorem dX7_late_101 : decode cX7_late 101 = .ok (.ifCond .ne 13, 3) := by decide +kernel
theorem dX7_late_104 : decode cX7_late 104 = .ok (.aload_n 0, 1) := by decide +kernel
theorem dX7_late_105 : decode cX7_late 105 = .ok (.getfield 76, 3) := by decide +kernel
theorem dX7_late_108 : decode cX7_late 108 = .ok (.iload 7, 2) := by decide +kernel
theorem dX7_late_110 : decode cX7_late 110 = .ok (.iaload, 1) := by decide +kernel
theorem dX7_late_111 : decode cX7_late 111 = .ok (.goto 10, 3) := by decide +kernel
theorem dX7_late_114 : decode cX7_late 114 = .ok (.aload_n 0, 1) := by decide +kernel
theorem dX7_late_115 : decode cX7_late 115 = .ok (.getfield 82, 3) := by decide +kernel
theorem dX7_late_118 : decode cX7_late 118 = .ok (.iload 7, 2) := by decide +kernel
theorem dX7_late_120 : decode cX7_late 120 = .ok (.iaload, 1) := by decide +kernel
theorem dX7_late_121 : decode cX7_late 121 = .ok (.istore 8, 2) := by decide +kernel
theorem dX7_late_123 : decode cX7_late 123 = .ok (.iload_n 1, 1) := by decide +kernel
theorem dX7_late_124 : decode cX7_late 124 = .ok (.ifCond .ne 13, 3) := by decide +kernel
theorem dX7_late_127 : decode cX7_late 127 = .ok (.aload_n 0, 1) := by decide +kernel
theorem dX7_late_128 : decode cX7_late 128 = .ok (.getfield 79, 3) := by decide +kernel
theorem dX7_late_131 : decode cX7_late 131 = .ok (.iload 7, 2) := by decide +kernel
theorem dX7_late_133 : decode cX7_late 133 = .ok (.iaload, 1) := by decide +kernel
theorem dX7_late_134 : decode cX7_late 134 = .ok (.goto 10, 3) := by decide +kernel
theorem dX7_late_137 : decode cX7_late 137 = .ok (.aload_n 0, 1) := by decide +kernel
theorem dX7_late_138 : decode cX7_late 138 = .ok (.getfield 85, 3) := by decide +kernel
theorem dX7_late_141 : decode cX7_late 141 = .ok (.iload 7, 2) := by decide +kernel
theorem dX7_late_143 : decode cX7_late 143 = .ok (.iaload, 1) := by decide +kernel
theorem dX7_late_144 : decode cX7_late 144 = .ok (.istore 9, 2) := by decide +kernel
theorem dX7_late_146 : decode cX7_late 146 = .ok (.iload_n 3, 1) := by decide +kernel
theorem dX7_late_147 : decode cX7_late 147 = .ok (.iload 8, 2) := by decide +kernel
theorem dX7_late_149 : decode cX7_late 149 = .ok (.iload 6, 2) := by decide +kernel
theorem dX7_late_151 : decode cX7_late 151 = .ok (.if_icmp .ne 22, 3) := by decide +kernel
theorem dX7_late_154 : decode cX7_late 154 = .ok (.iload 9, 2) := by decide +kernel
theorem dX7_late_156 : decode cX7_late 156 = .ok (.iload_n 2, 1) := by decide +kernel
theorem dX7_late_157 : decode cX7_late 157 = .ok (.bipush 10, 2) := by decide +kernel
theorem dX7_late_159 : decode cX7_late 159 = .ok (.iload 4, 2) := by decide +kernel
theorem dX7_late_161 : decode cX7_late 161 = .ok (.imul, 1) := by decide +kernel
theorem dX7_late_162 : decode cX7_late 162 = .ok (.iadd, 1) := by decide +kernel
theorem dX7_late_163 : decode cX7_late 163 = .ok (.if_icmp .le 10, 3) := by decide +kernel
theorem dX7_late_166 : decode cX7_late 166 = .ok (.iconst 1, 1) := by decide +kernel
theorem dX7_late_167 : decode cX7_late 167 = .ok (.iload 6, 2) := by decide +kernel
theorem dX7_late_169 : decode cX7_late 169 = .ok (.ishl, 1) := by decide +kernel
theorem dX7_late_170 : decode cX7_late 170 = .ok (.goto 4, 3) := by decide +kernel
theorem dX7_late_173 : decode cX7_late 173 = .ok (.iconst 0, 1) := by decide +kernel
theorem dX7_late_174 : decode cX7_late 174 = .ok (.ior, 1) := by decide +kernel
theorem dX7_late_175 : decode cX7_late 175 = .ok (.istore_n 3, 1) := by decide +kernel
theorem dX7_late_176 : decode cX7_late 176 = .ok (.iinc 7 1, 3) := by decide +kernel
theorem dX7_late_179 : decode cX7_late 179 = .ok (.goto (-94), 3) := by decide +kernel
theorem dX7_late_182 : decode cX7_late 182 = .ok (.iload 4, 2) := by decide +kernel
theorem dX7_late_184 : decode cX7_late 184 = .ok (.iload 6, 2) := by decide +kernel
theorem dX7_late_186 : decode cX7_late 186 = .ok (.iconst (-1), 1) := by decide +kernel
theorem dX7_late_187 : decode cX7_late 187 = .ok (.if_icmp .ne 7, 3) := by decide +kernel
theorem dX7_late_190 : decode cX7_late 190 = .ok (.iconst 0, 1) := by decide +kernel
theorem dX7_late_191 : decode cX7_late 191 = .ok (.goto 4, 3) := by decide +kernel
theorem dX7_late_194 : decode cX7_late 194 = .ok (.iconst 1, 1) := by decide +kernel
theorem dX7_late_195 : decode cX7_late 195 = .ok (.iadd, 1) := by decide +kernel
theorem dX7_late_196 : decode cX7_late 196 = .ok (.istore 4, 2) := by decide +kernel
theorem dX7_late_198 : decode cX7_late 198 = .ok (.iinc 5 1, 3) := by decide +kernel
theorem dX7_late_201 : decode cX7_late 201 = .ok (.goto (-137), 3) := by decide +kernel
theorem dX7_late_204 : decode cX7_late 204 = .ok (.iload_n 3, 1) := by decide +kernel
theorem dX7_late_205 : decode cX7_late 205 = .ok (.ireturn, 1) := by decide +kernel
theorem dX7_count_0 : decode cX7_count 0 = .ok (.iconst 0, 1) := by decide +kernel
theorem dX7_count_1 : decode cX7_count 1 = .ok (.istore_n 2, 1) := by decide +kernel
theorem dX7_count_2 : decode cX7_count 2 = .ok (.iload_n 1, 1) := by decide +kernel
theorem dX7_count_3 : decode cX7_count 3 = .ok (.tableswitch 79 0 3 #[29, 34, 39, 44], 29) := by decide +kernel
theorem dX7_count_32 : decode cX7_count 32 = .ok (.aload_n 0, 1) := by decide +kernel
theorem dX7_count_33 : decode cX7_count 33 = .ok (.getfield 88, 3) := by decide +kernel
theorem dX7_count_36 : decode cX7_count 36 = .ok (.ireturn, 1) := by decide +kernel
theorem dX7_count_37 : decode cX7_count 37 = .ok (.aload_n 0, 1) := by decide +kernel
theorem dX7_count_38 : decode cX7_count 38 = .ok (.getfield 103, 3) := by decide +kernel
theorem dX7_count_41 : decode cX7_count 41 = .ok (.ireturn, 1) := by decide +kernel
theorem dX7_count_42 : decode cX7_count 42 = .ok (.aload_n 0, 1) := by decide +kernel
theorem dX7_count_43 : decode cX7_count 43 = .ok (.getfield 128, 3) := by decide +kernel
theorem dX7_count_46 : decode cX7_count 46 = .ok (.ireturn, 1) := by decide +kernel
theorem dX7_count_47 : decode cX7_count 47 = .ok (.iconst 0, 1) := by decide +kernel
theorem dX7_count_48 : decode cX7_count 48 = .ok (.istore_n 3, 1) := by decide +kernel
theorem dX7_count_49 : decode cX7_count 49 = .ok (.iload_n 3, 1) := by decide +kernel
theorem dX7_count_50 : decode cX7_count 50 = .ok (.aload_n 0, 1) := by decide +kernel
theorem dX7_count_51 : decode cX7_count 51 = .ok (.getfield 88, 3) := by decide +kernel
theorem dX7_count_54 : decode cX7_count 54 = .ok (.if_icmp .ge 26, 3) := by decide +kernel
theorem dX7_count_57 : decode cX7_count 57 = .ok (.iload_n 2, 1) := by decide +kernel
theorem dX7_count_58 : decode cX7_count 58 = .ok (.aload_n 0, 1) := by decide +kernel
theorem dX7_count_59 : decode cX7_count 59 = .ok (.getfield 19, 3) := by decide +kernel
theorem dX7_count_62 : decode cX7_count 62 = .ok (.iload_n 3, 1) := by decide +kernel
theorem dX7_count_63 : decode cX7_count 63 = .ok (.baload, 1) := by decide +kernel
theorem dX7_count_64 : decode cX7_count 64 = .ok (.ifCond .eq 7, 3) := by decide +kernel
theorem dX7_count_67 : decode cX7_count 67 = .ok (.iconst 1, 1) := by decide +kernel
theorem dX7_count_68 : decode cX7_count 68 = .ok (.goto 4, 3) := by decide +kernel
theorem dX7_count_71 : decode cX7_count 71 = .ok (.iconst 0, 1) := by decide +kernel
theorem dX7_count_72 : decode cX7_count 72 = .ok (.iadd, 1) := by decide +kernel
theorem dX7_count_73 : decode cX7_count 73 = .ok (.istore_n 2, 1) := by decide +kernel
theorem dX7_count_74 : decode cX7_count 74 = .ok (.iinc 3 1, 3) := by decide +kernel
theorem dX7_count_77 : decode cX7_count 77 = .ok (.goto (-28), 3) := by decide +kernel
theorem dX7_count_80 : decode cX7_count 80 = .ok (.iload_n 2, 1) := by decide +kernel
theorem dX7_count_81 : decode cX7_count 81 = .ok (.ireturn, 1) := by decide +kernel
theorem dX7_count_82 : decode cX7_count 82 = .ok (.bipush (-3), 2) := by decide +kernel
theorem dX7_count_84 : decode cX7_count 84 = .ok (.ireturn, 1) := by decide +kernel
theorem dJ6_bitCount_0f7a4_0 : decode cJ6_bitCount_0f7a4 0 = .ok (.iload_n 0, 1) := by decide +kernel
theorem dJ6_bitCount_0f7a4_1 : decode cJ6_bitCount_0f7a4 1 = .ok (.iload_n 0, 1) := by decide +kernel
theorem dJ6_bitCount_0f7a4_2 : decode cJ6_bitCount_0f7a4 2 = .ok (.iconst 1, 1) := by decide +kernel
theorem dJ6_bitCount_0f7a4_3 : decode cJ6_bitCount_0f7a4 3 = .ok (.iushr, 1) := by decide +kernel
theorem dJ6_bitCount_0f7a4_4 : decode cJ6_bitCount_0f7a4 4 = .ok (.ldc_w 265, 3) := by decide +kernel
theorem dJ6_bitCount_0f7a4_7 : decode cJ6_bitCount_0f7a4 7 = .ok (.iand, 1) := by decide +kernel
theorem dJ6_bitCount_0f7a4_8 : decode cJ6_bitCount_0f7a4 8 = .ok (.isub, 1) := by decide +kernel
theorem dJ6_bitCount_0f7a4_9 : decode cJ6_bitCount_0f7a4 9 = .ok (.istore_n 0, 1) := by decide +kernel
theorem dJ6_bitCount_0f7a4_10 : decode cJ6_bitCount_0f7a4 10 = .ok (.iload_n 0, 1) := by decide +kernel
theorem dJ6_bitCount_0f7a4_11 : decode cJ6_bitCount_0f7a4 11 = .ok (.ldc_w 266, 3) := by decide +kernel
theorem dJ6_bitCount_0f7a4_14 : decode cJ6_bitCount_0f7a4 14 = .ok (.iand, 1) := by decide +kernel
theorem dJ6_bitCount_0f7a4_15 : decode cJ6_bitCount_0f7a4 15 = .ok (.iload_n 0, 1) := by decide +kernel
theorem dJ6_bitCount_0f7a4_16 : decode cJ6_bitCount_0f7a4 16 = .ok (.iconst 2, 1) := by decide +kernel
theorem dJ6_bitCount_0f7a4_17 : decode cJ6_bitCount_0f7a4 17 = .ok (.iushr, 1) := by decide +kernel
theorem dJ6_bitCount_0f7a4_18 : decode cJ6_bitCount_0f7a4 18 = .ok (.ldc_w 266, 3) := by decide +kernel
theorem dJ6_bitCount_0f7a4_21 : decode cJ6_bitCount_0f7a4 21 = .ok (.iand, 1) := by decide +kernel
theorem dJ6_bitCount_0f7a4_22 : decode cJ6_bitCount_0f7a4 22 = .ok (.iadd, 1) := by decide +kernel
theorem dJ6_bitCount_0f7a4_23 : decode cJ6_bitCount_0f7a4 23 = .ok (.istore_n 0, 1) := by decide +kernel
theorem dJ6_bitCount_0f7a4_24 : decode cJ6_bitCount_0f7a4 24 = .ok (.iload_n 0, 1) := by decide +kernel
theorem dJ6_bitCount_0f7a4_25 : decode cJ6_bitCount_0f7a4 25 = .ok (.iload_n 0, 1) := by decide +kernel
theorem dJ6_bitCount_0f7a4_26 : decode cJ6_bitCount_0f7a4 26 = .ok (.iconst 4, 1) := by decide +kernel
theorem dJ6_bitCount_0f7a4_27 : decode cJ6_bitCount_0f7a4 27 = .ok (.iushr, 1) := by decide +kernel
theorem dJ6_bitCount_0f7a4_28 : decode cJ6_bitCount_0f7a4 28 = .ok (.iadd, 1) := by decide +kernel
theorem dJ6_bitCount_0f7a4_29 : decode cJ6_bitCount_0f7a4 29 = .ok (.ldc_w 267, 3) := by decide +kernel
theorem dJ6_bitCount_0f7a4_32 : decode cJ6_bitCount_0f7a4 32 = .ok (.iand, 1) := by decide +kernel
theorem dJ6_bitCount_0f7a4_33 : decode cJ6_bitCount_0f7a4 33 = .ok (.istore_n 0, 1) := by decide +kernel
theorem dJ6_bitCount_0f7a4_34 : decode cJ6_bitCount_0f7a4 34 = .ok (.iload_n 0, 1) := by decide +kernel
theorem dJ6_bitCount_0f7a4_35 : decode cJ6_bitCount_0f7a4 35 = .ok (.iload_n 0, 1) := by decide +kernel
theorem dJ6_bitCount_0f7a4_36 : decode cJ6_bitCount_0f7a4 36 = .ok (.bipush 8, 2) := by decide +kernel
theorem dJ6_bitCount_0f7a4_38 : decode cJ6_bitCount_0f7a4 38 = .ok (.iushr, 1) := by decide +kernel
theorem dJ6_bitCount_0f7a4_39 : decode cJ6_bitCount_0f7a4 39 = .ok (.iadd, 1) := by decide +kernel
theorem dJ6_bitCount_0f7a4_40 : decode cJ6_bitCount_0f7a4 40 = .ok (.istore_n 0, 1) := by decide +kernel
theorem dJ6_bitCount_0f7a4_41 : decode cJ6_bitCount_0f7a4 41 = .ok (.iload_n 0, 1) := by decide +kernel
theorem dJ6_bitCount_0f7a4_42 : decode cJ6_bitCount_0f7a4 42 = .ok (.iload_n 0, 1) := by decide +kernel
theorem dJ6_bitCount_0f7a4_43 : decode cJ6_bitCount_0f7a4 43 = .ok (.bipush 16, 2) := by decide +kernel
theorem dJ6_bitCount_0f7a4_45 : decode cJ6_bitCount_0f7a4 45 = .ok (.iushr, 1) := by decide +kernel
theorem dJ6_bitCount_0f7a4_46 : decode cJ6_bitCount_0f7a4 46 = .ok (.iadd, 1) := by decide +kernel
theorem dJ6_bitCount_0f7a4_47 : decode cJ6_bitCount_0f7a4 47 = .ok (.istore_n 0, 1) := by decide +kernel
theorem dJ6_bitCount_0f7a4_48 : decode cJ6_bitCount_0f7a4 48 = .ok (.iload_n 0, 1) := by decide +kernel
theorem dJ6_bitCount_0f7a4_49 : decode cJ6_bitCount_0f7a4 49 = .ok (.bipush 63, 2) := by decide +kernel
theorem dJ6_bitCount_0f7a4_51 : decode cJ6_bitCount_0f7a4 51 = .ok (.iand, 1) := by decide +kernel
theorem dJ6_bitCount_0f7a4_52 : decode cJ6_bitCount_0f7a4 52 = .ok (.ireturn, 1) := by decide +kernel
theorem dJ9_max_7cf53_0 : decode cJ9_max_7cf53 0 = .ok (.iload_n 0, 1) := by decide +kernel
theorem dJ9_max_7cf53_1 : decode cJ9_max_7cf53 1 = .ok (.iload_n 1, 1) := by decide +kernel
theorem dJ9_max_7cf53_2 : decode cJ9_max_7cf53 2 = .ok (.if_icmp .lt 7, 3) := by decide +kernel
theorem dJ9_max_7cf53_5 : decode cJ9_max_7cf53 5 = .ok (.iload_n 0, 1) := by decide +kernel
theorem dJ9_max_7cf53_6 : decode cJ9_max_7cf53 6 = .ok (.goto 4, 3) := by decide +kernel
theorem dJ9_max_7cf53_9 : decode cJ9_max_7cf53 9 = .ok (.iload_n 1, 1) := by decide +kernel
theorem dJ9_max_7cf53_10 : decode cJ9_max_7cf53 10 = .ok (.ireturn, 1) := by decide +kernel
theorem dJ7_fill_53178_0 : decode cJ7_fill_53178 0 = .ok (.iconst 0, 1) := by decide +kernel
theorem dJ7_fill_53178_1 : decode cJ7_fill_53178 1 = .ok (.istore_n 2, 1) := by decide +kernel
theorem dJ7_fill_53178_2 : decode cJ7_fill_53178 2 = .ok (.aload_n 0, 1) := by decide +kernel
theorem dJ7_fill_53178_3 : decode cJ7_fill_53178 3 = .ok (.arraylength, 1) := by decide +kernel
theorem dJ7_fill_53178_4 : decode cJ7_fill_53178 4 = .ok (.istore_n 3, 1) := by decide +kernel
theorem dJ7_fill_53178_5 : decode cJ7_fill_53178 5 = .ok (.iload_n 2, 1) := by decide +kernel
theorem dJ7_fill_53178_6 : decode cJ7_fill_53178 6 = .ok (.iload_n 3, 1) := by decide +kernel
theorem dJ7_fill_53178_7 : decode cJ7_fill_53178 7 = .ok (.if_icmp .ge 13, 3) := by decide +kernel
theorem dJ7_fill_53178_10 : decode cJ7_fill_53178 10 = .ok (.aload_n 0, 1) := by decide +kernel
theorem dJ7_fill_53178_11 : decode cJ7_fill_53178 11 = .ok (.iload_n 2, 1) := by decide +kernel
theorem dJ7_fill_53178_12 : decode cJ7_fill_53178 12 = .ok (.iload_n 1, 1) := by decide +kernel
theorem dJ7_fill_53178_13 : decode cJ7_fill_53178 13 = .ok (.iastore, 1) := by decide +kernel
theorem dJ7_fill_53178_14 : decode cJ7_fill_53178 14 = .ok (.iinc 2 1, 3) := by decide +kernel
theorem dJ7_fill_53178_17 : decode cJ7_fill_53178 17 = .ok (.goto (-12), 3) := by decide +kernel
theorem dJ7_fill_53178_20 : decode cJ7_fill_53178 20 = .ok (.return_, 1) := by decide +kernel
abbrev vwCl : List vw_C := [(RX0, TX0, 11), (RX1, TX1, 6), (RX3, TX3, 6), (RX4, TX4, 7), (RX5, TX5, 8), (RX6, TX6, 4), (RX7, TX7, 30)]
