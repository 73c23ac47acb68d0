theorem wsL_law_in : ∀ w ∈ wsL_law, w ∈ lw_tbl := List.forall_mem_append.mpr ⟨List.forall_mem_append.mpr ⟨List.forall_mem_append.mpr ⟨List.forall_mem_append.mpr ⟨List.forall_mem_append.mpr ⟨List.forall_mem_append.mpr ⟨List.forall_mem_append.mpr ⟨List.forall_mem_append.mpr ⟨List.forall_mem_append.mpr ⟨wsL_law_r1_in, List.forall_mem_append.mpr ⟨wsL_law_r2_in, List.forall_mem_append.mpr ⟨wsL_law_r3_in, List.forall_mem_append.mpr ⟨wsL_law_r4_in, List.forall_mem_append.mpr ⟨wsL_law_r5_in, List.forall_mem_append.mpr ⟨wsL_law_r6_in, List.forall_mem_append.mpr ⟨wsL_law_r7_in, List.forall_mem_append.mpr ⟨wsL_law_r8_in, List.forall_mem_append.mpr ⟨wsL_law_r9_in, List.forall_mem_append.mpr ⟨wsL_law_r10_in, List.forall_mem_append.mpr ⟨wsL_law_r11_in, List.forall_mem_append.mpr ⟨wsL_law_r12_in, List.forall_mem_append.mpr ⟨wsL_law_r13_in, List.forall_mem_append.mpr ⟨wsL_law_r14_in, List.forall_mem_append.mpr ⟨wsL_law_r15_in, List.forall_mem_append.mpr ⟨wsL_law_r16_in, List.forall_mem_append.mpr ⟨wsL_law_r17_in, List.forall_mem_append.mpr ⟨wsL_law_r18_in, List.forall_mem_append.mpr ⟨wsL_law_r19_in, List.forall_mem_append.mpr ⟨wsL_law_r20_in, List.forall_mem_append.mpr ⟨wsL_law_r21_in, List.forall_mem_append.mpr ⟨wsL_law_r22_in, List.forall_mem_append.mpr ⟨wsL_law_r23_in, List.forall_mem_append.mpr ⟨wsL_law_r24_in, List.forall_mem_append.mpr ⟨wsL_law_r25_in, List.forall_mem_append.mpr ⟨wsL_law_r26_in, wsL_law_r27_in⟩⟩⟩⟩⟩⟩⟩⟩⟩⟩⟩⟩⟩⟩⟩⟩⟩⟩⟩⟩⟩⟩⟩⟩⟩⟩, wsX60_in⟩, wsX70_in⟩, wsX00_in⟩, wsX10_in⟩, wsX30_in⟩, wsX50_in⟩, wsX40_in⟩, fun _ h => absurd h List.not_mem_nil⟩
theorem inlX0 : ∀ w ∈ wsX00, w ∈ wsL_law := fun _ h => List.mem_append_left _ (List.mem_append_left _ (List.mem_append_left _ (List.mem_append_left _ (List.mem_append_left _ (List.mem_append_right _ h)))))
theorem inX0 : ∀ w ∈ wsX00, w ∈ lw_tbl := fun w h => wsL_law_in w (inlX0 w h)
theorem inlX1 : ∀ w ∈ wsX10, w ∈ wsL_law := fun _ h => List.mem_append_left _ (List.mem_append_left _ (List.mem_append_left _ (List.mem_append_left _ (List.mem_append_right _ h))))
theorem inX1 : ∀ w ∈ wsX10, w ∈ lw_tbl := fun w h => wsL_law_in w (inlX1 w h)
theorem inX2 : ∀ w ∈ wsX20, w ∈ lw_tbl := by decide +kernel
theorem inlX3 : ∀ w ∈ wsX30, w ∈ wsL_law := fun _ h => List.mem_append_left _ (List.mem_append_left _ (List.mem_append_left _ (List.mem_append_right _ h)))
theorem inX3 : ∀ w ∈ wsX30, w ∈ lw_tbl := fun w h => wsL_law_in w (inlX3 w h)
theorem inlX4 : ∀ w ∈ wsX40, w ∈ wsL_law := fun _ h => List.mem_append_left _ (List.mem_append_right _ h)
theorem inX4 : ∀ w ∈ wsX40, w ∈ lw_tbl := fun w h => wsL_law_in w (inlX4 w h)
theorem inlX5 : ∀ w ∈ wsX50, w ∈ wsL_law := fun _ h => List.mem_append_left _ (List.mem_append_left _ (List.mem_append_right _ h))
theorem inX5 : ∀ w ∈ wsX50, w ∈ lw_tbl := fun w h => wsL_law_in w (inlX5 w h)
theorem inlX6 : ∀ w ∈ wsX60, w ∈ wsL_law := fun _ h => List.mem_append_left _ (List.mem_append_left _ (List.mem_append_left _ (List.mem_append_left _ (List.mem_append_left _ (List.mem_append_left _ (List.mem_append_left _ (List.mem_append_right _ h)))))))
theorem inX6 : ∀ w ∈ wsX60, w ∈ lw_tbl := fun w h => wsL_law_in w (inlX6 w h)
theorem inlX7 : ∀ w ∈ wsX70, w ∈ wsL_law := fun _ h => List.mem_append_left _ (List.mem_append_left _ (List.mem_append_left _ (List.mem_append_left _ (List.mem_append_left _ (List.mem_append_left _ (List.mem_append_right _ h))))))
theorem inX7 : ∀ w ∈ wsX70, w ∈ lw_tbl := fun w h => wsL_law_in w (inlX7 w h)
theorem inJ6 : ∀ w ∈ wsJ60, w ∈ lw_tbl := by decide +kernel
theorem inJ9 : ∀ w ∈ wsJ90, w ∈ lw_tbl := by decide +kernel
theorem inJ10 : ∀ w ∈ wsJ100, w ∈ lw_tbl := by decide +kernel
theorem inJ7 : ∀ w ∈ wsJ70, w ∈ lw_tbl := by decide +kernel
set_option maxRecDepth 20000 in
theorem ggX0_init_J7_fill_53178 : GoodIn wsX0_init wsJ7_fill_53178 := goodIn_r _ [20] (by decide +kernel) (by decide +kernel)
set_option maxRecDepth 20000 in
theorem gX0_init_J7_fill_53178 : GoodIn wsX0_init (va_wsS RX0 47 yJ7_fill_53178 wsJ7_fill_53178) := goodIn_app (goodIn_of _ (by decide +kernel)) ggX0_init_J7_fill_53178
theorem dX0_init_0 : decode cX0_init 0 = .ok (.aload_n 0, 1) := by decide +kernel
theorem dX0_init_1 : decode cX0_init 1 = .ok (.invokespecial 3, 3) := by decide +kernel
theorem dX0_init_4 : decode cX0_init 4 = .ok (.aload_n 0, 1) := by decide +kernel
theorem dX0_init_5 : decode cX0_init 5 = .ok (.iconst 5, 1) := by decide +kernel
theorem dX0_init_6 : decode cX0_init 6 = .ok (.newarray .int, 2) := by decide +kernel
theorem dX0_init_8 : decode cX0_init 8 = .ok (.putfield 9, 3) := by decide +kernel
theorem dX0_init_11 : decode cX0_init 11 = .ok (.aload_n 0, 1) := by decide +kernel
theorem dX0_init_12 : decode cX0_init 12 = .ok (.iconst 5, 1) := by decide +kernel
theorem dX0_init_13 : decode cX0_init 13 = .ok (.newarray .int, 2) := by decide +kernel
theorem dX0_init_15 : decode cX0_init 15 = .ok (.putfield 15, 3) := by decide +kernel
theorem dX0_init_18 : decode cX0_init 18 = .ok (.aload_n 0, 1) := by decide +kernel
theorem dX0_init_19 : decode cX0_init 19 = .ok (.iconst 5, 1) := by decide +kernel
theorem dX0_init_20 : decode cX0_init 20 = .ok (.newarray .int, 2) := by decide +kernel
theorem dX0_init_22 : decode cX0_init 22 = .ok (.putfield 18, 3) := by decide +kernel
theorem dX0_init_25 : decode cX0_init 25 = .ok (.aload_n 0, 1) := by decide +kernel
theorem dX0_init_26 : decode cX0_init 26 = .ok (.iconst 5, 1) := by decide +kernel
theorem dX0_init_27 : decode cX0_init 27 = .ok (.newarray .boolean, 2) := by decide +kernel
theorem dX0_init_29 : decode cX0_init 29 = .ok (.putfield 21, 3) := by decide +kernel
theorem dX0_init_32 : decode cX0_init 32 = .ok (.aload_n 0, 1) := by decide +kernel
theorem dX0_init_33 : decode cX0_init 33 = .ok (.iconst 0, 1) := by decide +kernel
theorem dX0_init_34 : decode cX0_init 34 = .ok (.putfield 25, 3) := by decide +kernel
theorem dX0_init_37 : decode cX0_init 37 = .ok (.aload_n 0, 1) := by decide +kernel
theorem dX0_init_38 : decode cX0_init 38 = .ok (.iconst 3, 1) := by decide +kernel
theorem dX0_init_39 : decode cX0_init 39 = .ok (.newarray .int, 2) := by decide +kernel
theorem dX0_init_41 : decode cX0_init 41 = .ok (.putfield 29, 3) := by decide +kernel
theorem dX0_init_44 : decode cX0_init 44 = .ok (.aload_n 0, 1) := by decide +kernel
theorem dX0_init_45 : decode cX0_init 45 = .ok (.iconst 5, 1) := by decide +kernel
theorem dX0_init_46 : decode cX0_init 46 = .ok (.newarray .int, 2) := by decide +kernel
theorem dX0_init_48 : decode cX0_init 48 = .ok (.putfield 32, 3) := by decide +kernel
theorem dX0_init_51 : decode cX0_init 51 = .ok (.aload_n 0, 1) := by decide +kernel
theorem dX0_init_52 : decode cX0_init 52 = .ok (.iconst 0, 1) := by decide +kernel
theorem dX0_init_53 : decode cX0_init 53 = .ok (.putfield 35, 3) := by decide +kernel
theorem dX0_init_56 : decode cX0_init 56 = .ok (.aload_n 0, 1) := by decide +kernel
theorem dX0_init_57 : decode cX0_init 57 = .ok (.iconst 5, 1) := by decide +kernel
theorem dX0_init_58 : decode cX0_init 58 = .ok (.newarray .int, 2) := by decide +kernel
theorem dX0_init_60 : decode cX0_init 60 = .ok (.putfield 38, 3) := by decide +kernel
theorem dX0_init_63 : decode cX0_init 63 = .ok (.aload_n 0, 1) := by decide +kernel
theorem dX0_init_64 : decode cX0_init 64 = .ok (.iconst 0, 1) := by decide +kernel
theorem dX0_init_65 : decode cX0_init 65 = .ok (.putfield 41, 3) := by decide +kernel
theorem dX0_init_68 : decode cX0_init 68 = .ok (.aload_n 0, 1) := by decide +kernel
theorem dX0_init_69 : decode cX0_init 69 = .ok (.iconst 0, 1) := by decide +kernel
theorem dX0_init_70 : decode cX0_init 70 = .ok (.putfield 44, 3) := by decide +kernel
theorem dX0_init_73 : decode cX0_init 73 = .ok (.aload_n 0, 1) := by decide +kernel
theorem dX0_init_74 : decode cX0_init 74 = .ok (.getfield 29, 3) := by decide +kernel
theorem dX0_init_77 : decode cX0_init 77 = .ok (.iconst 5, 1) := by decide +kernel
theorem dX0_init_78 : decode cX0_init 78 = .ok (.invokestatic 47, 3) := by decide +kernel
theorem dX0_init_81 : decode cX0_init 81 = .ok (.return_, 1) := by decide +kernel
theorem dX0_hasUnit_0 : decode cX0_hasUnit 0 = .ok (.iload_n 1, 1) := by decide +kernel
theorem dX0_hasUnit_1 : decode cX0_hasUnit 1 = .ok (.ifCond .lt 15, 3) := by decide +kernel
theorem dX0_hasUnit_4 : decode cX0_hasUnit 4 = .ok (.iload_n 1, 1) := by decide +kernel
theorem dX0_hasUnit_5 : decode cX0_hasUnit 5 = .ok (.aload_n 0, 1) := by decide +kernel
theorem dX0_hasUnit_6 : decode cX0_hasUnit 6 = .ok (.getfield 25, 3) := by decide +kernel
theorem dX0_hasUnit_9 : decode cX0_hasUnit 9 = .ok (.if_icmp .ge 7, 3) := by decide +kernel
theorem dX0_hasUnit_12 : decode cX0_hasUnit 12 = .ok (.iconst 1, 1) := by decide +kernel
theorem dX0_hasUnit_13 : decode cX0_hasUnit 13 = .ok (.goto 4, 3) := by decide +kernel
theorem dX0_hasUnit_16 : decode cX0_hasUnit 16 = .ok (.iconst 0, 1) := by decide +kernel
theorem dX0_hasUnit_17 : decode cX0_hasUnit 17 = .ok (.ireturn, 1) := by decide +kernel
theorem dX0_addUnit_0 : decode cX0_addUnit 0 = .ok (.aload_n 0, 1) := by decide +kernel
theorem dX0_addUnit_1 : decode cX0_addUnit 1 = .ok (.getfield 25, 3) := by decide +kernel
theorem dX0_addUnit_4 : decode cX0_addUnit 4 = .ok (.istore 4, 2) := by decide +kernel
theorem dX0_addUnit_6 : decode cX0_addUnit 6 = .ok (.aload_n 0, 1) := by decide +kernel
theorem dX0_addUnit_7 : decode cX0_addUnit 7 = .ok (.getfield 9, 3) := by decide +kernel
theorem dX0_addUnit_10 : decode cX0_addUnit 10 = .ok (.iload 4, 2) := by decide +kernel
theorem dX0_addUnit_12 : decode cX0_addUnit 12 = .ok (.iload_n 1, 1) := by decide +kernel
theorem dX0_addUnit_13 : decode cX0_addUnit 13 = .ok (.iastore, 1) := by decide +kernel
theorem dX0_addUnit_14 : decode cX0_addUnit 14 = .ok (.aload_n 0, 1) := by decide +kernel
theorem dX0_addUnit_15 : decode cX0_addUnit 15 = .ok (.getfield 15, 3) := by decide +kernel
theorem dX0_addUnit_18 : decode cX0_addUnit 18 = .ok (.iload 4, 2) := by decide +kernel
theorem dX0_addUnit_20 : decode cX0_addUnit 20 = .ok (.iload_n 2, 1) := by decide +kernel
theorem dX0_addUnit_21 : decode cX0_addUnit 21 = .ok (.iastore, 1) := by decide +kernel
theorem dX0_addUnit_22 : decode cX0_addUnit 22 = .ok (.aload_n 0, 1) := by decide +kernel
theorem dX0_addUnit_23 : decode cX0_addUnit 23 = .ok (.getfield 18, 3) := by decide +kernel
theorem dX0_addUnit_26 : decode cX0_addUnit 26 = .ok (.iload 4, 2) := by decide +kernel
theorem dX0_addUnit_28 : decode cX0_addUnit 28 = .ok (.iload_n 3, 1) := by decide +kernel
theorem dX0_addUnit_29 : decode cX0_addUnit 29 = .ok (.iastore, 1) := by decide +kernel
theorem dX0_addUnit_30 : decode cX0_addUnit 30 = .ok (.aload_n 0, 1) := by decide +kernel
theorem dX0_addUnit_31 : decode cX0_addUnit 31 = .ok (.dup, 1) := by decide +kernel
theorem dX0_addUnit_32 : decode cX0_addUnit 32 = .ok (.getfield 25, 3) := by decide +kernel
theorem dX0_addUnit_35 : decode cX0_addUnit 35 = .ok (.iconst 1, 1) := by decide +kernel
theorem dX0_addUnit_36 : decode cX0_addUnit 36 = .ok (.iadd, 1) := by decide +kernel
theorem dX0_addUnit_37 : decode cX0_addUnit 37 = .ok (.putfield 25, 3) := by decide +kernel
theorem dX0_addUnit_40 : decode cX0_addUnit 40 = .ok (.aload_n 0, 1) := by decide +kernel
theorem dX0_addUnit_41 : decode cX0_addUnit 41 = .ok (.dup, 1) := by decide +kernel
theorem dX0_addUnit_42 : decode cX0_addUnit 42 = .ok (.getfield 44, 3) := by decide +kernel
theorem dX0_addUnit_45 : decode cX0_addUnit 45 = .ok (.iconst 1, 1) := by decide +kernel
theorem dX0_addUnit_46 : decode cX0_addUnit 46 = .ok (.iadd, 1) := by decide +kernel
theorem dX0_addUnit_47 : decode cX0_addUnit 47 = .ok (.putfield 44, 3) := by decide +kernel
theorem dX0_addUnit_50 : decode cX0_addUnit 50 = .ok (.iload 4, 2) := by decide +kernel
theorem dX0_addUnit_52 : decode cX0_addUnit 52 = .ok (.ireturn, 1) := by decide +kernel
theorem dX0_setBroken_0 : decode cX0_setBroken 0 = .ok (.aload_n 0, 1) := by decide +kernel
theorem dX0_setBroken_1 : decode cX0_setBroken 1 = .ok (.getfield 21, 3) := by decide +kernel
theorem dX0_setBroken_4 : decode cX0_setBroken 4 = .ok (.iload_n 1, 1) := by decide +kernel
theorem dX0_setBroken_5 : decode cX0_setBroken 5 = .ok (.baload, 1) := by decide +kernel
theorem dX0_setBroken_6 : decode cX0_setBroken 6 = .ok (.istore_n 3, 1) := by decide +kernel
theorem dX0_setBroken_7 : decode cX0_setBroken 7 = .ok (.aload_n 0, 1) := by decide +kernel
theorem dX0_setBroken_8 : decode cX0_setBroken 8 = .ok (.getfield 21, 3) := by decide +kernel
theorem dX0_setBroken_11 : decode cX0_setBroken 11 = .ok (.iload_n 1, 1) := by decide +kernel
theorem dX0_setBroken_12 : decode cX0_setBroken 12 = .ok (.iload_n 2, 1) := by decide +kernel
theorem dX0_setBroken_13 : decode cX0_setBroken 13 = .ok (.bastore, 1) := by decide +kernel
theorem dX0_setBroken_14 : decode cX0_setBroken 14 = .ok (.aload_n 0, 1) := by decide +kernel
theorem dX0_setBroken_15 : decode cX0_setBroken 15 = .ok (.dup, 1) := by decide +kernel
theorem dX0_setBroken_16 : decode cX0_setBroken 16 = .ok (.getfield 44, 3) := by decide +kernel
theorem dX0_setBroken_19 : decode cX0_setBroken 19 = .ok (.iconst 1, 1) := by decide +kernel
theorem dX0_setBroken_20 : decode cX0_setBroken 20 = .ok (.iadd, 1) := by decide +kernel
theorem dX0_setBroken_21 : decode cX0_setBroken 21 = .ok (.putfield 44, 3) := by decide +kernel
theorem dX0_setBroken_24 : decode cX0_setBroken 24 = .ok (.iload_n 3, 1) := by decide +kernel
theorem dX0_setBroken_25 : decode cX0_setBroken 25 = .ok (.ireturn, 1) := by decide +kernel
theorem dX0_setLength_0 : decode cX0_setLength 0 = .ok (.aload_n 0, 1) := by decide +kernel
theorem dX0_setLength_1 : decode cX0_setLength 1 = .ok (.getfield 29, 3) := by decide +kernel
theorem dX0_setLength_4 : decode cX0_setLength 4 = .ok (.iload_n 1, 1) := by decide +kernel
theorem dX0_setLength_5 : decode cX0_setLength 5 = .ok (.iaload, 1) := by decide +kernel
theorem dX0_setLength_6 : decode cX0_setLength 6 = .ok (.istore_n 3, 1) := by decide +kernel
theorem dX0_setLength_7 : decode cX0_setLength 7 = .ok (.aload_n 0, 1) := by decide +kernel
theorem dX0_setLength_8 : decode cX0_setLength 8 = .ok (.getfield 29, 3) := by decide +kernel
theorem dX0_setLength_11 : decode cX0_setLength 11 = .ok (.iload_n 1, 1) := by decide +kernel
theorem dX0_setLength_12 : decode cX0_setLength 12 = .ok (.iload_n 2, 1) := by decide +kernel
theorem dX0_setLength_13 : decode cX0_setLength 13 = .ok (.iastore, 1) := by decide +kernel
theorem dX0_setLength_14 : decode cX0_setLength 14 = .ok (.aload_n 0, 1) := by decide +kernel
theorem dX0_setLength_15 : decode cX0_setLength 15 = .ok (.dup, 1) := by decide +kernel
theorem dX0_setLength_16 : decode cX0_setLength 16 = .ok (.getfield 44, 3) := by decide +kernel
theorem dX0_setLength_19 : decode cX0_setLength 19 = .ok (.iconst 1, 1) := by decide +kernel
theorem dX0_setLength_20 : decode cX0_setLength 20 = .ok (.iadd, 1) := by decide +kernel
theorem dX0_setLength_21 : decode cX0_setLength 21 = .ok (.putfield 44, 3) := by decide +kernel
theorem dX0_setLength_24 : decode cX0_setLength 24 = .ok (.iload_n 3, 1) := by decide +kernel
theorem dX0_setLength_25 : decode cX0_setLength 25 = .ok (.ireturn, 1) := by decide +kernel
theorem dX0_addWanted_0 : decode cX0_addWanted 0 = .ok (.aload_n 0, 1) := by decide +kernel
theorem dX0_addWanted_1 : decode cX0_addWanted 1 = .ok (.getfield 32, 3) := by decide +kernel
theorem dX0_addWanted_4 : decode cX0_addWanted 4 = .ok (.aload_n 0, 1) := by decide +kernel
theorem dX0_addWanted_5 : decode cX0_addWanted 5 = .ok (.getfield 35, 3) := by decide +kernel
theorem dX0_addWanted_8 : decode cX0_addWanted 8 = .ok (.iload_n 1, 1) := by decide +kernel
theorem dX0_addWanted_9 : decode cX0_addWanted 9 = .ok (.iastore, 1) := by decide +kernel
theorem dX0_addWanted_10 : decode cX0_addWanted 10 = .ok (.aload_n 0, 1) := by decide +kernel
theorem dX0_addWanted_11 : decode cX0_addWanted 11 = .ok (.dup, 1) := by decide +kernel
theorem dX0_addWanted_12 : decode cX0_addWanted 12 = .ok (.getfield 35, 3) := by decide +kernel
theorem dX0_addWanted_15 : decode cX0_addWanted 15 = .ok (.iconst 1, 1) := by decide +kernel
theorem dX0_addWanted_16 : decode cX0_addWanted 16 = .ok (.iadd, 1) := by decide +kernel
theorem dX0_addWanted_17 : decode cX0_addWanted 17 = .ok (.putfield 35, 3) := by decide +kernel
theorem dX0_addWanted_20 : decode cX0_addWanted 20 = .ok (.aload_n 0, 1) := by decide +kernel
theorem dX0_addWanted_21 : decode cX0_addWanted 21 = .ok (.dup, 1) := by decide +kernel
theorem dX0_addWanted_22 : decode cX0_addWanted 22 = .ok (.getfield 44, 3) := by decide +kernel
theorem dX0_addWanted_25 : decode cX0_addWanted 25 = .ok (.iconst 1, 1) := by decide +kernel
theorem dX0_addWanted_26 : decode cX0_addWanted 26 = .ok (.iadd, 1) := by decide +kernel
theorem dX0_addWanted_27 : decode cX0_addWanted 27 = .ok (.putfield 44, 3) := by decide +kernel
theorem dX0_addWanted_30 : decode cX0_addWanted 30 = .ok (.aload_n 0, 1) := by decide +kernel
theorem dX0_addWanted_31 : decode cX0_addWanted 31 = .ok (.getfield 35, 3) := by decide +kernel
theorem dX0_addWanted_34 : decode cX0_addWanted 34 = .ok (.ireturn, 1) := by decide +kernel
theorem dX0_dropWanted_0 : decode cX0_dropWanted 0 = .ok (.aload_n 0, 1) := by decide +kernel
theorem dX0_dropWanted_1 : decode cX0_dropWanted 1 = .ok (.getfield 35, 3) := by decide +kernel
theorem dX0_dropWanted_4 : decode cX0_dropWanted 4 = .ok (.istore_n 1, 1) := by decide +kernel
theorem dX0_dropWanted_5 : decode cX0_dropWanted 5 = .ok (.aload_n 0, 1) := by decide +kernel
theorem dX0_dropWanted_6 : decode cX0_dropWanted 6 = .ok (.iconst 0, 1) := by decide +kernel
theorem dX0_dropWanted_7 : decode cX0_dropWanted 7 = .ok (.putfield 35, 3) := by decide +kernel
theorem dX0_dropWanted_10 : decode cX0_dropWanted 10 = .ok (.aload_n 0, 1) := by decide +kernel
theorem dX0_dropWanted_11 : decode cX0_dropWanted 11 = .ok (.dup, 1) := by decide +kernel
theorem dX0_dropWanted_12 : decode cX0_dropWanted 12 = .ok (.getfield 44, 3) := by decide +kernel
theorem dX0_dropWanted_15 : decode cX0_dropWanted 15 = .ok (.iconst 1, 1) := by decide +kernel
theorem dX0_dropWanted_16 : decode cX0_dropWanted 16 = .ok (.iadd, 1) := by decide +kernel
theorem dX0_dropWanted_17 : decode cX0_dropWanted 17 = .ok (.putfield 44, 3) := by decide +kernel
theorem dX0_dropWanted_20 : decode cX0_dropWanted 20 = .ok (.iload_n 1, 1) := by decide +kernel
theorem dX0_dropWanted_21 : decode cX0_dropWanted 21 = .ok (.ireturn, 1) := by decide +kernel
theorem dX0_parkNext_0 : decode cX0_parkNext 0 = .ok (.aload_n 0, 1) := by decide +kernel
theorem dX0_parkNext_1 : decode cX0_parkNext 1 = .ok (.getfield 41, 3) := by decide +kernel
theorem dX0_parkNext_4 : decode cX0_parkNext 4 = .ok (.istore_n 2, 1) := by decide +kernel
theorem dX0_parkNext_5 : decode cX0_parkNext 5 = .ok (.aload_n 0, 1) := by decide +kernel
theorem dX0_parkNext_6 : decode cX0_parkNext 6 = .ok (.getfield 38, 3) := by decide +kernel
theorem dX0_parkNext_9 : decode cX0_parkNext 9 = .ok (.iload_n 2, 1) := by decide +kernel
theorem dX0_parkNext_10 : decode cX0_parkNext 10 = .ok (.iload_n 1, 1) := by decide +kernel
theorem dX0_parkNext_11 : decode cX0_parkNext 11 = .ok (.iastore, 1) := by decide +kernel
theorem dX0_parkNext_12 : decode cX0_parkNext 12 = .ok (.aload_n 0, 1) := by decide +kernel
theorem dX0_parkNext_13 : decode cX0_parkNext 13 = .ok (.dup, 1) := by decide +kernel
theorem dX0_parkNext_14 : decode cX0_parkNext 14 = .ok (.getfield 41, 3) := by decide +kernel
theorem dX0_parkNext_17 : decode cX0_parkNext 17 = .ok (.iconst 1, 1) := by decide +kernel
theorem dX0_parkNext_18 : decode cX0_parkNext 18 = .ok (.iadd, 1) := by decide +kernel
theorem dX0_parkNext_19 : decode cX0_parkNext 19 = .ok (.putfield 41, 3) := by decide +kernel
theorem dX0_parkNext_22 : decode cX0_parkNext 22 = .ok (.aload_n 0, 1) := by decide +kernel
theorem dX0_parkNext_23 : decode cX0_parkNext 23 = .ok (.dup, 1) := by decide +kernel
theorem dX0_parkNext_24 : decode cX0_parkNext 24 = .ok (.getfield 44, 3) := by decide +kernel
theorem dX0_parkNext_27 : decode cX0_parkNext 27 = .ok (.iconst 1, 1) := by decide +kernel
theorem dX0_parkNext_28 : decode cX0_parkNext 28 = .ok (.iadd, 1) := by decide +kernel
theorem dX0_parkNext_29 : decode cX0_parkNext 29 = .ok (.putfield 44, 3) := by decide +kernel
theorem dX0_parkNext_32 : decode cX0_parkNext 32 = .ok (.iload_n 2, 1) := by decide +kernel
theorem dX0_parkNext_33 : decode cX0_parkNext 33 = .ok (.ireturn, 1) := by decide +kernel
theorem dX0_unparkAll_0 : decode cX0_unparkAll 0 = .ok (.aload_n 0, 1) := by decide +kernel
theorem dX0_unparkAll_1 : decode cX0_unparkAll 1 = .ok (.getfield 41, 3) := by decide +kernel
theorem dX0_unparkAll_4 : decode cX0_unparkAll 4 = .ok (.istore_n 1, 1) := by decide +kernel
theorem dX0_unparkAll_5 : decode cX0_unparkAll 5 = .ok (.aload_n 0, 1) := by decide +kernel
theorem dX0_unparkAll_6 : decode cX0_unparkAll 6 = .ok (.iconst 0, 1) := by decide +kernel
theorem dX0_unparkAll_7 : decode cX0_unparkAll 7 = .ok (.putfield 41, 3) := by decide +kernel
theorem dX0_unparkAll_10 : decode cX0_unparkAll 10 = .ok (.aload_n 0, 1) := by decide +kernel
theorem dX0_unparkAll_11 : decode cX0_unparkAll 11 = .ok (.dup, 1) := by decide +kernel
theorem dX0_unparkAll_12 : decode cX0_unparkAll 12 = .ok (.getfield 44, 3) := by decide +kernel
theorem dX0_unparkAll_15 : decode cX0_unparkAll 15 = .ok (.iconst 1, 1) := by decide +kernel
theorem dX0_unparkAll_16 : decode cX0_unparkAll 16 = .ok (.iadd, 1) := by decide +kernel
theorem dX0_unparkAll_17 : decode cX0_unparkAll 17 = .ok (.putfield 44, 3) := by decide +kernel
theorem dX0_unparkAll_20 : decode cX0_unparkAll 20 = .ok (.iload_n 1, 1) := by decide +kernel
theorem dX0_unparkAll_21 : decode cX0_unparkAll 21 = .ok (.ireturn, 1) := by decide +kernel
theorem dX0_standingOn_0 : decode cX0_standingOn 0 = .ok (.iconst 0, 1) := by decide +kernel
theorem dX0_standingOn_1 : decode cX0_standingOn 1 = .ok (.istore_n 2, 1) := by decide +kernel
theorem dX0_standingOn_2 : decode cX0_standingOn 2 = .ok (.iconst 0, 1) := by decide +kernel
theorem dX0_standingOn_3 : decode cX0_standingOn 3 = .ok (.istore_n 3, 1) := by decide +kernel
theorem dX0_standingOn_4 : decode cX0_standingOn 4 = .ok (.iload_n 3, 1) := by decide +kernel
theorem dX0_standingOn_5 : decode cX0_standingOn 5 = .ok (.aload_n 0, 1) := by decide +kernel
theorem dX0_standingOn_6 : decode cX0_standingOn 6 = .ok (.getfield 41, 3) := by decide +kernel
theorem dX0_standingOn_9 : decode cX0_standingOn 9 = .ok (.if_icmp .ge 22, 3) := by decide +kernel
theorem dX0_standingOn_12 : decode cX0_standingOn 12 = .ok (.aload_n 0, 1) := by decide +kernel
theorem dX0_standingOn_13 : decode cX0_standingOn 13 = .ok (.getfield 38, 3) := by decide +kernel
theorem dX0_standingOn_16 : decode cX0_standingOn 16 = .ok (.iload_n 3, 1) := by decide +kernel
theorem dX0_standingOn_17 : decode cX0_standingOn 17 = .ok (.iaload, 1) := by decide +kernel
theorem dX0_standingOn_18 : decode cX0_standingOn 18 = .ok (.iload_n 1, 1) := by decide +kernel
theorem dX0_standingOn_19 : decode cX0_standingOn 19 = .ok (.if_icmp .ne 6, 3) := by decide +kernel
theorem dX0_standingOn_22 : decode cX0_standingOn 22 = .ok (.iinc 2 1, 3) := by decide +kernel
theorem dX0_standingOn_25 : decode cX0_standingOn 25 = .ok (.iinc 3 1, 3) := by decide +kernel
theorem dX0_standingOn_28 : decode cX0_standingOn 28 = .ok (.goto (-24), 3) := by decide +kernel
theorem dX0_standingOn_31 : decode cX0_standingOn 31 = .ok (.iload_n 2, 1) := by decide +kernel
theorem dX0_standingOn_32 : decode cX0_standingOn 32 = .ok (.ireturn, 1) := by decide +kernel
theorem dX0_fromLast_0 : decode cX0_fromLast 0 = .ok (.iconst 0, 1) := by decide +kernel
theorem dX0_fromLast_1 : decode cX0_fromLast 1 = .ok (.istore_n 3, 1) := by decide +kernel
theorem dX0_fromLast_2 : decode cX0_fromLast 2 = .ok (.aload_n 0, 1) := by decide +kernel
theorem dX0_fromLast_3 : decode cX0_fromLast 3 = .ok (.getfield 41, 3) := by decide +kernel
theorem dX0_fromLast_6 : decode cX0_fromLast 6 = .ok (.iconst 1, 1) := by decide +kernel
theorem dX0_fromLast_7 : decode cX0_fromLast 7 = .ok (.isub, 1) := by decide +kernel
theorem dX0_fromLast_8 : decode cX0_fromLast 8 = .ok (.istore 4, 2) := by decide +kernel
theorem dX0_fromLast_10 : decode cX0_fromLast 10 = .ok (.iload 4, 2) := by decide +kernel
theorem dX0_fromLast_12 : decode cX0_fromLast 12 = .ok (.ifCond .lt 31, 3) := by decide +kernel
theorem dX0_fromLast_15 : decode cX0_fromLast 15 = .ok (.aload_n 0, 1) := by decide +kernel
theorem dX0_fromLast_16 : decode cX0_fromLast 16 = .ok (.getfield 38, 3) := by decide +kernel
theorem dX0_fromLast_19 : decode cX0_fromLast 19 = .ok (.iload 4, 2) := by decide +kernel
theorem dX0_fromLast_21 : decode cX0_fromLast 21 = .ok (.iaload, 1) := by decide +kernel
theorem dX0_fromLast_22 : decode cX0_fromLast 22 = .ok (.iload_n 1, 1) := by decide +kernel
theorem dX0_fromLast_23 : decode cX0_fromLast 23 = .ok (.if_icmp .ne 14, 3) := by decide +kernel
theorem dX0_fromLast_26 : decode cX0_fromLast 26 = .ok (.iload_n 3, 1) := by decide +kernel
theorem dX0_fromLast_27 : decode cX0_fromLast 27 = .ok (.iload_n 2, 1) := by decide +kernel
theorem dX0_fromLast_28 : decode cX0_fromLast 28 = .ok (.if_icmp .ne 6, 3) := by decide +kernel
theorem dX0_fromLast_31 : decode cX0_fromLast 31 = .ok (.iload 4, 2) := by decide +kernel
theorem dX0_fromLast_33 : decode cX0_fromLast 33 = .ok (.ireturn, 1) := by decide +kernel
theorem dX0_fromLast_34 : decode cX0_fromLast 34 = .ok (.iinc 3 1, 3) := by decide +kernel
theorem dX0_fromLast_37 : decode cX0_fromLast 37 = .ok (.iinc 4 (-1), 3) := by decide +kernel
theorem dX0_fromLast_40 : decode cX0_fromLast 40 = .ok (.goto (-30), 3) := by decide +kernel
theorem dX0_fromLast_43 : decode cX0_fromLast 43 = .ok (.iconst (-1), 1) := by decide +kernel
theorem dX0_fromLast_44 : decode cX0_fromLast 44 = .ok (.ireturn, 1) := by decide +kernel
theorem dX0_brokenUnits_0 : decode cX0_brokenUnits 0 = .ok (.iconst 0, 1) := by decide +kernel
theorem dX0_brokenUnits_1 : decode cX0_brokenUnits 1 = .ok (.istore_n 1, 1) := by decide +kernel
theorem dX0_brokenUnits_2 : decode cX0_brokenUnits 2 = .ok (.iconst 0, 1) := by decide +kernel
theorem dX0_brokenUnits_3 : decode cX0_brokenUnits 3 = .ok (.istore_n 2, 1) := by decide +kernel
theorem dX0_brokenUnits_4 : decode cX0_brokenUnits 4 = .ok (.iload_n 2, 1) := by decide +kernel
theorem dX0_brokenUnits_5 : decode cX0_brokenUnits 5 = .ok (.aload_n 0, 1) := by decide +kernel
theorem dX0_brokenUnits_6 : decode cX0_brokenUnits 6 = .ok (.getfield 25, 3) := by decide +kernel
theorem dX0_brokenUnits_9 : decode cX0_brokenUnits 9 = .ok (.if_icmp .ge 21, 3) := by decide +kernel
theorem dX0_brokenUnits_12 : decode cX0_brokenUnits 12 = .ok (.aload_n 0, 1) := by decide +kernel
theorem dX0_brokenUnits_13 : decode cX0_brokenUnits 13 = .ok (.getfield 21, 3) := by decide +kernel
theorem dX0_brokenUnits_16 : decode cX0_brokenUnits 16 = .ok (.iload_n 2, 1) := by decide +kernel
theorem dX0_brokenUnits_17 : decode cX0_brokenUnits 17 = .ok (.baload, 1) := by decide +kernel
theorem dX0_brokenUnits_18 : decode cX0_brokenUnits 18 = .ok (.ifCond .eq 6, 3) := by decide +kernel
theorem dX0_brokenUnits_21 : decode cX0_brokenUnits 21 = .ok (.iinc 1 1, 3) := by decide +kernel
theorem dX0_brokenUnits_24 : decode cX0_brokenUnits 24 = .ok (.iinc 2 1, 3) := by decide +kernel
theorem dX0_brokenUnits_27 : decode cX0_brokenUnits 27 = .ok (.goto (-23), 3) := by decide +kernel
theorem dX0_brokenUnits_30 : decode cX0_brokenUnits 30 = .ok (.iload_n 1, 1) := by decide +kernel
theorem dX0_brokenUnits_31 : decode cX0_brokenUnits 31 = .ok (.ireturn, 1) := by decide +kernel
theorem dX0_room_0 : decode cX0_room 0 = .ok (.iconst 0, 1) := by decide +kernel
theorem dX0_room_1 : decode cX0_room 1 = .ok (.istore_n 1, 1) := by decide +kernel
theorem dX0_room_2 : decode cX0_room 2 = .ok (.iconst 0, 1) := by decide +kernel
theorem dX0_room_3 : decode cX0_room 3 = .ok (.istore_n 2, 1) := by decide +kernel
theorem dX0_room_4 : decode cX0_room 4 = .ok (.iload_n 2, 1) := by decide +kernel
theorem dX0_room_5 : decode cX0_room 5 = .ok (.iconst 3, 1) := by decide +kernel
theorem dX0_room_6 : decode cX0_room 6 = .ok (.if_icmp .ge 18, 3) := by decide +kernel
theorem dX0_room_9 : decode cX0_room 9 = .ok (.iload_n 1, 1) := by decide +kernel
theorem dX0_room_10 : decode cX0_room 10 = .ok (.aload_n 0, 1) := by decide +kernel
theorem dX0_room_11 : decode cX0_room 11 = .ok (.getfield 29, 3) := by decide +kernel
theorem dX0_room_14 : decode cX0_room 14 = .ok (.iload_n 2, 1) := by decide +kernel
theorem dX0_room_15 : decode cX0_room 15 = .ok (.iaload, 1) := by decide +kernel
theorem dX0_room_16 : decode cX0_room 16 = .ok (.iadd, 1) := by decide +kernel
theorem dX0_room_17 : decode cX0_room 17 = .ok (.istore_n 1, 1) := by decide +kernel
theorem dX0_room_18 : decode cX0_room 18 = .ok (.iinc 2 1, 3) := by decide +kernel
theorem dX0_room_21 : decode cX0_room 21 = .ok (.goto (-17), 3) := by decide +kernel
theorem dX0_room_24 : decode cX0_room 24 = .ok (.iload_n 1, 1) := by decide +kernel
theorem dX0_room_25 : decode cX0_room 25 = .ok (.ireturn, 1) := by decide +kernel
theorem dX0_canServe_0 : decode cX0_canServe 0 = .ok (.aload_n 0, 1) := by decide +kernel
theorem dX0_canServe_1 : decode cX0_canServe 1 = .ok (.getfield 9, 3) := by decide +kernel
theorem dX0_canServe_4 : decode cX0_canServe 4 = .ok (.iload_n 1, 1) := by decide +kernel
theorem dX0_canServe_5 : decode cX0_canServe 5 = .ok (.iaload, 1) := by decide +kernel
theorem dX0_canServe_6 : decode cX0_canServe 6 = .ok (.iload_n 2, 1) := by decide +kernel
theorem dX0_canServe_7 : decode cX0_canServe 7 = .ok (.if_icmp .ne 16, 3) := by decide +kernel
theorem dX0_canServe_10 : decode cX0_canServe 10 = .ok (.aload_n 0, 1) := by decide +kernel
theorem dX0_canServe_11 : decode cX0_canServe 11 = .ok (.getfield 21, 3) := by decide +kernel
theorem dX0_canServe_14 : decode cX0_canServe 14 = .ok (.iload_n 1, 1) := by decide +kernel
theorem dX0_canServe_15 : decode cX0_canServe 15 = .ok (.baload, 1) := by decide +kernel
theorem dX0_canServe_16 : decode cX0_canServe 16 = .ok (.ifCond .ne 7, 3) := by decide +kernel
theorem dX0_canServe_19 : decode cX0_canServe 19 = .ok (.iconst 1, 1) := by decide +kernel
theorem dX0_canServe_20 : decode cX0_canServe 20 = .ok (.goto 4, 3) := by decide +kernel
theorem dX0_canServe_23 : decode cX0_canServe 23 = .ok (.iconst 0, 1) := by decide +kernel
theorem dX0_canServe_24 : decode cX0_canServe 24 = .ok (.ireturn, 1) := by decide +kernel
set_option maxRecDepth 20000 in
theorem ggX0_hasEnough_X0_timesWanted : GoodIn wsX0_hasEnough wsX0_timesWanted := goodIn_r _ [5, 6, 7, 18, 19, 20, 21, 22, 23, 24, 25, 26, 27, 28] (by decide +kernel) (by decide +kernel)
set_option maxRecDepth 20000 in
theorem gX0_hasEnough_X0_timesWanted : GoodIn wsX0_hasEnough (wsV RX0 53 RX0 yX0_timesWanted wsX0_timesWanted) := goodIn_app (goodIn_of _ (by decide +kernel)) ggX0_hasEnough_X0_timesWanted
set_option maxRecDepth 20000 in
theorem ggX0_hasEnough_X0_serving : GoodIn wsX0_hasEnough wsX0_serving := goodIn_r _ [11, 12, 13, 14, 4, 15, 16, 17, 18, 19, 20, 21, 22, 23, 24, 25, 26, 27, 28] (by decide +kernel) (by decide +kernel)
set_option maxRecDepth 20000 in
theorem gX0_hasEnough_X0_serving : GoodIn wsX0_hasEnough (wsV RX0 57 RX0 yX0_serving wsX0_serving) := goodIn_app (goodIn_of _ (by decide +kernel)) ggX0_hasEnough_X0_serving
theorem dX0_hasEnough_0 : decode cX0_hasEnough 0 = .ok (.iconst 0, 1) := by decide +kernel
theorem dX0_hasEnough_1 : decode cX0_hasEnough 1 = .ok (.istore_n 2, 1) := by decide +kernel
theorem dX0_hasEnough_2 : decode cX0_hasEnough 2 = .ok (.iload_n 2, 1) := by decide +kernel
theorem dX0_hasEnough_3 : decode cX0_hasEnough 3 = .ok (.iconst 4, 1) := by decide +kernel
theorem dX0_hasEnough_4 : decode cX0_hasEnough 4 = .ok (.if_icmp .ge 25, 3) := by decide +kernel
theorem dX0_hasEnough_7 : decode cX0_hasEnough 7 = .ok (.aload_n 0, 1) := by decide +kernel
theorem dX0_hasEnough_8 : decode cX0_hasEnough 8 = .ok (.iload_n 2, 1) := by decide +kernel
theorem dX0_hasEnough_9 : decode cX0_hasEnough 9 = .ok (.invokevirtual 53, 3) := by decide +kernel
theorem dX0_hasEnough_12 : decode cX0_hasEnough 12 = .ok (.aload_n 0, 1) := by decide +kernel
theorem dX0_hasEnough_13 : decode cX0_hasEnough 13 = .ok (.iload_n 2, 1) := by decide +kernel
theorem dX0_hasEnough_14 : decode cX0_hasEnough 14 = .ok (.iload_n 1, 1) := by decide +kernel
theorem dX0_hasEnough_15 : decode cX0_hasEnough 15 = .ok (.invokevirtual 57, 3) := by decide +kernel
theorem dX0_hasEnough_18 : decode cX0_hasEnough 18 = .ok (.if_icmp .le 5, 3) := by decide +kernel
theorem dX0_hasEnough_21 : decode cX0_hasEnough 21 = .ok (.iconst 0, 1) := by decide +kernel
theorem dX0_hasEnough_22 : decode cX0_hasEnough 22 = .ok (.ireturn, 1) := by decide +kernel
theorem dX0_hasEnough_23 : decode cX0_hasEnough 23 = .ok (.iinc 2 1, 3) := by decide +kernel
theorem dX0_hasEnough_26 : decode cX0_hasEnough 26 = .ok (.goto (-24), 3) := by decide +kernel
theorem dX0_hasEnough_29 : decode cX0_hasEnough 29 = .ok (.iconst 1, 1) := by decide +kernel
theorem dX0_hasEnough_30 : decode cX0_hasEnough 30 = .ok (.ireturn, 1) := by decide +kernel
theorem dX0_timesWanted_0 : decode cX0_timesWanted 0 = .ok (.iconst 0, 1) := by decide +kernel
theorem dX0_timesWanted_1 : decode cX0_timesWanted 1 = .ok (.istore_n 2, 1) := by decide +kernel
theorem dX0_timesWanted_2 : decode cX0_timesWanted 2 = .ok (.iconst 0, 1) := by decide +kernel
theorem dX0_timesWanted_3 : decode cX0_timesWanted 3 = .ok (.istore_n 3, 1) := by decide +kernel
theorem dX0_timesWanted_4 : decode cX0_timesWanted 4 = .ok (.iload_n 3, 1) := by decide +kernel
theorem dX0_timesWanted_5 : decode cX0_timesWanted 5 = .ok (.aload_n 0, 1) := by decide +kernel
theorem dX0_timesWanted_6 : decode cX0_timesWanted 6 = .ok (.getfield 35, 3) := by decide +kernel
theorem dX0_timesWanted_9 : decode cX0_timesWanted 9 = .ok (.if_icmp .ge 22, 3) := by decide +kernel
theorem dX0_timesWanted_12 : decode cX0_timesWanted 12 = .ok (.aload_n 0, 1) := by decide +kernel
theorem dX0_timesWanted_13 : decode cX0_timesWanted 13 = .ok (.getfield 32, 3) := by decide +kernel
theorem dX0_timesWanted_16 : decode cX0_timesWanted 16 = .ok (.iload_n 3, 1) := by decide +kernel
theorem dX0_timesWanted_17 : decode cX0_timesWanted 17 = .ok (.iaload, 1) := by decide +kernel
theorem dX0_timesWanted_18 : decode cX0_timesWanted 18 = .ok (.iload_n 1, 1) := by decide +kernel
theorem dX0_timesWanted_19 : decode cX0_timesWanted 19 = .ok (.if_icmp .ne 6, 3) := by decide +kernel
theorem dX0_timesWanted_22 : decode cX0_timesWanted 22 = .ok (.iinc 2 1, 3) := by decide +kernel
theorem dX0_timesWanted_25 : decode cX0_timesWanted 25 = .ok (.iinc 3 1, 3) := by decide +kernel
theorem dX0_timesWanted_28 : decode cX0_timesWanted 28 = .ok (.goto (-24), 3) := by decide +kernel
theorem dX0_timesWanted_31 : decode cX0_timesWanted 31 = .ok (.iload_n 2, 1) := by decide +kernel
theorem dX0_timesWanted_32 : decode cX0_timesWanted 32 = .ok (.ireturn, 1) := by decide +kernel
set_option maxRecDepth 20000 in
theorem ggX0_serving_X0_canServe : GoodIn wsX0_serving wsX0_canServe := goodIn_r _ [5, 6, 7, 8, 9, 10, 11, 12, 13, 14, 15, 16, 17, 18] (by decide +kernel) (by decide +kernel)
set_option maxRecDepth 20000 in
theorem gX0_serving_X0_canServe : GoodIn wsX0_serving (wsV RX0 61 RX0 yX0_canServe wsX0_canServe) := goodIn_app (goodIn_of _ (by decide +kernel)) ggX0_serving_X0_canServe
theorem dX0_serving_0 : decode cX0_serving 0 = .ok (.iconst 0, 1) := by decide +kernel
theorem dX0_serving_1 : decode cX0_serving 1 = .ok (.istore_n 3, 1) := by decide +kernel
theorem dX0_serving_2 : decode cX0_serving 2 = .ok (.iconst 0, 1) := by decide +kernel
theorem dX0_serving_3 : decode cX0_serving 3 = .ok (.istore 4, 2) := by decide +kernel
theorem dX0_serving_5 : decode cX0_serving 5 = .ok (.iload 4, 2) := by decide +kernel
theorem dX0_serving_7 : decode cX0_serving 7 = .ok (.iload_n 2, 1) := by decide +kernel
theorem dX0_serving_8 : decode cX0_serving 8 = .ok (.if_icmp .ge 22, 3) := by decide +kernel
theorem dX0_serving_11 : decode cX0_serving 11 = .ok (.aload_n 0, 1) := by decide +kernel
theorem dX0_serving_12 : decode cX0_serving 12 = .ok (.iload 4, 2) := by decide +kernel
theorem dX0_serving_14 : decode cX0_serving 14 = .ok (.iload_n 1, 1) := by decide +kernel
theorem dX0_serving_15 : decode cX0_serving 15 = .ok (.invokevirtual 61, 3) := by decide +kernel
theorem dX0_serving_18 : decode cX0_serving 18 = .ok (.ifCond .eq 6, 3) := by decide +kernel
theorem dX0_serving_21 : decode cX0_serving 21 = .ok (.iinc 3 1, 3) := by decide +kernel
theorem dX0_serving_24 : decode cX0_serving 24 = .ok (.iinc 4 1, 3) := by decide +kernel
theorem dX0_serving_27 : decode cX0_serving 27 = .ok (.goto (-22), 3) := by decide +kernel
theorem dX0_serving_30 : decode cX0_serving 30 = .ok (.iload_n 3, 1) := by decide +kernel
theorem dX0_serving_31 : decode cX0_serving 31 = .ok (.ireturn, 1) := by decide +kernel
theorem dX1_init_0 : decode cX1_init 0 = .ok (.aload_n 0, 1) := by decide +kernel
theorem dX1_init_1 : decode cX1_init 1 = .ok (.invokespecial 3, 3) := by decide +kernel
theorem dX1_init_4 : decode cX1_init 4 = .ok (.aload_n 0, 1) := by decide +kernel
theorem dX1_init_5 : decode cX1_init 5 = .ok (.sipush 243, 3) := by decide +kernel
theorem dX1_init_8 : decode cX1_init 8 = .ok (.newarray .int, 2) := by decide +kernel
theorem dX1_init_10 : decode cX1_init 10 = .ok (.putfield 11, 3) := by decide +kernel
theorem dX1_init_13 : decode cX1_init 13 = .ok (.aload_n 0, 1) := by decide +kernel
theorem dX1_init_14 : decode cX1_init 14 = .ok (.iconst 5, 1) := by decide +kernel
theorem dX1_init_15 : decode cX1_init 15 = .ok (.newarray .int, 2) := by decide +kernel
theorem dX1_init_17 : decode cX1_init 17 = .ok (.putfield 15, 3) := by decide +kernel
theorem dX1_init_20 : decode cX1_init 20 = .ok (.aload_n 0, 1) := by decide +kernel
theorem dX1_init_21 : decode cX1_init 21 = .ok (.iconst 0, 1) := by decide +kernel
theorem dX1_init_22 : decode cX1_init 22 = .ok (.putfield 18, 3) := by decide +kernel
theorem dX1_init_25 : decode cX1_init 25 = .ok (.aload_n 0, 1) := by decide +kernel
theorem dX1_init_26 : decode cX1_init 26 = .ok (.iconst (-1), 1) := by decide +kernel
theorem dX1_init_27 : decode cX1_init 27 = .ok (.putfield 22, 3) := by decide +kernel
theorem dX1_init_30 : decode cX1_init 30 = .ok (.aload_n 0, 1) := by decide +kernel
theorem dX1_init_31 : decode cX1_init 31 = .ok (.iconst (-1), 1) := by decide +kernel
theorem dX1_init_32 : decode cX1_init 32 = .ok (.putfield 25, 3) := by decide +kernel
theorem dX1_init_35 : decode cX1_init 35 = .ok (.aload_n 0, 1) := by decide +kernel
theorem dX1_init_36 : decode cX1_init 36 = .ok (.aload_n 1, 1) := by decide +kernel
theorem dX1_init_37 : decode cX1_init 37 = .ok (.putfield 28, 3) := by decide +kernel
theorem dX1_init_40 : decode cX1_init 40 = .ok (.return_, 1) := by decide +kernel
theorem dX1_trackIn_0 : decode cX1_trackIn 0 = .ok (.aload_n 0, 1) := by decide +kernel
theorem dX1_trackIn_1 : decode cX1_trackIn 1 = .ok (.getfield 11, 3) := by decide +kernel
theorem dX1_trackIn_4 : decode cX1_trackIn 4 = .ok (.iload_n 1, 1) := by decide +kernel
theorem dX1_trackIn_5 : decode cX1_trackIn 5 = .ok (.iaload, 1) := by decide +kernel
theorem dX1_trackIn_6 : decode cX1_trackIn 6 = .ok (.iconst 2, 1) := by decide +kernel
theorem dX1_trackIn_7 : decode cX1_trackIn 7 = .ok (.iload_n 2, 1) := by decide +kernel
theorem dX1_trackIn_8 : decode cX1_trackIn 8 = .ok (.imul, 1) := by decide +kernel
theorem dX1_trackIn_9 : decode cX1_trackIn 9 = .ok (.iushr, 1) := by decide +kernel
theorem dX1_trackIn_10 : decode cX1_trackIn 10 = .ok (.iconst 3, 1) := by decide +kernel
theorem dX1_trackIn_11 : decode cX1_trackIn 11 = .ok (.iand, 1) := by decide +kernel
theorem dX1_trackIn_12 : decode cX1_trackIn 12 = .ok (.ireturn, 1) := by decide +kernel
set_option maxRecDepth 20000 in
theorem ggX1_refresh_X0_hasEnough : GoodIn wsX1_refresh wsX0_hasEnough := goodIn_r _ [11, 12, 13, 14, 10, 15, 16, 17, 18, 19, 20, 21, 22, 23, 24, 25, 26, 27, 88, 89, 90, 91, 92, 93, 94, 95, 96, 97, 98] (by decide +kernel) (by decide +kernel)
set_option maxRecDepth 20000 in
theorem gX1_refresh_X0_hasEnough : GoodIn wsX1_refresh (wsV RX1 40 RX0 yX0_hasEnough wsX0_hasEnough) := goodIn_app (goodIn_of _ (by decide +kernel)) ggX1_refresh_X0_hasEnough
set_option maxRecDepth 20000 in
theorem ggX1_refresh_X1_collect : GoodIn wsX1_refresh wsX1_collect := goodIn_r _ [32, 33, 34, 4, 35, 36, 37, 38, 39, 40, 41, 31, 42, 2, 5, 43, 44, 45, 46, 47, 48, 49, 50, 51, 52, 53, 54, 23, 24, 10, 25, 26, 27, 55, 56, 57, 58, 59, 60, 61, 62, 82, 83, 84, 85, 86, 87, 88, 89, 90, 91, 92, 93, 94, 95, 96, 97, 98] (by decide +kernel) (by decide +kernel)
set_option maxRecDepth 20000 in
theorem gX1_refresh_X1_collect : GoodIn wsX1_refresh (wsV RX1 44 RX1 yX1_collect wsX1_collect) := goodIn_app (goodIn_of _ (by decide +kernel)) ggX1_refresh_X1_collect
set_option maxRecDepth 20000 in
theorem ggX1_refresh_X1_findNarrowest : GoodIn wsX1_refresh wsX1_findNarrowest := goodIn_r _ [66, 4, 67, 68, 69, 31, 70, 2, 5, 71, 72, 73, 74, 34, 75, 76, 77, 78, 79, 80, 81, 82, 83, 84, 85, 86, 87, 88, 89, 90, 91, 92, 93, 94, 95, 96, 97, 98] (by decide +kernel) (by decide +kernel)
set_option maxRecDepth 20000 in
theorem gX1_refresh_X1_findNarrowest : GoodIn wsX1_refresh (wsV RX1 47 RX1 yX1_findNarrowest wsX1_findNarrowest) := goodIn_app (goodIn_of _ (by decide +kernel)) ggX1_refresh_X1_findNarrowest
theorem dX1_refresh_0 : decode cX1_refresh 0 = .ok (.aload_n 0, 1) := by decide +kernel
theorem dX1_refresh_1 : decode cX1_refresh 1 = .ok (.getfield 25, 3) := by decide +kernel
theorem dX1_refresh_4 : decode cX1_refresh 4 = .ok (.aload_n 0, 1) := by decide +kernel
theorem dX1_refresh_5 : decode cX1_refresh 5 = .ok (.getfield 28, 3) := by decide +kernel
theorem dX1_refresh_8 : decode cX1_refresh 8 = .ok (.getfield 32, 3) := by decide +kernel
theorem dX1_refresh_11 : decode cX1_refresh 11 = .ok (.if_icmp .ne 4, 3) := by decide +kernel
theorem dX1_refresh_14 : decode cX1_refresh 14 = .ok (.return_, 1) := by decide +kernel
theorem dX1_refresh_15 : decode cX1_refresh 15 = .ok (.aload_n 0, 1) := by decide +kernel
theorem dX1_refresh_16 : decode cX1_refresh 16 = .ok (.aload_n 0, 1) := by decide +kernel
theorem dX1_refresh_17 : decode cX1_refresh 17 = .ok (.getfield 28, 3) := by decide +kernel
theorem dX1_refresh_20 : decode cX1_refresh 20 = .ok (.getfield 32, 3) := by decide +kernel
theorem dX1_refresh_23 : decode cX1_refresh 23 = .ok (.putfield 25, 3) := by decide +kernel
theorem dX1_refresh_26 : decode cX1_refresh 26 = .ok (.aload_n 0, 1) := by decide +kernel
theorem dX1_refresh_27 : decode cX1_refresh 27 = .ok (.iconst 0, 1) := by decide +kernel
theorem dX1_refresh_28 : decode cX1_refresh 28 = .ok (.putfield 18, 3) := by decide +kernel
theorem dX1_refresh_31 : decode cX1_refresh 31 = .ok (.aload_n 0, 1) := by decide +kernel
theorem dX1_refresh_32 : decode cX1_refresh 32 = .ok (.getfield 28, 3) := by decide +kernel
theorem dX1_refresh_35 : decode cX1_refresh 35 = .ok (.aload_n 0, 1) := by decide +kernel
theorem dX1_refresh_36 : decode cX1_refresh 36 = .ok (.getfield 28, 3) := by decide +kernel
theorem dX1_refresh_39 : decode cX1_refresh 39 = .ok (.getfield 37, 3) := by decide +kernel
theorem dX1_refresh_42 : decode cX1_refresh 42 = .ok (.invokevirtual 40, 3) := by decide +kernel
theorem dX1_refresh_45 : decode cX1_refresh 45 = .ok (.ifCond .eq 7, 3) := by decide +kernel
theorem dX1_refresh_48 : decode cX1_refresh 48 = .ok (.aload_n 0, 1) := by decide +kernel
theorem dX1_refresh_49 : decode cX1_refresh 49 = .ok (.invokevirtual 44, 3) := by decide +kernel
theorem dX1_refresh_52 : decode cX1_refresh 52 = .ok (.aload_n 0, 1) := by decide +kernel
theorem dX1_refresh_53 : decode cX1_refresh 53 = .ok (.aload_n 0, 1) := by decide +kernel
theorem dX1_refresh_54 : decode cX1_refresh 54 = .ok (.invokevirtual 47, 3) := by decide +kernel
theorem dX1_refresh_57 : decode cX1_refresh 57 = .ok (.putfield 22, 3) := by decide +kernel
theorem dX1_refresh_60 : decode cX1_refresh 60 = .ok (.return_, 1) := by decide +kernel
set_option maxRecDepth 20000 in
theorem ggX1_collect_J7_fill_53178 : GoodIn wsX1_collect wsJ7_fill_53178 := goodIn_r _ [7] (by decide +kernel) (by decide +kernel)
set_option maxRecDepth 20000 in
theorem gX1_collect_J7_fill_53178 : GoodIn wsX1_collect (va_wsS RX1 51 yJ7_fill_53178 wsJ7_fill_53178) := goodIn_app (goodIn_of _ (by decide +kernel)) ggX1_collect_J7_fill_53178
set_option maxRecDepth 20000 in
theorem ggX1_collect_X1_rowFits : GoodIn wsX1_collect wsX1_rowFits := goodIn_r _ [12, 13, 14, 1, 15, 41, 42, 43, 44, 45, 46, 47, 48, 49, 50, 51, 52, 53, 54, 55, 56, 57] (by decide +kernel) (by decide +kernel)
set_option maxRecDepth 20000 in
theorem gX1_collect_X1_rowFits : GoodIn wsX1_collect (wsV RX1 57 RX1 yX1_rowFits wsX1_rowFits) := goodIn_app (goodIn_of _ (by decide +kernel)) ggX1_collect_X1_rowFits
set_option maxRecDepth 20000 in
theorem ggX1_collect_X1_canAllGo : GoodIn wsX1_collect wsX1_canAllGo := goodIn_r _ [19, 13, 20, 21, 22, 23, 24, 11, 25, 14, 1, 26, 27, 28, 29, 30, 31, 32, 16, 17, 18, 41, 42, 43, 44, 45, 46, 47, 48, 49, 50, 51, 52, 53, 54, 55, 56, 57] (by decide +kernel) (by decide +kernel)
set_option maxRecDepth 20000 in
theorem gX1_collect_X1_canAllGo : GoodIn wsX1_collect (wsV RX1 61 RX1 yX1_canAllGo wsX1_canAllGo) := goodIn_app (goodIn_of _ (by decide +kernel)) ggX1_collect_X1_canAllGo
set_option maxRecDepth 20000 in
theorem ggX1_collect_X1_packRow : GoodIn wsX1_collect wsX1_packRow := goodIn_r _ [36, 13, 14, 1, 41, 42, 43, 44, 45, 46, 47, 48, 49, 50, 51, 52, 53, 54, 55, 56, 57] (by decide +kernel) (by decide +kernel)
set_option maxRecDepth 20000 in
theorem gX1_collect_X1_packRow : GoodIn wsX1_collect (wsV RX1 65 RX1 yX1_packRow wsX1_packRow) := goodIn_app (goodIn_of _ (by decide +kernel)) ggX1_collect_X1_packRow
set_option maxRecDepth 20000 in
theorem ggX1_collect_X1_moveOn : GoodIn wsX1_collect wsX1_moveOn := goodIn_r _ [40, 13, 14, 1, 41, 42, 43, 44, 45, 46, 47, 48, 49, 50, 51, 52, 53, 54, 55, 56, 57] (by decide +kernel) (by decide +kernel)
set_option maxRecDepth 20000 in
theorem gX1_collect_X1_moveOn : GoodIn wsX1_collect (wsV RX1 68 RX1 yX1_moveOn wsX1_moveOn) := goodIn_app (goodIn_of _ (by decide +kernel)) ggX1_collect_X1_moveOn
theorem dX1_collect_0 : decode cX1_collect 0 = .ok (.aload_n 0, 1) := by decide +kernel
theorem dX1_collect_1 : decode cX1_collect 1 = .ok (.getfield 15, 3) := by decide +kernel
theorem dX1_collect_4 : decode cX1_collect 4 = .ok (.iconst 0, 1) := by decide +kernel
theorem dX1_collect_5 : decode cX1_collect 5 = .ok (.invokestatic 51, 3) := by decide +kernel
theorem dX1_collect_8 : decode cX1_collect 8 = .ok (.iconst 1, 1) := by decide +kernel
theorem dX1_collect_9 : decode cX1_collect 9 = .ok (.istore_n 1, 1) := by decide +kernel
theorem dX1_collect_10 : decode cX1_collect 10 = .ok (.iconst 0, 1) := by decide +kernel
theorem dX1_collect_11 : decode cX1_collect 11 = .ok (.istore_n 2, 1) := by decide +kernel
theorem dX1_collect_12 : decode cX1_collect 12 = .ok (.iload_n 1, 1) := by decide +kernel
theorem dX1_collect_13 : decode cX1_collect 13 = .ok (.ifCond .eq 60, 3) := by decide +kernel
theorem dX1_collect_16 : decode cX1_collect 16 = .ok (.iload_n 2, 1) := by decide +kernel
theorem dX1_collect_17 : decode cX1_collect 17 = .ok (.sipush 243, 3) := by decide +kernel
theorem dX1_collect_20 : decode cX1_collect 20 = .ok (.if_icmp .ge 53, 3) := by decide +kernel
theorem dX1_collect_23 : decode cX1_collect 23 = .ok (.aload_n 0, 1) := by decide +kernel
theorem dX1_collect_24 : decode cX1_collect 24 = .ok (.invokevirtual 57, 3) := by decide +kernel
theorem dX1_collect_27 : decode cX1_collect 27 = .ok (.ifCond .eq 35, 3) := by decide +kernel
theorem dX1_collect_30 : decode cX1_collect 30 = .ok (.aload_n 0, 1) := by decide +kernel
theorem dX1_collect_31 : decode cX1_collect 31 = .ok (.iconst 0, 1) := by decide +kernel
theorem dX1_collect_32 : decode cX1_collect 32 = .ok (.iconst 0, 1) := by decide +kernel
theorem dX1_collect_33 : decode cX1_collect 33 = .ok (.invokevirtual 61, 3) := by decide +kernel
theorem dX1_collect_36 : decode cX1_collect 36 = .ok (.ifCond .eq 26, 3) := by decide +kernel
theorem dX1_collect_39 : decode cX1_collect 39 = .ok (.aload_n 0, 1) := by decide +kernel
theorem dX1_collect_40 : decode cX1_collect 40 = .ok (.getfield 11, 3) := by decide +kernel
theorem dX1_collect_43 : decode cX1_collect 43 = .ok (.aload_n 0, 1) := by decide +kernel
theorem dX1_collect_44 : decode cX1_collect 44 = .ok (.getfield 18, 3) := by decide +kernel
theorem dX1_collect_47 : decode cX1_collect 47 = .ok (.aload_n 0, 1) := by decide +kernel
theorem dX1_collect_48 : decode cX1_collect 48 = .ok (.invokevirtual 65, 3) := by decide +kernel
theorem dX1_collect_51 : decode cX1_collect 51 = .ok (.iastore, 1) := by decide +kernel
theorem dX1_collect_52 : decode cX1_collect 52 = .ok (.aload_n 0, 1) := by decide +kernel
theorem dX1_collect_53 : decode cX1_collect 53 = .ok (.dup, 1) := by decide +kernel
theorem dX1_collect_54 : decode cX1_collect 54 = .ok (.getfield 18, 3) := by decide +kernel
theorem dX1_collect_57 : decode cX1_collect 57 = .ok (.iconst 1, 1) := by decide +kernel
theorem dX1_collect_58 : decode cX1_collect 58 = .ok (.iadd, 1) := by decide +kernel
theorem dX1_collect_59 : decode cX1_collect 59 = .ok (.putfield 18, 3) := by decide +kernel
theorem dX1_collect_62 : decode cX1_collect 62 = .ok (.aload_n 0, 1) := by decide +kernel
theorem dX1_collect_63 : decode cX1_collect 63 = .ok (.invokevirtual 68, 3) := by decide +kernel
theorem dX1_collect_66 : decode cX1_collect 66 = .ok (.istore_n 1, 1) := by decide +kernel
theorem dX1_collect_67 : decode cX1_collect 67 = .ok (.iinc 2 1, 3) := by decide +kernel
theorem dX1_collect_70 : decode cX1_collect 70 = .ok (.goto (-58), 3) := by decide +kernel
theorem dX1_collect_73 : decode cX1_collect 73 = .ok (.return_, 1) := by decide +kernel
theorem dX1_moveOn_0 : decode cX1_moveOn 0 = .ok (.aload_n 0, 1) := by decide +kernel
theorem dX1_moveOn_1 : decode cX1_moveOn 1 = .ok (.getfield 28, 3) := by decide +kernel
theorem dX1_moveOn_4 : decode cX1_moveOn 4 = .ok (.getfield 37, 3) := by decide +kernel
theorem dX1_moveOn_7 : decode cX1_moveOn 7 = .ok (.iconst 1, 1) := by decide +kernel
theorem dX1_moveOn_8 : decode cX1_moveOn 8 = .ok (.isub, 1) := by decide +kernel
theorem dX1_moveOn_9 : decode cX1_moveOn 9 = .ok (.istore_n 1, 1) := by decide +kernel
theorem dX1_moveOn_10 : decode cX1_moveOn 10 = .ok (.iload_n 1, 1) := by decide +kernel
theorem dX1_moveOn_11 : decode cX1_moveOn 11 = .ok (.ifCond .lt 38, 3) := by decide +kernel
theorem dX1_moveOn_14 : decode cX1_moveOn 14 = .ok (.aload_n 0, 1) := by decide +kernel
theorem dX1_moveOn_15 : decode cX1_moveOn 15 = .ok (.getfield 15, 3) := by decide +kernel
theorem dX1_moveOn_18 : decode cX1_moveOn 18 = .ok (.iload_n 1, 1) := by decide +kernel
theorem dX1_moveOn_19 : decode cX1_moveOn 19 = .ok (.iaload, 1) := by decide +kernel
theorem dX1_moveOn_20 : decode cX1_moveOn 20 = .ok (.iconst 2, 1) := by decide +kernel
theorem dX1_moveOn_21 : decode cX1_moveOn 21 = .ok (.if_icmp .ge 15, 3) := by decide +kernel
theorem dX1_moveOn_24 : decode cX1_moveOn 24 = .ok (.aload_n 0, 1) := by decide +kernel
theorem dX1_moveOn_25 : decode cX1_moveOn 25 = .ok (.getfield 15, 3) := by decide +kernel
theorem dX1_moveOn_28 : decode cX1_moveOn 28 = .ok (.iload_n 1, 1) := by decide +kernel
theorem dX1_moveOn_29 : decode cX1_moveOn 29 = .ok (.dup2, 1) := by decide +kernel
theorem dX1_moveOn_30 : decode cX1_moveOn 30 = .ok (.iaload, 1) := by decide +kernel
theorem dX1_moveOn_31 : decode cX1_moveOn 31 = .ok (.iconst 1, 1) := by decide +kernel
theorem dX1_moveOn_32 : decode cX1_moveOn 32 = .ok (.iadd, 1) := by decide +kernel
theorem dX1_moveOn_33 : decode cX1_moveOn 33 = .ok (.iastore, 1) := by decide +kernel
theorem dX1_moveOn_34 : decode cX1_moveOn 34 = .ok (.iconst 1, 1) := by decide +kernel
theorem dX1_moveOn_35 : decode cX1_moveOn 35 = .ok (.ireturn, 1) := by decide +kernel
theorem dX1_moveOn_36 : decode cX1_moveOn 36 = .ok (.aload_n 0, 1) := by decide +kernel
theorem dX1_moveOn_37 : decode cX1_moveOn 37 = .ok (.getfield 15, 3) := by decide +kernel
theorem dX1_moveOn_40 : decode cX1_moveOn 40 = .ok (.iload_n 1, 1) := by decide +kernel
theorem dX1_moveOn_41 : decode cX1_moveOn 41 = .ok (.iconst 0, 1) := by decide +kernel
theorem dX1_moveOn_42 : decode cX1_moveOn 42 = .ok (.iastore, 1) := by decide +kernel
theorem dX1_moveOn_43 : decode cX1_moveOn 43 = .ok (.iinc 1 (-1), 3) := by decide +kernel
theorem dX1_moveOn_46 : decode cX1_moveOn 46 = .ok (.goto (-36), 3) := by decide +kernel
theorem dX1_moveOn_49 : decode cX1_moveOn 49 = .ok (.iconst 0, 1) := by decide +kernel
theorem dX1_moveOn_50 : decode cX1_moveOn 50 = .ok (.ireturn, 1) := by decide +kernel
theorem dX1_rowFits_0 : decode cX1_rowFits 0 = .ok (.iconst 0, 1) := by decide +kernel
theorem dX1_rowFits_1 : decode cX1_rowFits 1 = .ok (.istore_n 1, 1) := by decide +kernel
theorem dX1_rowFits_2 : decode cX1_rowFits 2 = .ok (.iload_n 1, 1) := by decide +kernel
theorem dX1_rowFits_3 : decode cX1_rowFits 3 = .ok (.iconst 3, 1) := by decide +kernel
theorem dX1_rowFits_4 : decode cX1_rowFits 4 = .ok (.if_icmp .ge 58, 3) := by decide +kernel
theorem dX1_rowFits_7 : decode cX1_rowFits 7 = .ok (.iconst 0, 1) := by decide +kernel
theorem dX1_rowFits_8 : decode cX1_rowFits 8 = .ok (.istore_n 2, 1) := by decide +kernel
theorem dX1_rowFits_9 : decode cX1_rowFits 9 = .ok (.iconst 0, 1) := by decide +kernel
theorem dX1_rowFits_10 : decode cX1_rowFits 10 = .ok (.istore_n 3, 1) := by decide +kernel
theorem dX1_rowFits_11 : decode cX1_rowFits 11 = .ok (.iload_n 3, 1) := by decide +kernel
theorem dX1_rowFits_12 : decode cX1_rowFits 12 = .ok (.aload_n 0, 1) := by decide +kernel
theorem dX1_rowFits_13 : decode cX1_rowFits 13 = .ok (.getfield 28, 3) := by decide +kernel
theorem dX1_rowFits_16 : decode cX1_rowFits 16 = .ok (.getfield 37, 3) := by decide +kernel
theorem dX1_rowFits_19 : decode cX1_rowFits 19 = .ok (.if_icmp .ge 22, 3) := by decide +kernel
theorem dX1_rowFits_22 : decode cX1_rowFits 22 = .ok (.aload_n 0, 1) := by decide +kernel
theorem dX1_rowFits_23 : decode cX1_rowFits 23 = .ok (.getfield 15, 3) := by decide +kernel
theorem dX1_rowFits_26 : decode cX1_rowFits 26 = .ok (.iload_n 3, 1) := by decide +kernel
theorem dX1_rowFits_27 : decode cX1_rowFits 27 = .ok (.iaload, 1) := by decide +kernel
theorem dX1_rowFits_28 : decode cX1_rowFits 28 = .ok (.iload_n 1, 1) := by decide +kernel
theorem dX1_rowFits_29 : decode cX1_rowFits 29 = .ok (.if_icmp .ne 6, 3) := by decide +kernel
theorem dX1_rowFits_32 : decode cX1_rowFits 32 = .ok (.iinc 2 1, 3) := by decide +kernel
theorem dX1_rowFits_35 : decode cX1_rowFits 35 = .ok (.iinc 3 1, 3) := by decide +kernel
theorem dX1_rowFits_38 : decode cX1_rowFits 38 = .ok (.goto (-27), 3) := by decide +kernel
theorem dX1_rowFits_41 : decode cX1_rowFits 41 = .ok (.iload_n 2, 1) := by decide +kernel
theorem dX1_rowFits_42 : decode cX1_rowFits 42 = .ok (.aload_n 0, 1) := by decide +kernel
theorem dX1_rowFits_43 : decode cX1_rowFits 43 = .ok (.getfield 28, 3) := by decide +kernel
theorem dX1_rowFits_46 : decode cX1_rowFits 46 = .ok (.getfield 71, 3) := by decide +kernel
theorem dX1_rowFits_49 : decode cX1_rowFits 49 = .ok (.iload_n 1, 1) := by decide +kernel
theorem dX1_rowFits_50 : decode cX1_rowFits 50 = .ok (.iaload, 1) := by decide +kernel
theorem dX1_rowFits_51 : decode cX1_rowFits 51 = .ok (.if_icmp .le 5, 3) := by decide +kernel
theorem dX1_rowFits_54 : decode cX1_rowFits 54 = .ok (.iconst 0, 1) := by decide +kernel
theorem dX1_rowFits_55 : decode cX1_rowFits 55 = .ok (.ireturn, 1) := by decide +kernel
theorem dX1_rowFits_56 : decode cX1_rowFits 56 = .ok (.iinc 1 1, 3) := by decide +kernel
theorem dX1_rowFits_59 : decode cX1_rowFits 59 = .ok (.goto (-57), 3) := by decide +kernel
theorem dX1_rowFits_62 : decode cX1_rowFits 62 = .ok (.iconst 1, 1) := by decide +kernel
theorem dX1_rowFits_63 : decode cX1_rowFits 63 = .ok (.ireturn, 1) := by decide +kernel
set_option maxRecDepth 20000 in
theorem ggX1_canAllGo_X1_lastOn : GoodIn wsX1_canAllGo wsX1_lastOn := goodIn_r _ [8, 1, 9, 10, 21, 22, 23, 24, 25, 26, 27, 28, 29, 30, 31, 32, 33, 34, 35, 36, 37] (by decide +kernel) (by decide +kernel)
set_option maxRecDepth 20000 in
theorem gX1_canAllGo_X1_lastOn : GoodIn wsX1_canAllGo (wsV RX1 77 RX1 yX1_lastOn wsX1_lastOn) := goodIn_app (goodIn_of _ (by decide +kernel)) ggX1_canAllGo_X1_lastOn
set_option maxRecDepth 20000 in
theorem ggX1_canAllGo_X0_canServe : GoodIn wsX1_canAllGo wsX0_canServe := goodIn_r _ [15, 16, 17, 27, 28, 29, 30, 31, 32, 33, 34, 35, 36, 37] (by decide +kernel) (by decide +kernel)
set_option maxRecDepth 20000 in
theorem gX1_canAllGo_X0_canServe : GoodIn wsX1_canAllGo (wsV RX1 84 RX0 yX0_canServe wsX0_canServe) := goodIn_app (goodIn_of _ (by decide +kernel)) ggX1_canAllGo_X0_canServe
set_option maxRecDepth 20000 in
theorem ggX1_canAllGo_X1_canAllGo : GoodIn wsX1_canAllGo wsX1_canAllGo := goodIn_r _ [0, 1, 2, 3, 4, 5, 6, 7, 8, 9, 10, 11, 12, 13, 14, 15, 16, 17, 18, 19, 20, 21, 22, 23, 24, 25, 26, 27, 28, 29, 30, 31, 32, 33, 34, 35, 36, 37] (by decide +kernel) (by decide +kernel)
set_option maxRecDepth 20000 in
theorem gX1_canAllGo_X1_canAllGo : GoodIn wsX1_canAllGo (wsV RX1 61 RX1 yX1_canAllGo wsX1_canAllGo) := goodIn_app (goodIn_of _ (by decide +kernel)) ggX1_canAllGo_X1_canAllGo
theorem dX1_canAllGo_0 : decode cX1_canAllGo 0 = .ok (.iload_n 1, 1) := by decide +kernel
theorem dX1_canAllGo_1 : decode cX1_canAllGo 1 = .ok (.aload_n 0, 1) := by decide +kernel
theorem dX1_canAllGo_2 : decode cX1_canAllGo 2 = .ok (.getfield 28, 3) := by decide +kernel
theorem dX1_canAllGo_5 : decode cX1_canAllGo 5 = .ok (.getfield 74, 3) := by decide +kernel
theorem dX1_canAllGo_8 : decode cX1_canAllGo 8 = .ok (.if_icmp .lt 5, 3) := by decide +kernel
theorem dX1_canAllGo_11 : decode cX1_canAllGo 11 = .ok (.iconst 1, 1) := by decide +kernel
theorem dX1_canAllGo_12 : decode cX1_canAllGo 12 = .ok (.ireturn, 1) := by decide +kernel
theorem dX1_canAllGo_13 : decode cX1_canAllGo 13 = .ok (.iconst 0, 1) := by decide +kernel
theorem dX1_canAllGo_14 : decode cX1_canAllGo 14 = .ok (.istore_n 3, 1) := by decide +kernel
theorem dX1_canAllGo_15 : decode cX1_canAllGo 15 = .ok (.iload_n 3, 1) := by decide +kernel
theorem dX1_canAllGo_16 : decode cX1_canAllGo 16 = .ok (.iconst 3, 1) := by decide +kernel
theorem dX1_canAllGo_17 : decode cX1_canAllGo 17 = .ok (.if_icmp .ge 62, 3) := by decide +kernel
theorem dX1_canAllGo_20 : decode cX1_canAllGo 20 = .ok (.aload_n 0, 1) := by decide +kernel
theorem dX1_canAllGo_21 : decode cX1_canAllGo 21 = .ok (.iload_n 3, 1) := by decide +kernel
theorem dX1_canAllGo_22 : decode cX1_canAllGo 22 = .ok (.iload_n 2, 1) := by decide +kernel
theorem dX1_canAllGo_23 : decode cX1_canAllGo 23 = .ok (.invokevirtual 77, 3) := by decide +kernel
theorem dX1_canAllGo_26 : decode cX1_canAllGo 26 = .ok (.istore 4, 2) := by decide +kernel
theorem dX1_canAllGo_28 : decode cX1_canAllGo 28 = .ok (.iload 4, 2) := by decide +kernel
theorem dX1_canAllGo_30 : decode cX1_canAllGo 30 = .ok (.iconst (-1), 1) := by decide +kernel
theorem dX1_canAllGo_31 : decode cX1_canAllGo 31 = .ok (.if_icmp .eq 42, 3) := by decide +kernel
theorem dX1_canAllGo_34 : decode cX1_canAllGo 34 = .ok (.aload_n 0, 1) := by decide +kernel
theorem dX1_canAllGo_35 : decode cX1_canAllGo 35 = .ok (.getfield 28, 3) := by decide +kernel
theorem dX1_canAllGo_38 : decode cX1_canAllGo 38 = .ok (.iload 4, 2) := by decide +kernel
theorem dX1_canAllGo_40 : decode cX1_canAllGo 40 = .ok (.aload_n 0, 1) := by decide +kernel
theorem dX1_canAllGo_41 : decode cX1_canAllGo 41 = .ok (.getfield 28, 3) := by decide +kernel
theorem dX1_canAllGo_44 : decode cX1_canAllGo 44 = .ok (.getfield 81, 3) := by decide +kernel
theorem dX1_canAllGo_47 : decode cX1_canAllGo 47 = .ok (.iload_n 1, 1) := by decide +kernel
theorem dX1_canAllGo_48 : decode cX1_canAllGo 48 = .ok (.iaload, 1) := by decide +kernel
theorem dX1_canAllGo_49 : decode cX1_canAllGo 49 = .ok (.invokevirtual 84, 3) := by decide +kernel
theorem dX1_canAllGo_52 : decode cX1_canAllGo 52 = .ok (.ifCond .eq 21, 3) := by decide +kernel
theorem dX1_canAllGo_55 : decode cX1_canAllGo 55 = .ok (.aload_n 0, 1) := by decide +kernel
theorem dX1_canAllGo_56 : decode cX1_canAllGo 56 = .ok (.iload_n 1, 1) := by decide +kernel
theorem dX1_canAllGo_57 : decode cX1_canAllGo 57 = .ok (.iconst 1, 1) := by decide +kernel
theorem dX1_canAllGo_58 : decode cX1_canAllGo 58 = .ok (.iadd, 1) := by decide +kernel
theorem dX1_canAllGo_59 : decode cX1_canAllGo 59 = .ok (.iload_n 2, 1) := by decide +kernel
theorem dX1_canAllGo_60 : decode cX1_canAllGo 60 = .ok (.iconst 1, 1) := by decide +kernel
theorem dX1_canAllGo_61 : decode cX1_canAllGo 61 = .ok (.iload 4, 2) := by decide +kernel
theorem dX1_canAllGo_63 : decode cX1_canAllGo 63 = .ok (.ishl, 1) := by decide +kernel
theorem dX1_canAllGo_64 : decode cX1_canAllGo 64 = .ok (.ior, 1) := by decide +kernel
theorem dX1_canAllGo_65 : decode cX1_canAllGo 65 = .ok (.invokevirtual 61, 3) := by decide +kernel
theorem dX1_canAllGo_68 : decode cX1_canAllGo 68 = .ok (.ifCond .eq 5, 3) := by decide +kernel
theorem dX1_canAllGo_71 : decode cX1_canAllGo 71 = .ok (.iconst 1, 1) := by decide +kernel
theorem dX1_canAllGo_72 : decode cX1_canAllGo 72 = .ok (.ireturn, 1) := by decide +kernel
theorem dX1_canAllGo_73 : decode cX1_canAllGo 73 = .ok (.iinc 3 1, 3) := by decide +kernel
theorem dX1_canAllGo_76 : decode cX1_canAllGo 76 = .ok (.goto (-61), 3) := by decide +kernel
theorem dX1_canAllGo_79 : decode cX1_canAllGo 79 = .ok (.iconst 0, 1) := by decide +kernel
theorem dX1_canAllGo_80 : decode cX1_canAllGo 80 = .ok (.ireturn, 1) := by decide +kernel
theorem dX1_lastOn_0 : decode cX1_lastOn 0 = .ok (.aload_n 0, 1) := by decide +kernel
theorem dX1_lastOn_1 : decode cX1_lastOn 1 = .ok (.getfield 28, 3) := by decide +kernel
theorem dX1_lastOn_4 : decode cX1_lastOn 4 = .ok (.getfield 37, 3) := by decide +kernel
theorem dX1_lastOn_7 : decode cX1_lastOn 7 = .ok (.iconst 1, 1) := by decide +kernel
theorem dX1_lastOn_8 : decode cX1_lastOn 8 = .ok (.isub, 1) := by decide +kernel
theorem dX1_lastOn_9 : decode cX1_lastOn 9 = .ok (.istore_n 3, 1) := by decide +kernel
theorem dX1_lastOn_10 : decode cX1_lastOn 10 = .ok (.iload_n 3, 1) := by decide +kernel
theorem dX1_lastOn_11 : decode cX1_lastOn 11 = .ok (.ifCond .lt 29, 3) := by decide +kernel
theorem dX1_lastOn_14 : decode cX1_lastOn 14 = .ok (.aload_n 0, 1) := by decide +kernel
theorem dX1_lastOn_15 : decode cX1_lastOn 15 = .ok (.getfield 15, 3) := by decide +kernel
theorem dX1_lastOn_18 : decode cX1_lastOn 18 = .ok (.iload_n 3, 1) := by decide +kernel
theorem dX1_lastOn_19 : decode cX1_lastOn 19 = .ok (.iaload, 1) := by decide +kernel
theorem dX1_lastOn_20 : decode cX1_lastOn 20 = .ok (.iload_n 1, 1) := by decide +kernel
theorem dX1_lastOn_21 : decode cX1_lastOn 21 = .ok (.if_icmp .ne 13, 3) := by decide +kernel
theorem dX1_lastOn_24 : decode cX1_lastOn 24 = .ok (.iload_n 2, 1) := by decide +kernel
theorem dX1_lastOn_25 : decode cX1_lastOn 25 = .ok (.iload_n 3, 1) := by decide +kernel
theorem dX1_lastOn_26 : decode cX1_lastOn 26 = .ok (.ishr, 1) := by decide +kernel
theorem dX1_lastOn_27 : decode cX1_lastOn 27 = .ok (.iconst 1, 1) := by decide +kernel
theorem dX1_lastOn_28 : decode cX1_lastOn 28 = .ok (.iand, 1) := by decide +kernel
theorem dX1_lastOn_29 : decode cX1_lastOn 29 = .ok (.ifCond .ne 5, 3) := by decide +kernel
theorem dX1_lastOn_32 : decode cX1_lastOn 32 = .ok (.iload_n 3, 1) := by decide +kernel
theorem dX1_lastOn_33 : decode cX1_lastOn 33 = .ok (.ireturn, 1) := by decide +kernel
theorem dX1_lastOn_34 : decode cX1_lastOn 34 = .ok (.iinc 3 (-1), 3) := by decide +kernel
theorem dX1_lastOn_37 : decode cX1_lastOn 37 = .ok (.goto (-27), 3) := by decide +kernel
theorem dX1_lastOn_40 : decode cX1_lastOn 40 = .ok (.iconst (-1), 1) := by decide +kernel
theorem dX1_lastOn_41 : decode cX1_lastOn 41 = .ok (.ireturn, 1) := by decide +kernel
theorem dX1_packRow_0 : decode cX1_packRow 0 = .ok (.iconst 0, 1) := by decide +kernel
theorem dX1_packRow_1 : decode cX1_packRow 1 = .ok (.istore_n 1, 1) := by decide +kernel
theorem dX1_packRow_2 : decode cX1_packRow 2 = .ok (.iconst 0, 1) := by decide +kernel
theorem dX1_packRow_3 : decode cX1_packRow 3 = .ok (.istore_n 2, 1) := by decide +kernel
theorem dX1_packRow_4 : decode cX1_packRow 4 = .ok (.iload_n 2, 1) := by decide +kernel
theorem dX1_packRow_5 : decode cX1_packRow 5 = .ok (.aload_n 0, 1) := by decide +kernel
theorem dX1_packRow_6 : decode cX1_packRow 6 = .ok (.getfield 28, 3) := by decide +kernel
theorem dX1_packRow_9 : decode cX1_packRow 9 = .ok (.getfield 37, 3) := by decide +kernel
theorem dX1_packRow_12 : decode cX1_packRow 12 = .ok (.if_icmp .ge 22, 3) := by decide +kernel
theorem dX1_packRow_15 : decode cX1_packRow 15 = .ok (.iload_n 1, 1) := by decide +kernel
theorem dX1_packRow_16 : decode cX1_packRow 16 = .ok (.aload_n 0, 1) := by decide +kernel
theorem dX1_packRow_17 : decode cX1_packRow 17 = .ok (.getfield 15, 3) := by decide +kernel
theorem dX1_packRow_20 : decode cX1_packRow 20 = .ok (.iload_n 2, 1) := by decide +kernel
theorem dX1_packRow_21 : decode cX1_packRow 21 = .ok (.iaload, 1) := by decide +kernel
theorem dX1_packRow_22 : decode cX1_packRow 22 = .ok (.iconst 2, 1) := by decide +kernel
theorem dX1_packRow_23 : decode cX1_packRow 23 = .ok (.iload_n 2, 1) := by decide +kernel
theorem dX1_packRow_24 : decode cX1_packRow 24 = .ok (.imul, 1) := by decide +kernel
theorem dX1_packRow_25 : decode cX1_packRow 25 = .ok (.ishl, 1) := by decide +kernel
theorem dX1_packRow_26 : decode cX1_packRow 26 = .ok (.ior, 1) := by decide +kernel
theorem dX1_packRow_27 : decode cX1_packRow 27 = .ok (.istore_n 1, 1) := by decide +kernel
theorem dX1_packRow_28 : decode cX1_packRow 28 = .ok (.iinc 2 1, 3) := by decide +kernel
theorem dX1_packRow_31 : decode cX1_packRow 31 = .ok (.goto (-27), 3) := by decide +kernel
theorem dX1_packRow_34 : decode cX1_packRow 34 = .ok (.iload_n 1, 1) := by decide +kernel
theorem dX1_packRow_35 : decode cX1_packRow 35 = .ok (.ireturn, 1) := by decide +kernel
set_option maxRecDepth 20000 in
theorem ggX1_findNarrowest_X1_tracksUsed : GoodIn wsX1_findNarrowest wsX1_tracksUsed := goodIn_r _ [6, 7, 8, 9, 10, 11, 5, 12, 13, 14, 15, 16, 17, 18, 19, 20, 21, 22, 23, 24, 25, 26, 27, 28, 29, 30, 31, 32, 33, 34, 35, 36, 37] (by decide +kernel) (by decide +kernel)
set_option maxRecDepth 20000 in
theorem gX1_findNarrowest_X1_tracksUsed : GoodIn wsX1_findNarrowest (wsV RX1 87 RX1 yX1_tracksUsed wsX1_tracksUsed) := goodIn_app (goodIn_of _ (by decide +kernel)) ggX1_findNarrowest_X1_tracksUsed
theorem dX1_findNarrowest_0 : decode cX1_findNarrowest 0 = .ok (.iconst (-1), 1) := by decide +kernel
theorem dX1_findNarrowest_1 : decode cX1_findNarrowest 1 = .ok (.istore_n 1, 1) := by decide +kernel
theorem dX1_findNarrowest_2 : decode cX1_findNarrowest 2 = .ok (.iconst 4, 1) := by decide +kernel
theorem dX1_findNarrowest_3 : decode cX1_findNarrowest 3 = .ok (.istore_n 2, 1) := by decide +kernel
theorem dX1_findNarrowest_4 : decode cX1_findNarrowest 4 = .ok (.iconst 0, 1) := by decide +kernel
theorem dX1_findNarrowest_5 : decode cX1_findNarrowest 5 = .ok (.istore_n 3, 1) := by decide +kernel
theorem dX1_findNarrowest_6 : decode cX1_findNarrowest 6 = .ok (.iload_n 3, 1) := by decide +kernel
theorem dX1_findNarrowest_7 : decode cX1_findNarrowest 7 = .ok (.aload_n 0, 1) := by decide +kernel
theorem dX1_findNarrowest_8 : decode cX1_findNarrowest 8 = .ok (.getfield 18, 3) := by decide +kernel
theorem dX1_findNarrowest_11 : decode cX1_findNarrowest 11 = .ok (.if_icmp .ge 27, 3) := by decide +kernel
theorem dX1_findNarrowest_14 : decode cX1_findNarrowest 14 = .ok (.aload_n 0, 1) := by decide +kernel
theorem dX1_findNarrowest_15 : decode cX1_findNarrowest 15 = .ok (.iload_n 3, 1) := by decide +kernel
theorem dX1_findNarrowest_16 : decode cX1_findNarrowest 16 = .ok (.invokevirtual 87, 3) := by decide +kernel
theorem dX1_findNarrowest_19 : decode cX1_findNarrowest 19 = .ok (.istore 4, 2) := by decide +kernel
theorem dX1_findNarrowest_21 : decode cX1_findNarrowest 21 = .ok (.iload 4, 2) := by decide +kernel
theorem dX1_findNarrowest_23 : decode cX1_findNarrowest 23 = .ok (.iload_n 2, 1) := by decide +kernel
theorem dX1_findNarrowest_24 : decode cX1_findNarrowest 24 = .ok (.if_icmp .ge 8, 3) := by decide +kernel
theorem dX1_findNarrowest_27 : decode cX1_findNarrowest 27 = .ok (.iload 4, 2) := by decide +kernel
theorem dX1_findNarrowest_29 : decode cX1_findNarrowest 29 = .ok (.istore_n 2, 1) := by decide +kernel
theorem dX1_findNarrowest_30 : decode cX1_findNarrowest 30 = .ok (.iload_n 3, 1) := by decide +kernel
theorem dX1_findNarrowest_31 : decode cX1_findNarrowest 31 = .ok (.istore_n 1, 1) := by decide +kernel
theorem dX1_findNarrowest_32 : decode cX1_findNarrowest 32 = .ok (.iinc 3 1, 3) := by decide +kernel
theorem dX1_findNarrowest_35 : decode cX1_findNarrowest 35 = .ok (.goto (-29), 3) := by decide +kernel
theorem dX1_findNarrowest_38 : decode cX1_findNarrowest 38 = .ok (.iload_n 1, 1) := by decide +kernel
theorem dX1_findNarrowest_39 : decode cX1_findNarrowest 39 = .ok (.ireturn, 1) := by decide +kernel
set_option maxRecDepth 20000 in
theorem ggX1_tracksUsed_X1_trackIn : GoodIn wsX1_tracksUsed wsX1_trackIn := goodIn_r _ [7, 8, 16, 17, 18, 19, 20, 21] (by decide +kernel) (by decide +kernel)
set_option maxRecDepth 20000 in
theorem gX1_tracksUsed_X1_trackIn : GoodIn wsX1_tracksUsed (wsV RX1 91 RX1 yX1_trackIn wsX1_trackIn) := goodIn_app (goodIn_of _ (by decide +kernel)) ggX1_tracksUsed_X1_trackIn
set_option maxRecDepth 20000 in
theorem ggX1_tracksUsed_J6_bitCount_0f7a4 : GoodIn wsX1_tracksUsed wsJ6_bitCount_0f7a4 := goodIn_r _ [12, 13, 14, 15] (by decide +kernel) (by decide +kernel)
set_option maxRecDepth 20000 in
theorem gX1_tracksUsed_J6_bitCount_0f7a4 : GoodIn wsX1_tracksUsed (va_wsS RX1 94 yJ6_bitCount_0f7a4 wsJ6_bitCount_0f7a4) := goodIn_app (goodIn_of _ (by decide +kernel)) ggX1_tracksUsed_J6_bitCount_0f7a4
theorem dX1_tracksUsed_0 : decode cX1_tracksUsed 0 = .ok (.iconst 0, 1) := by decide +kernel
theorem dX1_tracksUsed_1 : decode cX1_tracksUsed 1 = .ok (.istore_n 2, 1) := by decide +kernel
theorem dX1_tracksUsed_2 : decode cX1_tracksUsed 2 = .ok (.iconst 0, 1) := by decide +kernel
theorem dX1_tracksUsed_3 : decode cX1_tracksUsed 3 = .ok (.istore_n 3, 1) := by decide +kernel
theorem dX1_tracksUsed_4 : decode cX1_tracksUsed 4 = .ok (.iload_n 3, 1) := by decide +kernel
theorem dX1_tracksUsed_5 : decode cX1_tracksUsed 5 = .ok (.aload_n 0, 1) := by decide +kernel
theorem dX1_tracksUsed_6 : decode cX1_tracksUsed 6 = .ok (.getfield 28, 3) := by decide +kernel
theorem dX1_tracksUsed_9 : decode cX1_tracksUsed 9 = .ok (.getfield 37, 3) := by decide +kernel
theorem dX1_tracksUsed_12 : decode cX1_tracksUsed 12 = .ok (.if_icmp .ge 20, 3) := by decide +kernel
theorem dX1_tracksUsed_15 : decode cX1_tracksUsed 15 = .ok (.iload_n 2, 1) := by decide +kernel
theorem dX1_tracksUsed_16 : decode cX1_tracksUsed 16 = .ok (.iconst 1, 1) := by decide +kernel
theorem dX1_tracksUsed_17 : decode cX1_tracksUsed 17 = .ok (.aload_n 0, 1) := by decide +kernel
theorem dX1_tracksUsed_18 : decode cX1_tracksUsed 18 = .ok (.iload_n 1, 1) := by decide +kernel
theorem dX1_tracksUsed_19 : decode cX1_tracksUsed 19 = .ok (.iload_n 3, 1) := by decide +kernel
theorem dX1_tracksUsed_20 : decode cX1_tracksUsed 20 = .ok (.invokevirtual 91, 3) := by decide +kernel
theorem dX1_tracksUsed_23 : decode cX1_tracksUsed 23 = .ok (.ishl, 1) := by decide +kernel
theorem dX1_tracksUsed_24 : decode cX1_tracksUsed 24 = .ok (.ior, 1) := by decide +kernel
theorem dX1_tracksUsed_25 : decode cX1_tracksUsed 25 = .ok (.istore_n 2, 1) := by decide +kernel
theorem dX1_tracksUsed_26 : decode cX1_tracksUsed 26 = .ok (.iinc 3 1, 3) := by decide +kernel
theorem dX1_tracksUsed_29 : decode cX1_tracksUsed 29 = .ok (.goto (-25), 3) := by decide +kernel
theorem dX1_tracksUsed_32 : decode cX1_tracksUsed 32 = .ok (.iload_n 2, 1) := by decide +kernel
theorem dX1_tracksUsed_33 : decode cX1_tracksUsed 33 = .ok (.invokestatic 94, 3) := by decide +kernel
theorem dX1_tracksUsed_36 : decode cX1_tracksUsed 36 = .ok (.ireturn, 1) := by decide +kernel
theorem dX2_markOfKind_0 : decode cX2_markOfKind 0 = .ok (.iload_n 0, 1) := by decide +kernel
theorem dX2_markOfKind_1 : decode cX2_markOfKind 1 = .ok (.iconst 1, 1) := by decide +kernel
theorem dX2_markOfKind_2 : decode cX2_markOfKind 2 = .ok (.iadd, 1) := by decide +kernel
theorem dX2_markOfKind_3 : decode cX2_markOfKind 3 = .ok (.ireturn, 1) := by decide +kernel
set_option maxRecDepth 20000 in
theorem ggX2_put_X2_stackOn : GoodIn wsX2_put wsX2_stackOn := goodIn_r _ [4, 5] (by decide +kernel) (by decide +kernel)
set_option maxRecDepth 20000 in
theorem gX2_put_X2_stackOn : GoodIn wsX2_put (va_wsS RX2 11 yX2_stackOn wsX2_stackOn) := goodIn_app (goodIn_of _ (by decide +kernel)) ggX2_put_X2_stackOn
set_option maxRecDepth 20000 in
theorem ggX2_put_X2_withStack : GoodIn wsX2_put wsX2_withStack := goodIn_r _ [8, 5, 9] (by decide +kernel) (by decide +kernel)
set_option maxRecDepth 20000 in
theorem gX2_put_X2_withStack : GoodIn wsX2_put (va_wsS RX2 15 yX2_withStack wsX2_withStack) := goodIn_app (goodIn_of _ (by decide +kernel)) ggX2_put_X2_withStack
theorem dX2_put_0 : decode cX2_put 0 = .ok (.lload_n 0, 1) := by decide +kernel
theorem dX2_put_1 : decode cX2_put 1 = .ok (.iload_n 2, 1) := by decide +kernel
theorem dX2_put_2 : decode cX2_put 2 = .ok (.lload_n 0, 1) := by decide +kernel
theorem dX2_put_3 : decode cX2_put 3 = .ok (.iload_n 2, 1) := by decide +kernel
theorem dX2_put_4 : decode cX2_put 4 = .ok (.invokestatic 11, 3) := by decide +kernel
theorem dX2_put_7 : decode cX2_put 7 = .ok (.iconst 3, 1) := by decide +kernel
theorem dX2_put_8 : decode cX2_put 8 = .ok (.lshl, 1) := by decide +kernel
theorem dX2_put_9 : decode cX2_put 9 = .ok (.iload_n 3, 1) := by decide +kernel
theorem dX2_put_10 : decode cX2_put 10 = .ok (.i2l, 1) := by decide +kernel
theorem dX2_put_11 : decode cX2_put 11 = .ok (.lor, 1) := by decide +kernel
theorem dX2_put_12 : decode cX2_put 12 = .ok (.invokestatic 15, 3) := by decide +kernel
theorem dX2_put_15 : decode cX2_put 15 = .ok (.lreturn, 1) := by decide +kernel
set_option maxRecDepth 20000 in
theorem ggX2_take_X2_stackOn : GoodIn wsX2_take wsX2_stackOn := goodIn_r _ [4, 5] (by decide +kernel) (by decide +kernel)
set_option maxRecDepth 20000 in
theorem gX2_take_X2_stackOn : GoodIn wsX2_take (va_wsS RX2 11 yX2_stackOn wsX2_stackOn) := goodIn_app (goodIn_of _ (by decide +kernel)) ggX2_take_X2_stackOn
set_option maxRecDepth 20000 in
theorem ggX2_take_X2_withStack : GoodIn wsX2_take wsX2_withStack := goodIn_r _ [8, 5, 9] (by decide +kernel) (by decide +kernel)
set_option maxRecDepth 20000 in
theorem gX2_take_X2_withStack : GoodIn wsX2_take (va_wsS RX2 15 yX2_withStack wsX2_withStack) := goodIn_app (goodIn_of _ (by decide +kernel)) ggX2_take_X2_withStack
theorem dX2_take_0 : decode cX2_take 0 = .ok (.lload_n 0, 1) := by decide +kernel
theorem dX2_take_1 : decode cX2_take 1 = .ok (.iload_n 2, 1) := by decide +kernel
theorem dX2_take_2 : decode cX2_take 2 = .ok (.lload_n 0, 1) := by decide +kernel
theorem dX2_take_3 : decode cX2_take 3 = .ok (.iload_n 2, 1) := by decide +kernel
theorem dX2_take_4 : decode cX2_take 4 = .ok (.invokestatic 11, 3) := by decide +kernel
theorem dX2_take_7 : decode cX2_take 7 = .ok (.iconst 3, 1) := by decide +kernel
theorem dX2_take_8 : decode cX2_take 8 = .ok (.lushr, 1) := by decide +kernel
theorem dX2_take_9 : decode cX2_take 9 = .ok (.invokestatic 15, 3) := by decide +kernel
theorem dX2_take_12 : decode cX2_take 12 = .ok (.lreturn, 1) := by decide +kernel
set_option maxRecDepth 20000 in
theorem ggX2_sendOff_X2_take : GoodIn wsX2_sendOff wsX2_take := goodIn_r _ [5, 6, 7, 4, 8, 9, 10, 11, 12, 13] (by decide +kernel) (by decide +kernel)
set_option maxRecDepth 20000 in
theorem gX2_sendOff_X2_take : GoodIn wsX2_sendOff (va_wsS RX2 19 yX2_take wsX2_take) := goodIn_app (goodIn_of _ (by decide +kernel)) ggX2_sendOff_X2_take
theorem dX2_sendOff_0 : decode cX2_sendOff 0 = .ok (.lload_n 0, 1) := by decide +kernel
theorem dX2_sendOff_1 : decode cX2_sendOff 1 = .ok (.iload_n 2, 1) := by decide +kernel
theorem dX2_sendOff_2 : decode cX2_sendOff 2 = .ok (.invokestatic 19, 3) := by decide +kernel
theorem dX2_sendOff_5 : decode cX2_sendOff 5 = .ok (.ldc2_w 22, 3) := by decide +kernel
theorem dX2_sendOff_8 : decode cX2_sendOff 8 = .ok (.ladd, 1) := by decide +kernel
theorem dX2_sendOff_9 : decode cX2_sendOff 9 = .ok (.lreturn, 1) := by decide +kernel
set_option maxRecDepth 20000 in
theorem ggX2_shunt_X2_take : GoodIn wsX2_shunt wsX2_take := goodIn_r _ [4, 5, 6, 3, 7, 8, 9, 10, 11, 12] (by decide +kernel) (by decide +kernel)
set_option maxRecDepth 20000 in
theorem gX2_shunt_X2_take : GoodIn wsX2_shunt (va_wsS RX2 19 yX2_take wsX2_take) := goodIn_app (goodIn_of _ (by decide +kernel)) ggX2_shunt_X2_take
set_option maxRecDepth 20000 in
theorem ggX2_shunt_X2_lastMark : GoodIn wsX2_shunt wsX2_lastMark := goodIn_r _ [15, 5, 6, 3, 7, 8] (by decide +kernel) (by decide +kernel)
set_option maxRecDepth 20000 in
theorem gX2_shunt_X2_lastMark : GoodIn wsX2_shunt (va_wsS RX2 24 yX2_lastMark wsX2_lastMark) := goodIn_app (goodIn_of _ (by decide +kernel)) ggX2_shunt_X2_lastMark
set_option maxRecDepth 20000 in
theorem ggX2_shunt_X2_put : GoodIn wsX2_shunt wsX2_put := goodIn_r _ [18, 5, 6, 3, 7, 8, 9, 10, 11, 12] (by decide +kernel) (by decide +kernel)
set_option maxRecDepth 20000 in
theorem gX2_shunt_X2_put : GoodIn wsX2_shunt (va_wsS RX2 28 yX2_put wsX2_put) := goodIn_app (goodIn_of _ (by decide +kernel)) ggX2_shunt_X2_put
theorem dX2_shunt_0 : decode cX2_shunt 0 = .ok (.lload_n 0, 1) := by decide +kernel
theorem dX2_shunt_1 : decode cX2_shunt 1 = .ok (.iload_n 2, 1) := by decide +kernel
theorem dX2_shunt_2 : decode cX2_shunt 2 = .ok (.invokestatic 19, 3) := by decide +kernel
theorem dX2_shunt_5 : decode cX2_shunt 5 = .ok (.iload_n 3, 1) := by decide +kernel
theorem dX2_shunt_6 : decode cX2_shunt 6 = .ok (.lload_n 0, 1) := by decide +kernel
theorem dX2_shunt_7 : decode cX2_shunt 7 = .ok (.iload_n 2, 1) := by decide +kernel
theorem dX2_shunt_8 : decode cX2_shunt 8 = .ok (.invokestatic 24, 3) := by decide +kernel
theorem dX2_shunt_11 : decode cX2_shunt 11 = .ok (.invokestatic 28, 3) := by decide +kernel
theorem dX2_shunt_14 : decode cX2_shunt 14 = .ok (.lreturn, 1) := by decide +kernel
set_option maxRecDepth 20000 in
theorem ggX2_lastMark_X2_stackOn : GoodIn wsX2_lastMark wsX2_stackOn := goodIn_r _ [4, 5] (by decide +kernel) (by decide +kernel)
set_option maxRecDepth 20000 in
theorem gX2_lastMark_X2_stackOn : GoodIn wsX2_lastMark (va_wsS RX2 11 yX2_stackOn wsX2_stackOn) := goodIn_app (goodIn_of _ (by decide +kernel)) ggX2_lastMark_X2_stackOn
theorem dX2_lastMark_0 : decode cX2_lastMark 0 = .ok (.lload_n 0, 1) := by decide +kernel
theorem dX2_lastMark_1 : decode cX2_lastMark 1 = .ok (.iload_n 2, 1) := by decide +kernel
theorem dX2_lastMark_2 : decode cX2_lastMark 2 = .ok (.invokestatic 11, 3) := by decide +kernel
theorem dX2_lastMark_5 : decode cX2_lastMark 5 = .ok (.l2i, 1) := by decide +kernel
theorem dX2_lastMark_6 : decode cX2_lastMark 6 = .ok (.bipush 7, 2) := by decide +kernel
theorem dX2_lastMark_8 : decode cX2_lastMark 8 = .ok (.iand, 1) := by decide +kernel
theorem dX2_lastMark_9 : decode cX2_lastMark 9 = .ok (.ireturn, 1) := by decide +kernel
set_option maxRecDepth 20000 in
theorem ggX2_standing_X2_stackOn : GoodIn wsX2_standing wsX2_stackOn := goodIn_r _ [4, 5] (by decide +kernel) (by decide +kernel)
set_option maxRecDepth 20000 in
theorem gX2_standing_X2_stackOn : GoodIn wsX2_standing (va_wsS RX2 11 yX2_stackOn wsX2_stackOn) := goodIn_app (goodIn_of _ (by decide +kernel)) ggX2_standing_X2_stackOn
theorem dX2_standing_0 : decode cX2_standing 0 = .ok (.lload_n 0, 1) := by decide +kernel
theorem dX2_standing_1 : decode cX2_standing 1 = .ok (.iload_n 2, 1) := by decide +kernel
theorem dX2_standing_2 : decode cX2_standing 2 = .ok (.invokestatic 11, 3) := by decide +kernel
theorem dX2_standing_5 : decode cX2_standing 5 = .ok (.lstore_n 3, 1) := by decide +kernel
theorem dX2_standing_6 : decode cX2_standing 6 = .ok (.iconst 0, 1) := by decide +kernel
theorem dX2_standing_7 : decode cX2_standing 7 = .ok (.istore 5, 2) := by decide +kernel
theorem dX2_standing_9 : decode cX2_standing 9 = .ok (.iload 5, 2) := by decide +kernel
theorem dX2_standing_11 : decode cX2_standing 11 = .ok (.iconst 5, 1) := by decide +kernel
theorem dX2_standing_12 : decode cX2_standing 12 = .ok (.if_icmp .ge 19, 3) := by decide +kernel
theorem dX2_standing_15 : decode cX2_standing 15 = .ok (.lload_n 3, 1) := by decide +kernel
theorem dX2_standing_16 : decode cX2_standing 16 = .ok (.lconst 0, 1) := by decide +kernel
theorem dX2_standing_17 : decode cX2_standing 17 = .ok (.lcmp, 1) := by decide +kernel
theorem dX2_standing_18 : decode cX2_standing 18 = .ok (.ifCond .eq 13, 3) := by decide +kernel
theorem dX2_standing_21 : decode cX2_standing 21 = .ok (.lload_n 3, 1) := by decide +kernel
theorem dX2_standing_22 : decode cX2_standing 22 = .ok (.iconst 3, 1) := by decide +kernel
theorem dX2_standing_23 : decode cX2_standing 23 = .ok (.lushr, 1) := by decide +kernel
theorem dX2_standing_24 : decode cX2_standing 24 = .ok (.lstore_n 3, 1) := by decide +kernel
theorem dX2_standing_25 : decode cX2_standing 25 = .ok (.iinc 5 1, 3) := by decide +kernel
theorem dX2_standing_28 : decode cX2_standing 28 = .ok (.goto (-19), 3) := by decide +kernel
theorem dX2_standing_31 : decode cX2_standing 31 = .ok (.iload 5, 2) := by decide +kernel
theorem dX2_standing_33 : decode cX2_standing 33 = .ok (.ireturn, 1) := by decide +kernel
theorem dX2_gone_0 : decode cX2_gone 0 = .ok (.lload_n 0, 1) := by decide +kernel
theorem dX2_gone_1 : decode cX2_gone 1 = .ok (.bipush 45, 2) := by decide +kernel
theorem dX2_gone_3 : decode cX2_gone 3 = .ok (.lushr, 1) := by decide +kernel
theorem dX2_gone_4 : decode cX2_gone 4 = .ok (.l2i, 1) := by decide +kernel
theorem dX2_gone_5 : decode cX2_gone 5 = .ok (.ireturn, 1) := by decide +kernel
theorem dX2_stackOn_0 : decode cX2_stackOn 0 = .ok (.lload_n 0, 1) := by decide +kernel
theorem dX2_stackOn_1 : decode cX2_stackOn 1 = .ok (.bipush 15, 2) := by decide +kernel
theorem dX2_stackOn_3 : decode cX2_stackOn 3 = .ok (.iload_n 2, 1) := by decide +kernel
theorem dX2_stackOn_4 : decode cX2_stackOn 4 = .ok (.imul, 1) := by decide +kernel
theorem dX2_stackOn_5 : decode cX2_stackOn 5 = .ok (.lushr, 1) := by decide +kernel
theorem dX2_stackOn_6 : decode cX2_stackOn 6 = .ok (.ldc2_w 32, 3) := by decide +kernel
theorem dX2_stackOn_9 : decode cX2_stackOn 9 = .ok (.land, 1) := by decide +kernel
theorem dX2_stackOn_10 : decode cX2_stackOn 10 = .ok (.lreturn, 1) := by decide +kernel
theorem dX2_withStack_0 : decode cX2_withStack 0 = .ok (.bipush 15, 2) := by decide +kernel
theorem dX2_withStack_2 : decode cX2_withStack 2 = .ok (.iload_n 2, 1) := by decide +kernel
theorem dX2_withStack_3 : decode cX2_withStack 3 = .ok (.imul, 1) := by decide +kernel
theorem dX2_withStack_4 : decode cX2_withStack 4 = .ok (.istore 5, 2) := by decide +kernel
theorem dX2_withStack_6 : decode cX2_withStack 6 = .ok (.lload_n 0, 1) := by decide +kernel
theorem dX2_withStack_7 : decode cX2_withStack 7 = .ok (.ldc2_w 32, 3) := by decide +kernel
theorem dX2_withStack_10 : decode cX2_withStack 10 = .ok (.iload 5, 2) := by decide +kernel
theorem dX2_withStack_12 : decode cX2_withStack 12 = .ok (.lshl, 1) := by decide +kernel
theorem dX2_withStack_13 : decode cX2_withStack 13 = .ok (.ldc2_w 34, 3) := by decide +kernel
theorem dX2_withStack_16 : decode cX2_withStack 16 = .ok (.lxor, 1) := by decide +kernel
theorem dX2_withStack_17 : decode cX2_withStack 17 = .ok (.land, 1) := by decide +kernel
theorem dX2_withStack_18 : decode cX2_withStack 18 = .ok (.lload_n 3, 1) := by decide +kernel
theorem dX2_withStack_19 : decode cX2_withStack 19 = .ok (.ldc2_w 32, 3) := by decide +kernel
theorem dX2_withStack_22 : decode cX2_withStack 22 = .ok (.land, 1) := by decide +kernel
theorem dX2_withStack_23 : decode cX2_withStack 23 = .ok (.iload 5, 2) := by decide +kernel
theorem dX2_withStack_25 : decode cX2_withStack 25 = .ok (.lshl, 1) := by decide +kernel
theorem dX2_withStack_26 : decode cX2_withStack 26 = .ok (.lor, 1) := by decide +kernel
theorem dX2_withStack_27 : decode cX2_withStack 27 = .ok (.lreturn, 1) := by decide +kernel
theorem dX3_init_0 : decode cX3_init 0 = .ok (.aload_n 0, 1) := by decide +kernel
theorem dX3_init_1 : decode cX3_init 1 = .ok (.invokespecial 3, 3) := by decide +kernel
theorem dX3_init_4 : decode cX3_init 4 = .ok (.aload_n 0, 1) := by decide +kernel
theorem dX3_init_5 : decode cX3_init 5 = .ok (.iconst 5, 1) := by decide +kernel
theorem dX3_init_6 : decode cX3_init 6 = .ok (.newarray .int, 2) := by decide +kernel
theorem dX3_init_8 : decode cX3_init 8 = .ok (.putfield 9, 3) := by decide +kernel
theorem dX3_init_11 : decode cX3_init 11 = .ok (.aload_n 0, 1) := by decide +kernel
theorem dX3_init_12 : decode cX3_init 12 = .ok (.iconst 0, 1) := by decide +kernel
theorem dX3_init_13 : decode cX3_init 13 = .ok (.newarray .int, 2) := by decide +kernel
theorem dX3_init_15 : decode cX3_init 15 = .ok (.putfield 15, 3) := by decide +kernel
theorem dX3_init_18 : decode cX3_init 18 = .ok (.aload_n 0, 1) := by decide +kernel
theorem dX3_init_19 : decode cX3_init 19 = .ok (.iconst (-1), 1) := by decide +kernel
theorem dX3_init_20 : decode cX3_init 20 = .ok (.putfield 18, 3) := by decide +kernel
theorem dX3_init_23 : decode cX3_init 23 = .ok (.aload_n 0, 1) := by decide +kernel
theorem dX3_init_24 : decode cX3_init 24 = .ok (.iconst (-1), 1) := by decide +kernel
theorem dX3_init_25 : decode cX3_init 25 = .ok (.putfield 22, 3) := by decide +kernel
theorem dX3_init_28 : decode cX3_init 28 = .ok (.aload_n 0, 1) := by decide +kernel
theorem dX3_init_29 : decode cX3_init 29 = .ok (.aconst_null, 1) := by decide +kernel
theorem dX3_init_30 : decode cX3_init 30 = .ok (.putfield 25, 3) := by decide +kernel
theorem dX3_init_33 : decode cX3_init 33 = .ok (.aload_n 0, 1) := by decide +kernel
theorem dX3_init_34 : decode cX3_init 34 = .ok (.aload_n 1, 1) := by decide +kernel
theorem dX3_init_35 : decode cX3_init 35 = .ok (.putfield 29, 3) := by decide +kernel
theorem dX3_init_38 : decode cX3_init 38 = .ok (.return_, 1) := by decide +kernel
theorem dX3_stepNumber_0 : decode cX3_stepNumber 0 = .ok (.aload_n 0, 1) := by decide +kernel
theorem dX3_stepNumber_1 : decode cX3_stepNumber 1 = .ok (.getfield 18, 3) := by decide +kernel
theorem dX3_stepNumber_4 : decode cX3_stepNumber 4 = .ok (.iconst (-1), 1) := by decide +kernel
theorem dX3_stepNumber_5 : decode cX3_stepNumber 5 = .ok (.if_icmp .eq 25, 3) := by decide +kernel
theorem dX3_stepNumber_8 : decode cX3_stepNumber 8 = .ok (.iload_n 1, 1) := by decide +kernel
theorem dX3_stepNumber_9 : decode cX3_stepNumber 9 = .ok (.ifCond .lt 21, 3) := by decide +kernel
theorem dX3_stepNumber_12 : decode cX3_stepNumber 12 = .ok (.iload_n 1, 1) := by decide +kernel
theorem dX3_stepNumber_13 : decode cX3_stepNumber 13 = .ok (.aload_n 0, 1) := by decide +kernel
theorem dX3_stepNumber_14 : decode cX3_stepNumber 14 = .ok (.getfield 15, 3) := by decide +kernel
theorem dX3_stepNumber_17 : decode cX3_stepNumber 17 = .ok (.arraylength, 1) := by decide +kernel
theorem dX3_stepNumber_18 : decode cX3_stepNumber 18 = .ok (.if_icmp .ge 12, 3) := by decide +kernel
theorem dX3_stepNumber_21 : decode cX3_stepNumber 21 = .ok (.aload_n 0, 1) := by decide +kernel
theorem dX3_stepNumber_22 : decode cX3_stepNumber 22 = .ok (.getfield 15, 3) := by decide +kernel
theorem dX3_stepNumber_25 : decode cX3_stepNumber 25 = .ok (.iload_n 1, 1) := by decide +kernel
theorem dX3_stepNumber_26 : decode cX3_stepNumber 26 = .ok (.iaload, 1) := by decide +kernel
theorem dX3_stepNumber_27 : decode cX3_stepNumber 27 = .ok (.goto 4, 3) := by decide +kernel
theorem dX3_stepNumber_30 : decode cX3_stepNumber 30 = .ok (.iconst (-1), 1) := by decide +kernel
theorem dX3_stepNumber_31 : decode cX3_stepNumber 31 = .ok (.ireturn, 1) := by decide +kernel
theorem dX3_leaver_0 : decode cX3_leaver 0 = .ok (.aload_n 0, 1) := by decide +kernel
theorem dX3_leaver_1 : decode cX3_leaver 1 = .ok (.getfield 18, 3) := by decide +kernel
theorem dX3_leaver_4 : decode cX3_leaver 4 = .ok (.iconst (-1), 1) := by decide +kernel
theorem dX3_leaver_5 : decode cX3_leaver 5 = .ok (.if_icmp .eq 27, 3) := by decide +kernel
theorem dX3_leaver_8 : decode cX3_leaver 8 = .ok (.iload_n 1, 1) := by decide +kernel
theorem dX3_leaver_9 : decode cX3_leaver 9 = .ok (.ifCond .lt 23, 3) := by decide +kernel
theorem dX3_leaver_12 : decode cX3_leaver 12 = .ok (.iload_n 1, 1) := by decide +kernel
theorem dX3_leaver_13 : decode cX3_leaver 13 = .ok (.aload_n 0, 1) := by decide +kernel
theorem dX3_leaver_14 : decode cX3_leaver 14 = .ok (.getfield 29, 3) := by decide +kernel
theorem dX3_leaver_17 : decode cX3_leaver 17 = .ok (.getfield 33, 3) := by decide +kernel
theorem dX3_leaver_20 : decode cX3_leaver 20 = .ok (.if_icmp .ge 12, 3) := by decide +kernel
theorem dX3_leaver_23 : decode cX3_leaver 23 = .ok (.aload_n 0, 1) := by decide +kernel
theorem dX3_leaver_24 : decode cX3_leaver 24 = .ok (.getfield 9, 3) := by decide +kernel
theorem dX3_leaver_27 : decode cX3_leaver 27 = .ok (.iload_n 1, 1) := by decide +kernel
theorem dX3_leaver_28 : decode cX3_leaver 28 = .ok (.iaload, 1) := by decide +kernel
theorem dX3_leaver_29 : decode cX3_leaver 29 = .ok (.goto 4, 3) := by decide +kernel
theorem dX3_leaver_32 : decode cX3_leaver 32 = .ok (.iconst (-1), 1) := by decide +kernel
theorem dX3_leaver_33 : decode cX3_leaver 33 = .ok (.ireturn, 1) := by decide +kernel
set_option maxRecDepth 20000 in
theorem ggX3_refresh_X0_hasEnough : GoodIn wsX3_refresh wsX0_hasEnough := goodIn_r _ [16, 17, 18, 19, 15, 20, 21, 22, 23, 24, 25, 26, 27, 28, 29, 30, 31, 32, 147, 148, 149, 150, 151, 152, 153, 154, 155, 156, 157] (by decide +kernel) (by decide +kernel)
set_option maxRecDepth 20000 in
theorem gX3_refresh_X0_hasEnough : GoodIn wsX3_refresh (wsV RX3 44 RX0 yX0_hasEnough wsX0_hasEnough) := goodIn_app (goodIn_of _ (by decide +kernel)) ggX3_refresh_X0_hasEnough
set_option maxRecDepth 20000 in
theorem ggX3_refresh_X4_init : GoodIn wsX3_refresh wsX4_init := goodIn_r _ [35, 36, 37, 38, 39, 40, 41, 42, 43, 44, 45, 46, 47, 158, 159, 160, 161, 162, 163, 164] (by decide +kernel) (by decide +kernel)
set_option maxRecDepth 20000 in
theorem gX3_refresh_X4_init : GoodIn wsX3_refresh (wsX4_init) := ggX3_refresh_X4_init
