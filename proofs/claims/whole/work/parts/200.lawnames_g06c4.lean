theorem ggL_law_X7_late : GoodIn wsL_law wsX7_late := (goodIn_split (ws := wsX7_late.drop 0) 26 ggL_law_X7_late_0 (by rw [List.drop_drop]; exact (goodIn_split (ws := wsX7_late.drop 26) 26 ggL_law_X7_late_1 (by rw [List.drop_drop]; exact (goodIn_split (ws := wsX7_late.drop 52) 26 ggL_law_X7_late_2 (by rw [List.drop_drop]; exact ggL_law_X7_late_3))))))
set_option maxRecDepth 20000 in
theorem gL_law_X7_late : GoodIn wsL_law (wsV RL 93 RX7 yX7_late wsX7_late) := goodIn_app (goodIn_of _ (by decide +kernel)) ggL_law_X7_late
