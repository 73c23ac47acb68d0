set_option maxRecDepth 20000 in
theorem ggL_law_X6_count : GoodIn wsL_law wsX6_count := goodIn_r _ [623, 15, 116, 177, 334, 624, 625, 626, 14, 627, 38, 37, 632, 633, 634, 635, 666, 667, 668, 669, 670, 671, 672, 673, 674, 675, 676] (by decide +kernel) (by decide +kernel)
