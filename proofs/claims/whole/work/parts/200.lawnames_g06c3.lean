set_option maxRecDepth 20000 in
theorem ggL_law_X7_late_3 : GoodIn wsL_law (wsX7_late.drop 78) := goodIn_r _ [641, 642, 643, 644, 645, 646, 647, 648, 649, 650, 651, 652, 653, 654, 655, 656, 657, 658, 659, 660, 661, 662, 663, 664, 665] (by decide +kernel) (by decide +kernel)
