set_option maxRecDepth 20000 in
theorem ggL_law_X7_late_2 : GoodIn wsL_law ((wsX7_late.drop 52).take 26) := goodIn_r _ [297, 88, 85, 573, 574, 575, 576, 577, 578, 579, 580, 86, 87, 590, 591, 592, 593, 594, 595, 596, 597, 636, 637, 638, 639, 640] (by decide +kernel) (by decide +kernel)
