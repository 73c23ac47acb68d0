set_option maxRecDepth 20000 in
theorem ggL_law_X6_best : GoodIn wsL_law wsX6_best := goodIn_r _ [601, 15, 116, 27, 602, 603, 546, 547, 548, 26, 549, 79, 80, 550, 78, 73, 76, 75, 77, 551, 552, 553, 554, 74, 555, 556, 557, 558, 559, 560, 561, 562, 563, 564, 565, 566, 567, 568, 632, 633, 634, 635, 666, 667, 668, 669, 670, 671, 672, 673, 674, 675, 676, 689, 690, 691, 692, 693, 694, 695, 696] (by decide +kernel) (by decide +kernel)
set_option maxRecDepth 20000 in
theorem gL_law_X6_best : GoodIn wsL_law (wsV RL 86 RX6 yX6_best wsX6_best) := goodIn_app (goodIn_of _ (by decide +kernel)) ggL_law_X6_best
set_option maxRecDepth 20000 in
theorem ggL_law_X7_best : GoodIn wsL_law wsX7_best := goodIn_r _ [607, 131, 110, 111, 132, 133, 5, 134, 590, 591, 592, 593, 492, 108, 109, 594, 595, 596, 597, 577, 578, 579, 580, 86, 87, 636, 637, 638, 639, 640, 641, 642, 643, 644, 645, 646, 647, 648, 649, 650, 651, 652, 653, 654, 655, 656, 657, 658, 659, 660, 661, 662, 663, 664, 665] (by decide +kernel) (by decide +kernel)
