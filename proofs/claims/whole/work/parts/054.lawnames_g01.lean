set_option maxRecDepth 20000 in
theorem ggL_law_X6_length : GoodIn wsL_law wsX6_length := goodIn_r _ [158, 15, 159, 160, 2, 161, 162, 163, 164, 14, 165, 39, 44, 632, 633, 634, 635, 666, 667, 668, 669, 670, 671, 672, 673, 674, 675, 676] (by decide +kernel) (by decide +kernel)
set_option maxRecDepth 20000 in
theorem gL_law_X6_length : GoodIn wsL_law (wsV RL 23 RX6 yX6_length wsX6_length) := goodIn_app (goodIn_of _ (by decide +kernel)) ggL_law_X6_length
set_option maxRecDepth 20000 in
theorem ggL_law_X7_length : GoodIn wsL_law wsX7_length := goodIn_r _ [169, 89, 170, 171, 5, 172, 132, 133, 134, 636, 637, 638, 639, 640, 641, 642, 643, 644, 645, 646, 647, 648, 649, 650, 651, 652, 653, 654, 655, 656, 657, 658, 659, 660, 661, 662, 663, 664, 665] (by decide +kernel) (by decide +kernel)
set_option maxRecDepth 20000 in
theorem gL_law_X7_length : GoodIn wsL_law (wsV RL 27 RX7 yX7_length wsX7_length) := goodIn_app (goodIn_of _ (by decide +kernel)) ggL_law_X7_length
set_option maxRecDepth 20000 in
theorem ggL_law_X6_leave : GoodIn wsL_law wsX6_leave := goodIn_r _ [176, 15, 177, 117, 118, 2, 119, 178, 179, 180, 14, 181, 40, 41, 44, 632, 633, 634, 635, 666, 667, 668, 669, 670, 671, 672, 673, 674, 675, 676] (by decide +kernel) (by decide +kernel)
set_option maxRecDepth 20000 in
theorem gL_law_X6_leave : GoodIn wsL_law (wsV RL 28 RX6 yX6_leave wsX6_leave) := goodIn_app (goodIn_of _ (by decide +kernel)) ggL_law_X6_leave
set_option maxRecDepth 20000 in
theorem ggL_law_X7_leave : GoodIn wsL_law wsX7_leave := goodIn_r _ [185, 186, 90, 132, 133, 5, 134, 636, 637, 638, 639, 640, 641, 642, 643, 644, 645, 646, 647, 648, 649, 650, 651, 652, 653, 654, 655, 656, 657, 658, 659, 660, 661, 662, 663, 664, 665] (by decide +kernel) (by decide +kernel)
set_option maxRecDepth 20000 in
theorem gL_law_X7_leave : GoodIn wsL_law (wsV RL 32 RX7 yX7_leave wsX7_leave) := goodIn_app (goodIn_of _ (by decide +kernel)) ggL_law_X7_leave
set_option maxRecDepth 20000 in
theorem ggL_law_X6_stay : GoodIn wsL_law wsX6_stay := goodIn_r _ [190, 15, 191, 192, 193, 14, 194, 41, 44, 632, 633, 634, 635, 666, 667, 668, 669, 670, 671, 672, 673, 674, 675, 676] (by decide +kernel) (by decide +kernel)
set_option maxRecDepth 20000 in
theorem gL_law_X6_stay : GoodIn wsL_law (wsV RL 33 RX6 yX6_stay wsX6_stay) := goodIn_app (goodIn_of _ (by decide +kernel)) ggL_law_X6_stay
set_option maxRecDepth 20000 in
theorem ggL_law_X7_stay : GoodIn wsL_law wsX7_stay := goodIn_r _ [198, 186, 636, 637, 638, 639, 640, 641, 642, 643, 644, 645, 646, 647, 648, 649, 650, 651, 652, 653, 654, 655, 656, 657, 658, 659, 660, 661, 662, 663, 664, 665] (by decide +kernel) (by decide +kernel)
set_option maxRecDepth 20000 in
theorem gL_law_X7_stay : GoodIn wsL_law (wsV RL 37 RX7 yX7_stay wsX7_stay) := goodIn_app (goodIn_of _ (by decide +kernel)) ggL_law_X7_stay
