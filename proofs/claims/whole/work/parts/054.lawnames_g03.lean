set_option maxRecDepth 20000 in
theorem ggL_law_X6_why : GoodIn wsL_law wsX6_why := goodIn_r _ [319, 19, 203, 15, 116, 204, 205, 206, 18, 207, 57, 58, 208, 55, 209, 56, 210, 211, 212, 14, 213, 214, 215, 216, 217, 41, 40, 218, 219, 220, 221, 222, 223, 224, 225, 33, 37, 226, 227, 228, 229, 54, 53, 230, 46, 47, 48, 231, 232, 233, 234, 235, 236, 237, 238, 239, 240, 241, 242, 243, 244, 245, 246, 247, 248, 249, 250, 251, 252, 253, 254, 255, 256, 257, 258, 259, 260, 261, 262, 263, 264, 265, 266, 267, 268, 269, 270, 271, 272, 273, 320, 321, 322, 323, 324, 39, 632, 633, 634, 635, 677, 678, 679, 680, 681, 682, 666, 667, 668, 669, 670, 671, 672, 673, 674, 675, 676] (by decide +kernel) (by decide +kernel)
set_option maxRecDepth 20000 in
theorem gL_law_X6_why : GoodIn wsL_law (wsV RL 50 RX6 yX6_why wsX6_why) := goodIn_app (goodIn_of _ (by decide +kernel)) ggL_law_X6_why
set_option maxRecDepth 20000 in
theorem ggL_law_X7_why : GoodIn wsL_law wsX7_why := goodIn_r _ [328, 186, 90, 131, 89, 329, 275, 276, 5, 277, 278, 279, 280, 281, 282, 283, 284, 285, 93, 95, 94, 286, 287, 288, 289, 96, 290, 291, 292, 293, 294, 295, 296, 297, 88, 85, 636, 637, 638, 639, 640, 641, 642, 643, 644, 645, 646, 647, 648, 649, 650, 651, 652, 653, 654, 655, 656, 657, 658, 659, 660, 661, 662, 663, 664, 665] (by decide +kernel) (by decide +kernel)
set_option maxRecDepth 20000 in
theorem gL_law_X7_why : GoodIn wsL_law (wsV RL 53 RX7 yX7_why wsX7_why) := goodIn_app (goodIn_of _ (by decide +kernel)) ggL_law_X7_why
set_option maxRecDepth 20000 in
theorem ggL_law_X6_park : GoodIn wsL_law wsX6_park := goodIn_r _ [333, 15, 334, 116, 335, 159, 160, 2, 161, 336, 337, 338, 14, 339, 43, 42, 340, 341, 342, 343, 44, 632, 633, 634, 635, 666, 667, 668, 669, 670, 671, 672, 673, 674, 675, 676] (by decide +kernel) (by decide +kernel)
set_option maxRecDepth 20000 in
theorem gL_law_X6_park : GoodIn wsL_law (wsV RL 54 RX6 yX6_park wsX6_park) := goodIn_app (goodIn_of _ (by decide +kernel)) ggL_law_X6_park
set_option maxRecDepth 20000 in
theorem ggL_law_X7_park : GoodIn wsL_law wsX7_park := goodIn_r _ [347, 348, 131, 92, 89, 91, 170, 171, 5, 172, 132, 133, 134, 636, 637, 638, 639, 640, 641, 642, 643, 644, 645, 646, 647, 648, 649, 650, 651, 652, 653, 654, 655, 656, 657, 658, 659, 660, 661, 662, 663, 664, 665] (by decide +kernel) (by decide +kernel)
set_option maxRecDepth 20000 in
theorem gL_law_X7_park : GoodIn wsL_law (wsV RL 57 RX7 yX7_park wsX7_park) := goodIn_app (goodIn_of _ (by decide +kernel)) ggL_law_X7_park
set_option maxRecDepth 20000 in
theorem ggL_law_X6_clear : GoodIn wsL_law wsX6_clear := goodIn_r _ [352, 15, 353, 354, 355, 14, 356, 43, 44, 632, 633, 634, 635, 666, 667, 668, 669, 670, 671, 672, 673, 674, 675, 676] (by decide +kernel) (by decide +kernel)
set_option maxRecDepth 20000 in
theorem gL_law_X6_clear : GoodIn wsL_law (wsV RL 58 RX6 yX6_clear wsX6_clear) := goodIn_app (goodIn_of _ (by decide +kernel)) ggL_law_X6_clear
set_option maxRecDepth 20000 in
theorem ggL_law_X7_clear : GoodIn wsL_law wsX7_clear := goodIn_r _ [360, 348, 92, 636, 637, 638, 639, 640, 641, 642, 643, 644, 645, 646, 647, 648, 649, 650, 651, 652, 653, 654, 655, 656, 657, 658, 659, 660, 661, 662, 663, 664, 665] (by decide +kernel) (by decide +kernel)
set_option maxRecDepth 20000 in
theorem gL_law_X7_clear : GoodIn wsL_law (wsV RL 61 RX7 yX7_clear wsX7_clear) := goodIn_app (goodIn_of _ (by decide +kernel)) ggL_law_X7_clear
