set_option maxRecDepth 20000 in
theorem ggL_law_X6_clean : GoodIn wsL_law wsX6_clean := goodIn_r _ [202, 19, 203, 204, 205, 206, 18, 207, 57, 58, 208, 55, 209, 56, 210, 211, 212, 14, 213, 214, 215, 216, 217, 41, 40, 218, 219, 220, 221, 222, 223, 224, 225, 33, 37, 226, 227, 228, 229, 54, 53, 230, 46, 47, 48, 231, 232, 233, 234, 235, 236, 237, 238, 239, 240, 241, 242, 243, 244, 245, 246, 247, 248, 249, 250, 251, 252, 253, 254, 255, 256, 257, 258, 259, 260, 261, 262, 263, 264, 265, 266, 267, 268, 269, 270, 271, 272, 273, 632, 633, 634, 635, 677, 678, 679, 680, 681, 682, 666, 667, 668, 669, 670, 671, 672, 673, 674, 675, 676] (by decide +kernel) (by decide +kernel)
set_option maxRecDepth 20000 in
theorem gL_law_X6_clean : GoodIn wsL_law (wsV RL 38 RX6 yX6_clean wsX6_clean) := goodIn_app (goodIn_of _ (by decide +kernel)) ggL_law_X6_clean
set_option maxRecDepth 20000 in
theorem ggL_law_X7_clean : GoodIn wsL_law wsX7_clean := goodIn_r _ [277, 278, 279, 280, 5, 281, 131, 282, 283, 284, 285, 93, 95, 94, 89, 286, 287, 288, 289, 96, 186, 90, 290, 291, 292, 293, 294, 295, 296, 297, 88, 85, 636, 637, 638, 639, 640, 641, 642, 643, 644, 645, 646, 647, 648, 649, 650, 651, 652, 653, 654, 655, 656, 657, 658, 659, 660, 661, 662, 663, 664, 665] (by decide +kernel) (by decide +kernel)
set_option maxRecDepth 20000 in
theorem gL_law_X7_clean : GoodIn wsL_law (wsV RL 41 RX7 yX7_clean wsX7_clean) := goodIn_app (goodIn_of _ (by decide +kernel)) ggL_law_X7_clean
set_option maxRecDepth 20000 in
theorem ggL_law_X6_parking : GoodIn wsL_law wsX6_parking := goodIn_r _ [301, 15, 19, 203, 139, 140, 141, 14, 142, 38, 204, 205, 206, 18, 207, 57, 58, 208, 55, 209, 56, 210, 211, 212, 213, 214, 215, 216, 217, 41, 40, 218, 219, 220, 221, 222, 223, 224, 225, 33, 37, 226, 227, 228, 229, 54, 53, 230, 46, 47, 48, 231, 232, 233, 234, 235, 236, 237, 238, 239, 240, 241, 242, 243, 244, 245, 246, 247, 248, 249, 250, 251, 252, 253, 254, 255, 256, 257, 258, 259, 260, 261, 262, 263, 264, 265, 266, 267, 268, 269, 270, 271, 272, 273, 302, 632, 633, 634, 635, 677, 678, 679, 680, 681, 682, 666, 667, 668, 669, 670, 671, 672, 673, 674, 675, 676] (by decide +kernel) (by decide +kernel)
set_option maxRecDepth 20000 in
theorem gL_law_X6_parking : GoodIn wsL_law (wsV RL 42 RX6 yX6_parking wsX6_parking) := goodIn_app (goodIn_of _ (by decide +kernel)) ggL_law_X6_parking
set_option maxRecDepth 20000 in
theorem ggL_law_X7_parking : GoodIn wsL_law wsX7_parking := goodIn_r _ [306, 93, 151, 152, 153, 5, 154, 131, 132, 133, 134, 278, 279, 280, 281, 282, 283, 284, 285, 95, 94, 89, 286, 287, 288, 289, 96, 186, 90, 290, 291, 292, 293, 294, 295, 296, 297, 88, 85, 636, 637, 638, 639, 640, 641, 642, 643, 644, 645, 646, 647, 648, 649, 650, 651, 652, 653, 654, 655, 656, 657, 658, 659, 660, 661, 662, 663, 664, 665] (by decide +kernel) (by decide +kernel)
set_option maxRecDepth 20000 in
theorem gL_law_X7_parking : GoodIn wsL_law (wsV RL 45 RX7 yX7_parking wsX7_parking) := goodIn_app (goodIn_of _ (by decide +kernel)) ggL_law_X7_parking
set_option maxRecDepth 20000 in
theorem ggL_law_X6_narrow : GoodIn wsL_law wsX6_narrow := goodIn_r _ [310, 19, 311, 204, 205, 206, 18, 207, 57, 58, 208, 55, 209, 56, 210, 211, 212, 14, 213, 214, 215, 216, 217, 41, 40, 218, 219, 220, 221, 222, 223, 224, 225, 33, 37, 226, 227, 228, 229, 54, 53, 230, 46, 47, 48, 231, 232, 233, 234, 235, 236, 237, 238, 239, 240, 241, 242, 243, 244, 245, 246, 247, 248, 249, 250, 251, 252, 253, 254, 255, 256, 257, 258, 259, 260, 261, 262, 263, 264, 265, 266, 267, 268, 269, 270, 271, 272, 273, 632, 633, 634, 635, 677, 678, 679, 680, 681, 682, 666, 667, 668, 669, 670, 671, 672, 673, 674, 675, 676] (by decide +kernel) (by decide +kernel)
set_option maxRecDepth 20000 in
theorem gL_law_X6_narrow : GoodIn wsL_law (wsV RL 46 RX6 yX6_narrow wsX6_narrow) := goodIn_app (goodIn_of _ (by decide +kernel)) ggL_law_X6_narrow
set_option maxRecDepth 20000 in
theorem ggL_law_X7_narrow : GoodIn wsL_law wsX7_narrow := goodIn_r _ [315, 95, 278, 279, 280, 5, 281, 131, 282, 283, 284, 285, 93, 94, 89, 286, 287, 288, 289, 96, 186, 90, 290, 291, 292, 293, 294, 295, 296, 297, 88, 85, 636, 637, 638, 639, 640, 641, 642, 643, 644, 645, 646, 647, 648, 649, 650, 651, 652, 653, 654, 655, 656, 657, 658, 659, 660, 661, 662, 663, 664, 665] (by decide +kernel) (by decide +kernel)
set_option maxRecDepth 20000 in
theorem gL_law_X7_narrow : GoodIn wsL_law (wsV RL 49 RX7 yX7_narrow wsX7_narrow) := goodIn_app (goodIn_of _ (by decide +kernel)) ggL_law_X7_narrow
