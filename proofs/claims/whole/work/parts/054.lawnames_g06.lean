set_option maxRecDepth 20000 in
theorem ggL_law_X6_best : GoodIn wsL_law wsX6_best := goodIn_r _ [601, 15, 116, 27, 602, 603, 546, 547, 548, 26, 549, 79, 80, 550, 78, 73, 76, 75, 77, 551, 552, 553, 554, 74, 555, 556, 557, 558, 559, 560, 561, 562, 563, 564, 565, 566, 567, 568, 632, 633, 634, 635, 666, 667, 668, 669, 670, 671, 672, 673, 674, 675, 676, 689, 690, 691, 692, 693, 694, 695, 696] (by decide +kernel) (by decide +kernel)
set_option maxRecDepth 20000 in
theorem gL_law_X6_best : GoodIn wsL_law (wsV RL 86 RX6 yX6_best wsX6_best) := goodIn_app (goodIn_of _ (by decide +kernel)) ggL_law_X6_best
set_option maxRecDepth 20000 in
theorem ggL_law_X7_best : GoodIn wsL_law wsX7_best := goodIn_r _ [607, 131, 110, 111, 132, 133, 5, 134, 590, 591, 592, 593, 492, 108, 109, 594, 595, 596, 597, 577, 578, 579, 580, 86, 87, 636, 637, 638, 639, 640, 641, 642, 643, 644, 645, 646, 647, 648, 649, 650, 651, 652, 653, 654, 655, 656, 657, 658, 659, 660, 661, 662, 663, 664, 665] (by decide +kernel) (by decide +kernel)
set_option maxRecDepth 20000 in
theorem gL_law_X7_best : GoodIn wsL_law (wsV RL 89 RX7 yX7_best wsX7_best) := goodIn_app (goodIn_of _ (by decide +kernel)) ggL_law_X7_best
set_option maxRecDepth 20000 in
theorem ggL_law_X6_late : GoodIn wsL_law wsX6_late := goodIn_r _ [611, 23, 377, 27, 545, 603, 378, 379, 380, 22, 381, 66, 68, 382, 65, 383, 67, 384, 385, 386, 64, 387, 388, 211, 212, 14, 213, 214, 215, 216, 217, 41, 40, 218, 219, 220, 221, 222, 223, 224, 225, 33, 37, 389, 390, 391, 392, 10, 11, 97, 393, 32, 394, 395, 396, 397, 398, 399, 400, 401, 402, 403, 404, 405, 406, 407, 408, 409, 410, 411, 412, 413, 414, 415, 416, 417, 418, 419, 420, 421, 422, 423, 424, 425, 426, 427, 428, 429, 430, 46, 47, 48, 431, 432, 433, 434, 435, 436, 437, 438, 439, 440, 441, 442, 443, 444, 445, 446, 447, 448, 449, 450, 451, 452, 453, 454, 455, 456, 457, 458, 459, 460, 461, 462, 463, 464, 465, 466, 467, 468, 469, 470, 471, 472, 473, 474, 475, 476, 477, 478, 479, 480, 481, 482, 483, 484, 63, 485, 486, 487, 546, 547, 548, 26, 549, 79, 80, 550, 78, 73, 76, 75, 77, 551, 552, 553, 554, 74, 555, 556, 557, 558, 559, 560, 561, 562, 563, 564, 565, 566, 567, 568, 612, 613, 614, 2, 615, 15, 177, 533, 534, 535, 536, 139, 140, 141, 142, 38, 632, 633, 634, 635, 683, 684, 685, 686, 687, 688, 689, 690, 691, 692, 693, 694, 695, 696, 666, 667, 668, 669, 670, 671, 672, 673, 674, 675, 676, 697, 698, 699, 700, 701, 702, 703] (by decide +kernel) (by decide +kernel)
set_option maxRecDepth 20000 in
theorem gL_law_X6_late : GoodIn wsL_law (wsV RL 90 RX6 yX6_late wsX6_late) := goodIn_app (goodIn_of _ (by decide +kernel)) ggL_law_X6_late
set_option maxRecDepth 20000 in
theorem ggL_law_X7_late : GoodIn wsL_law wsX7_late := goodIn_r _ [619, 492, 498, 107, 131, 108, 110, 109, 111, 132, 133, 5, 134, 493, 494, 495, 496, 497, 100, 99, 186, 102, 98, 106, 104, 105, 499, 500, 501, 502, 103, 91, 92, 90, 89, 503, 504, 505, 506, 507, 508, 509, 510, 511, 512, 513, 514, 515, 516, 294, 295, 296, 297, 88, 85, 573, 574, 575, 576, 577, 578, 579, 580, 86, 87, 590, 591, 592, 593, 594, 595, 596, 597, 636, 637, 638, 639, 640, 641, 642, 643, 644, 645, 646, 647, 648, 649, 650, 651, 652, 653, 654, 655, 656, 657, 658, 659, 660, 661, 662, 663, 664, 665] (by decide +kernel) (by decide +kernel)
set_option maxRecDepth 20000 in
theorem gL_law_X7_late : GoodIn wsL_law (wsV RL 93 RX7 yX7_late wsX7_late) := goodIn_app (goodIn_of _ (by decide +kernel)) ggL_law_X7_late
set_option maxRecDepth 20000 in
theorem ggL_law_X6_count : GoodIn wsL_law wsX6_count := goodIn_r _ [623, 15, 116, 177, 334, 624, 625, 626, 14, 627, 38, 37, 632, 633, 634, 635, 666, 667, 668, 669, 670, 671, 672, 673, 674, 675, 676] (by decide +kernel) (by decide +kernel)
set_option maxRecDepth 20000 in
theorem gL_law_X6_count : GoodIn wsL_law (wsV RL 94 RX6 yX6_count wsX6_count) := goodIn_app (goodIn_of _ (by decide +kernel)) ggL_law_X6_count
set_option maxRecDepth 20000 in
theorem ggL_law_X7_count : GoodIn wsL_law wsX7_count := goodIn_r _ [631, 131, 186, 348, 88, 636, 637, 638, 639, 640, 641, 642, 643, 644, 645, 646, 647, 648, 649, 650, 651, 652, 653, 654, 655, 656, 657, 658, 659, 660, 661, 662, 663, 664, 665] (by decide +kernel) (by decide +kernel)
set_option maxRecDepth 20000 in
theorem gL_law_X7_count : GoodIn wsL_law (wsV RL 97 RX7 yX7_count wsX7_count) := goodIn_app (goodIn_of _ (by decide +kernel)) ggL_law_X7_count
