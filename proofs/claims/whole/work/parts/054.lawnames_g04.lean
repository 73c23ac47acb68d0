set_option maxRecDepth 20000 in
theorem ggL_law_X6_at : GoodIn wsL_law wsX6_at := goodIn_r _ [364, 15, 159, 160, 2, 161, 365, 366, 367, 14, 368, 43, 42, 632, 633, 634, 635, 666, 667, 668, 669, 670, 671, 672, 673, 674, 675, 676] (by decide +kernel) (by decide +kernel)
set_option maxRecDepth 20000 in
theorem gL_law_X6_at : GoodIn wsL_law (wsV RL 62 RX6 yX6_at wsX6_at) := goodIn_app (goodIn_of _ (by decide +kernel)) ggL_law_X6_at
set_option maxRecDepth 20000 in
theorem ggL_law_X7_at : GoodIn wsL_law wsX7_at := goodIn_r _ [372, 92, 91, 170, 171, 5, 172, 132, 133, 134, 636, 637, 638, 639, 640, 641, 642, 643, 644, 645, 646, 647, 648, 649, 650, 651, 652, 653, 654, 655, 656, 657, 658, 659, 660, 661, 662, 663, 664, 665] (by decide +kernel) (by decide +kernel)
set_option maxRecDepth 20000 in
theorem gL_law_X7_at : GoodIn wsL_law (wsV RL 65 RX7 yX7_at wsX7_at) := goodIn_app (goodIn_of _ (by decide +kernel)) ggL_law_X7_at
set_option maxRecDepth 20000 in
theorem ggL_law_X6_shunts : GoodIn wsL_law wsX6_shunts := goodIn_r _ [376, 23, 377, 378, 379, 380, 22, 381, 66, 68, 382, 65, 383, 67, 384, 385, 386, 64, 387, 388, 211, 212, 14, 213, 214, 215, 216, 217, 41, 40, 218, 219, 220, 221, 222, 223, 224, 225, 33, 37, 389, 390, 391, 392, 10, 11, 97, 393, 32, 394, 395, 396, 397, 398, 399, 400, 401, 402, 403, 404, 405, 406, 407, 408, 409, 410, 411, 412, 413, 414, 415, 416, 417, 418, 419, 420, 421, 422, 423, 424, 425, 426, 427, 428, 429, 430, 46, 47, 48, 431, 432, 433, 434, 435, 436, 437, 438, 439, 440, 441, 442, 443, 444, 445, 446, 447, 448, 449, 450, 451, 452, 453, 454, 455, 456, 457, 458, 459, 460, 461, 462, 463, 464, 465, 466, 467, 468, 469, 470, 471, 472, 473, 474, 475, 476, 477, 478, 479, 480, 481, 482, 483, 484, 63, 485, 486, 487, 632, 633, 634, 635, 683, 684, 685, 686, 687, 688, 666, 667, 668, 669, 670, 671, 672, 673, 674, 675, 676, 697, 698, 699, 700, 701, 702, 703] (by decide +kernel) (by decide +kernel)
set_option maxRecDepth 20000 in
theorem gL_law_X6_shunts : GoodIn wsL_law (wsV RL 66 RX6 yX6_shunts wsX6_shunts) := goodIn_app (goodIn_of _ (by decide +kernel)) ggL_law_X6_shunts
set_option maxRecDepth 20000 in
theorem ggL_law_X7_shunts : GoodIn wsL_law wsX7_shunts := goodIn_r _ [491, 492, 493, 494, 495, 5, 496, 497, 100, 99, 186, 102, 498, 98, 106, 107, 104, 105, 499, 500, 501, 502, 103, 91, 92, 90, 89, 503, 504, 505, 506, 507, 508, 509, 510, 511, 512, 513, 514, 515, 516, 294, 295, 296, 297, 88, 85, 636, 637, 638, 639, 640, 641, 642, 643, 644, 645, 646, 647, 648, 649, 650, 651, 652, 653, 654, 655, 656, 657, 658, 659, 660, 661, 662, 663, 664, 665] (by decide +kernel) (by decide +kernel)
set_option maxRecDepth 20000 in
theorem gL_law_X7_shunts : GoodIn wsL_law (wsV RL 69 RX7 yX7_shunts wsX7_shunts) := goodIn_app (goodIn_of _ (by decide +kernel)) ggL_law_X7_shunts
set_option maxRecDepth 20000 in
theorem ggL_law_X6_step : GoodIn wsL_law wsX6_step := goodIn_r _ [520, 23, 378, 379, 380, 22, 381, 66, 68, 382, 65, 383, 67, 384, 385, 386, 64, 387, 388, 211, 212, 14, 213, 214, 215, 216, 217, 41, 40, 218, 219, 220, 221, 222, 223, 224, 225, 33, 37, 389, 390, 391, 392, 10, 11, 97, 393, 32, 394, 395, 396, 397, 398, 399, 400, 401, 402, 403, 404, 405, 406, 407, 408, 409, 410, 411, 412, 413, 414, 415, 416, 417, 418, 419, 420, 421, 422, 423, 424, 425, 426, 427, 428, 429, 430, 46, 47, 48, 431, 432, 433, 434, 435, 436, 437, 438, 439, 440, 441, 442, 443, 444, 445, 446, 447, 448, 449, 450, 451, 452, 453, 454, 455, 456, 457, 458, 459, 460, 461, 462, 463, 464, 465, 466, 467, 468, 469, 470, 471, 472, 473, 474, 475, 476, 477, 478, 479, 480, 481, 482, 483, 484, 63, 485, 486, 487, 521, 522, 523, 524, 632, 633, 634, 635, 683, 684, 685, 686, 687, 688, 666, 667, 668, 669, 670, 671, 672, 673, 674, 675, 676, 697, 698, 699, 700, 701, 702, 703] (by decide +kernel) (by decide +kernel)
set_option maxRecDepth 20000 in
theorem gL_law_X6_step : GoodIn wsL_law (wsV RL 70 RX6 yX6_step wsX6_step) := goodIn_app (goodIn_of _ (by decide +kernel)) ggL_law_X6_step
set_option maxRecDepth 20000 in
theorem ggL_law_X7_step : GoodIn wsL_law wsX7_step := goodIn_r _ [528, 498, 106, 493, 494, 495, 5, 496, 497, 100, 99, 186, 492, 102, 98, 107, 104, 105, 499, 500, 501, 502, 103, 91, 92, 90, 89, 503, 504, 505, 506, 507, 508, 509, 510, 511, 512, 513, 514, 515, 516, 294, 295, 296, 297, 88, 85, 636, 637, 638, 639, 640, 641, 642, 643, 644, 645, 646, 647, 648, 649, 650, 651, 652, 653, 654, 655, 656, 657, 658, 659, 660, 661, 662, 663, 664, 665] (by decide +kernel) (by decide +kernel)
set_option maxRecDepth 20000 in
theorem gL_law_X7_step : GoodIn wsL_law (wsV RL 73 RX7 yX7_step wsX7_step) := goodIn_app (goodIn_of _ (by decide +kernel)) ggL_law_X7_step
