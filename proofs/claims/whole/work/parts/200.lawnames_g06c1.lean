set_option maxRecDepth 20000 in
theorem ggL_law_X7_late_1 : GoodIn wsL_law ((wsX7_late.drop 26).take 26) := goodIn_r _ [499, 500, 501, 502, 103, 91, 92, 90, 89, 503, 504, 505, 506, 507, 508, 509, 510, 511, 512, 513, 514, 515, 516, 294, 295, 296] (by decide +kernel) (by decide +kernel)
