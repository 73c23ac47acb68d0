theorem goodIn_split {big ws : List Cond} (k : Nat) (h1 : GoodIn big (ws.take k)) (h2 : GoodIn big (ws.drop k)) : GoodIn big ws := by
  rw [← List.take_append_drop k ws]
  exact goodIn_app h1 h2
set_option maxRecDepth 20000 in
theorem ggL_law_X7_late_0 : GoodIn wsL_law ((wsX7_late.drop 0).take 26) := goodIn_r _ [619, 492, 498, 107, 131, 108, 110, 109, 111, 132, 133, 5, 134, 493, 494, 495, 496, 497, 100, 99, 186, 102, 98, 106, 104, 105] (by decide +kernel) (by decide +kernel)
