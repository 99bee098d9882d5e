set_option maxRecDepth 20000 in
theorem ggL_law_X5_found : GoodIn wsL_law wsX5_found := goodIn_r _ [585, 23, 70, 586, 69, 15, 68, 176, 204, 205, 206, 37, 207, 100, 208, 209, 210, 211, 212, 213, 214, 587, 588, 589, 2, 590, 591, 592, 593, 594, 595, 596, 202, 203, 182, 183, 184, 14, 185, 76, 626, 627, 628, 671, 672, 673, 657, 658, 659, 660, 661, 662, 663, 664, 665, 666, 667, 668, 669, 670, 674, 675, 676, 677, 652, 653, 654, 655, 656] (by decide +kernel) (by decide +kernel)
set_option maxRecDepth 20000 in
theorem gL_law_X5_found : GoodIn wsL_law (wsV RL 78 RX5 yX5_found wsX5_found) := goodIn_app (goodIn_of _ (by decide +kernel)) ggL_law_X5_found
set_option maxRecDepth 20000 in
theorem ggL_law_X6_found : GoodIn wsL_law wsX6_found := goodIn_r _ [600, 141, 137, 130, 131, 129, 601, 602, 603, 5, 604, 190, 191, 192, 193, 629, 630, 631, 632, 633, 634, 635, 636, 637, 638, 639, 640, 641, 642, 643, 644, 645, 646, 647, 648, 649, 650, 651] (by decide +kernel) (by decide +kernel)
set_option maxRecDepth 20000 in
theorem gL_law_X6_found : GoodIn wsL_law (wsV RL 81 RX6 yX6_found wsX6_found) := goodIn_app (goodIn_of _ (by decide +kernel)) ggL_law_X6_found
set_option maxRecDepth 20000 in
theorem ggL_law_X5_replay : GoodIn wsL_law wsX5_replay := goodIn_r _ [608, 23, 70, 19, 68, 586, 69, 609, 610, 611, 33, 612, 50, 613, 614, 615, 616, 617, 618, 619, 37, 620, 100, 54, 621, 55, 102, 103, 104, 18, 105, 106, 107, 46, 108, 109, 40, 41, 110, 42, 43, 111, 112, 113, 14, 114, 76, 626, 627, 628, 671, 672, 673, 657, 658, 659, 660, 661, 662, 663, 664, 665, 666, 667, 668, 669, 670, 674, 675, 676, 677, 652, 653, 654, 655, 656] (by decide +kernel) (by decide +kernel)
set_option maxRecDepth 20000 in
theorem gL_law_X5_replay : GoodIn wsL_law (wsV RL 82 RX5 yX5_replay wsX5_replay) := goodIn_app (goodIn_of _ (by decide +kernel)) ggL_law_X5_replay
set_option maxRecDepth 20000 in
theorem ggL_law_X6_replay : GoodIn wsL_law wsX6_replay := goodIn_r _ [625, 141, 119, 129, 120, 130, 121, 131, 145, 146, 147, 5, 148, 149, 150, 151, 152, 122, 136, 123, 137, 124, 125, 153, 154, 155, 156, 629, 630, 631, 632, 633, 634, 635, 636, 637, 638, 639, 640, 641, 642, 643, 644, 645, 646, 647, 648, 649, 650, 651] (by decide +kernel) (by decide +kernel)
set_option maxRecDepth 20000 in
theorem gL_law_X6_replay : GoodIn wsL_law (wsV RL 85 RX6 yX6_replay wsX6_replay) := goodIn_app (goodIn_of _ (by decide +kernel)) ggL_law_X6_replay
