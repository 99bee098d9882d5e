set_option maxRecDepth 20000 in
theorem ggL_law_X5_again : GoodIn wsL_law wsX5_again := goodIn_r _ [328, 19, 181, 102, 103, 104, 18, 105, 106, 107, 46, 108, 109, 40, 41, 110, 42, 43, 111, 112, 113, 14, 114, 76, 626, 627, 628, 657, 658, 659, 660, 661, 662, 663, 664, 665, 666, 667, 668, 669, 670, 652, 653, 654, 655, 656] (by decide +kernel) (by decide +kernel)
set_option maxRecDepth 20000 in
theorem gL_law_X5_again : GoodIn wsL_law (wsV RL 42 RX5 yX5_again wsX5_again) := goodIn_app (goodIn_of _ (by decide +kernel)) ggL_law_X5_again
set_option maxRecDepth 20000 in
theorem ggL_law_X6_again : GoodIn wsL_law wsX6_again := goodIn_r _ [332, 149, 145, 146, 147, 5, 148, 150, 151, 152, 122, 136, 119, 123, 137, 124, 125, 153, 154, 155, 156, 629, 630, 631, 632, 633, 634, 635, 636, 637, 638, 639, 640, 641, 642, 643, 644, 645, 646, 647, 648, 649, 650, 651] (by decide +kernel) (by decide +kernel)
set_option maxRecDepth 20000 in
theorem gL_law_X6_again : GoodIn wsL_law (wsV RL 45 RX6 yX6_again wsX6_again) := goodIn_app (goodIn_of _ (by decide +kernel)) ggL_law_X6_again
set_option maxRecDepth 20000 in
theorem ggL_law_X5_decided : GoodIn wsL_law wsX5_decided := goodIn_r _ [336, 15, 19, 337, 338, 182, 183, 184, 14, 185, 76, 339, 340, 341, 18, 342, 46, 262, 34, 263, 209, 210, 211, 212, 213, 214, 111, 112, 113, 114, 343, 344, 345, 33, 346, 50, 202, 2, 203, 626, 627, 628, 657, 658, 659, 660, 661, 662, 663, 664, 665, 666, 667, 668, 669, 670, 652, 653, 654, 655, 656, 674] (by decide +kernel) (by decide +kernel)
set_option maxRecDepth 20000 in
theorem gL_law_X5_decided : GoodIn wsL_law (wsV RL 46 RX5 yX5_decided wsX5_decided) := goodIn_app (goodIn_of _ (by decide +kernel)) ggL_law_X5_decided
set_option maxRecDepth 20000 in
theorem ggL_law_X6_decided : GoodIn wsL_law wsX6_decided := goodIn_r _ [350, 124, 190, 191, 192, 5, 193, 137, 629, 630, 631, 632, 633, 634, 635, 636, 637, 638, 639, 640, 641, 642, 643, 644, 645, 646, 647, 648, 649, 650, 651] (by decide +kernel) (by decide +kernel)
set_option maxRecDepth 20000 in
theorem gL_law_X6_decided : GoodIn wsL_law (wsV RL 49 RX6 yX6_decided wsX6_decided) := goodIn_app (goodIn_of _ (by decide +kernel)) ggL_law_X6_decided
set_option maxRecDepth 20000 in
theorem ggL_law_X5_decidedIn : GoodIn wsL_law wsX5_decidedIn := goodIn_r _ [354, 15, 19, 337, 182, 183, 184, 14, 185, 76, 626, 627, 628, 657, 658, 659, 660, 661, 662, 663, 664, 665, 666, 667, 668, 669, 670, 652, 653, 654, 655, 656] (by decide +kernel) (by decide +kernel)
set_option maxRecDepth 20000 in
theorem gL_law_X5_decidedIn : GoodIn wsL_law (wsV RL 50 RX5 yX5_decidedIn wsX5_decidedIn) := goodIn_app (goodIn_of _ (by decide +kernel)) ggL_law_X5_decidedIn
set_option maxRecDepth 20000 in
theorem ggL_law_X6_decidedIn : GoodIn wsL_law wsX6_decidedIn := goodIn_r _ [358, 125, 190, 191, 192, 5, 193, 137, 629, 630, 631, 632, 633, 634, 635, 636, 637, 638, 639, 640, 641, 642, 643, 644, 645, 646, 647, 648, 649, 650, 651] (by decide +kernel) (by decide +kernel)
set_option maxRecDepth 20000 in
theorem gL_law_X6_decidedIn : GoodIn wsL_law (wsV RL 53 RX6 yX6_decidedIn wsX6_decidedIn) := goodIn_app (goodIn_of _ (by decide +kernel)) ggL_law_X6_decidedIn
set_option maxRecDepth 20000 in
theorem ggL_law_X5_knows : GoodIn wsL_law wsX5_knows := goodIn_r _ [362, 15, 19, 363, 364, 68, 182, 183, 184, 14, 185, 76, 365, 366, 367, 33, 368, 50, 202, 2, 203, 369, 344, 345, 346, 626, 627, 628, 657, 658, 659, 660, 661, 662, 663, 664, 665, 666, 667, 668, 669, 670, 652, 653, 654, 655, 656, 674] (by decide +kernel) (by decide +kernel)
set_option maxRecDepth 20000 in
theorem gL_law_X5_knows : GoodIn wsL_law (wsV RL 54 RX5 yX5_knows wsX5_knows) := goodIn_app (goodIn_of _ (by decide +kernel)) ggL_law_X5_knows
set_option maxRecDepth 20000 in
theorem ggL_law_X6_knows : GoodIn wsL_law wsX6_knows := goodIn_r _ [373, 122, 190, 191, 192, 5, 193, 137, 629, 630, 631, 632, 633, 634, 635, 636, 637, 638, 639, 640, 641, 642, 643, 644, 645, 646, 647, 648, 649, 650, 651] (by decide +kernel) (by decide +kernel)
set_option maxRecDepth 20000 in
theorem gL_law_X6_knows : GoodIn wsL_law (wsV RL 57 RX6 yX6_knows wsX6_knows) := goodIn_app (goodIn_of _ (by decide +kernel)) ggL_law_X6_knows
set_option maxRecDepth 20000 in
theorem ggL_law_X5_vector : GoodIn wsL_law wsX5_vector := goodIn_r _ [377, 15, 364, 19, 363, 68, 176, 182, 183, 184, 14, 185, 76, 201, 202, 2, 203, 626, 627, 628, 652, 653, 654, 655, 656, 657, 658, 659, 660, 661, 662, 663, 664, 665, 666, 667, 668, 669, 670, 674] (by decide +kernel) (by decide +kernel)
set_option maxRecDepth 20000 in
theorem gL_law_X5_vector : GoodIn wsL_law (wsV RL 58 RX5 yX5_vector wsX5_vector) := goodIn_app (goodIn_of _ (by decide +kernel)) ggL_law_X5_vector
set_option maxRecDepth 20000 in
theorem ggL_law_X6_vector : GoodIn wsL_law wsX6_vector := goodIn_r _ [381, 136, 122, 119, 190, 191, 192, 5, 193, 137, 629, 630, 631, 632, 633, 634, 635, 636, 637, 638, 639, 640, 641, 642, 643, 644, 645, 646, 647, 648, 649, 650, 651] (by decide +kernel) (by decide +kernel)
set_option maxRecDepth 20000 in
theorem gL_law_X6_vector : GoodIn wsL_law (wsV RL 61 RX6 yX6_vector wsX6_vector) := goodIn_app (goodIn_of _ (by decide +kernel)) ggL_law_X6_vector
set_option maxRecDepth 20000 in
theorem ggL_law_X5_heard : GoodIn wsL_law wsX5_heard := goodIn_r _ [385, 15, 19, 386, 182, 183, 184, 14, 185, 76, 626, 627, 628, 657, 658, 659, 660, 661, 662, 663, 664, 665, 666, 667, 668, 669, 670, 652, 653, 654, 655, 656] (by decide +kernel) (by decide +kernel)
set_option maxRecDepth 20000 in
theorem gL_law_X5_heard : GoodIn wsL_law (wsV RL 62 RX5 yX5_heard wsX5_heard) := goodIn_app (goodIn_of _ (by decide +kernel)) ggL_law_X5_heard
set_option maxRecDepth 20000 in
theorem ggL_law_X6_heard : GoodIn wsL_law wsX6_heard := goodIn_r _ [390, 123, 190, 191, 192, 5, 193, 137, 629, 630, 631, 632, 633, 634, 635, 636, 637, 638, 639, 640, 641, 642, 643, 644, 645, 646, 647, 648, 649, 650, 651] (by decide +kernel) (by decide +kernel)
set_option maxRecDepth 20000 in
theorem gL_law_X6_heard : GoodIn wsL_law (wsV RL 65 RX6 yX6_heard wsX6_heard) := goodIn_app (goodIn_of _ (by decide +kernel)) ggL_law_X6_heard
set_option maxRecDepth 20000 in
theorem ggL_law_X5_count : GoodIn wsL_law wsX5_count := goodIn_r _ [394, 15, 395, 199, 161, 19, 181, 396, 397, 398, 399, 400, 401, 18, 402, 46, 38, 243, 111, 112, 113, 14, 114, 76, 248, 249, 250, 37, 251, 100, 54, 202, 2, 203, 169, 170, 403, 404, 405, 406, 407, 209, 210, 211, 212, 213, 214, 408, 409, 410, 411, 75, 83, 412, 166, 81, 167, 413, 626, 627, 628, 652, 653, 654, 655, 656, 657, 658, 659, 660, 661, 662, 663, 664, 665, 666, 667, 668, 669, 670, 675, 676, 677] (by decide +kernel) (by decide +kernel)
set_option maxRecDepth 20000 in
theorem gL_law_X5_count : GoodIn wsL_law (wsV RL 66 RX5 yX5_count wsX5_count) := goodIn_app (goodIn_of _ (by decide +kernel)) ggL_law_X5_count
set_option maxRecDepth 20000 in
theorem ggL_law_X6_count : GoodIn wsL_law wsX6_count := goodIn_r _ [417, 137, 138, 140, 149, 150, 151, 152, 418, 419, 420, 5, 421, 422, 423, 424, 425, 120, 426, 427, 428, 429, 136, 629, 630, 631, 632, 633, 634, 635, 636, 637, 638, 639, 640, 641, 642, 643, 644, 645, 646, 647, 648, 649, 650, 651] (by decide +kernel) (by decide +kernel)
set_option maxRecDepth 20000 in
theorem gL_law_X6_count : GoodIn wsL_law (wsV RL 69 RX6 yX6_count wsX6_count) := goodIn_app (goodIn_of _ (by decide +kernel)) ggL_law_X6_count
