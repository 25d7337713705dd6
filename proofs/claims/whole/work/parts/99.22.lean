set_option maxRecDepth 20000 in
theorem ggL_law_X4_init : GoodIn wsL_law wsX4_init := goodIn_r _ [10, 11, 12, 13, 14, 15, 16, 17, 18, 19, 20, 21, 22, 23, 24, 25, 26, 27, 28, 29, 30, 31, 32, 33, 34, 35, 36, 37, 38, 39, 40, 41, 42, 6, 43, 44, 45, 46, 47, 48, 49, 50, 51, 52, 2, 53, 54, 55, 56, 57, 58, 59, 60, 61, 62, 63, 64, 65, 66, 67, 68, 69, 70, 71, 72, 73, 74, 75, 76, 601, 602, 603, 604, 605, 606, 607, 608, 609, 610, 636, 637, 638, 639, 640, 641, 642, 643, 644, 645, 646, 647, 648, 649, 650, 651, 652, 653, 654, 655, 656, 657, 658, 659] (by decide +kernel) (by decide +kernel)
set_option maxRecDepth 20000 in
theorem gL_law_X4_init : GoodIn wsL_law (wsX4_init) := ggL_law_X4_init
set_option maxRecDepth 20000 in
theorem ggL_law_X5_init : GoodIn wsL_law wsX5_init := goodIn_r _ [79, 80, 12, 13, 6, 81, 82, 18, 83, 84, 85, 86, 87, 88, 89, 90, 91, 92, 93, 94, 95, 96, 97, 5, 98, 99, 100, 101, 102, 103, 611, 612, 613, 614, 615, 616, 617, 618, 619, 620, 621, 622, 623, 624, 625, 626, 627, 628, 629, 630, 631, 632, 633, 634, 635] (by decide +kernel) (by decide +kernel)
set_option maxRecDepth 20000 in
theorem gL_law_X5_init : GoodIn wsL_law (wsX5_init) := ggL_law_X5_init
set_option maxRecDepth 20000 in
theorem ggL_law_L_shape : GoodIn wsL_law wsL_shape := goodIn_ca (goodIn_r _ [107, 108, 109, 110, 111, 2, 112, 113, 114, 54, 15, 115, 116, 117, 31, 118, 119, 120, 121, 601, 602, 603, 604, 605, 606, 607, 608, 609, 610, 647, 648, 649, 650, 651, 652, 653] (by decide +kernel) (by decide +kernel)) (goodIn_sub (fun _ h => List.mem_append_left _ (List.mem_append_left _ (List.mem_append_right _ h))) (by decide +kernel))
set_option maxRecDepth 20000 in
theorem gL_law_L_shape : GoodIn wsL_law (va_wsS RL 72 yL_shape wsL_shape) := goodIn_app (goodIn_of _ (by decide +kernel)) ggL_law_L_shape
set_option maxRecDepth 20000 in
theorem ggL_law_X5_shape : GoodIn wsL_law wsX5_shape := goodIn_r _ [125, 99, 126, 83, 611, 612, 613, 614, 615, 616, 617, 618, 619, 620, 621, 622, 623, 624, 625, 626, 627, 628, 629, 630, 631, 632, 633, 634, 635] (by decide +kernel) (by decide +kernel)
set_option maxRecDepth 20000 in
theorem gL_law_X5_shape : GoodIn wsL_law (wsV RL 77 RX5 yX5_shape wsX5_shape) := goodIn_app (goodIn_of _ (by decide +kernel)) ggL_law_X5_shape
set_option maxRecDepth 20000 in
theorem ggL_law_X5_thrown : GoodIn wsL_law wsX5_thrown := goodIn_r _ [130, 126, 611, 612, 613, 614, 615, 616, 617, 618, 619, 620, 621, 622, 623, 624, 625, 626, 627, 628, 629, 630, 631, 632, 633, 634, 635] (by decide +kernel) (by decide +kernel)
set_option maxRecDepth 20000 in
theorem gL_law_X5_thrown : GoodIn wsL_law (wsV RL 78 RX5 yX5_thrown wsX5_thrown) := goodIn_app (goodIn_of _ (by decide +kernel)) ggL_law_X5_thrown
set_option maxRecDepth 20000 in
theorem ggL_law_L_point : GoodIn wsL_law wsL_point := goodIn_ca (goodIn_ca (goodIn_ca (goodIn_r _ [133, 134, 108, 135, 136, 137, 138, 2, 139, 113, 114, 54, 15, 140, 141, 142, 143, 144, 145, 146, 147, 148, 149, 150, 151, 152, 153, 154, 155, 31, 156, 119, 157, 158, 159, 160, 121, 45, 46, 161, 162, 163, 164, 165, 166, 167, 168, 169, 170, 171, 172, 173, 174, 175, 176, 177, 178, 179, 180, 181, 182, 183, 184, 185, 186, 187, 188, 120, 43, 44, 189, 190, 191, 192, 193, 194, 195, 196, 601, 602, 603, 604, 605, 606, 607, 608, 609, 610, 647, 648, 649, 650, 651, 652, 653] (by decide +kernel) (by decide +kernel)) (goodIn_sub (fun _ h => List.mem_append_left _ (List.mem_append_left _ (List.mem_append_right _ h))) (by decide +kernel))) (goodIn_sub (fun _ h => List.mem_append_left _ (List.mem_append_right _ h)) (by decide +kernel))) (goodIn_sub (fun _ h => List.mem_append_right _ h) (by decide +kernel))
set_option maxRecDepth 20000 in
theorem gL_law_L_point : GoodIn wsL_law (va_wsS RL 83 yL_point wsL_point) := goodIn_app (goodIn_of _ (by decide +kernel)) ggL_law_L_point
