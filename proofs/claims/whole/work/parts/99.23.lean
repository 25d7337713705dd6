set_option maxRecDepth 20000 in
theorem ggL_law_X5_point : GoodIn wsL_law wsX5_point := goodIn_r _ [200, 83, 126, 81, 82, 201, 202, 203, 5, 204, 99, 205, 206, 207, 208, 209, 210, 211, 212, 213, 214, 215, 216, 217, 218, 219, 220, 221, 222, 223, 224, 225, 226, 611, 612, 613, 614, 615, 616, 617, 618, 619, 620, 621, 622, 623, 624, 625, 626, 627, 628, 629, 630, 631, 632, 633, 634, 635] (by decide +kernel) (by decide +kernel)
set_option maxRecDepth 20000 in
theorem gL_law_X5_point : GoodIn wsL_law (wsV RL 86 RX5 yX5_point wsX5_point) := goodIn_app (goodIn_of _ (by decide +kernel)) ggL_law_X5_point
set_option maxRecDepth 20000 in
theorem ggL_law_L_corners : GoodIn wsL_law wsL_corners := goodIn_ca (goodIn_r _ [229, 134, 230, 231, 232, 2, 233, 54, 15, 234, 141, 142, 143, 144, 145, 601, 602, 603, 604, 605, 606, 607, 608, 609, 610, 647, 648, 649, 650, 651, 652, 653] (by decide +kernel) (by decide +kernel)) (goodIn_sub (fun _ h => List.mem_append_left _ (List.mem_append_right _ h)) (by decide +kernel))
set_option maxRecDepth 20000 in
theorem gL_law_L_corners : GoodIn wsL_law (va_wsS RL 87 yL_corners wsL_corners) := goodIn_app (goodIn_of _ (by decide +kernel)) ggL_law_L_corners
set_option maxRecDepth 20000 in
theorem ggL_law_X5_corners : GoodIn wsL_law wsX5_corners := goodIn_r _ [238, 126, 239, 201, 202, 203, 5, 204, 99, 240, 241, 242, 243, 83, 81, 82, 90, 210, 211, 212, 213, 214, 215, 216, 217, 218, 219, 220, 221, 222, 223, 224, 225, 226, 244, 245, 246, 247, 611, 612, 613, 614, 615, 616, 617, 618, 619, 620, 621, 622, 623, 624, 625, 626, 627, 628, 629, 630, 631, 632, 633, 634, 635] (by decide +kernel) (by decide +kernel)
set_option maxRecDepth 20000 in
theorem gL_law_X5_corners : GoodIn wsL_law (wsV RL 90 RX5 yX5_corners wsX5_corners) := goodIn_app (goodIn_of _ (by decide +kernel)) ggL_law_X5_corners
set_option maxRecDepth 20000 in
theorem ggL_law_L_corner : GoodIn wsL_law wsL_corner := goodIn_ca (goodIn_r _ [250, 134, 251, 252, 253, 2, 254, 54, 15, 234, 255, 256, 141, 142, 143, 144, 145, 601, 602, 603, 604, 605, 606, 607, 608, 609, 610, 647, 648, 649, 650, 651, 652, 653] (by decide +kernel) (by decide +kernel)) (goodIn_sub (fun _ h => List.mem_append_left _ (List.mem_append_right _ h)) (by decide +kernel))
set_option maxRecDepth 20000 in
theorem gL_law_L_corner : GoodIn wsL_law (va_wsS RL 91 yL_corner wsL_corner) := goodIn_app (goodIn_of _ (by decide +kernel)) ggL_law_L_corner
set_option maxRecDepth 20000 in
theorem ggL_law_X5_corner : GoodIn wsL_law wsX5_corner := goodIn_r _ [260, 126, 239, 81, 90, 82, 201, 202, 203, 5, 204, 99, 240, 241, 242, 243, 83, 210, 211, 212, 213, 214, 215, 216, 217, 218, 219, 220, 221, 222, 223, 224, 225, 226, 244, 245, 246, 247, 611, 612, 613, 614, 615, 616, 617, 618, 619, 620, 621, 622, 623, 624, 625, 626, 627, 628, 629, 630, 631, 632, 633, 634, 635] (by decide +kernel) (by decide +kernel)
set_option maxRecDepth 20000 in
theorem gL_law_X5_corner : GoodIn wsL_law (wsV RL 94 RX5 yX5_corner wsX5_corner) := goodIn_app (goodIn_of _ (by decide +kernel)) ggL_law_X5_corner
set_option maxRecDepth 20000 in
theorem ggL_law_L_apart : GoodIn wsL_law wsL_apart := goodIn_ca (goodIn_r _ [263, 134, 264, 265, 266, 2, 267, 54, 15, 141, 142, 143, 144, 145, 268, 269, 270, 31, 271, 121, 272, 273, 274, 275, 170, 171, 172, 173, 45, 46, 174, 175, 176, 177, 276, 277, 278, 279, 178, 179, 180, 181, 601, 602, 603, 604, 605, 606, 607, 608, 609, 610, 647, 648, 649, 650, 651, 652, 653] (by decide +kernel) (by decide +kernel)) (goodIn_sub (fun _ h => List.mem_append_left _ (List.mem_append_right _ h)) (by decide +kernel))
set_option maxRecDepth 20000 in
theorem gL_law_L_apart : GoodIn wsL_law (va_wsS RL 95 yL_apart wsL_apart) := goodIn_app (goodIn_of _ (by decide +kernel)) ggL_law_L_apart
