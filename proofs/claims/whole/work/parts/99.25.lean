set_option maxRecDepth 20000 in
theorem ggL_law_X5_touch : GoodIn wsL_law wsX5_touch := goodIn_r _ [375, 376, 377, 378, 5, 379, 126, 380, 381, 320, 321, 322, 323, 100, 382, 383, 384, 385, 91, 84, 92, 85, 386, 387, 388, 389, 390, 391, 392, 393, 93, 94, 394, 395, 396, 397, 398, 399, 400, 401, 402, 403, 404, 405, 406, 407, 408, 409, 410, 411, 412, 413, 414, 611, 612, 613, 614, 615, 616, 617, 618, 619, 620, 621, 622, 623, 624, 625, 626, 627, 628, 629, 630, 631, 632, 633, 634, 635] (by decide +kernel) (by decide +kernel)
set_option maxRecDepth 20000 in
theorem gL_law_X5_touch : GoodIn wsL_law (wsV RL 108 RX5 yX5_touch wsX5_touch) := goodIn_app (goodIn_of _ (by decide +kernel)) ggL_law_X5_touch
set_option maxRecDepth 20000 in
theorem ggL_law_L_overlap : GoodIn wsL_law wsL_overlap := goodIn_ca (goodIn_r _ [417, 134, 418, 419, 420, 2, 421, 29, 17, 331, 332, 333, 334, 335, 336, 55, 141, 142, 143, 144, 145, 422, 423, 424, 28, 425, 341, 342, 343, 344, 345, 346, 347, 348, 349, 350, 351, 352, 353, 354, 355, 356, 357, 358, 359, 360, 361, 176, 362, 426, 427, 428, 21, 429, 67, 69, 68, 70, 363, 364, 365, 366, 367, 368, 369, 370, 371, 175, 177, 601, 602, 603, 604, 605, 606, 607, 608, 609, 610, 642, 643, 644, 645, 646, 636, 637, 638, 639, 640, 641] (by decide +kernel) (by decide +kernel)) (goodIn_sub (fun _ h => List.mem_append_left _ (List.mem_append_right _ h)) (by decide +kernel))
set_option maxRecDepth 20000 in
theorem gL_law_L_overlap : GoodIn wsL_law (va_wsS RL 109 yL_overlap wsL_overlap) := goodIn_app (goodIn_of _ (by decide +kernel)) ggL_law_L_overlap
set_option maxRecDepth 20000 in
theorem ggL_law_X5_overlap : GoodIn wsL_law wsX5_overlap := goodIn_r _ [433, 376, 377, 378, 5, 379, 126, 380, 381, 320, 321, 322, 323, 100, 382, 383, 384, 385, 91, 84, 92, 85, 386, 387, 388, 389, 390, 391, 392, 393, 93, 94, 394, 395, 396, 397, 398, 399, 400, 401, 402, 403, 404, 405, 406, 407, 408, 409, 410, 411, 412, 413, 414, 611, 612, 613, 614, 615, 616, 617, 618, 619, 620, 621, 622, 623, 624, 625, 626, 627, 628, 629, 630, 631, 632, 633, 634, 635] (by decide +kernel) (by decide +kernel)
set_option maxRecDepth 20000 in
theorem gL_law_X5_overlap : GoodIn wsL_law (wsV RL 111 RX5 yX5_overlap wsX5_overlap) := goodIn_app (goodIn_of _ (by decide +kernel)) ggL_law_X5_overlap
set_option maxRecDepth 20000 in
theorem ggL_law_L_tile : GoodIn wsL_law wsL_tile := goodIn_ca (goodIn_ca (goodIn_r _ [436, 134, 108, 437, 438, 439, 2, 440, 113, 114, 25, 22, 19, 141, 142, 143, 144, 145, 441, 442, 443, 21, 444, 445, 446, 64, 65, 66, 67, 68, 69, 70, 71, 72, 73, 74, 75, 76, 447, 448, 449, 450, 451, 452, 453, 454, 455, 456, 457, 458, 601, 602, 603, 604, 605, 606, 607, 608, 609, 610, 636, 637, 638, 639, 640, 641] (by decide +kernel) (by decide +kernel)) (goodIn_sub (fun _ h => List.mem_append_left _ (List.mem_append_left _ (List.mem_append_right _ h))) (by decide +kernel))) (goodIn_sub (fun _ h => List.mem_append_left _ (List.mem_append_right _ h)) (by decide +kernel))
set_option maxRecDepth 20000 in
theorem gL_law_L_tile : GoodIn wsL_law (va_wsS RL 112 yL_tile wsL_tile) := goodIn_app (goodIn_of _ (by decide +kernel)) ggL_law_L_tile
set_option maxRecDepth 20000 in
theorem ggL_law_X5_tile : GoodIn wsL_law wsX5_tile := goodIn_r _ [462, 126, 87, 88, 463, 464, 5, 465, 466, 467, 468, 469, 91, 92, 386, 387, 403, 404, 405, 406, 407, 408, 409, 410, 611, 612, 613, 614, 615, 616, 617, 618, 619, 620, 621, 622, 623, 624, 625, 626, 627, 628, 629, 630, 631, 632, 633, 634, 635] (by decide +kernel) (by decide +kernel)
set_option maxRecDepth 20000 in
theorem gL_law_X5_tile : GoodIn wsL_law (wsV RL 115 RX5 yX5_tile wsX5_tile) := goodIn_app (goodIn_of _ (by decide +kernel)) ggL_law_X5_tile
set_option maxRecDepth 20000 in
theorem ggL_law_L_player : GoodIn wsL_law wsL_player := goodIn_ca (goodIn_r _ [472, 135, 473, 474, 475, 2, 476, 149, 150, 477, 22, 146, 147, 148, 151, 152, 478, 479, 480, 481, 25, 482, 483, 484, 485, 486, 487, 488, 176, 489, 490, 491, 492, 493, 494, 495, 496, 497, 175, 177, 441, 442, 443, 21, 444, 445, 446, 64, 65, 66, 67, 68, 69, 70, 71, 72, 73, 74, 75, 76, 455, 456, 457, 458, 19, 498, 452, 453, 454, 63, 601, 602, 603, 604, 605, 606, 607, 608, 609, 610, 636, 637, 638, 639, 640, 641] (by decide +kernel) (by decide +kernel)) (goodIn_sub (fun _ h => List.mem_append_right _ h) (by decide +kernel))
set_option maxRecDepth 20000 in
theorem gL_law_L_player : GoodIn wsL_law (va_wsS RL 116 yL_player wsL_player) := goodIn_app (goodIn_of _ (by decide +kernel)) ggL_law_L_player
