set_option maxRecDepth 20000 in
theorem ggL_law_X5_player : GoodIn wsL_law wsX5_player := goodIn_r _ [502, 503, 126, 87, 88, 205, 206, 5, 207, 208, 209, 466, 467, 468, 469, 91, 92, 386, 387, 403, 404, 405, 406, 407, 408, 409, 410, 611, 612, 613, 614, 615, 616, 617, 618, 619, 620, 621, 622, 623, 624, 625, 626, 627, 628, 629, 630, 631, 632, 633, 634, 635] (by decide +kernel) (by decide +kernel)
set_option maxRecDepth 20000 in
theorem gL_law_X5_player : GoodIn wsL_law (wsV RL 118 RX5 yX5_player wsX5_player) := goodIn_app (goodIn_of _ (by decide +kernel)) ggL_law_X5_player
set_option maxRecDepth 20000 in
theorem ggL_law_L_step : GoodIn wsL_law wsL_step := goodIn_ca (goodIn_r _ [506, 135, 507, 508, 509, 2, 510, 149, 150, 22, 511, 512, 56, 313, 314, 24, 146, 147, 148, 151, 152, 315, 72, 73, 21, 74, 75, 76, 513, 514, 515, 516, 517, 518, 519, 520, 521, 522, 33, 523, 524, 525, 526, 527, 528, 529, 530, 531, 532, 497, 175, 176, 177, 487, 488, 489, 533, 482, 483, 484, 485, 486, 490, 491, 492, 493, 494, 495, 496, 455, 456, 457, 458, 19, 534, 535, 536, 537, 25, 29, 538, 539, 331, 332, 441, 442, 443, 444, 445, 446, 64, 65, 66, 67, 68, 69, 70, 71, 422, 423, 424, 28, 425, 341, 342, 343, 344, 345, 346, 347, 348, 349, 350, 351, 352, 353, 354, 355, 356, 357, 358, 359, 360, 361, 362, 426, 427, 428, 429, 363, 364, 365, 366, 367, 368, 369, 370, 371, 540, 541, 542, 543, 544, 545, 546, 547, 548, 549, 550, 551, 552, 553, 554, 555, 556, 557, 558, 559, 560, 601, 602, 603, 604, 605, 606, 607, 608, 609, 610, 636, 637, 638, 639, 640, 641, 654, 655, 656, 657, 658, 659, 642, 643, 644, 645, 646] (by decide +kernel) (by decide +kernel)) (goodIn_sub (fun _ h => List.mem_append_right _ h) (by decide +kernel))
set_option maxRecDepth 20000 in
theorem gL_law_L_step : GoodIn wsL_law (va_wsS RL 119 yL_step wsL_step) := goodIn_app (goodIn_of _ (by decide +kernel)) ggL_law_L_step
set_option maxRecDepth 20000 in
theorem ggL_law_X5_step : GoodIn wsL_law wsX5_step := goodIn_r _ [564, 88, 126, 101, 565, 566, 205, 206, 5, 207, 208, 209, 567, 568, 569, 570, 386, 387, 87, 380, 381, 89, 466, 467, 468, 469, 91, 92, 388, 389, 390, 391, 392, 393, 93, 94, 394, 395, 396, 397, 398, 399, 400, 401, 402, 403, 404, 405, 406, 407, 408, 409, 410, 411, 412, 413, 414, 611, 612, 613, 614, 615, 616, 617, 618, 619, 620, 621, 622, 623, 624, 625, 626, 627, 628, 629, 630, 631, 632, 633, 634, 635] (by decide +kernel) (by decide +kernel)
set_option maxRecDepth 20000 in
theorem gL_law_X5_step : GoodIn wsL_law (wsV RL 122 RX5 yX5_step wsX5_step) := goodIn_app (goodIn_of _ (by decide +kernel)) ggL_law_X5_step
set_option maxRecDepth 20000 in
theorem ggL_law_L_at : GoodIn wsL_law wsL_at := goodIn_ca (goodIn_r _ [573, 134, 574, 575, 576, 2, 577, 144, 145, 22, 511, 512, 533, 532, 601, 602, 603, 604, 605, 606, 607, 608, 609, 610, 636, 637, 638, 639, 640, 641] (by decide +kernel) (by decide +kernel)) (goodIn_sub (fun _ h => List.mem_append_left _ (List.mem_append_right _ h)) (by decide +kernel))
set_option maxRecDepth 20000 in
theorem gL_law_L_at : GoodIn wsL_law (va_wsS RL 123 yL_at wsL_at) := goodIn_app (goodIn_of _ (by decide +kernel)) ggL_law_L_at
set_option maxRecDepth 20000 in
theorem ggL_law_X5_at : GoodIn wsL_law wsX5_at := goodIn_r _ [581, 126, 88, 611, 612, 613, 614, 615, 616, 617, 618, 619, 620, 621, 622, 623, 624, 625, 626, 627, 628, 629, 630, 631, 632, 633, 634, 635] (by decide +kernel) (by decide +kernel)
set_option maxRecDepth 20000 in
theorem gL_law_X5_at : GoodIn wsL_law (wsV RL 125 RX5 yX5_at wsX5_at) := goodIn_app (goodIn_of _ (by decide +kernel)) ggL_law_X5_at
set_option maxRecDepth 20000 in
theorem ggL_law_L_sweep : GoodIn wsL_law wsL_sweep := goodIn_ca (goodIn_r _ [584, 134, 585, 586, 587, 2, 588, 144, 145, 56, 24, 518, 519, 552, 517, 538, 539, 141, 142, 143, 601, 602, 603, 604, 605, 606, 607, 608, 609, 610, 654, 655, 656, 657, 658, 659] (by decide +kernel) (by decide +kernel)) (goodIn_sub (fun _ h => List.mem_append_left _ (List.mem_append_right _ h)) (by decide +kernel))
set_option maxRecDepth 20000 in
theorem gL_law_L_sweep : GoodIn wsL_law (va_wsS RL 126 yL_sweep wsL_sweep) := goodIn_app (goodIn_of _ (by decide +kernel)) ggL_law_L_sweep
