set_option maxRecDepth 20000 in
theorem ggL_law_X4_nodes : GoodIn wsL_law wsX4_nodes := goodIn_r _ [310, 23, 311, 312, 313, 18, 314, 245, 575, 576, 577, 578, 579, 606, 607, 608, 609] (by decide +kernel) (by decide +kernel)
set_option maxRecDepth 20000 in
theorem gL_law_X4_nodes : GoodIn wsL_law (wsV RL 107 RX4 yX4_nodes wsX4_nodes) := goodIn_app (goodIn_of _ (by decide +kernel)) ggL_law_X4_nodes
set_option maxRecDepth 20000 in
theorem ggL_law_X5_nodes : GoodIn wsL_law wsX5_nodes := goodIn_r _ [318, 127, 251, 580, 581, 582, 583, 584, 585, 586, 587, 588, 589, 590, 591, 592, 593, 594, 595, 596, 597, 598, 599] (by decide +kernel) (by decide +kernel)
set_option maxRecDepth 20000 in
theorem gL_law_X5_nodes : GoodIn wsL_law (wsV RL 110 RX5 yX5_nodes wsX5_nodes) := goodIn_app (goodIn_of _ (by decide +kernel)) ggL_law_X5_nodes
set_option maxRecDepth 20000 in
theorem ggL_law_L_typeOf : GoodIn wsL_law wsL_typeOf := goodIn_ca (goodIn_r _ [321, 141, 322, 323, 324, 2, 325, 23, 260, 261, 262, 263, 156, 157, 264, 265, 266, 18, 267, 245, 276, 277, 278, 279, 50, 280, 575, 576, 577, 578, 579, 606, 607, 608, 609] (by decide +kernel) (by decide +kernel)) (goodIn_sub (fun _ h => List.mem_append_left _ (List.mem_append_right _ h)) (by decide +kernel))
set_option maxRecDepth 20000 in
theorem gL_law_L_typeOf : GoodIn wsL_law (va_wsS RL 111 yL_typeOf wsL_typeOf) := goodIn_app (goodIn_of _ (by decide +kernel)) ggL_law_L_typeOf
set_option maxRecDepth 20000 in
theorem ggL_law_X5_typeOf : GoodIn wsL_law wsX5_typeOf := goodIn_r _ [329, 127, 82, 299, 300, 301, 5, 302, 251, 131, 132, 133, 580, 581, 582, 583, 584, 585, 586, 587, 588, 589, 590, 591, 592, 593, 594, 595, 596, 597, 598, 599] (by decide +kernel) (by decide +kernel)
set_option maxRecDepth 20000 in
theorem gL_law_X5_typeOf : GoodIn wsL_law (wsV RL 113 RX5 yX5_typeOf wsX5_typeOf) := goodIn_app (goodIn_of _ (by decide +kernel)) ggL_law_X5_typeOf
set_option maxRecDepth 20000 in
theorem ggL_law_L_hops : GoodIn wsL_law wsL_hops := goodIn_ca (goodIn_r _ [332, 95, 333, 334, 335, 2, 336, 24, 337, 338, 339, 340, 102, 103, 341, 342, 343, 21, 344, 162, 345, 346, 347, 348, 349, 350, 56, 351, 352, 353, 354, 355, 57, 58, 55, 356, 312, 313, 18, 314, 245, 357, 287, 288, 289, 49, 280, 265, 266, 267, 358, 277, 278, 279, 50, 359, 360, 361, 15, 362, 39, 121, 122, 363, 364, 365, 366, 59, 367, 368, 369, 370, 168, 169, 371, 372, 373, 374, 375, 376, 377, 378, 379, 380, 381, 382, 383, 384, 385, 60, 386, 387, 388, 389, 390, 391, 392, 393, 394, 575, 576, 577, 578, 579, 610, 611, 612, 613, 614, 615, 616, 617, 618, 619, 606, 607, 608, 609, 600, 601, 602, 603, 604, 605] (by decide +kernel) (by decide +kernel)) (goodIn_sub (fun _ h => List.mem_append_left _ (List.mem_append_left _ (List.mem_append_right _ h))) (by decide +kernel))
set_option maxRecDepth 20000 in
theorem gL_law_L_hops : GoodIn wsL_law (va_wsS RL 114 yL_hops wsL_hops) := goodIn_app (goodIn_of _ (by decide +kernel)) ggL_law_L_hops
