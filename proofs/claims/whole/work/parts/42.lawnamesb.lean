set_option maxRecDepth 20000 in
theorem gL_law_X10_need : GoodIn wsL_law (wsV RL 38 RX10 yX10_need wsX10_need) := goodIn_app (goodIn_of _ (by decide +kernel)) ggL_law_X10_need
set_option maxRecDepth 20000 in
theorem ggL_law_X11_need : GoodIn wsL_law wsX11_need := goodIn_r _ [400, 153, 379, 380, 5, 381, 191, 192, 193, 194, 152, 902, 903, 904, 905, 906, 907, 908, 909, 910, 911, 912, 913, 914, 915, 916, 917, 918, 919, 920] (by decide +kernel) (by decide +kernel)
set_option maxRecDepth 20000 in
theorem gL_law_X11_need : GoodIn wsL_law (wsV RL 41 RX11 yX11_need wsX11_need) := goodIn_app (goodIn_of _ (by decide +kernel)) ggL_law_X11_need
set_option maxRecDepth 20000 in
theorem ggL_law_X10_set : GoodIn wsL_law wsX10_set := goodIn_r _ [404, 34, 168, 169, 170, 2, 171, 14, 890, 891, 892, 893, 894, 895, 896, 897, 898, 899, 900, 901, 939, 940, 941, 942, 943] (by decide +kernel) (by decide +kernel)
set_option maxRecDepth 20000 in
theorem gL_law_X10_set : GoodIn wsL_law (wsV RL 42 RX10 yX10_set wsX10_set) := goodIn_app (goodIn_of _ (by decide +kernel)) ggL_law_X10_set
set_option maxRecDepth 20000 in
theorem ggL_law_X11_set : GoodIn wsL_law wsX11_set := goodIn_r _ [408, 153, 379, 380, 5, 381, 191, 192, 193, 194, 152, 409, 410, 411, 902, 903, 904, 905, 906, 907, 908, 909, 910, 911, 912, 913, 914, 915, 916, 917, 918, 919, 920] (by decide +kernel) (by decide +kernel)
set_option maxRecDepth 20000 in
theorem gL_law_X11_set : GoodIn wsL_law (wsV RL 45 RX11 yX11_set wsX11_set) := goodIn_app (goodIn_of _ (by decide +kernel)) ggL_law_X11_set
set_option maxRecDepth 20000 in
theorem ggL_law_X10_planks : GoodIn wsL_law wsX10_planks := goodIn_r _ [415, 34, 416, 417, 418, 25, 419, 420, 101, 102, 103, 104, 168, 169, 170, 2, 171, 14, 890, 891, 892, 893, 894, 895, 896, 897, 898, 899, 900, 901, 939, 940, 941, 942, 943, 926, 927, 928, 929, 930, 931, 932] (by decide +kernel) (by decide +kernel)
set_option maxRecDepth 20000 in
theorem gL_law_X10_planks : GoodIn wsL_law (wsV RL 46 RX10 yX10_planks wsX10_planks) := goodIn_app (goodIn_of _ (by decide +kernel)) ggL_law_X10_planks
set_option maxRecDepth 20000 in
theorem ggL_law_X11_planks : GoodIn wsL_law wsX11_planks := goodIn_r _ [424, 153, 425, 426, 427, 5, 428, 191, 192, 193, 194, 152, 902, 903, 904, 905, 906, 907, 908, 909, 910, 911, 912, 913, 914, 915, 916, 917, 918, 919, 920] (by decide +kernel) (by decide +kernel)
set_option maxRecDepth 20000 in
theorem gL_law_X11_planks : GoodIn wsL_law (wsV RL 50 RX11 yX11_planks wsX11_planks) := goodIn_app (goodIn_of _ (by decide +kernel)) ggL_law_X11_planks
set_option maxRecDepth 20000 in
theorem ggL_law_X10_step : GoodIn wsL_law wsX10_step := goodIn_r _ [432, 34, 363, 364, 365, 25, 366, 104, 168, 169, 170, 2, 171, 14, 433, 434, 435, 436, 437, 438, 81, 439, 440, 441, 442, 443, 444, 89, 90, 890, 891, 892, 893, 894, 895, 896, 897, 898, 899, 900, 901, 939, 940, 941, 942, 943, 969, 970, 971, 926, 927, 928, 929, 930, 931, 932] (by decide +kernel) (by decide +kernel)
set_option maxRecDepth 20000 in
theorem gL_law_X10_step : GoodIn wsL_law (wsV RL 51 RX10 yX10_step wsX10_step) := goodIn_app (goodIn_of _ (by decide +kernel)) ggL_law_X10_step
set_option maxRecDepth 20000 in
theorem ggL_law_X11_step : GoodIn wsL_law wsX11_step := goodIn_r _ [448, 153, 371, 372, 373, 5, 374, 375, 376, 377, 378, 379, 380, 381, 409, 410, 411, 191, 192, 193, 194, 152, 902, 903, 904, 905, 906, 907, 908, 909, 910, 911, 912, 913, 914, 915, 916, 917, 918, 919, 920] (by decide +kernel) (by decide +kernel)
set_option maxRecDepth 20000 in
theorem gL_law_X11_step : GoodIn wsL_law (wsV RL 54 RX11 yX11_step wsX11_step) := goodIn_app (goodIn_of _ (by decide +kernel)) ggL_law_X11_step
set_option maxRecDepth 20000 in
theorem ggL_law_X10_stepOf : GoodIn wsL_law wsX10_stepOf := goodIn_r _ [452, 34, 168, 169, 170, 2, 171, 14, 890, 891, 892, 893, 894, 895, 896, 897, 898, 899, 900, 901, 939, 940, 941, 942, 943, 969, 970, 971] (by decide +kernel) (by decide +kernel)
set_option maxRecDepth 20000 in
theorem gL_law_X10_stepOf : GoodIn wsL_law (wsV RL 55 RX10 yX10_stepOf wsX10_stepOf) := goodIn_app (goodIn_of _ (by decide +kernel)) ggL_law_X10_stepOf
set_option maxRecDepth 20000 in
theorem ggL_law_X11_stepOf : GoodIn wsL_law wsX11_stepOf := goodIn_r _ [456, 153, 379, 380, 5, 381, 191, 192, 193, 194, 152, 902, 903, 904, 905, 906, 907, 908, 909, 910, 911, 912, 913, 914, 915, 916, 917, 918, 919, 920] (by decide +kernel) (by decide +kernel)
set_option maxRecDepth 20000 in
theorem gL_law_X11_stepOf : GoodIn wsL_law (wsV RL 58 RX11 yX11_stepOf wsX11_stepOf) := goodIn_app (goodIn_of _ (by decide +kernel)) ggL_law_X11_stepOf
set_option maxRecDepth 20000 in
theorem ggL_law_X10_clear : GoodIn wsL_law wsX10_clear := goodIn_r _ [460, 34, 461, 462, 463, 81, 464, 440, 890, 891, 892, 893, 894, 895, 896, 897, 898, 899, 900, 901, 939, 940, 941, 942, 943, 969, 970, 971] (by decide +kernel) (by decide +kernel)
set_option maxRecDepth 20000 in
theorem gL_law_X10_clear : GoodIn wsL_law (wsV RL 59 RX10 yX10_clear wsX10_clear) := goodIn_app (goodIn_of _ (by decide +kernel)) ggL_law_X10_clear
set_option maxRecDepth 20000 in
theorem ggL_law_X11_clear : GoodIn wsL_law wsX11_clear := goodIn_r _ [468, 153, 902, 903, 904, 905, 906, 907, 908, 909, 910, 911, 912, 913, 914, 915, 916, 917, 918, 919, 920] (by decide +kernel) (by decide +kernel)
set_option maxRecDepth 20000 in
theorem gL_law_X11_clear : GoodIn wsL_law (wsV RL 62 RX11 yX11_clear wsX11_clear) := goodIn_app (goodIn_of _ (by decide +kernel)) ggL_law_X11_clear
set_option maxRecDepth 20000 in
theorem ggL_law_X10_judged : GoodIn wsL_law wsX10_judged := goodIn_r _ [472, 43, 168, 169, 170, 2, 171, 14, 473, 474, 475, 42, 476, 477, 478, 125, 479, 480, 481, 482, 126, 483, 484, 485, 486, 487, 488, 489, 490, 491, 492, 493, 33, 494, 82, 495, 496, 497, 498, 85, 78, 499, 500, 501, 502, 503, 504, 505, 506, 507, 508, 509, 510, 25, 511, 68, 104, 512, 513, 514, 38, 515, 94, 516, 517, 518, 519, 520, 521, 522, 523, 524, 525, 526, 527, 528, 529, 530, 531, 532, 533, 534, 535, 95, 536, 537, 538, 539, 118, 119, 120, 69, 540, 541, 542, 543, 890, 891, 892, 893, 894, 895, 896, 897, 898, 899, 900, 901, 946, 947, 948, 949, 939, 940, 941, 942, 943, 969, 970, 971, 926, 927, 928, 929, 930, 931, 932, 944, 945] (by decide +kernel) (by decide +kernel)
set_option maxRecDepth 20000 in
theorem gL_law_X10_judged : GoodIn wsL_law (wsV RL 63 RX10 yX10_judged wsX10_judged) := goodIn_app (goodIn_of _ (by decide +kernel)) ggL_law_X10_judged
