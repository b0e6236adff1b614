set_option maxRecDepth 20000 in
theorem gL_law_X11_way : GoodIn wsL_law (wsV RL 91 RX11 yX11_way wsX11_way) := goodIn_app (goodIn_of _ (by decide +kernel)) ggL_law_X11_way
set_option maxRecDepth 20000 in
theorem ggL_law_X10_free : GoodIn wsL_law wsX10_free := goodIn_r _ [795, 34, 433, 434, 2, 435, 168, 169, 170, 171, 14, 796, 101, 102, 25, 103, 104, 779, 500, 501, 33, 502, 82, 503, 504, 505, 506, 507, 85, 495, 496, 497, 498, 78, 890, 891, 892, 893, 894, 895, 896, 897, 898, 899, 900, 901, 939, 940, 941, 942, 943, 969, 970, 971, 926, 927, 928, 929, 930, 931, 932] (by decide +kernel) (by decide +kernel)
set_option maxRecDepth 20000 in
theorem gL_law_X10_free : GoodIn wsL_law (wsV RL 92 RX10 yX10_free wsX10_free) := goodIn_app (goodIn_of _ (by decide +kernel)) ggL_law_X10_free
set_option maxRecDepth 20000 in
theorem ggL_law_X11_free : GoodIn wsL_law wsX11_free := goodIn_r _ [800, 153, 409, 410, 5, 411, 191, 192, 193, 194, 152, 578, 579, 580, 581, 574, 575, 576, 577, 570, 571, 572, 573, 562, 563, 564, 565, 582, 583, 584, 585, 902, 903, 904, 905, 906, 907, 908, 909, 910, 911, 912, 913, 914, 915, 916, 917, 918, 919, 920] (by decide +kernel) (by decide +kernel)
set_option maxRecDepth 20000 in
theorem gL_law_X11_free : GoodIn wsL_law (wsV RL 95 RX11 yX11_free wsX11_free) := goodIn_app (goodIn_of _ (by decide +kernel)) ggL_law_X11_free
set_option maxRecDepth 20000 in
theorem ggL_law_X10_out : GoodIn wsL_law wsX10_out := goodIn_r _ [804, 34, 51, 168, 169, 170, 2, 171, 14, 805, 806, 807, 50, 808, 809, 13, 810, 811, 812, 813, 814, 815, 146, 816, 817, 818, 29, 819, 327, 328, 73, 820, 821, 822, 823, 147, 824, 670, 671, 672, 825, 826, 827, 828, 829, 830, 831, 832, 833, 834, 835, 836, 837, 838, 839, 890, 891, 892, 893, 894, 895, 896, 897, 898, 899, 900, 901, 939, 940, 941, 942, 943, 933, 934, 935, 936, 937, 938, 964, 965, 966, 967, 968] (by decide +kernel) (by decide +kernel)
set_option maxRecDepth 20000 in
theorem gL_law_X10_out : GoodIn wsL_law (wsV RL 96 RX10 yX10_out wsX10_out) := goodIn_app (goodIn_of _ (by decide +kernel)) ggL_law_X10_out
set_option maxRecDepth 20000 in
theorem ggL_law_X11_out : GoodIn wsL_law wsX11_out := goodIn_r _ [843, 153, 161, 162, 163, 191, 192, 193, 5, 194, 152, 844, 845, 846, 847, 902, 903, 904, 905, 906, 907, 908, 909, 910, 911, 912, 913, 914, 915, 916, 917, 918, 919, 920] (by decide +kernel) (by decide +kernel)
set_option maxRecDepth 20000 in
theorem gL_law_X11_out : GoodIn wsL_law (wsV RL 99 RX11 yX11_out wsX11_out) := goodIn_app (goodIn_of _ (by decide +kernel)) ggL_law_X11_out
set_option maxRecDepth 20000 in
theorem ggL_law_X10_square : GoodIn wsL_law wsX10_square := goodIn_r _ [851, 34, 168, 169, 170, 2, 171, 14, 852, 817, 818, 29, 819, 327, 328, 73, 890, 891, 892, 893, 894, 895, 896, 897, 898, 899, 900, 901, 939, 940, 941, 942, 943, 933, 934, 935, 936, 937, 938] (by decide +kernel) (by decide +kernel)
set_option maxRecDepth 20000 in
theorem gL_law_X10_square : GoodIn wsL_law (wsV RL 100 RX10 yX10_square wsX10_square) := goodIn_app (goodIn_of _ (by decide +kernel)) ggL_law_X10_square
set_option maxRecDepth 20000 in
theorem ggL_law_X11_square : GoodIn wsL_law wsX11_square := goodIn_r _ [856, 153, 191, 192, 193, 5, 194, 152, 379, 380, 381, 902, 903, 904, 905, 906, 907, 908, 909, 910, 911, 912, 913, 914, 915, 916, 917, 918, 919, 920] (by decide +kernel) (by decide +kernel)
set_option maxRecDepth 20000 in
theorem gL_law_X11_square : GoodIn wsL_law (wsV RL 103 RX11 yX11_square wsX11_square) := goodIn_app (goodIn_of _ (by decide +kernel)) ggL_law_X11_square
set_option maxRecDepth 20000 in
theorem ggL_law_X10_image : GoodIn wsL_law wsX10_image := goodIn_r _ [860, 35, 34, 52, 861, 862, 863, 33, 864, 78, 82, 84, 85, 865, 206, 207, 208, 503, 866, 200, 201, 25, 202, 104, 203, 204, 66, 205, 67, 68, 69, 867, 686, 687, 81, 688, 440, 89, 689, 90, 868, 347, 348, 29, 349, 73, 350, 327, 328, 329, 330, 331, 890, 891, 892, 893, 894, 895, 896, 897, 898, 899, 900, 901, 939, 940, 941, 942, 943, 926, 927, 928, 929, 930, 931, 932, 969, 970, 971, 933, 934, 935, 936, 937, 938] (by decide +kernel) (by decide +kernel)
set_option maxRecDepth 20000 in
theorem gL_law_X10_image : GoodIn wsL_law (wsV RL 104 RX10 yX10_image wsX10_image) := goodIn_app (goodIn_of _ (by decide +kernel)) ggL_law_X10_image
set_option maxRecDepth 20000 in
theorem ggL_law_X11_image : GoodIn wsL_law wsX11_image := goodIn_r _ [872, 154, 153, 873, 902, 903, 904, 905, 906, 907, 908, 909, 910, 911, 912, 913, 914, 915, 916, 917, 918, 919, 920] (by decide +kernel) (by decide +kernel)
set_option maxRecDepth 20000 in
theorem gL_law_X11_image : GoodIn wsL_law (wsV RL 107 RX11 yX11_image wsX11_image) := goodIn_app (goodIn_of _ (by decide +kernel)) ggL_law_X11_image
set_option maxRecDepth 20000 in
theorem ggL_law_X10_on : GoodIn wsL_law wsX10_on := goodIn_r _ [877, 52, 34, 35, 39, 168, 169, 170, 2, 171, 14, 861, 862, 863, 33, 864, 78, 82, 84, 85, 865, 206, 207, 208, 503, 866, 200, 201, 25, 202, 104, 203, 204, 66, 205, 67, 68, 69, 867, 686, 687, 81, 688, 440, 89, 689, 90, 868, 347, 348, 29, 349, 73, 350, 327, 328, 329, 330, 331, 96, 97, 98, 38, 99, 95, 100, 101, 102, 103, 105, 106, 107, 108, 94, 109, 110, 111, 112, 113, 114, 115, 116, 117, 118, 119, 120, 890, 891, 892, 893, 894, 895, 896, 897, 898, 899, 900, 901, 939, 940, 941, 942, 943, 926, 927, 928, 929, 930, 931, 932, 969, 970, 971, 933, 934, 935, 936, 937, 938, 944, 945] (by decide +kernel) (by decide +kernel)
set_option maxRecDepth 20000 in
theorem gL_law_X10_on : GoodIn wsL_law (wsV RL 108 RX10 yX10_on wsX10_on) := goodIn_app (goodIn_of _ (by decide +kernel)) ggL_law_X10_on
set_option maxRecDepth 20000 in
theorem ggL_law_X11_on : GoodIn wsL_law wsX11_on := goodIn_r _ [881, 873, 153, 154, 191, 192, 193, 5, 194, 152, 902, 903, 904, 905, 906, 907, 908, 909, 910, 911, 912, 913, 914, 915, 916, 917, 918, 919, 920] (by decide +kernel) (by decide +kernel)
set_option maxRecDepth 20000 in
theorem gL_law_X11_on : GoodIn wsL_law (wsV RL 111 RX11 yX11_on wsX11_on) := goodIn_app (goodIn_of _ (by decide +kernel)) ggL_law_X11_on
set_option maxRecDepth 20000 in
theorem ggL_law_X10_count : GoodIn wsL_law wsX10_count := goodIn_r _ [885, 34, 18, 14, 648, 649, 650, 25, 651, 104, 67, 181, 182, 183, 17, 184, 176, 890, 891, 892, 893, 894, 895, 896, 897, 898, 899, 900, 901, 939, 940, 941, 942, 943, 926, 927, 928, 929, 930, 931, 932, 969, 970, 971, 921, 922] (by decide +kernel) (by decide +kernel)
set_option maxRecDepth 20000 in
theorem gL_law_X10_count : GoodIn wsL_law (wsV RL 112 RX10 yX10_count wsX10_count) := goodIn_app (goodIn_of _ (by decide +kernel)) ggL_law_X10_count
set_option maxRecDepth 20000 in
theorem ggL_law_X11_count : GoodIn wsL_law wsX11_count := goodIn_r _ [889, 152, 153, 189, 728, 729, 730, 5, 731, 902, 903, 904, 905, 906, 907, 908, 909, 910, 911, 912, 913, 914, 915, 916, 917, 918, 919, 920] (by decide +kernel) (by decide +kernel)
set_option maxRecDepth 20000 in
theorem gL_law_X11_count : GoodIn wsL_law (wsV RL 115 RX11 yX11_count wsX11_count) := goodIn_app (goodIn_of _ (by decide +kernel)) ggL_law_X11_count
