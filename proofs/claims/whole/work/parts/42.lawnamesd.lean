set_option maxRecDepth 20000 in
theorem gL_law_X11_way : GoodIn wsL_law (wsV RL 91 RX11 yX11_way wsX11_way) := goodIn_app (goodIn_of _ (by decide +kernel)) ggL_law_X11_way
set_option maxRecDepth 20000 in
theorem ggL_law_X10_free : GoodIn wsL_law wsX10_free := goodIn_r _ [796, 34, 433, 434, 2, 435, 168, 169, 170, 171, 14, 797, 101, 102, 25, 103, 104, 780, 501, 502, 33, 503, 82, 504, 505, 506, 507, 508, 85, 495, 496, 497, 498, 499, 343, 344, 345, 78, 891, 892, 893, 894, 895, 896, 897, 898, 899, 900, 901, 902, 940, 941, 942, 943, 944, 970, 971, 972, 927, 928, 929, 930, 931, 932, 933] (by decide +kernel) (by decide +kernel)
set_option maxRecDepth 20000 in
theorem gL_law_X10_free : GoodIn wsL_law (wsV RL 92 RX10 yX10_free wsX10_free) := goodIn_app (goodIn_of _ (by decide +kernel)) ggL_law_X10_free
set_option maxRecDepth 20000 in
theorem ggL_law_X11_free : GoodIn wsL_law wsX11_free := goodIn_r _ [801, 153, 409, 410, 5, 411, 191, 192, 193, 194, 152, 579, 580, 581, 582, 575, 576, 577, 578, 571, 572, 573, 574, 563, 564, 565, 566, 583, 584, 585, 586, 903, 904, 905, 906, 907, 908, 909, 910, 911, 912, 913, 914, 915, 916, 917, 918, 919, 920, 921] (by decide +kernel) (by decide +kernel)
set_option maxRecDepth 20000 in
theorem gL_law_X11_free : GoodIn wsL_law (wsV RL 95 RX11 yX11_free wsX11_free) := goodIn_app (goodIn_of _ (by decide +kernel)) ggL_law_X11_free
set_option maxRecDepth 20000 in
theorem ggL_law_X10_out : GoodIn wsL_law wsX10_out := goodIn_r _ [805, 34, 51, 168, 169, 170, 2, 171, 14, 806, 807, 808, 50, 809, 810, 13, 811, 812, 813, 814, 815, 816, 146, 817, 818, 819, 29, 820, 327, 328, 73, 821, 822, 823, 824, 147, 825, 671, 672, 673, 826, 827, 828, 829, 830, 831, 832, 833, 834, 835, 836, 837, 838, 839, 840, 891, 892, 893, 894, 895, 896, 897, 898, 899, 900, 901, 902, 940, 941, 942, 943, 944, 934, 935, 936, 937, 938, 939, 965, 966, 967, 968, 969] (by decide +kernel) (by decide +kernel)
set_option maxRecDepth 20000 in
theorem gL_law_X10_out : GoodIn wsL_law (wsV RL 96 RX10 yX10_out wsX10_out) := goodIn_app (goodIn_of _ (by decide +kernel)) ggL_law_X10_out
set_option maxRecDepth 20000 in
theorem ggL_law_X11_out : GoodIn wsL_law wsX11_out := goodIn_r _ [844, 153, 161, 162, 163, 191, 192, 193, 5, 194, 152, 845, 846, 847, 848, 903, 904, 905, 906, 907, 908, 909, 910, 911, 912, 913, 914, 915, 916, 917, 918, 919, 920, 921] (by decide +kernel) (by decide +kernel)
set_option maxRecDepth 20000 in
theorem gL_law_X11_out : GoodIn wsL_law (wsV RL 99 RX11 yX11_out wsX11_out) := goodIn_app (goodIn_of _ (by decide +kernel)) ggL_law_X11_out
set_option maxRecDepth 20000 in
theorem ggL_law_X10_square : GoodIn wsL_law wsX10_square := goodIn_r _ [852, 34, 168, 169, 170, 2, 171, 14, 853, 818, 819, 29, 820, 327, 328, 73, 891, 892, 893, 894, 895, 896, 897, 898, 899, 900, 901, 902, 940, 941, 942, 943, 944, 934, 935, 936, 937, 938, 939] (by decide +kernel) (by decide +kernel)
set_option maxRecDepth 20000 in
theorem gL_law_X10_square : GoodIn wsL_law (wsV RL 100 RX10 yX10_square wsX10_square) := goodIn_app (goodIn_of _ (by decide +kernel)) ggL_law_X10_square
set_option maxRecDepth 20000 in
theorem ggL_law_X11_square : GoodIn wsL_law wsX11_square := goodIn_r _ [857, 153, 191, 192, 193, 5, 194, 152, 379, 380, 381, 903, 904, 905, 906, 907, 908, 909, 910, 911, 912, 913, 914, 915, 916, 917, 918, 919, 920, 921] (by decide +kernel) (by decide +kernel)
set_option maxRecDepth 20000 in
theorem gL_law_X11_square : GoodIn wsL_law (wsV RL 103 RX11 yX11_square wsX11_square) := goodIn_app (goodIn_of _ (by decide +kernel)) ggL_law_X11_square
set_option maxRecDepth 20000 in
theorem ggL_law_X10_image : GoodIn wsL_law wsX10_image := goodIn_r _ [861, 35, 34, 52, 862, 863, 864, 33, 865, 78, 82, 84, 85, 866, 206, 207, 208, 504, 867, 200, 201, 25, 202, 104, 203, 204, 66, 205, 67, 68, 69, 868, 687, 688, 81, 689, 440, 89, 690, 90, 869, 347, 348, 29, 349, 73, 350, 327, 328, 329, 330, 331, 891, 892, 893, 894, 895, 896, 897, 898, 899, 900, 901, 902, 940, 941, 942, 943, 944, 927, 928, 929, 930, 931, 932, 933, 970, 971, 972, 934, 935, 936, 937, 938, 939] (by decide +kernel) (by decide +kernel)
set_option maxRecDepth 20000 in
theorem gL_law_X10_image : GoodIn wsL_law (wsV RL 104 RX10 yX10_image wsX10_image) := goodIn_app (goodIn_of _ (by decide +kernel)) ggL_law_X10_image
set_option maxRecDepth 20000 in
theorem ggL_law_X11_image : GoodIn wsL_law wsX11_image := goodIn_r _ [873, 154, 153, 874, 903, 904, 905, 906, 907, 908, 909, 910, 911, 912, 913, 914, 915, 916, 917, 918, 919, 920, 921] (by decide +kernel) (by decide +kernel)
set_option maxRecDepth 20000 in
theorem gL_law_X11_image : GoodIn wsL_law (wsV RL 107 RX11 yX11_image wsX11_image) := goodIn_app (goodIn_of _ (by decide +kernel)) ggL_law_X11_image
set_option maxRecDepth 20000 in
theorem ggL_law_X10_on : GoodIn wsL_law wsX10_on := goodIn_r _ [878, 52, 34, 35, 39, 168, 169, 170, 2, 171, 14, 862, 863, 864, 33, 865, 78, 82, 84, 85, 866, 206, 207, 208, 504, 867, 200, 201, 25, 202, 104, 203, 204, 66, 205, 67, 68, 69, 868, 687, 688, 81, 689, 440, 89, 690, 90, 869, 347, 348, 29, 349, 73, 350, 327, 328, 329, 330, 331, 96, 97, 98, 38, 99, 95, 100, 101, 102, 103, 105, 106, 107, 108, 94, 109, 110, 111, 112, 113, 114, 115, 116, 117, 118, 119, 120, 891, 892, 893, 894, 895, 896, 897, 898, 899, 900, 901, 902, 940, 941, 942, 943, 944, 927, 928, 929, 930, 931, 932, 933, 970, 971, 972, 934, 935, 936, 937, 938, 939, 945, 946] (by decide +kernel) (by decide +kernel)
set_option maxRecDepth 20000 in
theorem gL_law_X10_on : GoodIn wsL_law (wsV RL 108 RX10 yX10_on wsX10_on) := goodIn_app (goodIn_of _ (by decide +kernel)) ggL_law_X10_on
set_option maxRecDepth 20000 in
theorem ggL_law_X11_on : GoodIn wsL_law wsX11_on := goodIn_r _ [882, 874, 153, 154, 191, 192, 193, 5, 194, 152, 903, 904, 905, 906, 907, 908, 909, 910, 911, 912, 913, 914, 915, 916, 917, 918, 919, 920, 921] (by decide +kernel) (by decide +kernel)
set_option maxRecDepth 20000 in
theorem gL_law_X11_on : GoodIn wsL_law (wsV RL 111 RX11 yX11_on wsX11_on) := goodIn_app (goodIn_of _ (by decide +kernel)) ggL_law_X11_on
set_option maxRecDepth 20000 in
theorem ggL_law_X10_count : GoodIn wsL_law wsX10_count := goodIn_r _ [886, 34, 18, 14, 649, 650, 651, 25, 652, 104, 67, 181, 182, 183, 17, 184, 176, 891, 892, 893, 894, 895, 896, 897, 898, 899, 900, 901, 902, 940, 941, 942, 943, 944, 927, 928, 929, 930, 931, 932, 933, 970, 971, 972, 922, 923] (by decide +kernel) (by decide +kernel)
set_option maxRecDepth 20000 in
theorem gL_law_X10_count : GoodIn wsL_law (wsV RL 112 RX10 yX10_count wsX10_count) := goodIn_app (goodIn_of _ (by decide +kernel)) ggL_law_X10_count
set_option maxRecDepth 20000 in
theorem ggL_law_X11_count : GoodIn wsL_law wsX11_count := goodIn_r _ [890, 152, 153, 189, 729, 730, 731, 5, 732, 903, 904, 905, 906, 907, 908, 909, 910, 911, 912, 913, 914, 915, 916, 917, 918, 919, 920, 921] (by decide +kernel) (by decide +kernel)
set_option maxRecDepth 20000 in
theorem gL_law_X11_count : GoodIn wsL_law (wsV RL 115 RX11 yX11_count wsX11_count) := goodIn_app (goodIn_of _ (by decide +kernel)) ggL_law_X11_count
