set_option maxRecDepth 20000 in
theorem ggL_law_X11_judged : GoodIn wsL_law wsX11_judged := goodIn_r _ [547, 548, 549, 153, 379, 380, 5, 381, 191, 192, 193, 194, 152, 550, 551, 552, 553, 554, 555, 556, 557, 558, 559, 560, 561, 562, 563, 564, 565, 566, 567, 568, 569, 570, 571, 572, 573, 574, 575, 576, 577, 578, 579, 580, 581, 582, 583, 584, 585, 586, 587, 588, 589, 590, 591, 592, 593, 594, 595, 596, 597, 598, 599, 600, 601, 602, 603, 604, 605, 606, 607, 608, 609, 610, 611, 612, 613, 614, 615, 616, 617, 158, 618, 619, 620, 621, 622, 623, 624, 625, 902, 903, 904, 905, 906, 907, 908, 909, 910, 911, 912, 913, 914, 915, 916, 917, 918, 919, 920] (by decide +kernel) (by decide +kernel)
set_option maxRecDepth 20000 in
theorem gL_law_X11_judged : GoodIn wsL_law (wsV RL 66 RX11 yX11_judged wsX11_judged) := goodIn_app (goodIn_of _ (by decide +kernel)) ggL_law_X11_judged
set_option maxRecDepth 20000 in
theorem ggL_law_X10_done : GoodIn wsL_law wsX10_done := goodIn_r _ [629, 34, 630, 492, 493, 33, 494, 82, 495, 496, 497, 498, 85, 78, 890, 891, 892, 893, 894, 895, 896, 897, 898, 899, 900, 901, 939, 940, 941, 942, 943, 969, 970, 971, 926, 927, 928, 929, 930, 931, 932] (by decide +kernel) (by decide +kernel)
set_option maxRecDepth 20000 in
theorem gL_law_X10_done : GoodIn wsL_law (wsV RL 67 RX10 yX10_done wsX10_done) := goodIn_app (goodIn_of _ (by decide +kernel)) ggL_law_X10_done
set_option maxRecDepth 20000 in
theorem ggL_law_X11_done : GoodIn wsL_law wsX11_done := goodIn_r _ [634, 153, 570, 571, 572, 5, 573, 574, 575, 576, 577, 562, 563, 564, 565, 902, 903, 904, 905, 906, 907, 908, 909, 910, 911, 912, 913, 914, 915, 916, 917, 918, 919, 920] (by decide +kernel) (by decide +kernel)
set_option maxRecDepth 20000 in
theorem gL_law_X11_done : GoodIn wsL_law (wsV RL 70 RX11 yX11_done wsX11_done) := goodIn_app (goodIn_of _ (by decide +kernel)) ggL_law_X11_done
set_option maxRecDepth 20000 in
theorem ggL_law_X10_where : GoodIn wsL_law wsX10_where := goodIn_r _ [638, 34, 43, 168, 169, 170, 2, 171, 14, 639, 484, 485, 42, 486, 125, 487, 488, 489, 490, 491, 492, 493, 33, 494, 82, 495, 496, 497, 498, 85, 78, 499, 500, 501, 502, 503, 504, 505, 506, 507, 508, 509, 510, 25, 511, 68, 104, 890, 891, 892, 893, 894, 895, 896, 897, 898, 899, 900, 901, 939, 940, 941, 942, 943, 969, 970, 971, 946, 947, 948, 949, 926, 927, 928, 929, 930, 931, 932] (by decide +kernel) (by decide +kernel)
set_option maxRecDepth 20000 in
theorem gL_law_X10_where : GoodIn wsL_law (wsV RL 71 RX10 yX10_where wsX10_where) := goodIn_app (goodIn_of _ (by decide +kernel)) ggL_law_X10_where
set_option maxRecDepth 20000 in
theorem ggL_law_X11_where : GoodIn wsL_law wsX11_where := goodIn_r _ [643, 153, 379, 380, 5, 381, 554, 555, 556, 557, 558, 559, 560, 561, 562, 563, 564, 565, 566, 567, 568, 569, 570, 571, 572, 573, 574, 575, 576, 577, 578, 579, 580, 581, 582, 583, 584, 585, 191, 192, 193, 194, 152, 902, 903, 904, 905, 906, 907, 908, 909, 910, 911, 912, 913, 914, 915, 916, 917, 918, 919, 920] (by decide +kernel) (by decide +kernel)
set_option maxRecDepth 20000 in
theorem gL_law_X11_where : GoodIn wsL_law (wsV RL 74 RX11 yX11_where wsX11_where) := goodIn_app (goodIn_of _ (by decide +kernel)) ggL_law_X11_where
set_option maxRecDepth 20000 in
theorem ggL_law_X10_soonest : GoodIn wsL_law wsX10_soonest := goodIn_r _ [647, 34, 47, 168, 169, 170, 2, 171, 14, 648, 649, 650, 25, 651, 104, 67, 652, 653, 654, 46, 655, 656, 657, 658, 659, 660, 661, 140, 141, 662, 537, 42, 538, 539, 118, 119, 120, 69, 663, 664, 665, 666, 667, 133, 139, 134, 135, 136, 137, 138, 142, 668, 462, 463, 81, 464, 440, 669, 670, 671, 672, 673, 496, 497, 33, 498, 85, 78, 674, 505, 506, 507, 495, 675, 525, 526, 527, 676, 533, 534, 38, 535, 95, 677, 678, 679, 680, 681, 682, 683, 684, 132, 685, 686, 687, 688, 89, 689, 206, 207, 208, 90, 690, 691, 692, 693, 694, 695, 344, 696, 697, 343, 345, 698, 699, 700, 701, 702, 513, 514, 515, 94, 703, 704, 705, 706, 707, 509, 510, 511, 68, 708, 709, 710, 711, 712, 442, 443, 444, 713, 714, 715, 716, 717, 890, 891, 892, 893, 894, 895, 896, 897, 898, 899, 900, 901, 939, 940, 941, 942, 943, 926, 927, 928, 929, 930, 931, 932, 950, 951, 952, 953, 954, 955, 956, 957, 958, 959, 960, 961, 962, 963, 969, 970, 971, 944, 945] (by decide +kernel) (by decide +kernel)
set_option maxRecDepth 20000 in
theorem gL_law_X10_soonest : GoodIn wsL_law (wsV RL 75 RX10 yX10_soonest wsX10_soonest) := goodIn_app (goodIn_of _ (by decide +kernel)) ggL_law_X10_soonest
set_option maxRecDepth 20000 in
theorem ggL_law_X11_soonest : GoodIn wsL_law wsX11_soonest := goodIn_r _ [721, 722, 153, 723, 159, 724, 725, 726, 5, 727, 728, 729, 730, 731, 191, 192, 193, 194, 152, 732, 733, 734, 735, 160, 614, 615, 616, 617, 158, 586, 587, 588, 589, 590, 591, 592, 593, 566, 567, 568, 569, 736, 737, 738, 739, 570, 571, 572, 573, 574, 575, 576, 577, 562, 563, 564, 565, 602, 603, 604, 605, 740, 741, 742, 743, 550, 551, 552, 553, 554, 555, 556, 557, 558, 559, 560, 561, 578, 579, 580, 581, 582, 583, 584, 585, 594, 595, 596, 597, 598, 599, 600, 601, 610, 611, 612, 613, 618, 619, 620, 621, 622, 623, 624, 625, 902, 903, 904, 905, 906, 907, 908, 909, 910, 911, 912, 913, 914, 915, 916, 917, 918, 919, 920] (by decide +kernel) (by decide +kernel)
set_option maxRecDepth 20000 in
theorem gL_law_X11_soonest : GoodIn wsL_law (wsV RL 78 RX11 yX11_soonest wsX11_soonest) := goodIn_app (goodIn_of _ (by decide +kernel)) ggL_law_X11_soonest
set_option maxRecDepth 20000 in
theorem ggL_law_X10_fewest : GoodIn wsL_law wsX10_fewest := goodIn_r _ [747, 34, 47, 168, 169, 170, 2, 171, 14, 433, 434, 435, 648, 649, 650, 25, 651, 104, 67, 748, 749, 750, 46, 751, 141, 656, 658, 659, 660, 661, 140, 662, 537, 42, 538, 539, 118, 119, 120, 69, 752, 753, 754, 755, 756, 757, 758, 663, 664, 665, 666, 657, 667, 133, 139, 134, 135, 136, 137, 138, 142, 668, 462, 463, 81, 464, 440, 669, 670, 671, 672, 673, 496, 497, 33, 498, 85, 78, 674, 505, 506, 507, 495, 675, 525, 526, 527, 676, 533, 534, 38, 535, 95, 677, 678, 679, 680, 681, 682, 683, 684, 132, 685, 686, 687, 688, 89, 689, 206, 207, 208, 90, 690, 691, 692, 693, 694, 695, 344, 696, 697, 343, 345, 698, 699, 700, 701, 702, 513, 514, 515, 94, 703, 704, 705, 706, 707, 509, 510, 511, 68, 708, 709, 710, 711, 712, 442, 443, 444, 713, 714, 715, 716, 890, 891, 892, 893, 894, 895, 896, 897, 898, 899, 900, 901, 939, 940, 941, 942, 943, 926, 927, 928, 929, 930, 931, 932, 950, 951, 952, 953, 954, 955, 956, 957, 958, 959, 960, 961, 962, 963, 969, 970, 971, 944, 945] (by decide +kernel) (by decide +kernel)
set_option maxRecDepth 20000 in
theorem gL_law_X10_fewest : GoodIn wsL_law (wsV RL 79 RX10 yX10_fewest wsX10_fewest) := goodIn_app (goodIn_of _ (by decide +kernel)) ggL_law_X10_fewest
set_option maxRecDepth 20000 in
theorem ggL_law_X11_fewest : GoodIn wsL_law wsX11_fewest := goodIn_r _ [762, 153, 722, 409, 410, 5, 411, 724, 725, 726, 727, 728, 729, 730, 731, 191, 192, 193, 194, 152, 763, 764, 765, 425, 426, 427, 428, 732, 733, 734, 735, 160, 614, 615, 616, 617, 158, 586, 587, 588, 589, 590, 591, 592, 593, 566, 567, 568, 569, 736, 737, 738, 739, 723, 159, 570, 571, 572, 573, 574, 575, 576, 577, 562, 563, 564, 565, 602, 603, 604, 605, 740, 741, 742, 743, 550, 551, 552, 553, 554, 555, 556, 557, 558, 559, 560, 561, 578, 579, 580, 581, 582, 583, 584, 585, 594, 595, 596, 597, 598, 599, 600, 601, 610, 611, 612, 613, 618, 619, 620, 621, 622, 623, 624, 625, 902, 903, 904, 905, 906, 907, 908, 909, 910, 911, 912, 913, 914, 915, 916, 917, 918, 919, 920] (by decide +kernel) (by decide +kernel)
set_option maxRecDepth 20000 in
theorem gL_law_X11_fewest : GoodIn wsL_law (wsV RL 82 RX11 yX11_fewest wsX11_fewest) := goodIn_app (goodIn_of _ (by decide +kernel)) ggL_law_X11_fewest
set_option maxRecDepth 20000 in
theorem ggL_law_X10_cuts : GoodIn wsL_law wsX10_cuts := goodIn_r _ [769, 34, 39, 770, 533, 534, 38, 535, 95, 890, 891, 892, 893, 894, 895, 896, 897, 898, 899, 900, 901, 939, 940, 941, 942, 943, 926, 927, 928, 929, 930, 931, 932, 944, 945] (by decide +kernel) (by decide +kernel)
set_option maxRecDepth 20000 in
theorem gL_law_X10_cuts : GoodIn wsL_law (wsV RL 83 RX10 yX10_cuts wsX10_cuts) := goodIn_app (goodIn_of _ (by decide +kernel)) ggL_law_X10_cuts
set_option maxRecDepth 20000 in
theorem ggL_law_X11_cuts : GoodIn wsL_law wsX11_cuts := goodIn_r _ [774, 153, 586, 587, 588, 5, 589, 590, 591, 592, 593, 566, 567, 568, 569, 902, 903, 904, 905, 906, 907, 908, 909, 910, 911, 912, 913, 914, 915, 916, 917, 918, 919, 920] (by decide +kernel) (by decide +kernel)
set_option maxRecDepth 20000 in
theorem gL_law_X11_cuts : GoodIn wsL_law (wsV RL 86 RX11 yX11_cuts wsX11_cuts) := goodIn_app (goodIn_of _ (by decide +kernel)) ggL_law_X11_cuts
set_option maxRecDepth 20000 in
theorem ggL_law_X10_way : GoodIn wsL_law wsX10_way := goodIn_r _ [778, 34, 386, 264, 265, 25, 266, 104, 168, 169, 170, 2, 171, 14, 433, 434, 435, 779, 500, 501, 33, 502, 82, 503, 504, 505, 506, 507, 85, 495, 496, 497, 498, 78, 780, 781, 782, 783, 420, 101, 102, 103, 784, 785, 786, 787, 68, 890, 891, 892, 893, 894, 895, 896, 897, 898, 899, 900, 901, 939, 940, 941, 942, 943, 969, 970, 971, 926, 927, 928, 929, 930, 931, 932] (by decide +kernel) (by decide +kernel)
set_option maxRecDepth 20000 in
theorem gL_law_X10_way : GoodIn wsL_law (wsV RL 87 RX10 yX10_way wsX10_way) := goodIn_app (goodIn_of _ (by decide +kernel)) ggL_law_X10_way
set_option maxRecDepth 20000 in
theorem ggL_law_X11_way : GoodIn wsL_law wsX11_way := goodIn_r _ [791, 153, 375, 376, 377, 5, 378, 379, 380, 381, 409, 410, 411, 191, 192, 193, 194, 152, 578, 579, 580, 581, 574, 575, 576, 577, 570, 571, 572, 573, 562, 563, 564, 565, 582, 583, 584, 585, 590, 591, 592, 593, 566, 567, 568, 569, 902, 903, 904, 905, 906, 907, 908, 909, 910, 911, 912, 913, 914, 915, 916, 917, 918, 919, 920] (by decide +kernel) (by decide +kernel)
