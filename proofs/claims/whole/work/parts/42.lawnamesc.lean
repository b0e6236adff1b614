set_option maxRecDepth 20000 in
theorem ggL_law_X11_judged : GoodIn wsL_law wsX11_judged := goodIn_r _ [548, 549, 550, 153, 379, 380, 5, 381, 191, 192, 193, 194, 152, 551, 552, 553, 554, 555, 556, 557, 558, 559, 560, 561, 562, 563, 564, 565, 566, 567, 568, 569, 570, 571, 572, 573, 574, 575, 576, 577, 578, 579, 580, 581, 582, 583, 584, 585, 586, 587, 588, 589, 590, 591, 592, 593, 594, 595, 596, 597, 598, 599, 600, 601, 602, 603, 604, 605, 606, 607, 608, 609, 610, 611, 612, 613, 614, 615, 616, 617, 618, 158, 619, 620, 621, 622, 623, 624, 625, 626, 903, 904, 905, 906, 907, 908, 909, 910, 911, 912, 913, 914, 915, 916, 917, 918, 919, 920, 921] (by decide +kernel) (by decide +kernel)
set_option maxRecDepth 20000 in
theorem gL_law_X11_judged : GoodIn wsL_law (wsV RL 66 RX11 yX11_judged wsX11_judged) := goodIn_app (goodIn_of _ (by decide +kernel)) ggL_law_X11_judged
set_option maxRecDepth 20000 in
theorem ggL_law_X10_done : GoodIn wsL_law wsX10_done := goodIn_r _ [630, 34, 631, 492, 493, 33, 494, 82, 495, 496, 497, 498, 85, 499, 343, 344, 345, 78, 891, 892, 893, 894, 895, 896, 897, 898, 899, 900, 901, 902, 940, 941, 942, 943, 944, 970, 971, 972, 927, 928, 929, 930, 931, 932, 933] (by decide +kernel) (by decide +kernel)
set_option maxRecDepth 20000 in
theorem gL_law_X10_done : GoodIn wsL_law (wsV RL 67 RX10 yX10_done wsX10_done) := goodIn_app (goodIn_of _ (by decide +kernel)) ggL_law_X10_done
set_option maxRecDepth 20000 in
theorem ggL_law_X11_done : GoodIn wsL_law wsX11_done := goodIn_r _ [635, 153, 571, 572, 573, 5, 574, 575, 576, 577, 578, 563, 564, 565, 566, 903, 904, 905, 906, 907, 908, 909, 910, 911, 912, 913, 914, 915, 916, 917, 918, 919, 920, 921] (by decide +kernel) (by decide +kernel)
set_option maxRecDepth 20000 in
theorem gL_law_X11_done : GoodIn wsL_law (wsV RL 70 RX11 yX11_done wsX11_done) := goodIn_app (goodIn_of _ (by decide +kernel)) ggL_law_X11_done
set_option maxRecDepth 20000 in
theorem ggL_law_X10_where : GoodIn wsL_law wsX10_where := goodIn_r _ [639, 34, 43, 168, 169, 170, 2, 171, 14, 640, 484, 485, 42, 486, 125, 487, 488, 489, 490, 491, 492, 493, 33, 494, 82, 495, 496, 497, 498, 85, 499, 343, 344, 345, 78, 500, 501, 502, 503, 504, 505, 506, 507, 508, 509, 510, 511, 25, 512, 68, 104, 891, 892, 893, 894, 895, 896, 897, 898, 899, 900, 901, 902, 940, 941, 942, 943, 944, 970, 971, 972, 947, 948, 949, 950, 927, 928, 929, 930, 931, 932, 933] (by decide +kernel) (by decide +kernel)
set_option maxRecDepth 20000 in
theorem gL_law_X10_where : GoodIn wsL_law (wsV RL 71 RX10 yX10_where wsX10_where) := goodIn_app (goodIn_of _ (by decide +kernel)) ggL_law_X10_where
set_option maxRecDepth 20000 in
theorem ggL_law_X11_where : GoodIn wsL_law wsX11_where := goodIn_r _ [644, 153, 379, 380, 5, 381, 555, 556, 557, 558, 559, 560, 561, 562, 563, 564, 565, 566, 567, 568, 569, 570, 571, 572, 573, 574, 575, 576, 577, 578, 579, 580, 581, 582, 583, 584, 585, 586, 191, 192, 193, 194, 152, 903, 904, 905, 906, 907, 908, 909, 910, 911, 912, 913, 914, 915, 916, 917, 918, 919, 920, 921] (by decide +kernel) (by decide +kernel)
set_option maxRecDepth 20000 in
theorem gL_law_X11_where : GoodIn wsL_law (wsV RL 74 RX11 yX11_where wsX11_where) := goodIn_app (goodIn_of _ (by decide +kernel)) ggL_law_X11_where
set_option maxRecDepth 20000 in
theorem ggL_law_X10_soonest : GoodIn wsL_law wsX10_soonest := goodIn_r _ [648, 34, 47, 168, 169, 170, 2, 171, 14, 649, 650, 651, 25, 652, 104, 67, 653, 654, 655, 46, 656, 657, 658, 659, 660, 661, 662, 140, 141, 663, 538, 42, 539, 540, 118, 119, 120, 69, 664, 665, 666, 667, 668, 133, 139, 134, 135, 136, 137, 138, 142, 669, 462, 463, 81, 464, 440, 670, 671, 672, 673, 674, 496, 497, 33, 498, 85, 499, 343, 344, 345, 78, 675, 506, 507, 508, 495, 676, 526, 527, 528, 677, 534, 535, 38, 536, 95, 678, 679, 680, 681, 682, 683, 684, 685, 132, 686, 687, 688, 689, 89, 690, 206, 207, 208, 90, 691, 692, 693, 694, 695, 696, 697, 698, 699, 700, 701, 702, 703, 514, 515, 516, 94, 704, 705, 706, 707, 708, 510, 511, 512, 68, 709, 710, 711, 712, 713, 442, 443, 444, 714, 715, 716, 717, 718, 891, 892, 893, 894, 895, 896, 897, 898, 899, 900, 901, 902, 940, 941, 942, 943, 944, 927, 928, 929, 930, 931, 932, 933, 951, 952, 953, 954, 955, 956, 957, 958, 959, 960, 961, 962, 963, 964, 970, 971, 972, 945, 946] (by decide +kernel) (by decide +kernel)
set_option maxRecDepth 20000 in
theorem gL_law_X10_soonest : GoodIn wsL_law (wsV RL 75 RX10 yX10_soonest wsX10_soonest) := goodIn_app (goodIn_of _ (by decide +kernel)) ggL_law_X10_soonest
set_option maxRecDepth 20000 in
theorem ggL_law_X11_soonest : GoodIn wsL_law wsX11_soonest := goodIn_r _ [722, 723, 153, 724, 159, 725, 726, 727, 5, 728, 729, 730, 731, 732, 191, 192, 193, 194, 152, 733, 734, 735, 736, 160, 615, 616, 617, 618, 158, 587, 588, 589, 590, 591, 592, 593, 594, 567, 568, 569, 570, 737, 738, 739, 740, 571, 572, 573, 574, 575, 576, 577, 578, 563, 564, 565, 566, 603, 604, 605, 606, 741, 742, 743, 744, 551, 552, 553, 554, 555, 556, 557, 558, 559, 560, 561, 562, 579, 580, 581, 582, 583, 584, 585, 586, 595, 596, 597, 598, 599, 600, 601, 602, 611, 612, 613, 614, 619, 620, 621, 622, 623, 624, 625, 626, 903, 904, 905, 906, 907, 908, 909, 910, 911, 912, 913, 914, 915, 916, 917, 918, 919, 920, 921] (by decide +kernel) (by decide +kernel)
set_option maxRecDepth 20000 in
theorem gL_law_X11_soonest : GoodIn wsL_law (wsV RL 78 RX11 yX11_soonest wsX11_soonest) := goodIn_app (goodIn_of _ (by decide +kernel)) ggL_law_X11_soonest
set_option maxRecDepth 20000 in
theorem ggL_law_X10_fewest : GoodIn wsL_law wsX10_fewest := goodIn_r _ [748, 34, 47, 168, 169, 170, 2, 171, 14, 433, 434, 435, 649, 650, 651, 25, 652, 104, 67, 749, 750, 751, 46, 752, 141, 657, 659, 660, 661, 662, 140, 663, 538, 42, 539, 540, 118, 119, 120, 69, 753, 754, 755, 756, 757, 758, 759, 664, 665, 666, 667, 658, 668, 133, 139, 134, 135, 136, 137, 138, 142, 669, 462, 463, 81, 464, 440, 670, 671, 672, 673, 674, 496, 497, 33, 498, 85, 499, 343, 344, 345, 78, 675, 506, 507, 508, 495, 676, 526, 527, 528, 677, 534, 535, 38, 536, 95, 678, 679, 680, 681, 682, 683, 684, 685, 132, 686, 687, 688, 689, 89, 690, 206, 207, 208, 90, 691, 692, 693, 694, 695, 696, 697, 698, 699, 700, 701, 702, 703, 514, 515, 516, 94, 704, 705, 706, 707, 708, 510, 511, 512, 68, 709, 710, 711, 712, 713, 442, 443, 444, 714, 715, 716, 717, 891, 892, 893, 894, 895, 896, 897, 898, 899, 900, 901, 902, 940, 941, 942, 943, 944, 927, 928, 929, 930, 931, 932, 933, 951, 952, 953, 954, 955, 956, 957, 958, 959, 960, 961, 962, 963, 964, 970, 971, 972, 945, 946] (by decide +kernel) (by decide +kernel)
set_option maxRecDepth 20000 in
theorem gL_law_X10_fewest : GoodIn wsL_law (wsV RL 79 RX10 yX10_fewest wsX10_fewest) := goodIn_app (goodIn_of _ (by decide +kernel)) ggL_law_X10_fewest
set_option maxRecDepth 20000 in
theorem ggL_law_X11_fewest : GoodIn wsL_law wsX11_fewest := goodIn_r _ [763, 153, 723, 409, 410, 5, 411, 725, 726, 727, 728, 729, 730, 731, 732, 191, 192, 193, 194, 152, 764, 765, 766, 425, 426, 427, 428, 733, 734, 735, 736, 160, 615, 616, 617, 618, 158, 587, 588, 589, 590, 591, 592, 593, 594, 567, 568, 569, 570, 737, 738, 739, 740, 724, 159, 571, 572, 573, 574, 575, 576, 577, 578, 563, 564, 565, 566, 603, 604, 605, 606, 741, 742, 743, 744, 551, 552, 553, 554, 555, 556, 557, 558, 559, 560, 561, 562, 579, 580, 581, 582, 583, 584, 585, 586, 595, 596, 597, 598, 599, 600, 601, 602, 611, 612, 613, 614, 619, 620, 621, 622, 623, 624, 625, 626, 903, 904, 905, 906, 907, 908, 909, 910, 911, 912, 913, 914, 915, 916, 917, 918, 919, 920, 921] (by decide +kernel) (by decide +kernel)
set_option maxRecDepth 20000 in
theorem gL_law_X11_fewest : GoodIn wsL_law (wsV RL 82 RX11 yX11_fewest wsX11_fewest) := goodIn_app (goodIn_of _ (by decide +kernel)) ggL_law_X11_fewest
set_option maxRecDepth 20000 in
theorem ggL_law_X10_cuts : GoodIn wsL_law wsX10_cuts := goodIn_r _ [770, 34, 39, 771, 534, 535, 38, 536, 95, 891, 892, 893, 894, 895, 896, 897, 898, 899, 900, 901, 902, 940, 941, 942, 943, 944, 927, 928, 929, 930, 931, 932, 933, 945, 946] (by decide +kernel) (by decide +kernel)
set_option maxRecDepth 20000 in
theorem gL_law_X10_cuts : GoodIn wsL_law (wsV RL 83 RX10 yX10_cuts wsX10_cuts) := goodIn_app (goodIn_of _ (by decide +kernel)) ggL_law_X10_cuts
set_option maxRecDepth 20000 in
theorem ggL_law_X11_cuts : GoodIn wsL_law wsX11_cuts := goodIn_r _ [775, 153, 587, 588, 589, 5, 590, 591, 592, 593, 594, 567, 568, 569, 570, 903, 904, 905, 906, 907, 908, 909, 910, 911, 912, 913, 914, 915, 916, 917, 918, 919, 920, 921] (by decide +kernel) (by decide +kernel)
set_option maxRecDepth 20000 in
theorem gL_law_X11_cuts : GoodIn wsL_law (wsV RL 86 RX11 yX11_cuts wsX11_cuts) := goodIn_app (goodIn_of _ (by decide +kernel)) ggL_law_X11_cuts
set_option maxRecDepth 20000 in
theorem ggL_law_X10_way : GoodIn wsL_law wsX10_way := goodIn_r _ [779, 34, 386, 264, 265, 25, 266, 104, 168, 169, 170, 2, 171, 14, 433, 434, 435, 780, 501, 502, 33, 503, 82, 504, 505, 506, 507, 508, 85, 495, 496, 497, 498, 499, 343, 344, 345, 78, 781, 782, 783, 784, 420, 101, 102, 103, 785, 786, 787, 788, 68, 891, 892, 893, 894, 895, 896, 897, 898, 899, 900, 901, 902, 940, 941, 942, 943, 944, 970, 971, 972, 927, 928, 929, 930, 931, 932, 933] (by decide +kernel) (by decide +kernel)
set_option maxRecDepth 20000 in
theorem gL_law_X10_way : GoodIn wsL_law (wsV RL 87 RX10 yX10_way wsX10_way) := goodIn_app (goodIn_of _ (by decide +kernel)) ggL_law_X10_way
set_option maxRecDepth 20000 in
theorem ggL_law_X11_way : GoodIn wsL_law wsX11_way := goodIn_r _ [792, 153, 375, 376, 377, 5, 378, 379, 380, 381, 409, 410, 411, 191, 192, 193, 194, 152, 579, 580, 581, 582, 575, 576, 577, 578, 571, 572, 573, 574, 563, 564, 565, 566, 583, 584, 585, 586, 591, 592, 593, 594, 567, 568, 569, 570, 903, 904, 905, 906, 907, 908, 909, 910, 911, 912, 913, 914, 915, 916, 917, 918, 919, 920, 921] (by decide +kernel) (by decide +kernel)
