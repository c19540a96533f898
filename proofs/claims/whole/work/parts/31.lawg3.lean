set_option maxRecDepth 20000 in
theorem ggL_law_X11_spoiled : GoodIn wsL_law wsX11_spoiled := goodIn_r _ [720, 24, 380, 721, 722, 723, 77, 724, 318, 725, 726, 727, 728, 85, 729, 730, 731, 36, 732, 313, 90, 733, 734, 735, 736, 879, 880, 881, 882, 883, 884, 885, 886, 887, 888, 889, 890, 891, 923, 924, 925, 926, 927, 928, 929, 963, 964, 937, 938] (by decide +kernel) (by decide +kernel)
set_option maxRecDepth 20000 in
theorem gL_law_X11_spoiled : GoodIn wsL_law (wsV RL 96 RX11 yX11_spoiled wsX11_spoiled) := goodIn_app (goodIn_of _ (by decide +kernel)) ggL_law_X11_spoiled
set_option maxRecDepth 20000 in
theorem ggL_law_X12_spoiled : GoodIn wsL_law wsX12_spoiled := goodIn_r _ [740, 163, 185, 186, 5, 187, 741, 742, 743, 744, 892, 893, 894, 895, 896, 897, 898, 899, 900, 901, 902, 903, 904, 905, 906, 907, 908, 909, 910, 911, 912, 913, 914, 915] (by decide +kernel) (by decide +kernel)
set_option maxRecDepth 20000 in
theorem gL_law_X12_spoiled : GoodIn wsL_law (wsV RL 99 RX12 yX12_spoiled wsX12_spoiled) := goodIn_app (goodIn_of _ (by decide +kernel)) ggL_law_X12_spoiled
set_option maxRecDepth 20000 in
theorem ggL_law_X11_tell : GoodIn wsL_law wsX11_tell := goodIn_r _ [748, 24, 41, 37, 343, 363, 289, 290, 23, 291, 96, 749, 750, 751, 40, 752, 753, 118, 754, 755, 756, 757, 120, 758, 324, 325, 36, 326, 313, 90, 327, 328, 329, 330, 879, 880, 881, 882, 883, 884, 885, 886, 887, 888, 889, 890, 891, 939, 940, 941, 942, 943, 944, 945, 946, 947, 923, 924, 925, 926, 927, 928, 929, 937, 938] (by decide +kernel) (by decide +kernel)
set_option maxRecDepth 20000 in
theorem gL_law_X11_tell : GoodIn wsL_law (wsV RL 100 RX11 yX11_tell wsX11_tell) := goodIn_app (goodIn_of _ (by decide +kernel)) ggL_law_X11_tell
set_option maxRecDepth 20000 in
theorem ggL_law_X12_tell : GoodIn wsL_law wsX12_tell := goodIn_r _ [762, 227, 169, 226, 168, 372, 373, 374, 5, 375, 163, 185, 186, 187, 892, 893, 894, 895, 896, 897, 898, 899, 900, 901, 902, 903, 904, 905, 906, 907, 908, 909, 910, 911, 912, 913, 914, 915] (by decide +kernel) (by decide +kernel)
set_option maxRecDepth 20000 in
theorem gL_law_X12_tell : GoodIn wsL_law (wsV RL 103 RX12 yX12_tell wsX12_tell) := goodIn_app (goodIn_of _ (by decide +kernel)) ggL_law_X12_tell
set_option maxRecDepth 20000 in
theorem ggL_law_X11_forget : GoodIn wsL_law wsX11_forget := goodIn_r _ [766, 41, 343, 879, 880, 881, 882, 883, 884, 885, 886, 887, 888, 889, 890, 891, 939, 940, 941, 942, 943, 944, 945, 946, 947] (by decide +kernel) (by decide +kernel)
set_option maxRecDepth 20000 in
theorem gL_law_X11_forget : GoodIn wsL_law (wsV RL 104 RX11 yX11_forget wsX11_forget) := goodIn_app (goodIn_of _ (by decide +kernel)) ggL_law_X11_forget
set_option maxRecDepth 20000 in
theorem ggL_law_X12_forget : GoodIn wsL_law wsX12_forget := goodIn_r _ [770, 227, 892, 893, 894, 895, 896, 897, 898, 899, 900, 901, 902, 903, 904, 905, 906, 907, 908, 909, 910, 911, 912, 913, 914, 915] (by decide +kernel) (by decide +kernel)
set_option maxRecDepth 20000 in
theorem gL_law_X12_forget : GoodIn wsL_law (wsV RL 107 RX12 yX12_forget wsX12_forget) := goodIn_app (goodIn_of _ (by decide +kernel)) ggL_law_X12_forget
set_option maxRecDepth 20000 in
theorem ggL_law_X11_secret : GoodIn wsL_law wsX11_secret := goodIn_r _ [774, 41, 775, 776, 777, 778, 779, 40, 780, 753, 122, 124, 123, 118, 781, 782, 783, 784, 582, 329, 583, 785, 786, 787, 788, 479, 480, 48, 481, 482, 483, 484, 485, 486, 487, 365, 366, 23, 367, 79, 288, 289, 290, 291, 96, 488, 489, 490, 491, 142, 140, 141, 789, 790, 791, 792, 793, 794, 795, 796, 797, 126, 120, 798, 493, 494, 52, 495, 496, 497, 799, 800, 801, 802, 502, 504, 503, 803, 804, 805, 806, 505, 506, 507, 508, 132, 133, 134, 509, 510, 511, 512, 131, 513, 514, 515, 516, 517, 518, 807, 808, 499, 500, 501, 809, 687, 688, 689, 592, 690, 589, 590, 591, 593, 879, 880, 881, 882, 883, 884, 885, 886, 887, 888, 889, 890, 891, 939, 940, 941, 942, 943, 944, 945, 946, 947, 930, 931, 932, 933, 934, 923, 924, 925, 926, 927, 928, 929, 953, 954, 955, 956, 957, 958, 959, 960, 961, 962, 937, 938] (by decide +kernel) (by decide +kernel)
set_option maxRecDepth 20000 in
theorem gL_law_X11_secret : GoodIn wsL_law (wsV RL 108 RX11 yX11_secret wsX11_secret) := goodIn_app (goodIn_of _ (by decide +kernel)) ggL_law_X11_secret
set_option maxRecDepth 20000 in
theorem ggL_law_X12_secret : GoodIn wsL_law wsX12_secret := goodIn_r _ [813, 163, 165, 814, 185, 186, 5, 187, 531, 532, 533, 534, 535, 536, 537, 538, 539, 171, 172, 173, 815, 816, 817, 818, 227, 169, 523, 178, 540, 541, 542, 543, 176, 177, 174, 544, 545, 546, 547, 548, 549, 550, 551, 552, 553, 554, 555, 892, 893, 894, 895, 896, 897, 898, 899, 900, 901, 902, 903, 904, 905, 906, 907, 908, 909, 910, 911, 912, 913, 914, 915] (by decide +kernel) (by decide +kernel)
set_option maxRecDepth 20000 in
theorem gL_law_X12_secret : GoodIn wsL_law (wsV RL 111 RX12 yX12_secret wsX12_secret) := goodIn_app (goodIn_of _ (by decide +kernel)) ggL_law_X12_secret
set_option maxRecDepth 20000 in
theorem ggL_law_X11_chance : GoodIn wsL_law wsX11_chance := goodIn_r _ [822, 24, 45, 823, 363, 289, 290, 23, 291, 96, 395, 396, 397, 398, 97, 669, 670, 671, 44, 672, 148, 152, 151, 150, 673, 674, 479, 480, 48, 481, 482, 483, 484, 485, 486, 487, 365, 366, 367, 79, 288, 488, 489, 490, 491, 142, 140, 141, 675, 493, 494, 52, 495, 496, 497, 676, 499, 500, 501, 502, 503, 504, 505, 506, 507, 508, 132, 133, 134, 509, 510, 511, 512, 131, 513, 514, 515, 516, 517, 518, 677, 678, 679, 680, 681, 682, 683, 684, 685, 153, 686, 687, 688, 689, 592, 690, 589, 590, 591, 593, 691, 692, 693, 694, 695, 696, 697, 698, 699, 328, 329, 330, 700, 824, 825, 2, 826, 879, 880, 881, 882, 883, 884, 885, 886, 887, 888, 889, 890, 891, 923, 924, 925, 926, 927, 928, 929, 948, 949, 950, 951, 952, 930, 931, 932, 933, 934, 953, 954, 955, 956, 957, 958, 959, 960, 961, 962, 937, 938] (by decide +kernel) (by decide +kernel)
set_option maxRecDepth 20000 in
theorem gL_law_X11_chance : GoodIn wsL_law (wsV RL 112 RX11 yX11_chance wsX11_chance) := goodIn_app (goodIn_of _ (by decide +kernel)) ggL_law_X11_chance
set_option maxRecDepth 20000 in
theorem ggL_law_X12_chance : GoodIn wsL_law wsX12_chance := goodIn_r _ [830, 523, 172, 178, 372, 373, 374, 5, 375, 163, 185, 186, 187, 418, 419, 420, 421, 705, 706, 707, 708, 709, 710, 711, 712, 165, 531, 532, 533, 534, 535, 536, 537, 538, 539, 171, 173, 540, 541, 542, 543, 176, 177, 174, 544, 545, 546, 547, 548, 549, 550, 551, 552, 553, 554, 555, 892, 893, 894, 895, 896, 897, 898, 899, 900, 901, 902, 903, 904, 905, 906, 907, 908, 909, 910, 911, 912, 913, 914, 915] (by decide +kernel) (by decide +kernel)
set_option maxRecDepth 20000 in
theorem gL_law_X12_chance : GoodIn wsL_law (wsV RL 116 RX12 yX12_chance wsX12_chance) := goodIn_app (goodIn_of _ (by decide +kernel)) ggL_law_X12_chance
set_option maxRecDepth 20000 in
theorem ggL_law_X11_day : GoodIn wsL_law wsX11_day := goodIn_r _ [834, 24, 49, 835, 836, 837, 838, 346, 823, 53, 469, 363, 289, 290, 23, 291, 96, 839, 840, 2, 841, 364, 365, 366, 367, 79, 288, 842, 489, 490, 48, 491, 482, 142, 140, 141, 492, 493, 494, 52, 495, 496, 497, 498, 499, 500, 501, 502, 503, 504, 505, 506, 507, 508, 132, 133, 134, 509, 510, 511, 512, 131, 513, 514, 515, 516, 517, 518, 879, 880, 881, 882, 883, 884, 885, 886, 887, 888, 889, 890, 891, 953, 954, 955, 956, 923, 924, 925, 926, 927, 928, 929, 957, 958, 959, 960, 961, 962] (by decide +kernel) (by decide +kernel)
set_option maxRecDepth 20000 in
theorem gL_law_X11_day : GoodIn wsL_law (wsV RL 117 RX11 yX11_day wsX11_day) := goodIn_app (goodIn_of _ (by decide +kernel)) ggL_law_X11_day
set_option maxRecDepth 20000 in
theorem ggL_law_X12_day : GoodIn wsL_law wsX12_day := goodIn_r _ [846, 535, 847, 848, 849, 163, 814, 523, 185, 186, 5, 187, 372, 373, 374, 375, 536, 537, 538, 539, 171, 172, 173, 540, 541, 542, 543, 176, 177, 174, 544, 545, 546, 547, 548, 549, 550, 551, 178, 552, 553, 554, 555, 892, 893, 894, 895, 896, 897, 898, 899, 900, 901, 902, 903, 904, 905, 906, 907, 908, 909, 910, 911, 912, 913, 914, 915] (by decide +kernel) (by decide +kernel)
set_option maxRecDepth 20000 in
theorem gL_law_X12_day : GoodIn wsL_law (wsV RL 120 RX12 yX12_day wsX12_day) := goodIn_app (goodIn_of _ (by decide +kernel)) ggL_law_X12_day
set_option maxRecDepth 20000 in
theorem ggL_law_X11_keep : GoodIn wsL_law wsX11_keep := goodIn_r _ [853, 345, 33, 28, 854, 855, 856, 27, 857, 403, 404, 106, 107, 108, 879, 880, 881, 882, 883, 884, 885, 886, 887, 888, 889, 890, 891, 930, 931, 932, 933, 934] (by decide +kernel) (by decide +kernel)
set_option maxRecDepth 20000 in
theorem gL_law_X11_keep : GoodIn wsL_law (wsV RL 121 RX11 yX11_keep wsX11_keep) := goodIn_app (goodIn_of _ (by decide +kernel)) ggL_law_X11_keep
set_option maxRecDepth 20000 in
theorem ggL_law_X12_keep : GoodIn wsL_law wsX12_keep := goodIn_r _ [861, 224, 166, 165, 892, 893, 894, 895, 896, 897, 898, 899, 900, 901, 902, 903, 904, 905, 906, 907, 908, 909, 910, 911, 912, 913, 914, 915] (by decide +kernel) (by decide +kernel)
set_option maxRecDepth 20000 in
theorem gL_law_X12_keep : GoodIn wsL_law (wsV RL 124 RX12 yX12_keep wsX12_keep) := goodIn_app (goodIn_of _ (by decide +kernel)) ggL_law_X12_keep
set_option maxRecDepth 20000 in
theorem ggL_law_X11_back : GoodIn wsL_law wsX11_back := goodIn_r _ [865, 345, 28, 33, 32, 344, 854, 855, 856, 27, 857, 403, 404, 106, 107, 108, 879, 880, 881, 882, 883, 884, 885, 886, 887, 888, 889, 890, 891, 935, 936, 930, 931, 932, 933, 934] (by decide +kernel) (by decide +kernel)
set_option maxRecDepth 20000 in
theorem gL_law_X11_back : GoodIn wsL_law (wsV RL 125 RX11 yX11_back wsX11_back) := goodIn_app (goodIn_of _ (by decide +kernel)) ggL_law_X11_back
set_option maxRecDepth 20000 in
theorem ggL_law_X12_back : GoodIn wsL_law wsX12_back := goodIn_r _ [869, 224, 165, 166, 225, 892, 893, 894, 895, 896, 897, 898, 899, 900, 901, 902, 903, 904, 905, 906, 907, 908, 909, 910, 911, 912, 913, 914, 915] (by decide +kernel) (by decide +kernel)
set_option maxRecDepth 20000 in
theorem gL_law_X12_back : GoodIn wsL_law (wsV RL 128 RX12 yX12_back wsX12_back) := goodIn_app (goodIn_of _ (by decide +kernel)) ggL_law_X12_back
set_option maxRecDepth 20000 in
theorem ggL_law_X11_count : GoodIn wsL_law wsX11_count := goodIn_r _ [873, 24, 346, 823, 380, 874, 28, 340, 341, 37, 342, 41, 343, 32, 344, 345, 16, 232, 879, 880, 881, 882, 883, 884, 885, 886, 887, 888, 889, 890, 891, 923, 924, 925, 926, 927, 928, 929, 963, 964, 930, 931, 932, 933, 934, 937, 938, 939, 940, 941, 942, 943, 944, 945, 946, 947, 935, 936, 916, 917] (by decide +kernel) (by decide +kernel)
set_option maxRecDepth 20000 in
theorem gL_law_X11_count : GoodIn wsL_law (wsV RL 129 RX11 yX11_count wsX11_count) := goodIn_app (goodIn_of _ (by decide +kernel)) ggL_law_X11_count
set_option maxRecDepth 20000 in
theorem ggL_law_X12_count : GoodIn wsL_law wsX12_count := goodIn_r _ [878, 163, 165, 226, 227, 225, 224, 184, 185, 186, 5, 187, 892, 893, 894, 895, 896, 897, 898, 899, 900, 901, 902, 903, 904, 905, 906, 907, 908, 909, 910, 911, 912, 913, 914, 915] (by decide +kernel) (by decide +kernel)
set_option maxRecDepth 20000 in
theorem gL_law_X12_count : GoodIn wsL_law (wsV RL 132 RX12 yX12_count wsX12_count) := goodIn_app (goodIn_of _ (by decide +kernel)) ggL_law_X12_count
