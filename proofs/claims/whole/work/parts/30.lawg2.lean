set_option maxRecDepth 20000 in
theorem ggL_law_X11_beat : GoodIn wsL_law wsX11_beat := goodIn_r _ [453, 28, 454, 455, 456, 457, 458, 459, 27, 460, 403, 879, 880, 881, 882, 883, 884, 885, 886, 887, 888, 889, 890, 891, 930, 931, 932, 933, 934] (by decide +kernel) (by decide +kernel)
set_option maxRecDepth 20000 in
theorem gL_law_X11_beat : GoodIn wsL_law (wsV RL 55 RX11 yX11_beat wsX11_beat) := goodIn_app (goodIn_of _ (by decide +kernel)) ggL_law_X11_beat
set_option maxRecDepth 20000 in
theorem ggL_law_X12_beat : GoodIn wsL_law wsX12_beat := goodIn_r _ [464, 165, 185, 186, 5, 187, 892, 893, 894, 895, 896, 897, 898, 899, 900, 901, 902, 903, 904, 905, 906, 907, 908, 909, 910, 911, 912, 913, 914, 915] (by decide +kernel) (by decide +kernel)
set_option maxRecDepth 20000 in
theorem gL_law_X12_beat : GoodIn wsL_law (wsV RL 58 RX12 yX12_beat wsX12_beat) := goodIn_app (goodIn_of _ (by decide +kernel)) ggL_law_X12_beat
set_option maxRecDepth 20000 in
theorem ggL_law_X11_stands : GoodIn wsL_law wsX11_stands := goodIn_r _ [468, 24, 53, 469, 470, 363, 289, 290, 23, 291, 96, 471, 472, 2, 473, 474, 475, 476, 477, 49, 28, 478, 479, 480, 48, 481, 482, 483, 484, 485, 486, 487, 365, 366, 367, 79, 288, 488, 489, 490, 491, 142, 140, 141, 492, 493, 494, 52, 495, 496, 497, 498, 499, 500, 501, 502, 503, 504, 505, 506, 507, 508, 132, 133, 134, 509, 510, 511, 512, 131, 513, 514, 515, 516, 517, 518, 879, 880, 881, 882, 883, 884, 885, 886, 887, 888, 889, 890, 891, 957, 958, 959, 960, 961, 962, 923, 924, 925, 926, 927, 928, 929, 953, 954, 955, 956, 930, 931, 932, 933, 934] (by decide +kernel) (by decide +kernel)
set_option maxRecDepth 20000 in
theorem gL_law_X11_stands : GoodIn wsL_law (wsV RL 59 RX11 yX11_stands wsX11_stands) := goodIn_app (goodIn_of _ (by decide +kernel)) ggL_law_X11_stands
set_option maxRecDepth 20000 in
theorem ggL_law_X12_stands : GoodIn wsL_law wsX12_stands := goodIn_r _ [522, 523, 172, 178, 372, 373, 374, 5, 375, 163, 185, 186, 187, 524, 525, 526, 527, 528, 529, 530, 531, 532, 533, 534, 535, 165, 536, 537, 538, 539, 171, 173, 540, 541, 542, 543, 176, 177, 174, 544, 545, 546, 547, 548, 549, 550, 551, 552, 553, 554, 555, 892, 893, 894, 895, 896, 897, 898, 899, 900, 901, 902, 903, 904, 905, 906, 907, 908, 909, 910, 911, 912, 913, 914, 915] (by decide +kernel) (by decide +kernel)
set_option maxRecDepth 20000 in
theorem gL_law_X12_stands : GoodIn wsL_law (wsV RL 63 RX12 yX12_stands wsX12_stands) := goodIn_app (goodIn_of _ (by decide +kernel)) ggL_law_X12_stands
set_option maxRecDepth 20000 in
theorem ggL_law_X11_said : GoodIn wsL_law wsX11_said := goodIn_r _ [559, 24, 53, 363, 289, 290, 23, 291, 96, 471, 472, 2, 473, 474, 475, 476, 477, 49, 28, 478, 479, 480, 48, 481, 482, 483, 484, 485, 486, 487, 365, 366, 367, 79, 288, 488, 489, 490, 491, 142, 140, 141, 492, 493, 494, 52, 495, 496, 497, 498, 499, 500, 501, 502, 503, 504, 505, 506, 507, 508, 132, 133, 134, 509, 510, 511, 512, 131, 513, 514, 515, 516, 517, 518, 560, 561, 562, 563, 879, 880, 881, 882, 883, 884, 885, 886, 887, 888, 889, 890, 891, 923, 924, 925, 926, 927, 928, 929, 953, 954, 955, 956, 930, 931, 932, 933, 934, 957, 958, 959, 960, 961, 962] (by decide +kernel) (by decide +kernel)
set_option maxRecDepth 20000 in
theorem gL_law_X11_said : GoodIn wsL_law (wsV RL 64 RX11 yX11_said wsX11_said) := goodIn_app (goodIn_of _ (by decide +kernel)) ggL_law_X11_said
set_option maxRecDepth 20000 in
theorem ggL_law_X12_said : GoodIn wsL_law wsX12_said := goodIn_r _ [567, 372, 373, 374, 5, 375, 163, 185, 186, 187, 524, 525, 526, 527, 528, 529, 530, 531, 532, 533, 534, 535, 165, 536, 537, 538, 539, 171, 172, 173, 540, 541, 542, 543, 523, 176, 177, 174, 544, 545, 546, 547, 548, 549, 550, 551, 178, 552, 553, 554, 555, 568, 569, 570, 571, 892, 893, 894, 895, 896, 897, 898, 899, 900, 901, 902, 903, 904, 905, 906, 907, 908, 909, 910, 911, 912, 913, 914, 915] (by decide +kernel) (by decide +kernel)
set_option maxRecDepth 20000 in
theorem gL_law_X12_said : GoodIn wsL_law (wsV RL 67 RX12 yX12_said wsX12_said) := goodIn_app (goodIn_of _ (by decide +kernel)) ggL_law_X12_said
set_option maxRecDepth 20000 in
theorem ggL_law_X11_meaning : GoodIn wsL_law wsX11_meaning := goodIn_r _ [575, 24, 380, 53, 363, 289, 290, 23, 291, 96, 471, 472, 2, 473, 474, 475, 476, 477, 49, 28, 478, 479, 480, 48, 481, 482, 483, 484, 485, 486, 487, 365, 366, 367, 79, 288, 488, 489, 490, 491, 142, 140, 141, 492, 493, 494, 52, 495, 496, 497, 498, 499, 500, 501, 502, 503, 504, 505, 506, 507, 508, 132, 133, 134, 509, 510, 511, 512, 131, 513, 514, 515, 516, 517, 518, 560, 561, 562, 563, 576, 577, 578, 77, 579, 85, 580, 581, 582, 329, 583, 584, 585, 586, 587, 318, 588, 589, 590, 591, 592, 593, 879, 880, 881, 882, 883, 884, 885, 886, 887, 888, 889, 890, 891, 923, 924, 925, 926, 927, 928, 929, 953, 954, 955, 956, 930, 931, 932, 933, 934, 957, 958, 959, 960, 961, 962, 963, 964, 937, 938] (by decide +kernel) (by decide +kernel)
set_option maxRecDepth 20000 in
theorem gL_law_X11_meaning : GoodIn wsL_law (wsV RL 68 RX11 yX11_meaning wsX11_meaning) := goodIn_app (goodIn_of _ (by decide +kernel)) ggL_law_X11_meaning
set_option maxRecDepth 20000 in
theorem ggL_law_X12_meaning : GoodIn wsL_law wsX12_meaning := goodIn_r _ [597, 163, 372, 373, 374, 5, 375, 185, 186, 187, 524, 525, 526, 527, 528, 529, 530, 531, 532, 533, 534, 535, 165, 536, 537, 538, 539, 171, 172, 173, 540, 541, 542, 543, 523, 176, 177, 174, 544, 545, 546, 547, 548, 549, 550, 551, 178, 552, 553, 554, 555, 568, 569, 570, 571, 598, 599, 600, 601, 892, 893, 894, 895, 896, 897, 898, 899, 900, 901, 902, 903, 904, 905, 906, 907, 908, 909, 910, 911, 912, 913, 914, 915] (by decide +kernel) (by decide +kernel)
set_option maxRecDepth 20000 in
theorem gL_law_X12_meaning : GoodIn wsL_law (wsV RL 71 RX12 yX12_meaning wsX12_meaning) := goodIn_app (goodIn_of _ (by decide +kernel)) ggL_law_X12_meaning
set_option maxRecDepth 20000 in
theorem ggL_law_X11_unsay : GoodIn wsL_law wsX11_unsay := goodIn_r _ [605, 24, 28, 341, 53, 469, 470, 606, 363, 289, 290, 23, 291, 96, 474, 475, 476, 2, 477, 49, 478, 479, 480, 48, 481, 482, 483, 484, 485, 486, 487, 365, 366, 367, 79, 288, 488, 489, 490, 491, 142, 140, 141, 492, 493, 494, 52, 495, 496, 497, 498, 499, 500, 501, 502, 503, 504, 505, 506, 507, 508, 132, 133, 134, 509, 510, 511, 512, 131, 513, 514, 515, 516, 517, 518, 607, 608, 609, 610, 54, 364, 611, 612, 613, 614, 615, 879, 880, 881, 882, 883, 884, 885, 886, 887, 888, 889, 890, 891, 930, 931, 932, 933, 934, 957, 958, 959, 960, 961, 962, 923, 924, 925, 926, 927, 928, 929, 953, 954, 955, 956] (by decide +kernel) (by decide +kernel)
set_option maxRecDepth 20000 in
theorem gL_law_X11_unsay : GoodIn wsL_law (wsV RL 72 RX11 yX11_unsay wsX11_unsay) := goodIn_app (goodIn_of _ (by decide +kernel)) ggL_law_X11_unsay
set_option maxRecDepth 20000 in
theorem ggL_law_X12_unsay : GoodIn wsL_law wsX12_unsay := goodIn_r _ [619, 165, 523, 178, 372, 373, 374, 5, 375, 163, 185, 186, 187, 527, 528, 529, 530, 531, 532, 533, 534, 535, 536, 537, 538, 539, 171, 172, 173, 540, 541, 542, 543, 176, 177, 174, 544, 545, 546, 547, 548, 549, 550, 551, 552, 553, 554, 555, 620, 621, 622, 623, 892, 893, 894, 895, 896, 897, 898, 899, 900, 901, 902, 903, 904, 905, 906, 907, 908, 909, 910, 911, 912, 913, 914, 915] (by decide +kernel) (by decide +kernel)
set_option maxRecDepth 20000 in
theorem gL_law_X12_unsay : GoodIn wsL_law (wsV RL 75 RX12 yX12_unsay wsX12_unsay) := goodIn_app (goodIn_of _ (by decide +kernel)) ggL_law_X12_unsay
set_option maxRecDepth 20000 in
theorem ggL_law_X11_open : GoodIn wsL_law wsX11_open := goodIn_r _ [627, 24, 28, 341, 53, 469, 470, 606, 363, 289, 290, 23, 291, 96, 474, 475, 476, 2, 477, 49, 478, 479, 480, 48, 481, 482, 483, 484, 485, 486, 487, 365, 366, 367, 79, 288, 488, 489, 490, 491, 142, 140, 141, 492, 493, 494, 52, 495, 496, 497, 498, 499, 500, 501, 502, 503, 504, 505, 506, 507, 508, 132, 133, 134, 509, 510, 511, 512, 131, 513, 514, 515, 516, 517, 518, 628, 629, 630, 631, 346, 607, 608, 609, 610, 54, 364, 611, 612, 613, 614, 615, 879, 880, 881, 882, 883, 884, 885, 886, 887, 888, 889, 890, 891, 930, 931, 932, 933, 934, 957, 958, 959, 960, 961, 962, 923, 924, 925, 926, 927, 928, 929, 953, 954, 955, 956] (by decide +kernel) (by decide +kernel)
set_option maxRecDepth 20000 in
theorem gL_law_X11_open : GoodIn wsL_law (wsV RL 76 RX11 yX11_open wsX11_open) := goodIn_app (goodIn_of _ (by decide +kernel)) ggL_law_X11_open
set_option maxRecDepth 20000 in
theorem ggL_law_X12_open : GoodIn wsL_law wsX12_open := goodIn_r _ [635, 165, 523, 163, 178, 372, 373, 374, 5, 375, 185, 186, 187, 527, 528, 529, 530, 531, 532, 533, 534, 535, 536, 537, 538, 539, 171, 172, 173, 540, 541, 542, 543, 176, 177, 174, 544, 545, 546, 547, 548, 549, 550, 551, 552, 553, 554, 555, 620, 621, 622, 623, 892, 893, 894, 895, 896, 897, 898, 899, 900, 901, 902, 903, 904, 905, 906, 907, 908, 909, 910, 911, 912, 913, 914, 915] (by decide +kernel) (by decide +kernel)
set_option maxRecDepth 20000 in
theorem gL_law_X12_open : GoodIn wsL_law (wsV RL 79 RX12 yX12_open wsX12_open) := goodIn_app (goodIn_of _ (by decide +kernel)) ggL_law_X12_open
set_option maxRecDepth 20000 in
theorem ggL_law_X11_add : GoodIn wsL_law wsX11_add := goodIn_r _ [639, 24, 37, 342, 395, 396, 397, 23, 398, 97, 640, 310, 311, 36, 312, 313, 90, 879, 880, 881, 882, 883, 884, 885, 886, 887, 888, 889, 890, 891, 937, 938, 923, 924, 925, 926, 927, 928, 929] (by decide +kernel) (by decide +kernel)
set_option maxRecDepth 20000 in
theorem gL_law_X11_add : GoodIn wsL_law (wsV RL 80 RX11 yX11_add wsX11_add) := goodIn_app (goodIn_of _ (by decide +kernel)) ggL_law_X11_add
set_option maxRecDepth 20000 in
theorem ggL_law_X12_add : GoodIn wsL_law wsX12_add := goodIn_r _ [644, 226, 168, 418, 419, 420, 5, 421, 163, 185, 186, 187, 892, 893, 894, 895, 896, 897, 898, 899, 900, 901, 902, 903, 904, 905, 906, 907, 908, 909, 910, 911, 912, 913, 914, 915] (by decide +kernel) (by decide +kernel)
set_option maxRecDepth 20000 in
theorem gL_law_X12_add : GoodIn wsL_law (wsV RL 83 RX12 yX12_add wsX12_add) := goodIn_app (goodIn_of _ (by decide +kernel)) ggL_law_X12_add
set_option maxRecDepth 20000 in
theorem ggL_law_X11_noRow : GoodIn wsL_law wsX11_noRow := goodIn_r _ [648, 37, 342, 879, 880, 881, 882, 883, 884, 885, 886, 887, 888, 889, 890, 891, 937, 938] (by decide +kernel) (by decide +kernel)
set_option maxRecDepth 20000 in
theorem gL_law_X11_noRow : GoodIn wsL_law (wsV RL 84 RX11 yX11_noRow wsX11_noRow) := goodIn_app (goodIn_of _ (by decide +kernel)) ggL_law_X11_noRow
set_option maxRecDepth 20000 in
theorem ggL_law_X12_noRow : GoodIn wsL_law wsX12_noRow := goodIn_r _ [652, 226, 892, 893, 894, 895, 896, 897, 898, 899, 900, 901, 902, 903, 904, 905, 906, 907, 908, 909, 910, 911, 912, 913, 914, 915] (by decide +kernel) (by decide +kernel)
set_option maxRecDepth 20000 in
theorem gL_law_X12_noRow : GoodIn wsL_law (wsV RL 87 RX12 yX12_noRow wsX12_noRow) := goodIn_app (goodIn_of _ (by decide +kernel)) ggL_law_X12_noRow
set_option maxRecDepth 20000 in
theorem ggL_law_X11_takes : GoodIn wsL_law wsX11_takes := goodIn_r _ [656, 24, 37, 342, 49, 28, 53, 341, 382, 363, 289, 290, 23, 291, 96, 478, 479, 480, 48, 481, 482, 483, 484, 485, 486, 487, 365, 366, 367, 79, 288, 488, 489, 490, 491, 142, 140, 141, 492, 493, 494, 52, 495, 496, 497, 498, 499, 500, 501, 502, 503, 504, 505, 506, 507, 508, 132, 133, 134, 509, 510, 511, 512, 131, 513, 514, 515, 516, 517, 518, 657, 658, 659, 660, 615, 879, 880, 881, 882, 883, 884, 885, 886, 887, 888, 889, 890, 891, 937, 938, 930, 931, 932, 933, 934, 923, 924, 925, 926, 927, 928, 929, 953, 954, 955, 956, 957, 958, 959, 960, 961, 962] (by decide +kernel) (by decide +kernel)
set_option maxRecDepth 20000 in
theorem gL_law_X11_takes : GoodIn wsL_law (wsV RL 88 RX11 yX11_takes wsX11_takes) := goodIn_app (goodIn_of _ (by decide +kernel)) ggL_law_X11_takes
set_option maxRecDepth 20000 in
theorem ggL_law_X12_takes : GoodIn wsL_law wsX12_takes := goodIn_r _ [664, 165, 226, 535, 168, 178, 523, 372, 373, 374, 5, 375, 163, 185, 186, 187, 531, 532, 533, 534, 536, 537, 538, 539, 171, 172, 173, 540, 541, 542, 543, 176, 177, 174, 544, 545, 546, 547, 548, 549, 550, 551, 552, 553, 554, 555, 892, 893, 894, 895, 896, 897, 898, 899, 900, 901, 902, 903, 904, 905, 906, 907, 908, 909, 910, 911, 912, 913, 914, 915] (by decide +kernel) (by decide +kernel)
set_option maxRecDepth 20000 in
theorem gL_law_X12_takes : GoodIn wsL_law (wsV RL 91 RX12 yX12_takes wsX12_takes) := goodIn_app (goodIn_of _ (by decide +kernel)) ggL_law_X12_takes
set_option maxRecDepth 20000 in
theorem ggL_law_X11_mends : GoodIn wsL_law wsX11_mends := goodIn_r _ [668, 24, 45, 363, 289, 290, 23, 291, 96, 669, 670, 671, 44, 672, 148, 152, 151, 150, 673, 674, 479, 480, 48, 481, 482, 483, 484, 485, 486, 487, 365, 366, 367, 79, 288, 488, 489, 490, 491, 142, 140, 141, 675, 493, 494, 52, 495, 496, 497, 676, 499, 500, 501, 502, 503, 504, 505, 506, 507, 508, 132, 133, 134, 509, 510, 511, 512, 131, 513, 514, 515, 516, 517, 518, 677, 678, 679, 680, 681, 682, 683, 684, 685, 153, 686, 687, 688, 689, 592, 690, 589, 590, 591, 593, 691, 692, 693, 694, 695, 696, 697, 698, 699, 328, 329, 330, 700, 879, 880, 881, 882, 883, 884, 885, 886, 887, 888, 889, 890, 891, 923, 924, 925, 926, 927, 928, 929, 948, 949, 950, 951, 952, 930, 931, 932, 933, 934, 953, 954, 955, 956, 957, 958, 959, 960, 961, 962, 937, 938] (by decide +kernel) (by decide +kernel)
set_option maxRecDepth 20000 in
theorem gL_law_X11_mends : GoodIn wsL_law (wsV RL 92 RX11 yX11_mends wsX11_mends) := goodIn_app (goodIn_of _ (by decide +kernel)) ggL_law_X11_mends
set_option maxRecDepth 20000 in
theorem ggL_law_X12_mends : GoodIn wsL_law wsX12_mends := goodIn_r _ [704, 372, 373, 374, 5, 375, 163, 185, 186, 187, 705, 706, 707, 708, 709, 710, 711, 712, 165, 531, 532, 533, 534, 535, 536, 537, 538, 539, 171, 172, 173, 540, 541, 542, 543, 523, 176, 177, 174, 544, 545, 546, 547, 548, 549, 550, 551, 178, 552, 553, 554, 555, 713, 714, 715, 716, 226, 168, 892, 893, 894, 895, 896, 897, 898, 899, 900, 901, 902, 903, 904, 905, 906, 907, 908, 909, 910, 911, 912, 913, 914, 915] (by decide +kernel) (by decide +kernel)
set_option maxRecDepth 20000 in
theorem gL_law_X12_mends : GoodIn wsL_law (wsV RL 95 RX12 yX12_mends wsX12_mends) := goodIn_app (goodIn_of _ (by decide +kernel)) ggL_law_X12_mends
