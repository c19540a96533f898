set_option maxRecDepth 20000 in
theorem ggL_law_X11_init : GoodIn wsL_law wsX11_init := goodIn_r _ [9, 10, 11, 12, 13, 14, 15, 16, 17, 18, 19, 20, 21, 22, 23, 24, 25, 26, 27, 28, 29, 30, 31, 32, 33, 34, 35, 36, 37, 38, 39, 40, 41, 42, 43, 44, 45, 46, 47, 48, 49, 50, 51, 52, 53, 54, 55, 56, 57, 58, 59, 60, 61, 62, 63, 64, 65, 66, 67, 68, 69, 70, 71, 72, 73, 74, 75, 76, 77, 78, 79, 80, 81, 82, 83, 84, 85, 86, 87, 88, 89, 90, 91, 92, 93, 94, 95, 96, 97, 98, 99, 100, 101, 102, 103, 104, 105, 106, 107, 108, 109, 110, 111, 112, 113, 114, 115, 116, 117, 118, 119, 120, 121, 122, 123, 124, 125, 126, 127, 128, 129, 130, 131, 132, 133, 134, 135, 136, 137, 138, 139, 140, 141, 142, 143, 144, 145, 146, 147, 148, 149, 150, 151, 152, 153, 154, 155, 156, 157, 916, 917, 879, 880, 881, 882, 883, 884, 885, 886, 887, 888, 889, 890, 891, 918, 919, 920, 921, 922, 923, 924, 925, 926, 927, 928, 929, 930, 931, 932, 933, 934, 935, 936, 937, 938, 939, 940, 941, 942, 943, 944, 945, 946, 947, 948, 949, 950, 951, 952, 953, 954, 955, 956, 957, 958, 959, 960, 961, 962, 963, 964] (by decide +kernel) (by decide +kernel)
set_option maxRecDepth 20000 in
theorem gL_law_X11_init : GoodIn wsL_law (wsX11_init) := ggL_law_X11_init
set_option maxRecDepth 20000 in
theorem ggL_law_X12_init : GoodIn wsL_law wsX12_init := goodIn_r _ [160, 161, 11, 12, 66, 162, 163, 164, 165, 166, 167, 168, 169, 170, 171, 172, 173, 174, 175, 176, 177, 178, 179, 180, 181, 5, 182, 183, 184, 185, 186, 187, 188, 189, 190, 191, 192, 193, 194, 195, 196, 197, 198, 199, 200, 201, 202, 203, 204, 205, 206, 207, 208, 209, 210, 211, 212, 213, 214, 215, 216, 217, 218, 219, 220, 221, 222, 223, 224, 225, 226, 227, 892, 893, 894, 895, 896, 897, 898, 899, 900, 901, 902, 903, 904, 905, 906, 907, 908, 909, 910, 911, 912, 913, 914, 915] (by decide +kernel) (by decide +kernel)
set_option maxRecDepth 20000 in
theorem gL_law_X12_init : GoodIn wsL_law (wsX12_init) := ggL_law_X12_init
set_option maxRecDepth 20000 in
theorem ggL_law_X11_write : GoodIn wsL_law wsX11_write := goodIn_r _ [231, 16, 232, 233, 234, 235, 15, 236, 237, 59, 879, 880, 881, 882, 883, 884, 885, 886, 887, 888, 889, 890, 891, 916, 917] (by decide +kernel) (by decide +kernel)
set_option maxRecDepth 20000 in
theorem gL_law_X11_write : GoodIn wsL_law (wsV RL 15 RX11 yX11_write wsX11_write) := goodIn_app (goodIn_of _ (by decide +kernel)) ggL_law_X11_write
set_option maxRecDepth 20000 in
theorem ggL_law_X12_write : GoodIn wsL_law wsX12_write := goodIn_r _ [241, 184, 162, 242, 185, 186, 5, 187, 892, 893, 894, 895, 896, 897, 898, 899, 900, 901, 902, 903, 904, 905, 906, 907, 908, 909, 910, 911, 912, 913, 914, 915] (by decide +kernel) (by decide +kernel)
set_option maxRecDepth 20000 in
theorem gL_law_X12_write : GoodIn wsL_law (wsV RL 19 RX12 yX12_write wsX12_write) := goodIn_app (goodIn_of _ (by decide +kernel)) ggL_law_X12_write
set_option maxRecDepth 20000 in
theorem ggL_law_X11_wipe : GoodIn wsL_law wsX11_wipe := goodIn_r _ [246, 16, 232, 879, 880, 881, 882, 883, 884, 885, 886, 887, 888, 889, 890, 891, 916, 917] (by decide +kernel) (by decide +kernel)
set_option maxRecDepth 20000 in
theorem gL_law_X11_wipe : GoodIn wsL_law (wsV RL 20 RX11 yX11_wipe wsX11_wipe) := goodIn_app (goodIn_of _ (by decide +kernel)) ggL_law_X11_wipe
set_option maxRecDepth 20000 in
theorem ggL_law_X12_wipe : GoodIn wsL_law wsX12_wipe := goodIn_r _ [250, 184, 892, 893, 894, 895, 896, 897, 898, 899, 900, 901, 902, 903, 904, 905, 906, 907, 908, 909, 910, 911, 912, 913, 914, 915] (by decide +kernel) (by decide +kernel)
set_option maxRecDepth 20000 in
theorem gL_law_X12_wipe : GoodIn wsL_law (wsV RL 24 RX12 yX12_wipe wsX12_wipe) := goodIn_app (goodIn_of _ (by decide +kernel)) ggL_law_X12_wipe
set_option maxRecDepth 20000 in
theorem ggL_law_X11_fault : GoodIn wsL_law wsX11_fault := goodIn_r _ [254, 20, 255, 256, 257, 19, 258, 65, 259, 70, 260, 261, 92, 93, 23, 94, 78, 95, 96, 97, 98, 99, 100, 79, 262, 263, 264, 265, 266, 67, 267, 69, 268, 269, 270, 271, 272, 273, 274, 275, 276, 277, 278, 279, 280, 281, 282, 283, 284, 285, 286, 287, 288, 289, 290, 291, 292, 293, 294, 295, 296, 297, 298, 299, 300, 301, 302, 303, 304, 305, 306, 307, 308, 309, 310, 311, 36, 312, 313, 90, 314, 315, 316, 77, 317, 318, 85, 319, 320, 321, 322, 323, 324, 325, 326, 327, 328, 329, 330, 879, 880, 881, 882, 883, 884, 885, 886, 887, 888, 889, 890, 891, 918, 919, 920, 921, 922, 916, 917, 923, 924, 925, 926, 927, 928, 929, 963, 964, 937, 938] (by decide +kernel) (by decide +kernel)
set_option maxRecDepth 20000 in
theorem gL_law_X11_fault : GoodIn wsL_law (wsV RL 25 RX11 yX11_fault wsX11_fault) := goodIn_app (goodIn_of _ (by decide +kernel)) ggL_law_X11_fault
set_option maxRecDepth 20000 in
theorem ggL_law_X12_fault : GoodIn wsL_law wsX12_fault := goodIn_r _ [334, 179, 180, 181, 5, 182, 164, 183, 184, 185, 186, 187, 188, 189, 190, 191, 192, 193, 194, 195, 162, 196, 197, 198, 199, 170, 200, 201, 202, 203, 204, 205, 206, 207, 208, 209, 210, 211, 212, 213, 214, 215, 216, 217, 218, 219, 892, 893, 894, 895, 896, 897, 898, 899, 900, 901, 902, 903, 904, 905, 906, 907, 908, 909, 910, 911, 912, 913, 914, 915] (by decide +kernel) (by decide +kernel)
set_option maxRecDepth 20000 in
theorem gL_law_X12_fault : GoodIn wsL_law (wsV RL 28 RX12 yX12_fault wsX12_fault) := goodIn_app (goodIn_of _ (by decide +kernel)) ggL_law_X12_fault
set_option maxRecDepth 20000 in
theorem ggL_law_X11_lay : GoodIn wsL_law wsX11_lay := goodIn_r _ [338, 20, 24, 339, 28, 340, 341, 37, 342, 41, 343, 32, 344, 345, 346, 255, 256, 257, 19, 258, 65, 259, 70, 260, 261, 92, 93, 23, 94, 78, 95, 96, 97, 98, 99, 100, 79, 262, 263, 264, 265, 266, 67, 267, 69, 268, 269, 270, 271, 272, 273, 274, 275, 276, 277, 278, 279, 280, 281, 282, 283, 284, 285, 286, 287, 288, 289, 290, 291, 292, 293, 294, 295, 296, 297, 298, 299, 300, 301, 302, 303, 304, 305, 306, 307, 308, 309, 310, 311, 36, 312, 313, 90, 314, 315, 316, 77, 317, 318, 85, 319, 320, 321, 322, 323, 324, 325, 326, 327, 328, 329, 330, 347, 348, 349, 350, 351, 352, 353, 354, 879, 880, 881, 882, 883, 884, 885, 886, 887, 888, 889, 890, 891, 918, 919, 920, 921, 922, 930, 931, 932, 933, 934, 937, 938, 939, 940, 941, 942, 943, 944, 945, 946, 947, 935, 936, 923, 924, 925, 926, 927, 928, 929, 916, 917, 963, 964] (by decide +kernel) (by decide +kernel)
set_option maxRecDepth 20000 in
theorem gL_law_X11_lay : GoodIn wsL_law (wsV RL 29 RX11 yX11_lay wsX11_lay) := goodIn_app (goodIn_of _ (by decide +kernel)) ggL_law_X11_lay
set_option maxRecDepth 20000 in
theorem ggL_law_X12_lay : GoodIn wsL_law wsX12_lay := goodIn_r _ [358, 163, 179, 180, 181, 5, 182, 164, 183, 184, 185, 186, 187, 188, 189, 190, 191, 192, 193, 194, 195, 162, 196, 197, 198, 199, 170, 200, 201, 202, 203, 204, 205, 206, 207, 208, 209, 210, 211, 212, 213, 214, 215, 216, 217, 218, 219, 220, 221, 222, 223, 165, 224, 225, 226, 227, 892, 893, 894, 895, 896, 897, 898, 899, 900, 901, 902, 903, 904, 905, 906, 907, 908, 909, 910, 911, 912, 913, 914, 915] (by decide +kernel) (by decide +kernel)
set_option maxRecDepth 20000 in
theorem gL_law_X12_lay : GoodIn wsL_law (wsV RL 32 RX12 yX12_lay wsX12_lay) := goodIn_app (goodIn_of _ (by decide +kernel)) ggL_law_X12_lay
set_option maxRecDepth 20000 in
theorem ggL_law_X11_delay : GoodIn wsL_law wsX11_delay := goodIn_r _ [362, 24, 363, 289, 290, 23, 291, 96, 364, 365, 366, 367, 79, 288, 879, 880, 881, 882, 883, 884, 885, 886, 887, 888, 889, 890, 891, 923, 924, 925, 926, 927, 928, 929] (by decide +kernel) (by decide +kernel)
set_option maxRecDepth 20000 in
theorem gL_law_X11_delay : GoodIn wsL_law (wsV RL 33 RX11 yX11_delay wsX11_delay) := goodIn_app (goodIn_of _ (by decide +kernel)) ggL_law_X11_delay
set_option maxRecDepth 20000 in
theorem ggL_law_X12_delay : GoodIn wsL_law wsX12_delay := goodIn_r _ [371, 163, 372, 373, 374, 5, 375, 185, 186, 187, 892, 893, 894, 895, 896, 897, 898, 899, 900, 901, 902, 903, 904, 905, 906, 907, 908, 909, 910, 911, 912, 913, 914, 915] (by decide +kernel) (by decide +kernel)
set_option maxRecDepth 20000 in
theorem gL_law_X12_delay : GoodIn wsL_law (wsV RL 37 RX12 yX12_delay wsX12_delay) := goodIn_app (goodIn_of _ (by decide +kernel)) ggL_law_X12_delay
set_option maxRecDepth 20000 in
theorem ggL_law_X11_word : GoodIn wsL_law wsX11_word := goodIn_r _ [379, 24, 380, 381, 342, 382, 383, 384, 385, 77, 386, 318, 879, 880, 881, 882, 883, 884, 885, 886, 887, 888, 889, 890, 891, 923, 924, 925, 926, 927, 928, 929, 963, 964, 937, 938] (by decide +kernel) (by decide +kernel)
set_option maxRecDepth 20000 in
theorem gL_law_X11_word : GoodIn wsL_law (wsV RL 38 RX11 yX11_word wsX11_word) := goodIn_app (goodIn_of _ (by decide +kernel)) ggL_law_X11_word
set_option maxRecDepth 20000 in
theorem ggL_law_X12_word : GoodIn wsL_law wsX12_word := goodIn_r _ [390, 163, 185, 186, 5, 187, 892, 893, 894, 895, 896, 897, 898, 899, 900, 901, 902, 903, 904, 905, 906, 907, 908, 909, 910, 911, 912, 913, 914, 915] (by decide +kernel) (by decide +kernel)
set_option maxRecDepth 20000 in
theorem gL_law_X12_word : GoodIn wsL_law (wsV RL 41 RX12 yX12_word wsX12_word) := goodIn_app (goodIn_of _ (by decide +kernel)) ggL_law_X12_word
set_option maxRecDepth 20000 in
theorem ggL_law_X11_drum : GoodIn wsL_law wsX11_drum := goodIn_r _ [394, 24, 28, 32, 340, 363, 289, 290, 23, 291, 96, 395, 396, 397, 398, 97, 399, 400, 401, 27, 402, 403, 106, 107, 108, 404, 405, 406, 407, 31, 408, 409, 112, 410, 411, 412, 413, 879, 880, 881, 882, 883, 884, 885, 886, 887, 888, 889, 890, 891, 930, 931, 932, 933, 934, 923, 924, 925, 926, 927, 928, 929, 935, 936] (by decide +kernel) (by decide +kernel)
set_option maxRecDepth 20000 in
theorem gL_law_X11_drum : GoodIn wsL_law (wsV RL 42 RX11 yX11_drum wsX11_drum) := goodIn_app (goodIn_of _ (by decide +kernel)) ggL_law_X11_drum
set_option maxRecDepth 20000 in
theorem ggL_law_X12_drum : GoodIn wsL_law wsX12_drum := goodIn_r _ [417, 165, 372, 373, 374, 5, 375, 163, 185, 186, 187, 418, 419, 420, 421, 422, 423, 424, 425, 225, 167, 892, 893, 894, 895, 896, 897, 898, 899, 900, 901, 902, 903, 904, 905, 906, 907, 908, 909, 910, 911, 912, 913, 914, 915] (by decide +kernel) (by decide +kernel)
set_option maxRecDepth 20000 in
theorem gL_law_X12_drum : GoodIn wsL_law (wsV RL 45 RX12 yX12_drum wsX12_drum) := goodIn_app (goodIn_of _ (by decide +kernel)) ggL_law_X12_drum
set_option maxRecDepth 20000 in
theorem ggL_law_X11_pass : GoodIn wsL_law wsX11_pass := goodIn_r _ [429, 28, 341, 32, 405, 406, 407, 31, 408, 409, 112, 410, 411, 412, 413, 879, 880, 881, 882, 883, 884, 885, 886, 887, 888, 889, 890, 891, 930, 931, 932, 933, 934, 935, 936] (by decide +kernel) (by decide +kernel)
set_option maxRecDepth 20000 in
theorem gL_law_X11_pass : GoodIn wsL_law (wsV RL 46 RX11 yX11_pass wsX11_pass) := goodIn_app (goodIn_of _ (by decide +kernel)) ggL_law_X11_pass
set_option maxRecDepth 20000 in
theorem ggL_law_X12_pass : GoodIn wsL_law wsX12_pass := goodIn_r _ [433, 165, 185, 186, 5, 187, 422, 423, 424, 425, 225, 167, 892, 893, 894, 895, 896, 897, 898, 899, 900, 901, 902, 903, 904, 905, 906, 907, 908, 909, 910, 911, 912, 913, 914, 915] (by decide +kernel) (by decide +kernel)
set_option maxRecDepth 20000 in
theorem gL_law_X12_pass : GoodIn wsL_law (wsV RL 50 RX12 yX12_pass wsX12_pass) := goodIn_app (goodIn_of _ (by decide +kernel)) ggL_law_X12_pass
set_option maxRecDepth 20000 in
theorem ggL_law_X11_undo : GoodIn wsL_law wsX11_undo := goodIn_r _ [437, 32, 344, 28, 341, 438, 439, 440, 31, 441, 409, 112, 442, 443, 444, 27, 445, 403, 879, 880, 881, 882, 883, 884, 885, 886, 887, 888, 889, 890, 891, 935, 936, 930, 931, 932, 933, 934] (by decide +kernel) (by decide +kernel)
set_option maxRecDepth 20000 in
theorem gL_law_X11_undo : GoodIn wsL_law (wsV RL 51 RX11 yX11_undo wsX11_undo) := goodIn_app (goodIn_of _ (by decide +kernel)) ggL_law_X11_undo
set_option maxRecDepth 20000 in
theorem ggL_law_X12_undo : GoodIn wsL_law wsX12_undo := goodIn_r _ [449, 225, 165, 167, 892, 893, 894, 895, 896, 897, 898, 899, 900, 901, 902, 903, 904, 905, 906, 907, 908, 909, 910, 911, 912, 913, 914, 915] (by decide +kernel) (by decide +kernel)
set_option maxRecDepth 20000 in
theorem gL_law_X12_undo : GoodIn wsL_law (wsV RL 54 RX12 yX12_undo wsX12_undo) := goodIn_app (goodIn_of _ (by decide +kernel)) ggL_law_X12_undo
