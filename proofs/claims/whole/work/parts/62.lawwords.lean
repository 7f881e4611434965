set_option maxRecDepth 20000 in
theorem ggL_law_X7_init : GoodIn wsL_law wsX7_init := goodIn_r _ [9, 10, 11, 12, 13, 14, 15, 16, 17, 18, 19, 20, 21, 22, 23, 24, 25, 26, 27, 28, 29, 30, 31, 32, 33, 34, 35, 36, 37, 38, 39, 40, 41, 42, 43, 44, 45, 46, 47, 48, 49, 50, 51, 52, 53, 54, 55, 56, 57, 58, 59, 60, 61, 62, 63, 64, 65, 66, 67, 68, 69, 70, 71, 72, 73, 74, 75, 76, 77, 78, 79, 80, 81, 82, 83, 84, 85, 86, 87, 88, 89, 90, 91, 92, 93, 94, 95, 96, 97, 98, 99, 100, 101, 102, 103, 104, 105, 106, 107, 108, 109, 110, 919, 920, 921, 922, 875, 876, 877, 878, 879, 880, 881, 882, 923, 924, 925, 926, 927, 928, 929, 930, 931, 932, 933, 934, 935, 936, 937, 938, 939, 940, 941, 942, 943, 944, 945, 946, 947] (by decide +kernel) (by decide +kernel)
set_option maxRecDepth 20000 in
theorem gL_law_X7_init : GoodIn wsL_law (wsX7_init) := ggL_law_X7_init
set_option maxRecDepth 20000 in
theorem ggL_law_X8_init : GoodIn wsL_law wsX8_init := goodIn_r _ [113, 114, 11, 12, 115, 116, 55, 117, 118, 119, 120, 121, 122, 123, 124, 125, 126, 127, 128, 129, 130, 131, 132, 133, 134, 135, 107, 136, 137, 138, 139, 140, 141, 142, 5, 143, 883, 884, 885, 886, 887, 888, 889, 890, 891, 892, 893, 894, 895, 896, 897, 898, 899, 900, 901, 902, 903, 904, 905, 906, 907, 908, 909, 910, 911, 912, 913, 914, 915, 916, 917, 918] (by decide +kernel) (by decide +kernel)
set_option maxRecDepth 20000 in
theorem gL_law_X8_init : GoodIn wsL_law (wsX8_init) := ggL_law_X8_init
set_option maxRecDepth 20000 in
theorem ggL_law_X7_size : GoodIn wsL_law wsX7_size := goodIn_r _ [147, 16, 148, 149, 150, 151, 152, 153, 64, 65, 20, 66, 60, 56, 67, 68, 69, 70, 59, 71, 72, 73, 74, 57, 58, 154, 155, 156, 46, 157, 79, 875, 876, 877, 878, 879, 880, 881, 882, 919, 920, 921, 922, 923, 924, 925, 926, 927, 928, 929, 945, 946, 947] (by decide +kernel) (by decide +kernel)
set_option maxRecDepth 20000 in
theorem gL_law_X7_size : GoodIn wsL_law (wsV RL 13 RX7 yX7_size wsX7_size) := goodIn_app (goodIn_of _ (by decide +kernel)) ggL_law_X7_size
set_option maxRecDepth 20000 in
theorem ggL_law_X8_size : GoodIn wsL_law wsX8_size := goodIn_r _ [161, 162, 115, 117, 163, 164, 165, 166, 167, 5, 168, 140, 141, 142, 143, 118, 119, 169, 170, 171, 172, 120, 883, 884, 885, 886, 887, 888, 889, 890, 891, 892, 893, 894, 895, 896, 897, 898, 899, 900, 901, 902, 903, 904, 905, 906, 907, 908, 909, 910, 911, 912, 913, 914, 915, 916, 917, 918] (by decide +kernel) (by decide +kernel)
set_option maxRecDepth 20000 in
theorem gL_law_X8_size : GoodIn wsL_law (wsV RL 17 RX8 yX8_size wsX8_size) := goodIn_app (goodIn_of _ (by decide +kernel)) ggL_law_X8_size
set_option maxRecDepth 20000 in
theorem ggL_law_X7_worth : GoodIn wsL_law wsX7_worth := goodIn_r _ [176, 16, 148, 177, 178, 179, 20, 180, 60, 181, 182, 183, 2, 184, 185, 186, 187, 188, 189, 56, 190, 191, 192, 193, 194, 195, 196, 197, 57, 58, 875, 876, 877, 878, 879, 880, 881, 882, 919, 920, 921, 922, 923, 924, 925, 926, 927, 928, 929] (by decide +kernel) (by decide +kernel)
set_option maxRecDepth 20000 in
theorem gL_law_X7_worth : GoodIn wsL_law (wsV RL 18 RX7 yX7_worth wsX7_worth) := goodIn_app (goodIn_of _ (by decide +kernel)) ggL_law_X7_worth
set_option maxRecDepth 20000 in
theorem ggL_law_X8_worth : GoodIn wsL_law wsX8_worth := goodIn_r _ [201, 202, 203, 204, 205, 206, 5, 207, 208, 209, 210, 211, 115, 166, 167, 168, 212, 213, 214, 215, 117, 216, 217, 218, 219, 118, 119, 883, 884, 885, 886, 887, 888, 889, 890, 891, 892, 893, 894, 895, 896, 897, 898, 899, 900, 901, 902, 903, 904, 905, 906, 907, 908, 909, 910, 911, 912, 913, 914, 915, 916, 917, 918] (by decide +kernel) (by decide +kernel)
set_option maxRecDepth 20000 in
theorem gL_law_X8_worth : GoodIn wsL_law (wsV RL 22 RX8 yX8_worth wsX8_worth) := goodIn_app (goodIn_of _ (by decide +kernel)) ggL_law_X8_worth
set_option maxRecDepth 20000 in
theorem ggL_law_X7_step : GoodIn wsL_law wsX7_step := goodIn_r _ [223, 16, 148, 224, 225, 226, 2, 227, 875, 876, 877, 878, 879, 880, 881, 882, 919, 920, 921, 922, 923, 924, 925, 926, 927, 928, 929] (by decide +kernel) (by decide +kernel)
set_option maxRecDepth 20000 in
theorem gL_law_X7_step : GoodIn wsL_law (wsV RL 23 RX7 yX7_step wsX7_step) := goodIn_app (goodIn_of _ (by decide +kernel)) ggL_law_X7_step
set_option maxRecDepth 20000 in
theorem ggL_law_X8_step : GoodIn wsL_law wsX8_step := goodIn_r _ [231, 232, 116, 166, 167, 5, 168, 883, 884, 885, 886, 887, 888, 889, 890, 891, 892, 893, 894, 895, 896, 897, 898, 899, 900, 901, 902, 903, 904, 905, 906, 907, 908, 909, 910, 911, 912, 913, 914, 915, 916, 917, 918] (by decide +kernel) (by decide +kernel)
set_option maxRecDepth 20000 in
theorem gL_law_X8_step : GoodIn wsL_law (wsV RL 26 RX8 yX8_step wsX8_step) := goodIn_app (goodIn_of _ (by decide +kernel)) ggL_law_X8_step
set_option maxRecDepth 20000 in
theorem ggL_law_X7_feed : GoodIn wsL_law wsX7_feed := goodIn_r _ [236, 29, 237, 238, 239, 28, 240, 91, 90, 875, 876, 877, 878, 879, 880, 881, 882, 931, 932, 933, 934, 935, 936, 937, 938] (by decide +kernel) (by decide +kernel)
set_option maxRecDepth 20000 in
theorem gL_law_X7_feed : GoodIn wsL_law (wsV RL 27 RX7 yX7_feed wsX7_feed) := goodIn_app (goodIn_of _ (by decide +kernel)) ggL_law_X7_feed
set_option maxRecDepth 20000 in
theorem ggL_law_X8_feed : GoodIn wsL_law wsX8_feed := goodIn_r _ [244, 245, 246, 128, 166, 167, 5, 168, 883, 884, 885, 886, 887, 888, 889, 890, 891, 892, 893, 894, 895, 896, 897, 898, 899, 900, 901, 902, 903, 904, 905, 906, 907, 908, 909, 910, 911, 912, 913, 914, 915, 916, 917, 918] (by decide +kernel) (by decide +kernel)
set_option maxRecDepth 20000 in
theorem gL_law_X8_feed : GoodIn wsL_law (wsV RL 30 RX8 yX8_feed wsX8_feed) := goodIn_app (goodIn_of _ (by decide +kernel)) ggL_law_X8_feed
set_option maxRecDepth 20000 in
theorem ggL_law_X7_read : GoodIn wsL_law wsX7_read := goodIn_r _ [250, 29, 16, 148, 149, 251, 252, 253, 33, 254, 255, 256, 257, 258, 259, 28, 260, 96, 97, 95, 91, 261, 262, 263, 264, 92, 93, 94, 265, 266, 267, 268, 269, 270, 271, 272, 90, 273, 274, 275, 276, 277, 278, 279, 280, 281, 282, 283, 284, 285, 286, 287, 288, 289, 290, 32, 291, 101, 102, 103, 190, 191, 192, 20, 193, 56, 194, 195, 196, 197, 57, 58, 292, 293, 294, 295, 875, 876, 877, 878, 879, 880, 881, 882, 919, 920, 921, 922, 923, 924, 925, 926, 927, 928, 929, 931, 932, 933, 934, 935, 936, 937, 938, 939, 940, 941] (by decide +kernel) (by decide +kernel)
set_option maxRecDepth 20000 in
theorem gL_law_X7_read : GoodIn wsL_law (wsV RL 31 RX7 yX7_read wsX7_read) := goodIn_app (goodIn_of _ (by decide +kernel)) ggL_law_X7_read
set_option maxRecDepth 20000 in
theorem ggL_law_X8_read : GoodIn wsL_law wsX8_read := goodIn_r _ [299, 300, 246, 301, 302, 303, 304, 305, 5, 306, 307, 308, 309, 310, 311, 312, 313, 314, 115, 315, 316, 317, 318, 319, 320, 321, 322, 128, 166, 167, 168, 323, 324, 325, 326, 327, 328, 212, 213, 214, 215, 117, 216, 217, 218, 219, 118, 119, 329, 330, 331, 332, 127, 883, 884, 885, 886, 887, 888, 889, 890, 891, 892, 893, 894, 895, 896, 897, 898, 899, 900, 901, 902, 903, 904, 905, 906, 907, 908, 909, 910, 911, 912, 913, 914, 915, 916, 917, 918] (by decide +kernel) (by decide +kernel)
set_option maxRecDepth 20000 in
theorem gL_law_X8_read : GoodIn wsL_law (wsV RL 35 RX8 yX8_read wsX8_read) := goodIn_app (goodIn_of _ (by decide +kernel)) ggL_law_X8_read
set_option maxRecDepth 20000 in
theorem ggL_law_X7_of : GoodIn wsL_law wsX7_of := goodIn_r _ [336, 16, 148, 337, 177, 178, 179, 20, 180, 60, 181, 182, 183, 2, 184, 185, 186, 187, 188, 189, 56, 338, 339, 340, 341, 59, 875, 876, 877, 878, 879, 880, 881, 882, 919, 920, 921, 922, 923, 924, 925, 926, 927, 928, 929] (by decide +kernel) (by decide +kernel)
set_option maxRecDepth 20000 in
theorem gL_law_X7_of : GoodIn wsL_law (wsV RL 36 RX7 yX7_of wsX7_of) := goodIn_app (goodIn_of _ (by decide +kernel)) ggL_law_X7_of
set_option maxRecDepth 20000 in
theorem ggL_law_X8_of : GoodIn wsL_law wsX8_of := goodIn_r _ [345, 346, 347, 117, 204, 205, 206, 5, 207, 208, 209, 210, 211, 115, 166, 167, 168, 348, 349, 350, 351, 352, 353, 354, 355, 120, 883, 884, 885, 886, 887, 888, 889, 890, 891, 892, 893, 894, 895, 896, 897, 898, 899, 900, 901, 902, 903, 904, 905, 906, 907, 908, 909, 910, 911, 912, 913, 914, 915, 916, 917, 918] (by decide +kernel) (by decide +kernel)
set_option maxRecDepth 20000 in
theorem gL_law_X8_of : GoodIn wsL_law (wsV RL 40 RX8 yX8_of wsX8_of) := goodIn_app (goodIn_of _ (by decide +kernel)) ggL_law_X8_of
set_option maxRecDepth 20000 in
theorem ggL_law_X7_person : GoodIn wsL_law wsX7_person := goodIn_r _ [359, 16, 148, 360, 177, 178, 179, 20, 180, 60, 361, 362, 2, 363, 364, 365, 366, 367, 368, 369, 370, 371, 372, 187, 188, 189, 56, 373, 339, 340, 341, 59, 374, 375, 376, 377, 378, 379, 380, 381, 57, 382, 383, 384, 385, 386, 387, 388, 389, 390, 391, 392, 875, 876, 877, 878, 879, 880, 881, 882, 919, 920, 921, 922, 923, 924, 925, 926, 927, 928, 929] (by decide +kernel) (by decide +kernel)
set_option maxRecDepth 20000 in
theorem gL_law_X7_person : GoodIn wsL_law (wsV RL 41 RX7 yX7_person wsX7_person) := goodIn_app (goodIn_of _ (by decide +kernel)) ggL_law_X7_person
set_option maxRecDepth 20000 in
theorem ggL_law_X8_person : GoodIn wsL_law wsX8_person := goodIn_r _ [396, 118, 208, 209, 210, 5, 211, 115, 166, 167, 168, 397, 398, 399, 400, 348, 349, 350, 351, 117, 352, 353, 354, 355, 120, 401, 402, 403, 404, 405, 406, 407, 408, 409, 410, 411, 883, 884, 885, 886, 887, 888, 889, 890, 891, 892, 893, 894, 895, 896, 897, 898, 899, 900, 901, 902, 903, 904, 905, 906, 907, 908, 909, 910, 911, 912, 913, 914, 915, 916, 917, 918] (by decide +kernel) (by decide +kernel)
set_option maxRecDepth 20000 in
theorem gL_law_X8_person : GoodIn wsL_law (wsV RL 45 RX8 yX8_person wsX8_person) := goodIn_app (goodIn_of _ (by decide +kernel)) ggL_law_X8_person
set_option maxRecDepth 20000 in
theorem ggL_law_X7_thing : GoodIn wsL_law wsX7_thing := goodIn_r _ [415, 16, 148, 416, 417, 177, 178, 179, 20, 180, 60, 361, 362, 2, 363, 418, 419, 420, 421, 422, 365, 366, 367, 368, 369, 370, 371, 372, 187, 188, 189, 56, 373, 339, 340, 341, 59, 875, 876, 877, 878, 879, 880, 881, 882, 919, 920, 921, 922, 923, 924, 925, 926, 927, 928, 929] (by decide +kernel) (by decide +kernel)
set_option maxRecDepth 20000 in
theorem gL_law_X7_thing : GoodIn wsL_law (wsV RL 46 RX7 yX7_thing wsX7_thing) := goodIn_app (goodIn_of _ (by decide +kernel)) ggL_law_X7_thing
set_option maxRecDepth 20000 in
theorem ggL_law_X8_thing : GoodIn wsL_law wsX8_thing := goodIn_r _ [426, 120, 119, 208, 209, 210, 5, 211, 115, 166, 167, 168, 427, 428, 429, 430, 397, 398, 399, 400, 348, 349, 350, 351, 117, 352, 353, 354, 355, 883, 884, 885, 886, 887, 888, 889, 890, 891, 892, 893, 894, 895, 896, 897, 898, 899, 900, 901, 902, 903, 904, 905, 906, 907, 908, 909, 910, 911, 912, 913, 914, 915, 916, 917, 918] (by decide +kernel) (by decide +kernel)
set_option maxRecDepth 20000 in
theorem gL_law_X8_thing : GoodIn wsL_law (wsV RL 49 RX8 yX8_thing wsX8_thing) := goodIn_app (goodIn_of _ (by decide +kernel)) ggL_law_X8_thing
set_option maxRecDepth 20000 in
theorem ggL_law_X7_bid : GoodIn wsL_law wsX7_bid := goodIn_r _ [434, 16, 148, 435, 436, 437, 20, 438, 59, 58, 57, 439, 440, 441, 442, 60, 443, 444, 445, 446, 372, 187, 188, 189, 56, 422, 365, 366, 367, 368, 369, 370, 371, 373, 339, 340, 341, 447, 448, 449, 450, 61, 361, 362, 2, 363, 875, 876, 877, 878, 879, 880, 881, 882, 919, 920, 921, 922, 923, 924, 925, 926, 927, 928, 929] (by decide +kernel) (by decide +kernel)
set_option maxRecDepth 20000 in
theorem gL_law_X7_bid : GoodIn wsL_law (wsV RL 50 RX7 yX7_bid wsX7_bid) := goodIn_app (goodIn_of _ (by decide +kernel)) ggL_law_X7_bid
set_option maxRecDepth 20000 in
theorem ggL_law_X8_bid : GoodIn wsL_law wsX8_bid := goodIn_r _ [454, 455, 456, 457, 5, 458, 115, 118, 397, 398, 399, 400, 348, 349, 350, 351, 117, 352, 353, 354, 355, 120, 459, 460, 461, 462, 119, 463, 464, 465, 466, 116, 467, 468, 469, 470, 216, 217, 218, 219, 883, 884, 885, 886, 887, 888, 889, 890, 891, 892, 893, 894, 895, 896, 897, 898, 899, 900, 901, 902, 903, 904, 905, 906, 907, 908, 909, 910, 911, 912, 913, 914, 915, 916, 917, 918] (by decide +kernel) (by decide +kernel)
set_option maxRecDepth 20000 in
theorem gL_law_X8_bid : GoodIn wsL_law (wsV RL 53 RX8 yX8_bid wsX8_bid) := goodIn_app (goodIn_of _ (by decide +kernel)) ggL_law_X8_bid
set_option maxRecDepth 20000 in
theorem ggL_law_X7_auction : GoodIn wsL_law wsX7_auction := goodIn_r _ [474, 16, 148, 475, 476, 477, 20, 478, 62, 479, 59, 58, 480, 436, 437, 438, 57, 439, 440, 441, 442, 60, 443, 444, 445, 446, 372, 187, 188, 189, 56, 422, 365, 366, 367, 368, 369, 370, 371, 373, 339, 340, 341, 447, 448, 449, 450, 61, 481, 482, 483, 2, 484, 485, 33, 149, 288, 289, 290, 32, 291, 101, 102, 103, 486, 487, 488, 489, 490, 491, 492, 493, 875, 876, 877, 878, 879, 880, 881, 882, 919, 920, 921, 922, 923, 924, 925, 926, 927, 928, 929, 939, 940, 941] (by decide +kernel) (by decide +kernel)
set_option maxRecDepth 20000 in
theorem gL_law_X7_auction : GoodIn wsL_law (wsV RL 54 RX7 yX7_auction wsX7_auction) := goodIn_app (goodIn_of _ (by decide +kernel)) ggL_law_X7_auction
set_option maxRecDepth 20000 in
theorem ggL_law_X8_auction : GoodIn wsL_law wsX8_auction := goodIn_r _ [497, 498, 499, 500, 501, 5, 502, 120, 455, 456, 457, 458, 115, 118, 397, 398, 399, 400, 348, 349, 350, 351, 117, 352, 353, 354, 355, 459, 460, 461, 462, 119, 463, 464, 465, 466, 116, 467, 468, 469, 470, 216, 217, 218, 219, 329, 330, 331, 332, 127, 503, 504, 505, 506, 883, 884, 885, 886, 887, 888, 889, 890, 891, 892, 893, 894, 895, 896, 897, 898, 899, 900, 901, 902, 903, 904, 905, 906, 907, 908, 909, 910, 911, 912, 913, 914, 915, 916, 917, 918] (by decide +kernel) (by decide +kernel)
set_option maxRecDepth 20000 in
theorem gL_law_X8_auction : GoodIn wsL_law (wsV RL 57 RX8 yX8_auction wsX8_auction) := goodIn_app (goodIn_of _ (by decide +kernel)) ggL_law_X8_auction
set_option maxRecDepth 20000 in
theorem ggL_law_X7_scaled : GoodIn wsL_law wsX7_scaled := goodIn_r _ [510, 16, 148, 511, 512, 513, 20, 514, 61, 62, 515, 71, 72, 73, 74, 57, 58, 516, 476, 477, 478, 479, 59, 480, 436, 437, 438, 439, 440, 441, 442, 60, 443, 444, 445, 446, 372, 187, 188, 189, 56, 422, 365, 366, 367, 368, 369, 370, 371, 373, 339, 340, 341, 447, 448, 449, 450, 481, 482, 483, 2, 484, 485, 33, 149, 288, 289, 290, 32, 291, 101, 102, 103, 486, 487, 488, 489, 490, 491, 492, 493, 875, 876, 877, 878, 879, 880, 881, 882, 919, 920, 921, 922, 923, 924, 925, 926, 927, 928, 929, 939, 940, 941] (by decide +kernel) (by decide +kernel)
set_option maxRecDepth 20000 in
theorem gL_law_X7_scaled : GoodIn wsL_law (wsV RL 58 RX7 yX7_scaled wsX7_scaled) := goodIn_app (goodIn_of _ (by decide +kernel)) ggL_law_X7_scaled
set_option maxRecDepth 20000 in
theorem ggL_law_X8_scaled : GoodIn wsL_law wsX8_scaled := goodIn_r _ [520, 116, 498, 140, 141, 142, 5, 143, 118, 115, 119, 499, 500, 501, 502, 120, 455, 456, 457, 458, 397, 398, 399, 400, 348, 349, 350, 351, 117, 352, 353, 354, 355, 459, 460, 461, 462, 463, 464, 465, 466, 467, 468, 469, 470, 216, 217, 218, 219, 329, 330, 331, 332, 127, 503, 504, 505, 506, 883, 884, 885, 886, 887, 888, 889, 890, 891, 892, 893, 894, 895, 896, 897, 898, 899, 900, 901, 902, 903, 904, 905, 906, 907, 908, 909, 910, 911, 912, 913, 914, 915, 916, 917, 918] (by decide +kernel) (by decide +kernel)
set_option maxRecDepth 20000 in
theorem gL_law_X8_scaled : GoodIn wsL_law (wsV RL 61 RX8 yX8_scaled wsX8_scaled) := goodIn_app (goodIn_of _ (by decide +kernel)) ggL_law_X8_scaled
set_option maxRecDepth 20000 in
theorem ggL_law_X7_fresh : GoodIn wsL_law wsX7_fresh := goodIn_r _ [524, 16, 148, 490, 491, 492, 20, 493, 60, 57, 525, 68, 69, 70, 59, 71, 72, 73, 74, 58, 875, 876, 877, 878, 879, 880, 881, 882, 919, 920, 921, 922, 923, 924, 925, 926, 927, 928, 929] (by decide +kernel) (by decide +kernel)
set_option maxRecDepth 20000 in
theorem gL_law_X7_fresh : GoodIn wsL_law (wsV RL 62 RX7 yX7_fresh wsX7_fresh) := goodIn_app (goodIn_of _ (by decide +kernel)) ggL_law_X7_fresh
set_option maxRecDepth 20000 in
theorem ggL_law_X8_fresh : GoodIn wsL_law wsX8_fresh := goodIn_r _ [529, 169, 170, 171, 5, 172, 120, 140, 141, 142, 143, 118, 115, 119, 883, 884, 885, 886, 887, 888, 889, 890, 891, 892, 893, 894, 895, 896, 897, 898, 899, 900, 901, 902, 903, 904, 905, 906, 907, 908, 909, 910, 911, 912, 913, 914, 915, 916, 917, 918] (by decide +kernel) (by decide +kernel)
set_option maxRecDepth 20000 in
theorem gL_law_X8_fresh : GoodIn wsL_law (wsV RL 65 RX8 yX8_fresh wsX8_fresh) := goodIn_app (goodIn_of _ (by decide +kernel)) ggL_law_X8_fresh
set_option maxRecDepth 20000 in
theorem ggL_law_X7_leave : GoodIn wsL_law wsX7_leave := goodIn_r _ [533, 16, 148, 360, 177, 178, 179, 20, 180, 60, 534, 195, 196, 197, 57, 58, 875, 876, 877, 878, 879, 880, 881, 882, 919, 920, 921, 922, 923, 924, 925, 926, 927, 928, 929] (by decide +kernel) (by decide +kernel)
set_option maxRecDepth 20000 in
theorem gL_law_X7_leave : GoodIn wsL_law (wsV RL 66 RX7 yX7_leave wsX7_leave) := goodIn_app (goodIn_of _ (by decide +kernel)) ggL_law_X7_leave
set_option maxRecDepth 20000 in
theorem ggL_law_X8_leave : GoodIn wsL_law wsX8_leave := goodIn_r _ [538, 118, 208, 209, 210, 5, 211, 115, 166, 167, 168, 216, 217, 218, 219, 119, 883, 884, 885, 886, 887, 888, 889, 890, 891, 892, 893, 894, 895, 896, 897, 898, 899, 900, 901, 902, 903, 904, 905, 906, 907, 908, 909, 910, 911, 912, 913, 914, 915, 916, 917, 918] (by decide +kernel) (by decide +kernel)
set_option maxRecDepth 20000 in
theorem gL_law_X8_leave : GoodIn wsL_law (wsV RL 69 RX8 yX8_leave wsX8_leave) := goodIn_app (goodIn_of _ (by decide +kernel)) ggL_law_X8_leave
set_option maxRecDepth 20000 in
theorem ggL_law_X7_told : GoodIn wsL_law wsX7_told := goodIn_r _ [542, 16, 148, 149, 224, 25, 543, 544, 545, 20, 546, 60, 57, 56, 547, 548, 549, 24, 550, 551, 86, 552, 553, 554, 555, 556, 557, 558, 559, 560, 561, 387, 388, 389, 390, 391, 392, 562, 187, 188, 189, 563, 564, 565, 566, 61, 422, 365, 366, 367, 368, 369, 370, 371, 372, 373, 339, 340, 341, 59, 378, 379, 380, 381, 567, 568, 569, 570, 571, 572, 573, 574, 575, 383, 384, 385, 576, 440, 441, 442, 443, 444, 445, 446, 361, 362, 2, 363, 577, 578, 579, 580, 439, 447, 448, 449, 450, 490, 491, 492, 493, 581, 582, 583, 584, 875, 876, 877, 878, 879, 880, 881, 882, 919, 920, 921, 922, 923, 924, 925, 926, 927, 928, 929, 930] (by decide +kernel) (by decide +kernel)
set_option maxRecDepth 20000 in
theorem gL_law_X7_told : GoodIn wsL_law (wsV RL 70 RX7 yX7_told wsX7_told) := goodIn_app (goodIn_of _ (by decide +kernel)) ggL_law_X7_told
set_option maxRecDepth 20000 in
theorem ggL_law_X8_told : GoodIn wsL_law wsX8_told := goodIn_r _ [588, 115, 116, 589, 590, 591, 5, 592, 118, 117, 593, 594, 595, 596, 134, 597, 558, 559, 560, 409, 410, 411, 348, 349, 350, 351, 598, 599, 600, 601, 397, 398, 399, 400, 352, 353, 354, 355, 120, 602, 603, 604, 605, 405, 406, 407, 408, 455, 456, 457, 458, 463, 464, 465, 466, 467, 468, 469, 470, 606, 607, 608, 609, 610, 611, 612, 613, 883, 884, 885, 886, 887, 888, 889, 890, 891, 892, 893, 894, 895, 896, 897, 898, 899, 900, 901, 902, 903, 904, 905, 906, 907, 908, 909, 910, 911, 912, 913, 914, 915, 916, 917, 918] (by decide +kernel) (by decide +kernel)
set_option maxRecDepth 20000 in
theorem gL_law_X8_told : GoodIn wsL_law (wsV RL 73 RX8 yX8_told wsX8_told) := goodIn_app (goodIn_of _ (by decide +kernel)) ggL_law_X8_told
set_option maxRecDepth 20000 in
theorem ggL_law_X7_wrong : GoodIn wsL_law wsX7_wrong := goodIn_r _ [617, 33, 618, 619, 620, 875, 876, 877, 878, 879, 880, 881, 882, 939, 940, 941] (by decide +kernel) (by decide +kernel)
set_option maxRecDepth 20000 in
theorem gL_law_X7_wrong : GoodIn wsL_law (wsV RL 74 RX7 yX7_wrong wsX7_wrong) := goodIn_app (goodIn_of _ (by decide +kernel)) ggL_law_X7_wrong
set_option maxRecDepth 20000 in
theorem ggL_law_X8_wrong : GoodIn wsL_law wsX8_wrong := goodIn_r _ [624, 127, 883, 884, 885, 886, 887, 888, 889, 890, 891, 892, 893, 894, 895, 896, 897, 898, 899, 900, 901, 902, 903, 904, 905, 906, 907, 908, 909, 910, 911, 912, 913, 914, 915, 916, 917, 918] (by decide +kernel) (by decide +kernel)
set_option maxRecDepth 20000 in
theorem gL_law_X8_wrong : GoodIn wsL_law (wsV RL 77 RX8 yX8_wrong wsX8_wrong) := goodIn_app (goodIn_of _ (by decide +kernel)) ggL_law_X8_wrong
set_option maxRecDepth 20000 in
theorem ggL_law_X7_see : GoodIn wsL_law wsX7_see := goodIn_r _ [628, 16, 150, 148, 154, 155, 156, 46, 157, 79, 177, 178, 179, 20, 180, 60, 629, 630, 631, 632, 80, 81, 875, 876, 877, 878, 879, 880, 881, 882, 919, 920, 921, 922, 945, 946, 947, 923, 924, 925, 926, 927, 928, 929] (by decide +kernel) (by decide +kernel)
set_option maxRecDepth 20000 in
theorem gL_law_X7_see : GoodIn wsL_law (wsV RL 78 RX7 yX7_see wsX7_see) := goodIn_app (goodIn_of _ (by decide +kernel)) ggL_law_X7_see
set_option maxRecDepth 20000 in
theorem ggL_law_X8_see : GoodIn wsL_law wsX8_see := goodIn_r _ [636, 163, 121, 122, 204, 205, 206, 5, 207, 208, 209, 210, 211, 115, 166, 167, 168, 883, 884, 885, 886, 887, 888, 889, 890, 891, 892, 893, 894, 895, 896, 897, 898, 899, 900, 901, 902, 903, 904, 905, 906, 907, 908, 909, 910, 911, 912, 913, 914, 915, 916, 917, 918] (by decide +kernel) (by decide +kernel)
set_option maxRecDepth 20000 in
theorem gL_law_X8_see : GoodIn wsL_law (wsV RL 81 RX8 yX8_see wsX8_see) := goodIn_app (goodIn_of _ (by decide +kernel)) ggL_law_X8_see
set_option maxRecDepth 20000 in
theorem ggL_law_X7_fits : GoodIn wsL_law wsX7_fits := goodIn_r _ [640, 16, 148, 21, 177, 178, 179, 20, 180, 60, 641, 642, 643, 644, 61, 56, 645, 646, 647, 648, 57, 58, 59, 190, 191, 192, 193, 194, 195, 196, 197, 525, 68, 69, 70, 71, 72, 73, 74, 475, 476, 477, 478, 62, 479, 480, 436, 437, 438, 439, 440, 441, 442, 443, 444, 445, 446, 372, 187, 188, 189, 422, 365, 366, 367, 368, 369, 370, 371, 373, 339, 340, 341, 447, 448, 449, 450, 649, 650, 651, 2, 652, 150, 653, 654, 360, 655, 875, 876, 877, 878, 879, 880, 881, 882, 919, 920, 921, 922, 923, 924, 925, 926, 927, 928, 929, 945, 946, 947] (by decide +kernel) (by decide +kernel)
set_option maxRecDepth 20000 in
theorem gL_law_X7_fits : GoodIn wsL_law (wsV RL 82 RX7 yX7_fits wsX7_fits) := goodIn_app (goodIn_of _ (by decide +kernel)) ggL_law_X7_fits
set_option maxRecDepth 20000 in
theorem ggL_law_X8_fits : GoodIn wsL_law wsX8_fits := goodIn_r _ [659, 117, 204, 205, 206, 5, 207, 208, 209, 210, 211, 115, 166, 167, 168, 660, 661, 662, 663, 118, 130, 119, 131, 120, 132, 127, 133, 116, 664, 665, 666, 667, 668, 669, 670, 671, 140, 141, 142, 143, 169, 170, 171, 172, 499, 500, 501, 502, 498, 455, 456, 457, 458, 397, 398, 399, 400, 348, 349, 350, 351, 352, 353, 354, 355, 459, 460, 461, 462, 463, 464, 465, 466, 467, 468, 469, 470, 216, 217, 218, 219, 329, 330, 331, 332, 503, 504, 505, 506, 672, 673, 674, 675, 163, 121, 122, 676, 677, 678, 679, 883, 884, 885, 886, 887, 888, 889, 890, 891, 892, 893, 894, 895, 896, 897, 898, 899, 900, 901, 902, 903, 904, 905, 906, 907, 908, 909, 910, 911, 912, 913, 914, 915, 916, 917, 918] (by decide +kernel) (by decide +kernel)
set_option maxRecDepth 20000 in
theorem gL_law_X8_fits : GoodIn wsL_law (wsV RL 85 RX8 yX8_fits wsX8_fits) := goodIn_app (goodIn_of _ (by decide +kernel)) ggL_law_X8_fits
set_option maxRecDepth 20000 in
theorem ggL_law_X7_odds : GoodIn wsL_law wsX7_odds := goodIn_r _ [683, 16, 148, 337, 21, 224, 360, 177, 178, 179, 20, 180, 60, 641, 642, 643, 644, 61, 56, 645, 646, 647, 648, 57, 58, 59, 525, 68, 69, 70, 71, 72, 73, 74, 475, 476, 477, 478, 62, 479, 480, 436, 437, 438, 439, 440, 441, 442, 443, 444, 445, 446, 372, 187, 188, 189, 422, 365, 366, 367, 368, 369, 370, 371, 373, 339, 340, 341, 447, 448, 449, 450, 684, 685, 2, 686, 875, 876, 877, 878, 879, 880, 881, 882, 919, 920, 921, 922, 923, 924, 925, 926, 927, 928, 929] (by decide +kernel) (by decide +kernel)
set_option maxRecDepth 20000 in
theorem gL_law_X7_odds : GoodIn wsL_law (wsV RL 86 RX7 yX7_odds wsX7_odds) := goodIn_app (goodIn_of _ (by decide +kernel)) ggL_law_X7_odds
set_option maxRecDepth 20000 in
theorem ggL_law_X8_odds : GoodIn wsL_law wsX8_odds := goodIn_r _ [690, 346, 118, 116, 691, 208, 209, 210, 5, 211, 115, 166, 167, 168, 660, 661, 662, 663, 130, 119, 131, 120, 132, 127, 133, 664, 665, 666, 667, 668, 669, 670, 671, 140, 141, 142, 143, 169, 170, 171, 172, 499, 500, 501, 502, 498, 455, 456, 457, 458, 397, 398, 399, 400, 348, 349, 350, 351, 117, 352, 353, 354, 355, 459, 460, 461, 462, 463, 464, 465, 466, 467, 468, 469, 470, 216, 217, 218, 219, 329, 330, 331, 332, 503, 504, 505, 506, 676, 677, 678, 679, 692, 693, 694, 883, 884, 885, 886, 887, 888, 889, 890, 891, 892, 893, 894, 895, 896, 897, 898, 899, 900, 901, 902, 903, 904, 905, 906, 907, 908, 909, 910, 911, 912, 913, 914, 915, 916, 917, 918] (by decide +kernel) (by decide +kernel)
set_option maxRecDepth 20000 in
theorem gL_law_X8_odds : GoodIn wsL_law (wsV RL 90 RX8 yX8_odds wsX8_odds) := goodIn_app (goodIn_of _ (by decide +kernel)) ggL_law_X8_odds
set_option maxRecDepth 20000 in
theorem ggL_law_X7_mean : GoodIn wsL_law wsX7_mean := goodIn_r _ [698, 16, 148, 149, 581, 582, 583, 20, 584, 60, 59, 684, 685, 2, 686, 337, 875, 876, 877, 878, 879, 880, 881, 882, 919, 920, 921, 922, 923, 924, 925, 926, 927, 928, 929] (by decide +kernel) (by decide +kernel)
set_option maxRecDepth 20000 in
theorem gL_law_X7_mean : GoodIn wsL_law (wsV RL 91 RX7 yX7_mean wsX7_mean) := goodIn_app (goodIn_of _ (by decide +kernel)) ggL_law_X7_mean
set_option maxRecDepth 20000 in
theorem ggL_law_X8_mean : GoodIn wsL_law wsX8_mean := goodIn_r _ [702, 115, 346, 166, 167, 5, 168, 610, 611, 612, 613, 120, 692, 693, 694, 883, 884, 885, 886, 887, 888, 889, 890, 891, 892, 893, 894, 895, 896, 897, 898, 899, 900, 901, 902, 903, 904, 905, 906, 907, 908, 909, 910, 911, 912, 913, 914, 915, 916, 917, 918] (by decide +kernel) (by decide +kernel)
set_option maxRecDepth 20000 in
theorem gL_law_X8_mean : GoodIn wsL_law (wsV RL 95 RX8 yX8_mean wsX8_mean) := goodIn_app (goodIn_of _ (by decide +kernel)) ggL_law_X8_mean
set_option maxRecDepth 20000 in
theorem ggL_law_X7_plan : GoodIn wsL_law wsX7_plan := goodIn_r _ [706, 16, 151, 148, 154, 155, 156, 46, 157, 79, 177, 178, 179, 20, 180, 60, 225, 226, 2, 227, 629, 630, 631, 632, 80, 81, 875, 876, 877, 878, 879, 880, 881, 882, 919, 920, 921, 922, 945, 946, 947, 923, 924, 925, 926, 927, 928, 929] (by decide +kernel) (by decide +kernel)
set_option maxRecDepth 20000 in
theorem gL_law_X7_plan : GoodIn wsL_law (wsV RL 96 RX7 yX7_plan wsX7_plan) := goodIn_app (goodIn_of _ (by decide +kernel)) ggL_law_X7_plan
set_option maxRecDepth 20000 in
theorem ggL_law_X8_plan : GoodIn wsL_law wsX8_plan := goodIn_r _ [710, 164, 711, 232, 123, 124, 166, 167, 5, 168, 208, 209, 210, 211, 115, 883, 884, 885, 886, 887, 888, 889, 890, 891, 892, 893, 894, 895, 896, 897, 898, 899, 900, 901, 902, 903, 904, 905, 906, 907, 908, 909, 910, 911, 912, 913, 914, 915, 916, 917, 918] (by decide +kernel) (by decide +kernel)
set_option maxRecDepth 20000 in
theorem gL_law_X8_plan : GoodIn wsL_law (wsV RL 99 RX8 yX8_plan wsX8_plan) := goodIn_app (goodIn_of _ (by decide +kernel)) ggL_law_X8_plan
set_option maxRecDepth 20000 in
theorem ggL_law_X7_ends : GoodIn wsL_law wsX7_ends := goodIn_r _ [715, 21, 16, 148, 151, 653, 654, 655, 641, 642, 643, 20, 644, 60, 61, 56, 645, 646, 647, 648, 57, 58, 59, 716, 717, 2, 718, 224, 435, 436, 437, 438, 439, 440, 441, 442, 443, 444, 445, 446, 372, 187, 188, 189, 422, 365, 366, 367, 368, 369, 370, 371, 373, 339, 340, 341, 447, 448, 449, 450, 177, 178, 179, 180, 534, 195, 196, 197, 543, 544, 545, 546, 581, 582, 583, 584, 875, 876, 877, 878, 879, 880, 881, 882, 919, 920, 921, 922, 945, 946, 947, 923, 924, 925, 926, 927, 928, 929] (by decide +kernel) (by decide +kernel)
set_option maxRecDepth 20000 in
theorem gL_law_X7_ends : GoodIn wsL_law (wsV RL 100 RX7 yX7_ends wsX7_ends) := goodIn_app (goodIn_of _ (by decide +kernel)) ggL_law_X7_ends
set_option maxRecDepth 20000 in
theorem ggL_law_X8_ends : GoodIn wsL_law wsX8_ends := goodIn_r _ [722, 164, 123, 124, 116, 166, 167, 5, 168, 660, 661, 662, 663, 118, 130, 119, 131, 120, 132, 127, 133, 664, 665, 666, 667, 723, 452, 453, 454, 455, 456, 457, 458, 115, 397, 398, 399, 400, 348, 349, 350, 351, 117, 352, 353, 354, 355, 459, 460, 461, 462, 463, 464, 465, 466, 467, 468, 469, 470, 216, 217, 218, 219, 589, 590, 591, 592, 610, 611, 612, 613, 676, 677, 678, 679, 883, 884, 885, 886, 887, 888, 889, 890, 891, 892, 893, 894, 895, 896, 897, 898, 899, 900, 901, 902, 903, 904, 905, 906, 907, 908, 909, 910, 911, 912, 913, 914, 915, 916, 917, 918] (by decide +kernel) (by decide +kernel)
set_option maxRecDepth 20000 in
theorem gL_law_X8_ends : GoodIn wsL_law (wsV RL 103 RX8 yX8_ends wsX8_ends) := goodIn_app (goodIn_of _ (by decide +kernel)) ggL_law_X8_ends
set_option maxRecDepth 20000 in
theorem ggL_law_X7_book : GoodIn wsL_law wsX7_book := goodIn_r _ [727, 16, 152, 148, 154, 155, 156, 46, 157, 79, 177, 178, 179, 20, 180, 60, 629, 630, 631, 632, 80, 81, 875, 876, 877, 878, 879, 880, 881, 882, 919, 920, 921, 922, 945, 946, 947, 923, 924, 925, 926, 927, 928, 929] (by decide +kernel) (by decide +kernel)
set_option maxRecDepth 20000 in
theorem gL_law_X7_book : GoodIn wsL_law (wsV RL 104 RX7 yX7_book wsX7_book) := goodIn_app (goodIn_of _ (by decide +kernel)) ggL_law_X7_book
set_option maxRecDepth 20000 in
theorem ggL_law_X8_book : GoodIn wsL_law wsX8_book := goodIn_r _ [731, 165, 732, 125, 126, 208, 209, 210, 5, 211, 115, 166, 167, 168, 883, 884, 885, 886, 887, 888, 889, 890, 891, 892, 893, 894, 895, 896, 897, 898, 899, 900, 901, 902, 903, 904, 905, 906, 907, 908, 909, 910, 911, 912, 913, 914, 915, 916, 917, 918] (by decide +kernel) (by decide +kernel)
set_option maxRecDepth 20000 in
theorem gL_law_X8_book : GoodIn wsL_law (wsV RL 107 RX8 yX8_book wsX8_book) := goodIn_app (goodIn_of _ (by decide +kernel)) ggL_law_X8_book
set_option maxRecDepth 20000 in
theorem ggL_law_X7_looked : GoodIn wsL_law wsX7_looked := goodIn_r _ [736, 16, 152, 653, 654, 148, 416, 655, 177, 178, 179, 20, 180, 60, 875, 876, 877, 878, 879, 880, 881, 882, 919, 920, 921, 922, 945, 946, 947, 923, 924, 925, 926, 927, 928, 929] (by decide +kernel) (by decide +kernel)
set_option maxRecDepth 20000 in
theorem gL_law_X7_looked : GoodIn wsL_law (wsV RL 108 RX7 yX7_looked wsX7_looked) := goodIn_app (goodIn_of _ (by decide +kernel)) ggL_law_X7_looked
set_option maxRecDepth 20000 in
theorem ggL_law_X8_looked : GoodIn wsL_law wsX8_looked := goodIn_r _ [740, 165, 120, 125, 126, 883, 884, 885, 886, 887, 888, 889, 890, 891, 892, 893, 894, 895, 896, 897, 898, 899, 900, 901, 902, 903, 904, 905, 906, 907, 908, 909, 910, 911, 912, 913, 914, 915, 916, 917, 918] (by decide +kernel) (by decide +kernel)
set_option maxRecDepth 20000 in
theorem gL_law_X8_looked : GoodIn wsL_law (wsV RL 111 RX8 yX8_looked wsX8_looked) := goodIn_app (goodIn_of _ (by decide +kernel)) ggL_law_X8_looked
set_option maxRecDepth 20000 in
theorem ggL_law_X7_judge : GoodIn wsL_law wsX7_judge := goodIn_r _ [744, 35, 745, 16, 148, 149, 746, 747, 416, 748, 749, 2, 750, 875, 876, 877, 878, 879, 880, 881, 882, 942, 943, 944, 919, 920, 921, 922, 923, 924, 925, 926, 927, 928, 929] (by decide +kernel) (by decide +kernel)
set_option maxRecDepth 20000 in
theorem gL_law_X7_judge : GoodIn wsL_law (wsV RL 112 RX7 yX7_judge wsX7_judge) := goodIn_app (goodIn_of _ (by decide +kernel)) ggL_law_X7_judge
set_option maxRecDepth 20000 in
theorem ggL_law_X8_judge : GoodIn wsL_law wsX8_judge := goodIn_r _ [754, 137, 115, 138, 136, 120, 755, 756, 5, 757, 758, 166, 167, 168, 883, 884, 885, 886, 887, 888, 889, 890, 891, 892, 893, 894, 895, 896, 897, 898, 899, 900, 901, 902, 903, 904, 905, 906, 907, 908, 909, 910, 911, 912, 913, 914, 915, 916, 917, 918] (by decide +kernel) (by decide +kernel)
set_option maxRecDepth 20000 in
theorem gL_law_X8_judge : GoodIn wsL_law (wsV RL 115 RX8 yX8_judge wsX8_judge) := goodIn_app (goodIn_of _ (by decide +kernel)) ggL_law_X8_judge
set_option maxRecDepth 20000 in
theorem ggL_law_X7_image : GoodIn wsL_law wsX7_image := goodIn_r _ [762, 17, 16, 36, 148, 149, 763, 764, 765, 15, 766, 43, 47, 48, 49, 767, 642, 643, 20, 644, 60, 61, 56, 645, 646, 647, 648, 57, 58, 59, 768, 769, 770, 46, 771, 79, 80, 772, 773, 559, 774, 775, 81, 875, 876, 877, 878, 879, 880, 881, 882, 919, 920, 921, 922, 923, 924, 925, 926, 927, 928, 929, 945, 946, 947] (by decide +kernel) (by decide +kernel)
set_option maxRecDepth 20000 in
theorem gL_law_X7_image : GoodIn wsL_law (wsV RL 116 RX7 yX7_image wsX7_image) := goodIn_app (goodIn_of _ (by decide +kernel)) ggL_law_X7_image
set_option maxRecDepth 20000 in
theorem ggL_law_X8_image : GoodIn wsL_law wsX8_image := goodIn_r _ [779, 780, 781, 782, 783, 5, 784, 785, 786, 115, 116, 163, 164, 165, 117, 118, 119, 120, 121, 122, 123, 124, 125, 126, 787, 788, 789, 790, 129, 791, 792, 793, 794, 883, 884, 885, 886, 887, 888, 889, 890, 891, 892, 893, 894, 895, 896, 897, 898, 899, 900, 901, 902, 903, 904, 905, 906, 907, 908, 909, 910, 911, 912, 913, 914, 915, 916, 917, 918] (by decide +kernel) (by decide +kernel)
set_option maxRecDepth 20000 in
theorem gL_law_X8_image : GoodIn wsL_law (wsV RL 119 RX8 yX8_image wsX8_image) := goodIn_app (goodIn_of _ (by decide +kernel)) ggL_law_X8_image
set_option maxRecDepth 20000 in
theorem ggL_law_X7_undo : GoodIn wsL_law wsX7_undo := goodIn_r _ [798, 36, 16, 17, 148, 149, 763, 764, 765, 15, 766, 43, 47, 48, 49, 767, 642, 643, 20, 644, 60, 61, 56, 645, 646, 647, 648, 57, 58, 59, 768, 769, 770, 46, 771, 79, 80, 772, 773, 559, 774, 775, 81, 875, 876, 877, 878, 879, 880, 881, 882, 919, 920, 921, 922, 923, 924, 925, 926, 927, 928, 929, 945, 946, 947] (by decide +kernel) (by decide +kernel)
set_option maxRecDepth 20000 in
theorem gL_law_X7_undo : GoodIn wsL_law (wsV RL 120 RX7 yX7_undo wsX7_undo) := goodIn_app (goodIn_of _ (by decide +kernel)) ggL_law_X7_undo
set_option maxRecDepth 20000 in
theorem ggL_law_X8_undo : GoodIn wsL_law wsX8_undo := goodIn_r _ [802, 780, 781, 782, 783, 5, 784, 785, 786, 115, 116, 163, 164, 165, 117, 118, 119, 120, 121, 122, 123, 124, 125, 126, 787, 788, 789, 790, 129, 791, 792, 793, 794, 883, 884, 885, 886, 887, 888, 889, 890, 891, 892, 893, 894, 895, 896, 897, 898, 899, 900, 901, 902, 903, 904, 905, 906, 907, 908, 909, 910, 911, 912, 913, 914, 915, 916, 917, 918] (by decide +kernel) (by decide +kernel)
set_option maxRecDepth 20000 in
theorem gL_law_X8_undo : GoodIn wsL_law (wsV RL 123 RX8 yX8_undo wsX8_undo) := goodIn_app (goodIn_of _ (by decide +kernel)) ggL_law_X8_undo
set_option maxRecDepth 20000 in
theorem ggL_law_X7_count : GoodIn wsL_law wsX7_count := goodIn_r _ [806, 16, 148, 149, 150, 653, 151, 152, 29, 807, 808, 809, 810, 20, 811, 60, 812, 383, 384, 385, 372, 187, 188, 189, 56, 813, 387, 388, 389, 390, 391, 392, 875, 876, 877, 878, 879, 880, 881, 882, 919, 920, 921, 922, 923, 924, 925, 926, 927, 928, 929, 945, 946, 947, 931, 932, 933, 934, 935, 936, 937, 938] (by decide +kernel) (by decide +kernel)
set_option maxRecDepth 20000 in
theorem gL_law_X7_count : GoodIn wsL_law (wsV RL 124 RX7 yX7_count wsX7_count) := goodIn_app (goodIn_of _ (by decide +kernel)) ggL_law_X7_count
set_option maxRecDepth 20000 in
theorem ggL_law_X8_count : GoodIn wsL_law wsX8_count := goodIn_r _ [817, 115, 163, 164, 165, 246, 818, 819, 820, 5, 821, 405, 406, 407, 408, 348, 349, 350, 351, 117, 409, 410, 411, 883, 884, 885, 886, 887, 888, 889, 890, 891, 892, 893, 894, 895, 896, 897, 898, 899, 900, 901, 902, 903, 904, 905, 906, 907, 908, 909, 910, 911, 912, 913, 914, 915, 916, 917, 918] (by decide +kernel) (by decide +kernel)
set_option maxRecDepth 20000 in
theorem gL_law_X8_count : GoodIn wsL_law (wsV RL 127 RX8 yX8_count wsX8_count) := goodIn_app (goodIn_of _ (by decide +kernel)) ggL_law_X8_count
set_option maxRecDepth 20000 in
theorem ggL_law_X7_tape : GoodIn wsL_law wsX7_tape := goodIn_r _ [825, 35, 748, 749, 2, 750, 826, 827, 828, 38, 829, 109, 110, 108, 875, 876, 877, 878, 879, 880, 881, 882, 942, 943, 944] (by decide +kernel) (by decide +kernel)
set_option maxRecDepth 20000 in
theorem gL_law_X7_tape : GoodIn wsL_law (wsV RL 128 RX7 yX7_tape wsX7_tape) := goodIn_app (goodIn_of _ (by decide +kernel)) ggL_law_X7_tape
set_option maxRecDepth 20000 in
theorem ggL_law_X8_tape : GoodIn wsL_law wsX8_tape := goodIn_r _ [833, 202, 834, 137, 138, 136, 755, 756, 5, 757, 758, 166, 167, 168, 883, 884, 885, 886, 887, 888, 889, 890, 891, 892, 893, 894, 895, 896, 897, 898, 899, 900, 901, 902, 903, 904, 905, 906, 907, 908, 909, 910, 911, 912, 913, 914, 915, 916, 917, 918] (by decide +kernel) (by decide +kernel)
set_option maxRecDepth 20000 in
theorem gL_law_X8_tape : GoodIn wsL_law (wsV RL 131 RX8 yX8_tape wsX8_tape) := goodIn_app (goodIn_of _ (by decide +kernel)) ggL_law_X8_tape
set_option maxRecDepth 20000 in
theorem ggL_law_X7_item : GoodIn wsL_law wsX7_item := goodIn_r _ [838, 35, 745, 747, 748, 749, 2, 750, 839, 840, 841, 38, 842, 110, 843, 844, 845, 846, 109, 875, 876, 877, 878, 879, 880, 881, 882, 942, 943, 944] (by decide +kernel) (by decide +kernel)
set_option maxRecDepth 20000 in
theorem gL_law_X7_item : GoodIn wsL_law (wsV RL 134 RX7 yX7_item wsX7_item) := goodIn_app (goodIn_of _ (by decide +kernel)) ggL_law_X7_item
set_option maxRecDepth 20000 in
theorem ggL_law_X8_item : GoodIn wsL_law wsX8_item := goodIn_r _ [850, 137, 138, 136, 755, 756, 5, 757, 758, 166, 167, 168, 851, 852, 853, 883, 884, 885, 886, 887, 888, 889, 890, 891, 892, 893, 894, 895, 896, 897, 898, 899, 900, 901, 902, 903, 904, 905, 906, 907, 908, 909, 910, 911, 912, 913, 914, 915, 916, 917, 918] (by decide +kernel) (by decide +kernel)
set_option maxRecDepth 20000 in
theorem gL_law_X8_item : GoodIn wsL_law (wsV RL 138 RX8 yX8_item wsX8_item) := goodIn_app (goodIn_of _ (by decide +kernel)) ggL_law_X8_item
set_option maxRecDepth 20000 in
theorem ggL_law_X7_peek : GoodIn wsL_law wsX7_peek := goodIn_r _ [857, 35, 337, 747, 748, 749, 2, 750, 839, 840, 841, 38, 842, 110, 875, 876, 877, 878, 879, 880, 881, 882, 942, 943, 944] (by decide +kernel) (by decide +kernel)
set_option maxRecDepth 20000 in
theorem gL_law_X7_peek : GoodIn wsL_law (wsV RL 139 RX7 yX7_peek wsX7_peek) := goodIn_app (goodIn_of _ (by decide +kernel)) ggL_law_X7_peek
set_option maxRecDepth 20000 in
theorem ggL_law_X8_peek : GoodIn wsL_law wsX8_peek := goodIn_r _ [861, 137, 138, 136, 346, 755, 756, 5, 757, 758, 166, 167, 168, 883, 884, 885, 886, 887, 888, 889, 890, 891, 892, 893, 894, 895, 896, 897, 898, 899, 900, 901, 902, 903, 904, 905, 906, 907, 908, 909, 910, 911, 912, 913, 914, 915, 916, 917, 918] (by decide +kernel) (by decide +kernel)
set_option maxRecDepth 20000 in
theorem gL_law_X8_peek : GoodIn wsL_law (wsV RL 142 RX8 yX8_peek wsX8_peek) := goodIn_app (goodIn_of _ (by decide +kernel)) ggL_law_X8_peek
set_option maxRecDepth 20000 in
theorem ggL_law_X7_shift : GoodIn wsL_law wsX7_shift := goodIn_r _ [865, 35, 745, 747, 866, 646, 647, 648, 748, 749, 2, 750, 867, 868, 869, 38, 870, 110, 875, 876, 877, 878, 879, 880, 881, 882, 942, 943, 944] (by decide +kernel) (by decide +kernel)
set_option maxRecDepth 20000 in
theorem gL_law_X7_shift : GoodIn wsL_law (wsV RL 143 RX7 yX7_shift wsX7_shift) := goodIn_app (goodIn_of _ (by decide +kernel)) ggL_law_X7_shift
set_option maxRecDepth 20000 in
theorem ggL_law_X8_shift : GoodIn wsL_law wsX8_shift := goodIn_r _ [874, 137, 138, 139, 136, 755, 756, 5, 757, 758, 166, 167, 168, 883, 884, 885, 886, 887, 888, 889, 890, 891, 892, 893, 894, 895, 896, 897, 898, 899, 900, 901, 902, 903, 904, 905, 906, 907, 908, 909, 910, 911, 912, 913, 914, 915, 916, 917, 918] (by decide +kernel) (by decide +kernel)
set_option maxRecDepth 20000 in
theorem gL_law_X8_shift : GoodIn wsL_law (wsV RL 147 RX8 yX8_shift wsX8_shift) := goodIn_app (goodIn_of _ (by decide +kernel)) ggL_law_X8_shift
