set_option maxRecDepth 20000 in
theorem ggL_law_X7_meet : GoodIn wsL_law wsX7_meet := goodIn_r _ [359, 99, 217, 218, 219, 5, 220, 118, 164, 165, 166, 937, 938, 939, 940, 941, 942, 943, 944, 945, 946, 947, 948, 949, 950, 951, 952, 953, 954, 955, 956, 957, 958, 959] (by decide +kernel) (by decide +kernel)
set_option maxRecDepth 20000 in
theorem gL_law_X7_meet : GoodIn wsL_law (wsV RL 43 RX7 yX7_meet wsX7_meet) := goodIn_app (goodIn_of _ (by decide +kernel)) ggL_law_X7_meet
set_option maxRecDepth 20000 in
theorem ggL_law_X6_more : GoodIn wsL_law wsX6_more := goodIn_r _ [363, 15, 212, 128, 129, 14, 130, 49, 252, 253, 254, 2, 255, 33, 34, 38, 39, 256, 257, 258, 259, 260, 261, 262, 22, 263, 65, 264, 265, 266, 63, 64, 60, 59, 61, 267, 124, 125, 126, 47, 127, 268, 157, 158, 159, 48, 269, 270, 271, 272, 46, 273, 274, 275, 276, 62, 277, 278, 279, 280, 58, 281, 282, 283, 284, 285, 230, 231, 232, 45, 286, 287, 288, 289, 290, 291, 292, 293, 294, 295, 296, 297, 298, 299, 300, 37, 301, 302, 87, 303, 304, 305, 306, 307, 308, 309, 310, 311, 926, 927, 928, 929, 930, 931, 932, 933, 934, 935, 936, 960, 961, 962, 963, 964, 967, 968, 969, 970, 971, 972, 973, 974, 992] (by decide +kernel) (by decide +kernel)
set_option maxRecDepth 20000 in
theorem gL_law_X6_more : GoodIn wsL_law (wsV RL 44 RX6 yX6_more wsX6_more) := goodIn_app (goodIn_of _ (by decide +kernel)) ggL_law_X6_more
set_option maxRecDepth 20000 in
theorem ggL_law_X7_more : GoodIn wsL_law wsX7_more := goodIn_r _ [367, 108, 112, 111, 217, 218, 219, 5, 220, 118, 164, 165, 166, 324, 325, 326, 327, 110, 100, 99, 109, 106, 107, 104, 105, 328, 329, 330, 331, 332, 333, 334, 335, 336, 337, 338, 339, 340, 341, 342, 343, 937, 938, 939, 940, 941, 942, 943, 944, 945, 946, 947, 948, 949, 950, 951, 952, 953, 954, 955, 956, 957, 958, 959] (by decide +kernel) (by decide +kernel)
set_option maxRecDepth 20000 in
theorem gL_law_X7_more : GoodIn wsL_law (wsV RL 47 RX7 yX7_more wsX7_more) := goodIn_app (goodIn_of _ (by decide +kernel)) ggL_law_X7_more
set_option maxRecDepth 20000 in
theorem ggL_law_X6_letter : GoodIn wsL_law wsX6_letter := goodIn_r _ [371, 23, 372, 373, 374, 2, 375, 15, 40, 260, 261, 262, 22, 263, 65, 264, 265, 258, 266, 63, 64, 60, 59, 61, 267, 124, 125, 14, 126, 47, 127, 128, 129, 130, 49, 268, 157, 158, 159, 48, 269, 270, 271, 272, 46, 273, 274, 275, 276, 62, 277, 278, 279, 280, 58, 281, 282, 283, 284, 285, 230, 231, 232, 45, 286, 287, 288, 289, 290, 291, 292, 293, 376, 377, 378, 379, 380, 381, 382, 304, 305, 306, 926, 927, 928, 929, 930, 931, 932, 933, 934, 935, 936, 967, 968, 969, 970, 971, 972, 973, 974, 960, 961, 962, 963, 964] (by decide +kernel) (by decide +kernel)
set_option maxRecDepth 20000 in
theorem gL_law_X6_letter : GoodIn wsL_law (wsV RL 48 RX6 yX6_letter wsX6_letter) := goodIn_app (goodIn_of _ (by decide +kernel)) ggL_law_X6_letter
set_option maxRecDepth 20000 in
theorem ggL_law_X7_letter : GoodIn wsL_law wsX7_letter := goodIn_r _ [386, 101, 144, 107, 106, 164, 165, 5, 166, 387, 388, 389, 390, 324, 325, 326, 327, 110, 100, 99, 108, 109, 104, 105, 391, 392, 393, 394, 937, 938, 939, 940, 941, 942, 943, 944, 945, 946, 947, 948, 949, 950, 951, 952, 953, 954, 955, 956, 957, 958, 959] (by decide +kernel) (by decide +kernel)
set_option maxRecDepth 20000 in
theorem gL_law_X7_letter : GoodIn wsL_law (wsV RL 51 RX7 yX7_letter wsX7_letter) := goodIn_app (goodIn_of _ (by decide +kernel)) ggL_law_X7_letter
set_option maxRecDepth 20000 in
theorem ggL_law_X6_say : GoodIn wsL_law wsX6_say := goodIn_r _ [398, 19, 179, 180, 181, 18, 182, 54, 399, 400, 401, 402, 53, 926, 927, 928, 929, 930, 931, 932, 933, 934, 935, 936, 965, 966] (by decide +kernel) (by decide +kernel)
set_option maxRecDepth 20000 in
theorem gL_law_X6_say : GoodIn wsL_law (wsV RL 52 RX6 yX6_say wsX6_say) := goodIn_app (goodIn_of _ (by decide +kernel)) ggL_law_X6_say
set_option maxRecDepth 20000 in
theorem ggL_law_X7_say : GoodIn wsL_law wsX7_say := goodIn_r _ [406, 199, 103, 164, 165, 5, 166, 937, 938, 939, 940, 941, 942, 943, 944, 945, 946, 947, 948, 949, 950, 951, 952, 953, 954, 955, 956, 957, 958, 959] (by decide +kernel) (by decide +kernel)
set_option maxRecDepth 20000 in
theorem gL_law_X7_say : GoodIn wsL_law (wsV RL 55 RX7 yX7_say wsX7_say) := goodIn_app (goodIn_of _ (by decide +kernel)) ggL_law_X7_say
set_option maxRecDepth 20000 in
theorem ggL_law_X6_wipe : GoodIn wsL_law wsX6_wipe := goodIn_r _ [410, 19, 179, 180, 181, 18, 182, 54, 191, 192, 193, 194, 926, 927, 928, 929, 930, 931, 932, 933, 934, 935, 936, 965, 966] (by decide +kernel) (by decide +kernel)
set_option maxRecDepth 20000 in
theorem gL_law_X6_wipe : GoodIn wsL_law (wsV RL 56 RX6 yX6_wipe wsX6_wipe) := goodIn_app (goodIn_of _ (by decide +kernel)) ggL_law_X6_wipe
set_option maxRecDepth 20000 in
theorem ggL_law_X7_wipe : GoodIn wsL_law wsX7_wipe := goodIn_r _ [414, 199, 937, 938, 939, 940, 941, 942, 943, 944, 945, 946, 947, 948, 949, 950, 951, 952, 953, 954, 955, 956, 957, 958, 959] (by decide +kernel) (by decide +kernel)
set_option maxRecDepth 20000 in
theorem gL_law_X7_wipe : GoodIn wsL_law (wsV RL 59 RX7 yX7_wipe wsX7_wipe) := goodIn_app (goodIn_of _ (by decide +kernel)) ggL_law_X7_wipe
set_option maxRecDepth 20000 in
theorem ggL_law_X6_pad : GoodIn wsL_law wsX6_pad := goodIn_r _ [418, 19, 179, 180, 181, 18, 182, 54, 187, 188, 189, 190, 53, 926, 927, 928, 929, 930, 931, 932, 933, 934, 935, 936, 965, 966] (by decide +kernel) (by decide +kernel)
set_option maxRecDepth 20000 in
theorem gL_law_X6_pad : GoodIn wsL_law (wsV RL 60 RX6 yX6_pad wsX6_pad) := goodIn_app (goodIn_of _ (by decide +kernel)) ggL_law_X6_pad
set_option maxRecDepth 20000 in
theorem ggL_law_X7_pad : GoodIn wsL_law wsX7_pad := goodIn_r _ [422, 199, 103, 164, 165, 5, 166, 937, 938, 939, 940, 941, 942, 943, 944, 945, 946, 947, 948, 949, 950, 951, 952, 953, 954, 955, 956, 957, 958, 959] (by decide +kernel) (by decide +kernel)
set_option maxRecDepth 20000 in
theorem gL_law_X7_pad : GoodIn wsL_law (wsV RL 63 RX7 yX7_pad wsX7_pad) := goodIn_app (goodIn_of _ (by decide +kernel)) ggL_law_X7_pad
set_option maxRecDepth 20000 in
theorem ggL_law_X6_fault : GoodIn wsL_law wsX6_fault := goodIn_r _ [426, 19, 427, 428, 429, 18, 430, 54, 175, 176, 177, 178, 53, 154, 2, 155, 171, 172, 173, 174, 926, 927, 928, 929, 930, 931, 932, 933, 934, 935, 936, 965, 966] (by decide +kernel) (by decide +kernel)
set_option maxRecDepth 20000 in
theorem gL_law_X6_fault : GoodIn wsL_law (wsV RL 64 RX6 yX6_fault wsX6_fault) := goodIn_app (goodIn_of _ (by decide +kernel)) ggL_law_X6_fault
set_option maxRecDepth 20000 in
theorem ggL_law_X7_fault : GoodIn wsL_law wsX7_fault := goodIn_r _ [434, 164, 165, 5, 166, 200, 201, 202, 203, 199, 103, 204, 205, 206, 207, 937, 938, 939, 940, 941, 942, 943, 944, 945, 946, 947, 948, 949, 950, 951, 952, 953, 954, 955, 956, 957, 958, 959] (by decide +kernel) (by decide +kernel)
set_option maxRecDepth 20000 in
theorem gL_law_X7_fault : GoodIn wsL_law (wsV RL 67 RX7 yX7_fault wsX7_fault) := goodIn_app (goodIn_of _ (by decide +kernel)) ggL_law_X7_fault
set_option maxRecDepth 20000 in
theorem ggL_law_X6_occurs : GoodIn wsL_law wsX6_occurs := goodIn_r _ [438, 23, 32, 439, 440, 441, 2, 442, 19, 427, 428, 429, 18, 430, 54, 175, 176, 177, 178, 53, 154, 155, 443, 444, 445, 22, 446, 64, 58, 447, 180, 181, 182, 448, 449, 450, 451, 65, 63, 62, 264, 265, 258, 266, 452, 257, 259, 59, 60, 61, 453, 188, 189, 190, 372, 373, 374, 375, 15, 40, 260, 261, 262, 263, 267, 124, 125, 14, 126, 47, 127, 128, 129, 130, 49, 268, 157, 158, 159, 48, 269, 270, 271, 272, 46, 273, 274, 275, 276, 277, 278, 279, 280, 281, 282, 283, 284, 285, 230, 231, 232, 45, 286, 287, 288, 289, 290, 291, 292, 293, 454, 455, 456, 457, 458, 459, 460, 461, 462, 308, 309, 310, 463, 295, 296, 297, 464, 304, 305, 306, 465, 466, 467, 468, 469, 470, 471, 472, 27, 473, 474, 475, 476, 477, 478, 479, 26, 480, 83, 82, 81, 70, 481, 482, 483, 484, 485, 486, 487, 488, 299, 300, 37, 301, 302, 87, 303, 307, 489, 490, 491, 492, 493, 71, 494, 495, 496, 497, 498, 499, 500, 501, 502, 503, 504, 505, 73, 506, 507, 508, 509, 510, 511, 512, 513, 514, 515, 516, 517, 518, 74, 75, 76, 77, 78, 79, 80, 519, 520, 521, 522, 523, 524, 525, 526, 294, 527, 528, 529, 530, 531, 926, 927, 928, 929, 930, 931, 932, 933, 934, 935, 936, 965, 966, 967, 968, 969, 970, 971, 972, 973, 974, 960, 961, 962, 963, 964, 975, 976, 977, 978, 979, 980, 981, 982, 983, 984, 985, 986, 987, 992] (by decide +kernel) (by decide +kernel)
set_option maxRecDepth 20000 in
theorem gL_law_X6_occurs : GoodIn wsL_law (wsV RL 68 RX6 yX6_occurs wsX6_occurs) := goodIn_app (goodIn_of _ (by decide +kernel)) ggL_law_X6_occurs
set_option maxRecDepth 20000 in
theorem ggL_law_X7_occurs : GoodIn wsL_law wsX7_occurs := goodIn_r _ [535, 108, 199, 105, 164, 165, 5, 166, 536, 537, 538, 539, 200, 201, 202, 203, 103, 204, 205, 206, 207, 387, 388, 389, 390, 144, 324, 325, 326, 327, 110, 100, 99, 109, 106, 107, 104, 540, 541, 542, 543, 340, 341, 342, 343, 391, 392, 393, 394, 544, 545, 546, 547, 548, 113, 114, 116, 115, 549, 550, 551, 552, 553, 554, 555, 556, 336, 337, 338, 339, 557, 558, 559, 560, 561, 562, 563, 564, 565, 566, 567, 568, 937, 938, 939, 940, 941, 942, 943, 944, 945, 946, 947, 948, 949, 950, 951, 952, 953, 954, 955, 956, 957, 958, 959] (by decide +kernel) (by decide +kernel)
set_option maxRecDepth 20000 in
theorem gL_law_X7_occurs : GoodIn wsL_law (wsV RL 71 RX7 yX7_occurs wsX7_occurs) := goodIn_app (goodIn_of _ (by decide +kernel)) ggL_law_X7_occurs
