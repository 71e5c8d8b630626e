set_option maxRecDepth 20000 in
theorem ggL_law_X6_init : GoodIn wsL_law wsX6_init := goodIn_r _ [8, 9, 10, 11, 12, 13, 14, 15, 16, 17, 18, 19, 20, 21, 22, 23, 24, 25, 26, 27, 28, 29, 30, 31, 32, 33, 34, 35, 36, 37, 38, 39, 40, 41, 42, 43, 44, 45, 46, 47, 48, 49, 50, 51, 52, 53, 54, 55, 56, 57, 58, 59, 60, 61, 62, 63, 64, 65, 66, 67, 68, 69, 70, 71, 72, 73, 74, 75, 76, 77, 78, 79, 80, 81, 82, 83, 84, 85, 86, 87, 88, 89, 90, 91, 92, 93, 94, 960, 961, 962, 963, 964, 926, 927, 928, 929, 930, 931, 932, 933, 934, 935, 936, 965, 966, 967, 968, 969, 970, 971, 972, 973, 974, 975, 976, 977, 978, 979, 980, 981, 982, 983, 984, 985, 986, 987, 988, 989, 990, 991, 992] (by decide +kernel) (by decide +kernel)
set_option maxRecDepth 20000 in
theorem gL_law_X6_init : GoodIn wsL_law (wsX6_init) := ggL_law_X6_init
set_option maxRecDepth 20000 in
theorem ggL_law_X7_init : GoodIn wsL_law wsX7_init := goodIn_r _ [97, 98, 10, 11, 44, 99, 100, 101, 102, 103, 104, 105, 106, 107, 108, 109, 110, 111, 112, 113, 114, 115, 116, 117, 118, 937, 938, 939, 940, 941, 942, 943, 944, 945, 946, 947, 948, 949, 950, 951, 952, 953, 954, 955, 956, 957, 958, 959] (by decide +kernel) (by decide +kernel)
set_option maxRecDepth 20000 in
theorem gL_law_X7_init : GoodIn wsL_law (wsX7_init) := ggL_law_X7_init
set_option maxRecDepth 20000 in
theorem ggL_law_X6_begin : GoodIn wsL_law wsX6_begin := goodIn_r _ [122, 15, 40, 123, 124, 125, 14, 126, 47, 127, 128, 129, 130, 49, 131, 132, 133, 134, 135, 136, 137, 138, 45, 46, 48, 139, 926, 927, 928, 929, 930, 931, 932, 933, 934, 935, 936, 960, 961, 962, 963, 964] (by decide +kernel) (by decide +kernel)
set_option maxRecDepth 20000 in
theorem gL_law_X6_begin : GoodIn wsL_law (wsV RL 13 RX6 yX6_begin wsX6_begin) := goodIn_app (goodIn_of _ (by decide +kernel)) ggL_law_X6_begin
set_option maxRecDepth 20000 in
theorem ggL_law_X7_begin : GoodIn wsL_law wsX7_begin := goodIn_r _ [143, 101, 144, 118, 145, 146, 147, 5, 148, 99, 100, 102, 937, 938, 939, 940, 941, 942, 943, 944, 945, 946, 947, 948, 949, 950, 951, 952, 953, 954, 955, 956, 957, 958, 959] (by decide +kernel) (by decide +kernel)
set_option maxRecDepth 20000 in
theorem gL_law_X7_begin : GoodIn wsL_law (wsV RL 17 RX7 yX7_begin wsX7_begin) := goodIn_app (goodIn_of _ (by decide +kernel)) ggL_law_X7_begin
set_option maxRecDepth 20000 in
theorem ggL_law_X6_append : GoodIn wsL_law wsX6_append := goodIn_r _ [152, 15, 40, 153, 154, 2, 155, 123, 124, 125, 14, 126, 47, 127, 128, 129, 130, 49, 156, 157, 158, 159, 48, 131, 132, 133, 134, 135, 136, 137, 138, 45, 46, 139, 926, 927, 928, 929, 930, 931, 932, 933, 934, 935, 936, 960, 961, 962, 963, 964] (by decide +kernel) (by decide +kernel)
set_option maxRecDepth 20000 in
theorem gL_law_X6_append : GoodIn wsL_law (wsV RL 18 RX6 yX6_append wsX6_append) := goodIn_app (goodIn_of _ (by decide +kernel)) ggL_law_X6_append
set_option maxRecDepth 20000 in
theorem ggL_law_X7_append : GoodIn wsL_law wsX7_append := goodIn_r _ [163, 101, 144, 102, 118, 164, 165, 5, 166, 145, 146, 147, 148, 99, 100, 937, 938, 939, 940, 941, 942, 943, 944, 945, 946, 947, 948, 949, 950, 951, 952, 953, 954, 955, 956, 957, 958, 959] (by decide +kernel) (by decide +kernel)
set_option maxRecDepth 20000 in
theorem gL_law_X7_append : GoodIn wsL_law (wsV RL 22 RX7 yX7_append wsX7_append) := goodIn_app (goodIn_of _ (by decide +kernel)) ggL_law_X7_append
set_option maxRecDepth 20000 in
theorem ggL_law_X6_load : GoodIn wsL_law wsX6_load := goodIn_r _ [170, 19, 15, 40, 171, 172, 173, 18, 174, 175, 176, 177, 178, 54, 53, 154, 2, 155, 179, 180, 181, 182, 183, 184, 185, 186, 123, 124, 125, 14, 126, 47, 127, 128, 129, 130, 49, 187, 188, 189, 190, 156, 157, 158, 159, 48, 131, 132, 133, 134, 135, 136, 137, 138, 45, 46, 139, 191, 192, 193, 194, 926, 927, 928, 929, 930, 931, 932, 933, 934, 935, 936, 965, 966, 960, 961, 962, 963, 964] (by decide +kernel) (by decide +kernel)
set_option maxRecDepth 20000 in
theorem gL_law_X6_load : GoodIn wsL_law (wsV RL 23 RX6 yX6_load wsX6_load) := goodIn_app (goodIn_of _ (by decide +kernel)) ggL_law_X6_load
set_option maxRecDepth 20000 in
theorem ggL_law_X7_load : GoodIn wsL_law wsX7_load := goodIn_r _ [198, 199, 103, 101, 144, 102, 118, 200, 201, 202, 5, 203, 204, 205, 206, 207, 164, 165, 166, 145, 146, 147, 148, 99, 100, 937, 938, 939, 940, 941, 942, 943, 944, 945, 946, 947, 948, 949, 950, 951, 952, 953, 954, 955, 956, 957, 958, 959] (by decide +kernel) (by decide +kernel)
set_option maxRecDepth 20000 in
theorem gL_law_X7_load : GoodIn wsL_law (wsV RL 26 RX7 yX7_load wsX7_load) := goodIn_app (goodIn_of _ (by decide +kernel)) ggL_law_X7_load
set_option maxRecDepth 20000 in
theorem ggL_law_X6_go : GoodIn wsL_law wsX6_go := goodIn_r _ [211, 15, 40, 212, 128, 129, 14, 130, 49, 926, 927, 928, 929, 930, 931, 932, 933, 934, 935, 936, 960, 961, 962, 963, 964] (by decide +kernel) (by decide +kernel)
set_option maxRecDepth 20000 in
theorem gL_law_X6_go : GoodIn wsL_law (wsV RL 27 RX6 yX6_go wsX6_go) := goodIn_app (goodIn_of _ (by decide +kernel)) ggL_law_X6_go
set_option maxRecDepth 20000 in
theorem ggL_law_X7_go : GoodIn wsL_law wsX7_go := goodIn_r _ [216, 144, 217, 218, 219, 5, 220, 118, 164, 165, 166, 937, 938, 939, 940, 941, 942, 943, 944, 945, 946, 947, 948, 949, 950, 951, 952, 953, 954, 955, 956, 957, 958, 959] (by decide +kernel) (by decide +kernel)
set_option maxRecDepth 20000 in
theorem gL_law_X7_go : GoodIn wsL_law (wsV RL 30 RX7 yX7_go wsX7_go) := goodIn_app (goodIn_of _ (by decide +kernel)) ggL_law_X7_go
set_option maxRecDepth 20000 in
theorem ggL_law_X6_back : GoodIn wsL_law wsX6_back := goodIn_r _ [224, 15, 40, 225, 226, 227, 14, 228, 229, 230, 231, 232, 45, 127, 128, 129, 130, 49, 926, 927, 928, 929, 930, 931, 932, 933, 934, 935, 936, 960, 961, 962, 963, 964] (by decide +kernel) (by decide +kernel)
set_option maxRecDepth 20000 in
theorem gL_law_X6_back : GoodIn wsL_law (wsV RL 31 RX6 yX6_back wsX6_back) := goodIn_app (goodIn_of _ (by decide +kernel)) ggL_law_X6_back
set_option maxRecDepth 20000 in
theorem ggL_law_X7_back : GoodIn wsL_law wsX7_back := goodIn_r _ [236, 144, 99, 164, 165, 5, 166, 937, 938, 939, 940, 941, 942, 943, 944, 945, 946, 947, 948, 949, 950, 951, 952, 953, 954, 955, 956, 957, 958, 959] (by decide +kernel) (by decide +kernel)
set_option maxRecDepth 20000 in
theorem gL_law_X7_back : GoodIn wsL_law (wsV RL 34 RX7 yX7_back wsX7_back) := goodIn_app (goodIn_of _ (by decide +kernel)) ggL_law_X7_back
set_option maxRecDepth 20000 in
theorem ggL_law_X6_version : GoodIn wsL_law wsX6_version := goodIn_r _ [240, 15, 212, 128, 129, 14, 130, 49, 241, 230, 231, 232, 45, 127, 242, 243, 244, 245, 123, 124, 125, 126, 47, 156, 157, 158, 159, 48, 246, 247, 248, 249, 250, 251, 252, 253, 254, 2, 255, 33, 34, 38, 39, 256, 257, 258, 259, 260, 261, 262, 22, 263, 65, 264, 265, 266, 63, 64, 60, 59, 61, 267, 268, 269, 270, 271, 272, 46, 273, 274, 275, 276, 62, 277, 278, 279, 280, 58, 281, 282, 283, 284, 285, 286, 287, 288, 289, 290, 291, 292, 293, 294, 295, 296, 297, 298, 299, 300, 37, 301, 302, 87, 303, 304, 305, 306, 307, 308, 309, 310, 311, 926, 927, 928, 929, 930, 931, 932, 933, 934, 935, 936, 960, 961, 962, 963, 964, 967, 968, 969, 970, 971, 972, 973, 974, 992] (by decide +kernel) (by decide +kernel)
set_option maxRecDepth 20000 in
theorem gL_law_X6_version : GoodIn wsL_law (wsV RL 35 RX6 yX6_version wsX6_version) := goodIn_app (goodIn_of _ (by decide +kernel)) ggL_law_X6_version
set_option maxRecDepth 20000 in
theorem ggL_law_X7_version : GoodIn wsL_law wsX7_version := goodIn_r _ [315, 99, 101, 102, 217, 218, 219, 5, 220, 118, 164, 165, 166, 316, 317, 318, 319, 320, 321, 322, 323, 324, 325, 326, 327, 110, 100, 108, 109, 106, 107, 104, 105, 328, 329, 330, 331, 111, 112, 332, 333, 334, 335, 336, 337, 338, 339, 340, 341, 342, 343, 344, 345, 346, 347, 937, 938, 939, 940, 941, 942, 943, 944, 945, 946, 947, 948, 949, 950, 951, 952, 953, 954, 955, 956, 957, 958, 959] (by decide +kernel) (by decide +kernel)
set_option maxRecDepth 20000 in
theorem gL_law_X7_version : GoodIn wsL_law (wsV RL 39 RX7 yX7_version wsX7_version) := goodIn_app (goodIn_of _ (by decide +kernel)) ggL_law_X7_version
set_option maxRecDepth 20000 in
theorem ggL_law_X6_meet : GoodIn wsL_law wsX6_meet := goodIn_r _ [351, 15, 212, 128, 129, 14, 130, 49, 352, 353, 354, 355, 229, 230, 231, 232, 45, 127, 926, 927, 928, 929, 930, 931, 932, 933, 934, 935, 936, 960, 961, 962, 963, 964] (by decide +kernel) (by decide +kernel)
set_option maxRecDepth 20000 in
theorem gL_law_X6_meet : GoodIn wsL_law (wsV RL 40 RX6 yX6_meet wsX6_meet) := goodIn_app (goodIn_of _ (by decide +kernel)) ggL_law_X6_meet
