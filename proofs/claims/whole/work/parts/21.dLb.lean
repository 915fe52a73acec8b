set_option maxRecDepth 20000 in
theorem gL_law_X5_measure : GoodIn wsL_law (wsV RL 36 RX5 yX5_measure wsX5_measure) := goodIn_app (goodIn_of _ (by decide +kernel)) ggL_law_X5_measure
set_option maxRecDepth 20000 in
theorem ggL_law_X6_measure : GoodIn wsL_law wsX6_measure := goodIn_r _ [267, 99, 69, 268, 269, 270, 5, 271, 67, 102, 103, 104, 272, 273, 274, 275, 276, 277, 223, 278, 279, 280, 281, 187, 71, 835, 836, 837, 838, 839, 840, 841, 842, 843, 844, 845, 846, 847, 848, 849, 850, 851, 852, 853, 854, 855, 856, 857, 858, 859, 860, 861, 862] (by decide +kernel) (by decide +kernel)
set_option maxRecDepth 20000 in
theorem gL_law_X6_measure : GoodIn wsL_law (wsV RL 40 RX6 yX6_measure wsX6_measure) := goodIn_app (goodIn_of _ (by decide +kernel)) ggL_law_X6_measure
set_option maxRecDepth 20000 in
theorem ggL_law_X5_take : GoodIn wsL_law wsX5_take := goodIn_r _ [285, 20, 24, 162, 192, 193, 194, 19, 195, 173, 250, 251, 252, 23, 253, 254, 50, 49, 18, 182, 255, 256, 257, 258, 40, 41, 42, 11, 12, 43, 44, 45, 259, 260, 261, 262, 286, 287, 288, 289, 290, 826, 827, 828, 829, 830, 831, 832, 833, 834, 865, 866, 867, 868, 869, 870] (by decide +kernel) (by decide +kernel)
set_option maxRecDepth 20000 in
theorem gL_law_X5_take : GoodIn wsL_law (wsV RL 41 RX5 yX5_take wsX5_take) := goodIn_app (goodIn_of _ (by decide +kernel)) ggL_law_X5_take
set_option maxRecDepth 20000 in
theorem ggL_law_X6_take : GoodIn wsL_law wsX6_take := goodIn_r _ [294, 99, 69, 224, 225, 226, 5, 227, 102, 103, 104, 278, 279, 280, 281, 187, 71, 295, 296, 297, 835, 836, 837, 838, 839, 840, 841, 842, 843, 844, 845, 846, 847, 848, 849, 850, 851, 852, 853, 854, 855, 856, 857, 858, 859, 860, 861, 862] (by decide +kernel) (by decide +kernel)
set_option maxRecDepth 20000 in
theorem gL_law_X6_take : GoodIn wsL_law (wsV RL 44 RX6 yX6_take wsX6_take) := goodIn_app (goodIn_of _ (by decide +kernel)) ggL_law_X6_take
set_option maxRecDepth 20000 in
theorem ggL_law_X5_read : GoodIn wsL_law wsX5_read := goodIn_r _ [301, 20, 24, 192, 193, 194, 19, 195, 173, 249, 133, 2, 134, 250, 251, 252, 23, 253, 254, 50, 49, 18, 182, 255, 256, 257, 258, 40, 41, 42, 11, 12, 43, 44, 45, 259, 260, 261, 262, 196, 197, 198, 199, 302, 175, 176, 177, 826, 827, 828, 829, 830, 831, 832, 833, 834, 865, 866, 867, 868, 869, 870] (by decide +kernel) (by decide +kernel)
set_option maxRecDepth 20000 in
theorem gL_law_X5_read : GoodIn wsL_law (wsV RL 45 RX5 yX5_read wsX5_read) := goodIn_app (goodIn_of _ (by decide +kernel)) ggL_law_X5_read
set_option maxRecDepth 20000 in
theorem ggL_law_X6_read : GoodIn wsL_law wsX6_read := goodIn_r _ [306, 99, 307, 69, 224, 225, 226, 5, 227, 102, 103, 104, 272, 273, 274, 275, 276, 277, 223, 278, 279, 280, 281, 187, 71, 228, 229, 230, 835, 836, 837, 838, 839, 840, 841, 842, 843, 844, 845, 846, 847, 848, 849, 850, 851, 852, 853, 854, 855, 856, 857, 858, 859, 860, 861, 862] (by decide +kernel) (by decide +kernel)
set_option maxRecDepth 20000 in
theorem gL_law_X6_read : GoodIn wsL_law (wsV RL 49 RX6 yX6_read wsX6_read) := goodIn_app (goodIn_of _ (by decide +kernel)) ggL_law_X6_read
set_option maxRecDepth 20000 in
theorem ggL_law_X5_fall : GoodIn wsL_law wsX5_fall := goodIn_r _ [311, 20, 24, 192, 193, 194, 19, 195, 173, 250, 251, 252, 23, 253, 254, 50, 49, 18, 182, 255, 256, 257, 258, 40, 41, 42, 11, 12, 43, 44, 45, 259, 260, 261, 262, 312, 313, 314, 315, 204, 197, 198, 199, 174, 175, 176, 177, 196, 826, 827, 828, 829, 830, 831, 832, 833, 834, 865, 866, 867, 868, 869, 870] (by decide +kernel) (by decide +kernel)
set_option maxRecDepth 20000 in
theorem gL_law_X5_fall : GoodIn wsL_law (wsV RL 50 RX5 yX5_fall wsX5_fall) := goodIn_app (goodIn_of _ (by decide +kernel)) ggL_law_X5_fall
set_option maxRecDepth 20000 in
theorem ggL_law_X6_fall : GoodIn wsL_law wsX6_fall := goodIn_r _ [319, 99, 69, 224, 225, 226, 5, 227, 102, 103, 104, 278, 279, 280, 281, 187, 71, 835, 836, 837, 838, 839, 840, 841, 842, 843, 844, 845, 846, 847, 848, 849, 850, 851, 852, 853, 854, 855, 856, 857, 858, 859, 860, 861, 862] (by decide +kernel) (by decide +kernel)
set_option maxRecDepth 20000 in
theorem gL_law_X6_fall : GoodIn wsL_law (wsV RL 53 RX6 yX6_fall wsX6_fall) := goodIn_app (goodIn_of _ (by decide +kernel)) ggL_law_X6_fall
set_option maxRecDepth 20000 in
theorem ggL_law_X5_undo : GoodIn wsL_law wsX5_undo := goodIn_r _ [323, 24, 20, 324, 325, 326, 327, 23, 328, 254, 182, 50, 259, 260, 261, 19, 262, 44, 173, 45, 826, 827, 828, 829, 830, 831, 832, 833, 834, 868, 869, 870, 865, 866, 867] (by decide +kernel) (by decide +kernel)
set_option maxRecDepth 20000 in
theorem gL_law_X5_undo : GoodIn wsL_law (wsV RL 54 RX5 yX5_undo wsX5_undo) := goodIn_app (goodIn_of _ (by decide +kernel)) ggL_law_X5_undo
set_option maxRecDepth 20000 in
theorem ggL_law_X6_undo : GoodIn wsL_law wsX6_undo := goodIn_r _ [332, 99, 187, 69, 71, 835, 836, 837, 838, 839, 840, 841, 842, 843, 844, 845, 846, 847, 848, 849, 850, 851, 852, 853, 854, 855, 856, 857, 858, 859, 860, 861, 862] (by decide +kernel) (by decide +kernel)
set_option maxRecDepth 20000 in
theorem gL_law_X6_undo : GoodIn wsL_law (wsV RL 57 RX6 yX6_undo wsX6_undo) := goodIn_app (goodIn_of _ (by decide +kernel)) ggL_law_X6_undo
set_option maxRecDepth 20000 in
theorem ggL_law_X5_laid : GoodIn wsL_law wsX5_laid := goodIn_r _ [336, 33, 20, 337, 338, 339, 2, 340, 245, 246, 247, 19, 248, 45, 341, 342, 343, 344, 345, 346, 347, 348, 173, 349, 350, 351, 352, 44, 353, 354, 355, 356, 357, 358, 32, 359, 58, 360, 361, 362, 363, 364, 365, 366, 367, 204, 197, 198, 199, 368, 369, 201, 202, 203, 205, 206, 207, 208, 209, 210, 211, 212, 213, 214, 215, 216, 217, 218, 370, 371, 372, 373, 374, 375, 376, 377, 378, 826, 827, 828, 829, 830, 831, 832, 833, 834, 865, 866, 867, 873, 874, 875, 876] (by decide +kernel) (by decide +kernel)
set_option maxRecDepth 20000 in
theorem gL_law_X5_laid : GoodIn wsL_law (wsV RL 58 RX5 yX5_laid wsX5_laid) := goodIn_app (goodIn_of _ (by decide +kernel)) ggL_law_X5_laid
set_option maxRecDepth 20000 in
theorem ggL_law_X6_laid : GoodIn wsL_law wsX6_laid := goodIn_r _ [382, 99, 383, 69, 80, 268, 269, 270, 5, 271, 67, 102, 103, 104, 384, 385, 386, 387, 388, 389, 390, 391, 392, 393, 394, 395, 396, 397, 228, 229, 230, 398, 399, 400, 401, 231, 232, 233, 234, 79, 235, 236, 237, 238, 239, 240, 835, 836, 837, 838, 839, 840, 841, 842, 843, 844, 845, 846, 847, 848, 849, 850, 851, 852, 853, 854, 855, 856, 857, 858, 859, 860, 861, 862] (by decide +kernel) (by decide +kernel)
set_option maxRecDepth 20000 in
theorem gL_law_X6_laid : GoodIn wsL_law (wsV RL 61 RX6 yX6_laid wsX6_laid) := goodIn_app (goodIn_of _ (by decide +kernel)) ggL_law_X6_laid
set_option maxRecDepth 20000 in
theorem ggL_law_X5_miss : GoodIn wsL_law wsX5_miss := goodIn_r _ [405, 33, 20, 406, 407, 408, 2, 409, 192, 193, 194, 19, 195, 173, 341, 342, 343, 344, 345, 346, 347, 348, 349, 350, 351, 352, 44, 410, 411, 412, 413, 204, 197, 198, 199, 353, 354, 355, 356, 357, 358, 32, 359, 58, 360, 361, 362, 363, 364, 365, 366, 367, 368, 369, 201, 202, 203, 205, 206, 207, 208, 209, 210, 211, 212, 213, 214, 215, 216, 217, 218, 370, 371, 372, 373, 374, 375, 376, 377, 414, 415, 416, 417, 826, 827, 828, 829, 830, 831, 832, 833, 834, 865, 866, 867, 873, 874, 875, 876] (by decide +kernel) (by decide +kernel)
set_option maxRecDepth 20000 in
theorem gL_law_X5_miss : GoodIn wsL_law (wsV RL 62 RX5 yX5_miss wsX5_miss) := goodIn_app (goodIn_of _ (by decide +kernel)) ggL_law_X5_miss
