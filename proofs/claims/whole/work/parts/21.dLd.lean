set_option maxRecDepth 20000 in
theorem gL_law_X6_come : GoodIn wsL_law (wsV RL 91 RX6 yX6_come wsX6_come) := goodIn_app (goodIn_of _ (by decide +kernel)) ggL_law_X6_come
set_option maxRecDepth 20000 in
theorem ggL_law_X5_must : GoodIn wsL_law wsX5_must := goodIn_r _ [644, 20, 162, 245, 246, 247, 19, 248, 45, 645, 608, 609, 610, 173, 204, 197, 198, 199, 44, 646, 350, 351, 352, 353, 354, 2, 355, 826, 827, 828, 829, 830, 831, 832, 833, 834, 865, 866, 867] (by decide +kernel) (by decide +kernel)
set_option maxRecDepth 20000 in
theorem gL_law_X5_must : GoodIn wsL_law (wsV RL 92 RX5 yX5_must wsX5_must) := goodIn_app (goodIn_of _ (by decide +kernel)) ggL_law_X5_must
set_option maxRecDepth 20000 in
theorem ggL_law_X6_must : GoodIn wsL_law wsX6_must := goodIn_r _ [650, 99, 69, 268, 269, 270, 5, 271, 67, 102, 103, 104, 615, 616, 617, 384, 385, 386, 387, 388, 389, 390, 391, 392, 393, 394, 395, 396, 397, 228, 229, 230, 835, 836, 837, 838, 839, 840, 841, 842, 843, 844, 845, 846, 847, 848, 849, 850, 851, 852, 853, 854, 855, 856, 857, 858, 859, 860, 861, 862] (by decide +kernel) (by decide +kernel)
set_option maxRecDepth 20000 in
theorem gL_law_X6_must : GoodIn wsL_law (wsV RL 95 RX6 yX6_must wsX6_must) := goodIn_app (goodIn_of _ (by decide +kernel)) ggL_law_X6_must
set_option maxRecDepth 20000 in
theorem ggL_law_X5_judge : GoodIn wsL_law wsX5_judge := goodIn_r _ [654, 34, 20, 655, 656, 657, 2, 658, 659, 260, 261, 19, 262, 44, 173, 45, 660, 661, 662, 663, 664, 665, 666, 667, 192, 193, 194, 195, 312, 313, 314, 315, 204, 197, 198, 199, 174, 175, 176, 177, 286, 287, 288, 289, 290, 302, 668, 669, 670, 671, 33, 245, 246, 247, 248, 435, 346, 347, 348, 603, 604, 605, 606, 607, 608, 609, 610, 349, 350, 351, 352, 354, 355, 553, 554, 555, 556, 557, 342, 343, 344, 345, 558, 411, 412, 413, 559, 560, 561, 562, 563, 564, 565, 672, 673, 674, 32, 675, 676, 443, 677, 357, 358, 359, 58, 360, 361, 362, 363, 364, 365, 366, 367, 368, 369, 201, 202, 203, 205, 206, 207, 208, 209, 210, 211, 212, 213, 214, 215, 216, 217, 218, 370, 371, 372, 373, 374, 375, 376, 377, 678, 415, 416, 417, 633, 634, 635, 636, 353, 826, 827, 828, 829, 830, 831, 832, 833, 834, 865, 866, 867, 873, 874, 875, 876] (by decide +kernel) (by decide +kernel)
set_option maxRecDepth 20000 in
theorem gL_law_X5_judge : GoodIn wsL_law (wsV RL 98 RX5 yX5_judge wsX5_judge) := goodIn_app (goodIn_of _ (by decide +kernel)) ggL_law_X5_judge
set_option maxRecDepth 20000 in
theorem ggL_law_X6_judge : GoodIn wsL_law wsX6_judge := goodIn_r _ [682, 99, 277, 683, 102, 103, 5, 104, 684, 685, 686, 687, 688, 689, 690, 70, 69, 691, 692, 693, 694, 295, 296, 297, 268, 269, 270, 271, 67, 615, 616, 617, 384, 385, 386, 618, 619, 620, 621, 622, 623, 624, 625, 228, 229, 230, 395, 396, 397, 584, 585, 586, 587, 387, 388, 389, 390, 391, 392, 393, 394, 588, 589, 590, 422, 423, 424, 425, 695, 696, 697, 698, 398, 399, 400, 401, 80, 231, 232, 233, 234, 79, 235, 236, 237, 238, 239, 240, 426, 427, 428, 429, 835, 836, 837, 838, 839, 840, 841, 842, 843, 844, 845, 846, 847, 848, 849, 850, 851, 852, 853, 854, 855, 856, 857, 858, 859, 860, 861, 862] (by decide +kernel) (by decide +kernel)
set_option maxRecDepth 20000 in
theorem gL_law_X6_judge : GoodIn wsL_law (wsV RL 102 RX6 yX6_judge wsX6_judge) := goodIn_app (goodIn_of _ (by decide +kernel)) ggL_law_X6_judge
set_option maxRecDepth 20000 in
theorem ggL_law_X5_see : GoodIn wsL_law wsX5_see := goodIn_r _ [702, 20, 29, 703, 245, 246, 247, 19, 248, 45, 704, 705, 706, 28, 707, 708, 54, 826, 827, 828, 829, 830, 831, 832, 833, 834, 871, 872, 865, 866, 867] (by decide +kernel) (by decide +kernel)
set_option maxRecDepth 20000 in
theorem gL_law_X5_see : GoodIn wsL_law (wsV RL 103 RX5 yX5_see wsX5_see) := goodIn_app (goodIn_of _ (by decide +kernel)) ggL_law_X5_see
set_option maxRecDepth 20000 in
theorem ggL_law_X6_see : GoodIn wsL_law wsX6_see := goodIn_r _ [712, 99, 713, 714, 75, 76, 77, 78, 268, 269, 270, 5, 271, 67, 102, 103, 104, 835, 836, 837, 838, 839, 840, 841, 842, 843, 844, 845, 846, 847, 848, 849, 850, 851, 852, 853, 854, 855, 856, 857, 858, 859, 860, 861, 862] (by decide +kernel) (by decide +kernel)
set_option maxRecDepth 20000 in
theorem gL_law_X6_see : GoodIn wsL_law (wsV RL 107 RX6 yX6_see wsX6_see) := goodIn_app (goodIn_of _ (by decide +kernel)) ggL_law_X6_see
set_option maxRecDepth 20000 in
theorem ggL_law_X5_unsee : GoodIn wsL_law wsX5_unsee := goodIn_r _ [718, 29, 703, 826, 827, 828, 829, 830, 831, 832, 833, 834, 871, 872] (by decide +kernel) (by decide +kernel)
set_option maxRecDepth 20000 in
theorem gL_law_X5_unsee : GoodIn wsL_law (wsV RL 108 RX5 yX5_unsee wsX5_unsee) := goodIn_app (goodIn_of _ (by decide +kernel)) ggL_law_X5_unsee
set_option maxRecDepth 20000 in
theorem ggL_law_X6_unsee : GoodIn wsL_law wsX6_unsee := goodIn_r _ [722, 99, 714, 835, 836, 837, 838, 839, 840, 841, 842, 843, 844, 845, 846, 847, 848, 849, 850, 851, 852, 853, 854, 855, 856, 857, 858, 859, 860, 861, 862] (by decide +kernel) (by decide +kernel)
set_option maxRecDepth 20000 in
theorem gL_law_X6_unsee : GoodIn wsL_law (wsV RL 111 RX6 yX6_unsee wsX6_unsee) := goodIn_app (goodIn_of _ (by decide +kernel)) ggL_law_X6_unsee
set_option maxRecDepth 20000 in
theorem ggL_law_X5_which : GoodIn wsL_law wsX5_which := goodIn_r _ [726, 20, 162, 29, 645, 608, 609, 19, 610, 173, 204, 197, 198, 199, 44, 353, 354, 2, 355, 727, 728, 729, 28, 730, 708, 54, 731, 246, 247, 248, 45, 732, 604, 605, 606, 607, 349, 350, 351, 352, 826, 827, 828, 829, 830, 831, 832, 833, 834, 865, 866, 867, 871, 872] (by decide +kernel) (by decide +kernel)
set_option maxRecDepth 20000 in
theorem gL_law_X5_which : GoodIn wsL_law (wsV RL 112 RX5 yX5_which wsX5_which) := goodIn_app (goodIn_of _ (by decide +kernel)) ggL_law_X5_which
set_option maxRecDepth 20000 in
theorem ggL_law_X6_which : GoodIn wsL_law wsX6_which := goodIn_r _ [736, 99, 69, 714, 615, 616, 5, 617, 384, 385, 386, 395, 396, 397, 737, 738, 739, 740, 75, 76, 77, 78, 268, 269, 270, 271, 67, 102, 103, 104, 618, 619, 620, 621, 622, 623, 624, 625, 228, 229, 230, 835, 836, 837, 838, 839, 840, 841, 842, 843, 844, 845, 846, 847, 848, 849, 850, 851, 852, 853, 854, 855, 856, 857, 858, 859, 860, 861, 862] (by decide +kernel) (by decide +kernel)
set_option maxRecDepth 20000 in
theorem gL_law_X6_which : GoodIn wsL_law (wsV RL 115 RX6 yX6_which wsX6_which) := goodIn_app (goodIn_of _ (by decide +kernel)) ggL_law_X6_which
set_option maxRecDepth 20000 in
theorem ggL_law_X5_share : GoodIn wsL_law wsX5_share := goodIn_r _ [744, 20, 192, 193, 194, 19, 195, 173, 196, 197, 198, 199, 44, 645, 608, 609, 610, 204, 745, 560, 561, 562, 563, 564, 565, 746, 747, 748, 2, 749, 646, 350, 351, 352, 750, 751, 752, 481, 482, 483, 484, 485, 257, 486, 487, 488, 489, 826, 827, 828, 829, 830, 831, 832, 833, 834, 865, 866, 867] (by decide +kernel) (by decide +kernel)
set_option maxRecDepth 20000 in
theorem gL_law_X5_share : GoodIn wsL_law (wsV RL 116 RX5 yX5_share wsX5_share) := goodIn_app (goodIn_of _ (by decide +kernel)) ggL_law_X5_share
set_option maxRecDepth 20000 in
theorem ggL_law_X6_share : GoodIn wsL_law wsX6_share := goodIn_r _ [756, 99, 69, 224, 225, 226, 5, 227, 102, 103, 104, 615, 616, 617, 384, 385, 386, 395, 396, 397, 588, 589, 590, 387, 388, 389, 390, 391, 392, 393, 394, 228, 229, 230, 757, 758, 759, 514, 515, 516, 517, 518, 519, 520, 521, 522, 523, 524, 525, 526, 835, 836, 837, 838, 839, 840, 841, 842, 843, 844, 845, 846, 847, 848, 849, 850, 851, 852, 853, 854, 855, 856, 857, 858, 859, 860, 861, 862] (by decide +kernel) (by decide +kernel)
set_option maxRecDepth 20000 in
theorem gL_law_X6_share : GoodIn wsL_law (wsV RL 120 RX6 yX6_share wsX6_share) := goodIn_app (goodIn_of _ (by decide +kernel)) ggL_law_X6_share
