set_option maxRecDepth 20000 in
theorem ggL_law_X6_miss : GoodIn wsL_law wsX6_miss := goodIn_r _ [421, 99, 383, 69, 224, 225, 226, 5, 227, 102, 103, 104, 384, 385, 386, 387, 388, 389, 390, 391, 392, 393, 394, 395, 396, 397, 228, 229, 230, 422, 423, 424, 425, 398, 399, 400, 401, 80, 231, 232, 233, 234, 79, 235, 236, 237, 238, 239, 240, 426, 427, 428, 429, 835, 836, 837, 838, 839, 840, 841, 842, 843, 844, 845, 846, 847, 848, 849, 850, 851, 852, 853, 854, 855, 856, 857, 858, 859, 860, 861, 862] (by decide +kernel) (by decide +kernel)
set_option maxRecDepth 20000 in
theorem gL_law_X6_miss : GoodIn wsL_law (wsV RL 65 RX6 yX6_miss wsX6_miss) := goodIn_app (goodIn_of _ (by decide +kernel)) ggL_law_X6_miss
set_option maxRecDepth 20000 in
theorem ggL_law_X5_evened : GoodIn wsL_law wsX5_evened := goodIn_r _ [433, 33, 20, 434, 337, 338, 339, 2, 340, 245, 246, 247, 19, 248, 45, 341, 342, 343, 344, 345, 346, 347, 348, 173, 349, 350, 351, 352, 44, 353, 354, 355, 435, 436, 437, 438, 32, 439, 60, 440, 441, 442, 443, 411, 412, 413, 204, 197, 198, 199, 444, 445, 362, 446, 447, 448, 449, 450, 451, 452, 453, 454, 455, 368, 369, 201, 202, 203, 205, 206, 207, 208, 209, 210, 211, 212, 213, 214, 215, 216, 217, 218, 456, 457, 458, 459, 61, 460, 461, 462, 463, 464, 465, 466, 467, 468, 469, 470, 471, 472, 473, 474, 475, 476, 477, 478, 479, 480, 481, 482, 483, 484, 485, 257, 486, 487, 488, 489, 826, 827, 828, 829, 830, 831, 832, 833, 834, 873, 874, 875, 876, 865, 866, 867] (by decide +kernel) (by decide +kernel)
set_option maxRecDepth 20000 in
theorem gL_law_X5_evened : GoodIn wsL_law (wsV RL 66 RX5 yX5_evened wsX5_evened) := goodIn_app (goodIn_of _ (by decide +kernel)) ggL_law_X5_evened
set_option maxRecDepth 20000 in
theorem ggL_law_X6_evened : GoodIn wsL_law wsX6_evened := goodIn_r _ [493, 99, 494, 383, 495, 69, 496, 268, 269, 270, 5, 271, 67, 102, 103, 104, 384, 385, 386, 387, 388, 389, 390, 391, 392, 393, 394, 395, 396, 397, 228, 229, 230, 497, 498, 499, 500, 82, 83, 81, 501, 502, 503, 504, 505, 422, 423, 424, 425, 231, 232, 233, 234, 79, 235, 236, 237, 238, 239, 240, 506, 507, 508, 509, 510, 511, 512, 513, 84, 514, 515, 516, 517, 518, 519, 520, 521, 522, 523, 524, 525, 526, 835, 836, 837, 838, 839, 840, 841, 842, 843, 844, 845, 846, 847, 848, 849, 850, 851, 852, 853, 854, 855, 856, 857, 858, 859, 860, 861, 862] (by decide +kernel) (by decide +kernel)
set_option maxRecDepth 20000 in
theorem gL_law_X6_evened : GoodIn wsL_law (wsV RL 70 RX6 yX6_evened wsX6_evened) := goodIn_app (goodIn_of _ (by decide +kernel)) ggL_law_X6_evened
set_option maxRecDepth 20000 in
theorem ggL_law_X5_rest : GoodIn wsL_law wsX5_rest := goodIn_r _ [530, 33, 20, 434, 406, 407, 408, 2, 409, 192, 193, 194, 19, 195, 173, 341, 342, 343, 344, 345, 346, 347, 348, 349, 350, 351, 352, 44, 410, 411, 412, 413, 204, 197, 198, 199, 353, 354, 355, 435, 436, 437, 438, 32, 439, 60, 440, 441, 442, 443, 444, 445, 362, 446, 447, 448, 449, 450, 451, 452, 453, 454, 455, 368, 369, 201, 202, 203, 205, 206, 207, 208, 209, 210, 211, 212, 213, 214, 215, 216, 217, 218, 456, 457, 458, 459, 61, 460, 461, 462, 463, 464, 465, 466, 467, 468, 469, 470, 471, 472, 473, 474, 475, 476, 477, 478, 479, 531, 481, 482, 483, 484, 485, 257, 486, 487, 488, 489, 826, 827, 828, 829, 830, 831, 832, 833, 834, 873, 874, 875, 876, 865, 866, 867] (by decide +kernel) (by decide +kernel)
set_option maxRecDepth 20000 in
theorem gL_law_X5_rest : GoodIn wsL_law (wsV RL 71 RX5 yX5_rest wsX5_rest) := goodIn_app (goodIn_of _ (by decide +kernel)) ggL_law_X5_rest
set_option maxRecDepth 20000 in
theorem ggL_law_X6_rest : GoodIn wsL_law wsX6_rest := goodIn_r _ [535, 99, 494, 383, 495, 69, 496, 224, 225, 226, 5, 227, 102, 103, 104, 384, 385, 386, 387, 388, 389, 390, 391, 392, 393, 394, 395, 396, 397, 228, 229, 230, 422, 423, 424, 425, 497, 498, 499, 500, 82, 83, 81, 501, 502, 503, 504, 505, 231, 232, 233, 234, 79, 235, 236, 237, 238, 239, 240, 510, 511, 512, 513, 84, 506, 507, 508, 509, 514, 515, 516, 517, 518, 519, 520, 521, 522, 523, 524, 525, 526, 835, 836, 837, 838, 839, 840, 841, 842, 843, 844, 845, 846, 847, 848, 849, 850, 851, 852, 853, 854, 855, 856, 857, 858, 859, 860, 861, 862] (by decide +kernel) (by decide +kernel)
set_option maxRecDepth 20000 in
theorem gL_law_X6_rest : GoodIn wsL_law (wsV RL 74 RX6 yX6_rest wsX6_rest) := goodIn_app (goodIn_of _ (by decide +kernel)) ggL_law_X6_rest
set_option maxRecDepth 20000 in
theorem ggL_law_X5_squares : GoodIn wsL_law wsX5_squares := goodIn_r _ [539, 33, 20, 540, 434, 435, 346, 347, 19, 348, 173, 436, 437, 438, 32, 439, 60, 440, 441, 442, 350, 351, 352, 44, 443, 411, 412, 413, 204, 197, 198, 199, 444, 445, 362, 446, 354, 2, 355, 447, 448, 449, 450, 451, 452, 453, 454, 455, 368, 369, 201, 202, 203, 205, 206, 207, 208, 209, 210, 211, 212, 213, 214, 215, 216, 217, 218, 456, 457, 458, 459, 61, 460, 461, 462, 463, 464, 465, 466, 467, 468, 469, 470, 471, 472, 473, 474, 475, 476, 477, 478, 479, 481, 482, 483, 484, 485, 257, 486, 487, 488, 489, 826, 827, 828, 829, 830, 831, 832, 833, 834, 873, 874, 875, 876, 865, 866, 867] (by decide +kernel) (by decide +kernel)
set_option maxRecDepth 20000 in
theorem gL_law_X5_squares : GoodIn wsL_law (wsV RL 75 RX5 yX5_squares wsX5_squares) := goodIn_app (goodIn_of _ (by decide +kernel)) ggL_law_X5_squares
set_option maxRecDepth 20000 in
theorem ggL_law_X6_squares : GoodIn wsL_law wsX6_squares := goodIn_r _ [544, 99, 69, 384, 385, 5, 386, 387, 388, 389, 390, 391, 392, 393, 394, 395, 396, 397, 228, 229, 230, 545, 546, 547, 548, 505, 83, 497, 498, 499, 500, 82, 81, 501, 502, 503, 504, 422, 423, 424, 425, 231, 232, 233, 234, 79, 235, 236, 237, 238, 239, 240, 510, 511, 512, 513, 84, 514, 515, 516, 517, 518, 519, 520, 521, 522, 523, 524, 525, 526, 835, 836, 837, 838, 839, 840, 841, 842, 843, 844, 845, 846, 847, 848, 849, 850, 851, 852, 853, 854, 855, 856, 857, 858, 859, 860, 861, 862] (by decide +kernel) (by decide +kernel)
set_option maxRecDepth 20000 in
theorem gL_law_X6_squares : GoodIn wsL_law (wsV RL 79 RX6 yX6_squares wsX6_squares) := goodIn_app (goodIn_of _ (by decide +kernel)) ggL_law_X6_squares
set_option maxRecDepth 20000 in
theorem ggL_law_X5_ask : GoodIn wsL_law wsX5_ask := goodIn_r _ [552, 20, 33, 341, 342, 343, 19, 344, 345, 346, 347, 348, 173, 349, 350, 351, 352, 44, 553, 554, 555, 556, 557, 558, 411, 412, 413, 204, 197, 198, 199, 559, 560, 561, 562, 563, 564, 565, 566, 567, 568, 32, 569, 440, 61, 441, 570, 571, 572, 573, 354, 2, 355, 574, 575, 437, 438, 439, 60, 442, 443, 444, 445, 362, 446, 447, 448, 449, 450, 451, 452, 453, 454, 455, 368, 369, 201, 202, 203, 205, 206, 207, 208, 209, 210, 211, 212, 213, 214, 215, 216, 217, 218, 456, 457, 458, 459, 460, 461, 462, 463, 464, 465, 466, 467, 468, 469, 470, 471, 472, 473, 474, 475, 476, 477, 478, 479, 576, 577, 578, 579, 826, 827, 828, 829, 830, 831, 832, 833, 834, 865, 866, 867, 873, 874, 875, 876] (by decide +kernel) (by decide +kernel)
set_option maxRecDepth 20000 in
theorem gL_law_X5_ask : GoodIn wsL_law (wsV RL 80 RX5 yX5_ask wsX5_ask) := goodIn_app (goodIn_of _ (by decide +kernel)) ggL_law_X5_ask
set_option maxRecDepth 20000 in
theorem ggL_law_X6_ask : GoodIn wsL_law wsX6_ask := goodIn_r _ [583, 99, 69, 384, 385, 5, 386, 387, 388, 389, 390, 391, 392, 393, 394, 395, 396, 397, 228, 229, 230, 584, 585, 586, 587, 588, 589, 590, 422, 423, 424, 425, 591, 592, 593, 594, 518, 519, 545, 546, 547, 548, 505, 83, 497, 498, 499, 500, 82, 81, 501, 502, 503, 504, 231, 232, 233, 234, 79, 235, 236, 237, 238, 239, 240, 510, 511, 512, 513, 84, 514, 515, 516, 517, 520, 521, 522, 595, 596, 597, 598, 835, 836, 837, 838, 839, 840, 841, 842, 843, 844, 845, 846, 847, 848, 849, 850, 851, 852, 853, 854, 855, 856, 857, 858, 859, 860, 861, 862] (by decide +kernel) (by decide +kernel)
set_option maxRecDepth 20000 in
theorem gL_law_X6_ask : GoodIn wsL_law (wsV RL 83 RX6 yX6_ask wsX6_ask) := goodIn_app (goodIn_of _ (by decide +kernel)) ggL_law_X6_ask
set_option maxRecDepth 20000 in
theorem ggL_law_X5_widest : GoodIn wsL_law wsX5_widest := goodIn_r _ [602, 20, 245, 246, 247, 19, 248, 45, 435, 346, 347, 348, 173, 603, 604, 605, 606, 607, 608, 609, 610, 204, 197, 198, 199, 44, 349, 350, 351, 352, 354, 2, 355, 826, 827, 828, 829, 830, 831, 832, 833, 834, 865, 866, 867] (by decide +kernel) (by decide +kernel)
set_option maxRecDepth 20000 in
theorem gL_law_X5_widest : GoodIn wsL_law (wsV RL 84 RX5 yX5_widest wsX5_widest) := goodIn_app (goodIn_of _ (by decide +kernel)) ggL_law_X5_widest
set_option maxRecDepth 20000 in
theorem ggL_law_X6_widest : GoodIn wsL_law wsX6_widest := goodIn_r _ [614, 99, 69, 268, 269, 270, 5, 271, 67, 102, 103, 104, 615, 616, 617, 384, 385, 386, 618, 619, 620, 621, 622, 623, 624, 625, 228, 229, 230, 395, 396, 397, 835, 836, 837, 838, 839, 840, 841, 842, 843, 844, 845, 846, 847, 848, 849, 850, 851, 852, 853, 854, 855, 856, 857, 858, 859, 860, 861, 862] (by decide +kernel) (by decide +kernel)
set_option maxRecDepth 20000 in
theorem gL_law_X6_widest : GoodIn wsL_law (wsV RL 87 RX6 yX6_widest wsX6_widest) := goodIn_app (goodIn_of _ (by decide +kernel)) ggL_law_X6_widest
set_option maxRecDepth 20000 in
theorem ggL_law_X5_come : GoodIn wsL_law wsX5_come := goodIn_r _ [629, 20, 630, 631, 2, 632, 633, 634, 635, 19, 636, 607, 608, 609, 610, 173, 204, 197, 198, 199, 44, 349, 350, 351, 352, 826, 827, 828, 829, 830, 831, 832, 833, 834, 865, 866, 867] (by decide +kernel) (by decide +kernel)
set_option maxRecDepth 20000 in
theorem gL_law_X5_come : GoodIn wsL_law (wsV RL 88 RX5 yX5_come wsX5_come) := goodIn_app (goodIn_of _ (by decide +kernel)) ggL_law_X5_come
set_option maxRecDepth 20000 in
theorem ggL_law_X6_come : GoodIn wsL_law wsX6_come := goodIn_r _ [640, 99, 223, 69, 102, 103, 5, 104, 615, 616, 617, 384, 385, 386, 391, 392, 393, 394, 395, 396, 397, 228, 229, 230, 835, 836, 837, 838, 839, 840, 841, 842, 843, 844, 845, 846, 847, 848, 849, 850, 851, 852, 853, 854, 855, 856, 857, 858, 859, 860, 861, 862] (by decide +kernel) (by decide +kernel)
