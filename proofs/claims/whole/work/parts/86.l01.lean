set_option maxRecDepth 20000 in
theorem gL_law_X7_deed : GoodIn wsL_law (wsV RL 31 RX7 yX7_deed wsX7_deed) := goodIn_app (goodIn_of _ (by decide +kernel)) ggL_law_X7_deed
set_option maxRecDepth 20000 in
theorem ggL_law_X6_miss : GoodIn wsL_law wsX6_miss := goodIn_r _ [551, 15, 162, 167, 104, 105, 106, 14, 107, 108, 109, 79, 35, 110, 111, 112, 113, 114, 115, 116, 117, 118, 37, 36, 119, 120, 121, 122, 123, 124, 125, 126, 127, 128, 129, 130, 184, 185, 186, 187, 552, 197, 198, 199, 200, 201, 202, 203, 204, 164, 165, 166, 924, 925, 926, 927, 928, 929, 930, 955, 956, 957, 958, 959, 960, 961, 962] (by decide +kernel) (by decide +kernel)
set_option maxRecDepth 20000 in
theorem gL_law_X6_miss : GoodIn wsL_law (wsV RL 32 RX6 yX6_miss wsX6_miss) := goodIn_app (goodIn_of _ (by decide +kernel)) ggL_law_X6_miss
set_option maxRecDepth 20000 in
theorem ggL_law_X7_miss : GoodIn wsL_law wsX7_miss := goodIn_app (goodIn_r (big := wsL_law) [.code yX7_miss cX7_miss 2 (some .int)] [556] (by decide +kernel) (by decide +kernel)) (goodIn_app (goodIn_app (goodIn_r (big := wsL_law) (wsX7_miss_r1) [498, 499, 507, 135, 136, 137, 5, 138, 139, 140, 84, 61, 141, 142, 143, 144, 145, 146, 147, 148, 149, 150, 63, 62] (by decide +kernel) (by decide +kernel)) (goodIn_r (big := wsL_law) (wsX7_miss_r2) [85, 86, 87, 151, 152, 153, 154, 155, 156, 157, 503, 504, 505, 506, 64, 65, 508, 509, 510, 511, 512, 513, 514] (by decide +kernel) (by decide +kernel))) (goodIn_r (big := wsL_law) (wsX70) [931, 932, 933, 934, 935, 936, 937, 938, 939, 940, 941, 942, 943, 944, 945, 946, 947, 948, 949, 950, 951, 952, 953, 954] (by decide +kernel) (by decide +kernel)))
set_option maxRecDepth 20000 in
theorem gL_law_X7_miss : GoodIn wsL_law (wsV RL 35 RX7 yX7_miss wsX7_miss) := goodIn_app (goodIn_of _ (by decide +kernel)) ggL_law_X7_miss
set_option maxRecDepth 20000 in
theorem ggL_law_X6_loose : GoodIn wsL_law wsX6_loose := goodIn_r _ [560, 19, 30, 924, 925, 926, 927, 928, 929, 930, 963, 964, 965, 966] (by decide +kernel) (by decide +kernel)
set_option maxRecDepth 20000 in
theorem gL_law_X6_loose : GoodIn wsL_law (wsV RL 36 RX6 yX6_loose wsX6_loose) := goodIn_app (goodIn_of _ (by decide +kernel)) ggL_law_X6_loose
set_option maxRecDepth 20000 in
theorem ggL_law_X7_loose : GoodIn wsL_law wsX7_loose := goodIn_r _ [564, 57, 85, 86, 5, 87, 931, 932, 933, 934, 935, 936, 937, 938, 939, 940, 941, 942, 943, 944, 945, 946, 947, 948, 949, 950, 951, 952, 953, 954] (by decide +kernel) (by decide +kernel)
set_option maxRecDepth 20000 in
theorem gL_law_X7_loose : GoodIn wsL_law (wsV RL 39 RX7 yX7_loose wsX7_loose) := goodIn_app (goodIn_of _ (by decide +kernel)) ggL_law_X7_loose
set_option maxRecDepth 20000 in
theorem ggL_law_X6_drop : GoodIn wsL_law wsX6_drop := goodIn_r _ [568, 19, 171, 569, 570, 571, 18, 572, 493, 573, 574, 575, 576, 42, 43, 577, 924, 925, 926, 927, 928, 929, 930, 963, 964, 965, 966] (by decide +kernel) (by decide +kernel)
set_option maxRecDepth 20000 in
theorem gL_law_X6_drop : GoodIn wsL_law (wsV RL 40 RX6 yX6_drop wsX6_drop) := goodIn_app (goodIn_of _ (by decide +kernel)) ggL_law_X6_drop
set_option maxRecDepth 20000 in
theorem ggL_law_X7_drop : GoodIn wsL_law wsX7_drop := goodIn_r _ [581, 57, 582, 583, 584, 5, 585, 85, 86, 87, 931, 932, 933, 934, 935, 936, 937, 938, 939, 940, 941, 942, 943, 944, 945, 946, 947, 948, 949, 950, 951, 952, 953, 954] (by decide +kernel) (by decide +kernel)
set_option maxRecDepth 20000 in
theorem gL_law_X7_drop : GoodIn wsL_law (wsV RL 43 RX7 yX7_drop wsX7_drop) := goodIn_app (goodIn_of _ (by decide +kernel)) ggL_law_X7_drop
set_option maxRecDepth 20000 in
theorem ggL_law_X6_year : GoodIn wsL_law wsX6_year := goodIn_r _ [589, 19, 569, 570, 571, 18, 572, 493, 181, 182, 2, 183, 590, 591, 592, 593, 43, 577, 594, 595, 596, 597, 598, 599, 600, 601, 602, 603, 604, 605, 924, 925, 926, 927, 928, 929, 930, 963, 964, 965, 966] (by decide +kernel) (by decide +kernel)
set_option maxRecDepth 20000 in
theorem gL_law_X6_year : GoodIn wsL_law (wsV RL 44 RX6 yX6_year wsX6_year) := goodIn_app (goodIn_of _ (by decide +kernel)) ggL_law_X6_year
set_option maxRecDepth 20000 in
theorem ggL_law_X7_year : GoodIn wsL_law wsX7_year := goodIn_r _ [609, 57, 582, 583, 584, 5, 585, 85, 86, 87, 610, 611, 612, 613, 931, 932, 933, 934, 935, 936, 937, 938, 939, 940, 941, 942, 943, 944, 945, 946, 947, 948, 949, 950, 951, 952, 953, 954] (by decide +kernel) (by decide +kernel)
set_option maxRecDepth 20000 in
theorem gL_law_X7_year : GoodIn wsL_law (wsV RL 48 RX7 yX7_year wsX7_year) := goodIn_app (goodIn_of _ (by decide +kernel)) ggL_law_X7_year
set_option maxRecDepth 20000 in
theorem ggL_law_X6_about : GoodIn wsL_law wsX6_about := goodIn_app (goodIn_r (big := wsL_law) [.code yX6_about cX6_about 4 (some .int)] [617] (by decide +kernel) (by decide +kernel)) (goodIn_app (goodIn_app (goodIn_app (goodIn_app (goodIn_app (goodIn_r (big := wsL_law) (wsX6_about_r1) [19, 618, 619, 163, 164, 165, 166, 620, 621, 622, 18, 623, 42, 577, 570, 571, 572, 493, 624, 603, 604, 605, 43, 625] (by decide +kernel) (by decide +kernel)) (goodIn_app (goodIn_r (big := wsL_law) (wsX6_about_r2) [626, 627, 170, 628, 214, 209, 210, 223, 224, 225, 226, 629, 630, 631, 174, 632, 252, 633, 2, 634, 635, 636, 397, 637] (by decide +kernel) (by decide +kernel)) (goodIn_app (goodIn_r (big := wsL_law) (wsX6_about_r3) [638, 639, 640, 641, 642, 643, 644, 253, 645, 646, 647, 648, 598, 599, 600, 601, 602, 649, 650, 651, 652, 653, 654, 179] (by decide +kernel) (by decide +kernel)) (goodIn_r (big := wsL_law) (wsX6_about_r4) [180, 655] (by decide +kernel) (by decide +kernel))))) (goodIn_r (big := wsL_law) (wsX60) [924, 925, 926, 927, 928, 929, 930] (by decide +kernel) (by decide +kernel))) (goodIn_r (big := wsL_law) (wsX20) [980, 981, 982, 983, 984] (by decide +kernel) (by decide +kernel))) (goodIn_r (big := wsL_law) (wsX10) [977, 978, 979] (by decide +kernel) (by decide +kernel))) (goodIn_r (big := wsL_law) (wsX00) [963, 964, 965, 966] (by decide +kernel) (by decide +kernel)))
set_option maxRecDepth 20000 in
theorem gL_law_X6_about : GoodIn wsL_law (wsV RL 49 RX6 yX6_about wsX6_about) := goodIn_app (goodIn_of _ (by decide +kernel)) ggL_law_X6_about
set_option maxRecDepth 20000 in
theorem ggL_law_X7_about : GoodIn wsL_law wsX7_about := goodIn_app (goodIn_r (big := wsL_law) [.code yX7_about cX7_about 3 (some .int)] [659] (by decide +kernel) (by decide +kernel)) (goodIn_app (goodIn_app (goodIn_r (big := wsL_law) (wsX7_about_r1) [57, 139, 582, 583, 584, 5, 585, 85, 86, 87, 660, 661, 662, 663, 64, 65, 664, 665, 666, 667, 519, 520, 521, 522] (by decide +kernel) (by decide +kernel)) (goodIn_app (goodIn_r (big := wsL_law) (wsX7_about_r2) [512, 513, 514, 668, 669, 670, 671, 672, 673, 674, 675, 527, 528, 529, 530, 531, 532, 533, 534, 535, 536, 537, 538, 539] (by decide +kernel) (by decide +kernel)) (goodIn_r (big := wsL_law) (wsX7_about_r3) [544, 545, 546, 547, 676, 677, 678, 679, 66, 680, 681, 682, 683, 610, 611, 612, 613] (by decide +kernel) (by decide +kernel)))) (goodIn_r (big := wsL_law) (wsX70) [931, 932, 933, 934, 935, 936, 937, 938, 939, 940, 941, 942, 943, 944, 945, 946, 947, 948, 949, 950, 951, 952, 953, 954] (by decide +kernel) (by decide +kernel)))
set_option maxRecDepth 20000 in
theorem gL_law_X7_about : GoodIn wsL_law (wsV RL 52 RX7 yX7_about wsX7_about) := goodIn_app (goodIn_of _ (by decide +kernel)) ggL_law_X7_about
set_option maxRecDepth 20000 in
theorem ggL_law_X6_corner : GoodIn wsL_law wsX6_corner := goodIn_r _ [687, 19, 618, 619, 688, 689, 620, 621, 622, 18, 623, 42, 577, 570, 571, 572, 493, 924, 925, 926, 927, 928, 929, 930, 980, 981, 982, 983, 984, 977, 978, 979, 963, 964, 965, 966] (by decide +kernel) (by decide +kernel)
set_option maxRecDepth 20000 in
theorem gL_law_X6_corner : GoodIn wsL_law (wsV RL 53 RX6 yX6_corner wsX6_corner) := goodIn_app (goodIn_of _ (by decide +kernel)) ggL_law_X6_corner
set_option maxRecDepth 20000 in
theorem ggL_law_X7_corner : GoodIn wsL_law wsX7_corner := goodIn_r _ [693, 139, 64, 65, 582, 583, 584, 5, 585, 57, 85, 86, 87, 660, 661, 662, 663, 931, 932, 933, 934, 935, 936, 937, 938, 939, 940, 941, 942, 943, 944, 945, 946, 947, 948, 949, 950, 951, 952, 953, 954] (by decide +kernel) (by decide +kernel)
set_option maxRecDepth 20000 in
theorem gL_law_X7_corner : GoodIn wsL_law (wsV RL 56 RX7 yX7_corner wsX7_corner) := goodIn_app (goodIn_of _ (by decide +kernel)) ggL_law_X7_corner
set_option maxRecDepth 20000 in
theorem ggL_law_X6_lies : GoodIn wsL_law wsX6_lies := goodIn_r _ [697, 19, 698, 699, 620, 621, 622, 18, 623, 42, 577, 570, 571, 572, 493, 175, 176, 2, 177, 178, 179, 180, 700, 701, 702, 924, 925, 926, 927, 928, 929, 930, 980, 981, 982, 983, 984, 963, 964, 965, 966] (by decide +kernel) (by decide +kernel)
set_option maxRecDepth 20000 in
theorem gL_law_X6_lies : GoodIn wsL_law (wsV RL 57 RX6 yX6_lies wsX6_lies) := goodIn_app (goodIn_of _ (by decide +kernel)) ggL_law_X6_lies
set_option maxRecDepth 20000 in
theorem ggL_law_X7_lies : GoodIn wsL_law wsX7_lies := goodIn_r _ [706, 582, 583, 584, 5, 585, 57, 85, 86, 87, 500, 501, 502, 660, 661, 662, 663, 139, 64, 65, 672, 673, 674, 675, 527, 528, 529, 530, 519, 520, 521, 522, 531, 532, 533, 534, 535, 536, 537, 538, 539, 544, 545, 546, 547, 931, 932, 933, 934, 935, 936, 937, 938, 939, 940, 941, 942, 943, 944, 945, 946, 947, 948, 949, 950, 951, 952, 953, 954] (by decide +kernel) (by decide +kernel)
set_option maxRecDepth 20000 in
theorem gL_law_X7_lies : GoodIn wsL_law (wsV RL 60 RX7 yX7_lies wsX7_lies) := goodIn_app (goodIn_of _ (by decide +kernel)) ggL_law_X7_lies
set_option maxRecDepth 20000 in
theorem ggL_law_X6_sign : GoodIn wsL_law wsX6_sign := goodIn_app (goodIn_r (big := wsL_law) [.code yX6_sign cX6_sign 5 (some .int)] [710] (by decide +kernel) (by decide +kernel)) (goodIn_app (goodIn_app (goodIn_app (goodIn_app (goodIn_app (goodIn_r (big := wsL_law) (wsX6_sign_r1) [19, 711, 620, 621, 622, 18, 623, 42, 577, 570, 571, 572, 493, 712, 713, 714, 358, 715, 435, 716, 717, 718, 719, 436] (by decide +kernel) (by decide +kernel)) (goodIn_app (goodIn_r (big := wsL_law) (wsX6_sign_r2) [434, 720, 721, 722, 723, 724, 725, 726, 727, 728, 729, 337, 730, 731, 378, 379, 360, 380, 381, 363, 382, 732, 733, 279] (by decide +kernel) (by decide +kernel)) (goodIn_r (big := wsL_law) (wsX6_sign_r3) [734, 374, 375, 376, 353, 354, 355, 377, 468, 469, 470, 368, 369, 370] (by decide +kernel) (by decide +kernel)))) (goodIn_r (big := wsL_law) (wsX60) [924, 925, 926, 927, 928, 929, 930] (by decide +kernel) (by decide +kernel))) (goodIn_r (big := wsL_law) (wsX20) [980, 981, 982, 983, 984] (by decide +kernel) (by decide +kernel))) (goodIn_r (big := wsL_law) (wsX00) [963, 964, 965, 966] (by decide +kernel) (by decide +kernel))) (goodIn_r (big := wsL_law) (wsJ00) [989, 990, 991, 992] (by decide +kernel) (by decide +kernel)))
