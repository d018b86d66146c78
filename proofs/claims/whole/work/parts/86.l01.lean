set_option maxRecDepth 20000 in
theorem gL_law_X7_deed : GoodIn wsL_law (wsV RL 31 RX7 yX7_deed wsX7_deed) := goodIn_app (goodIn_of _ (by decide +kernel)) ggL_law_X7_deed
set_option maxRecDepth 20000 in
theorem ggL_law_X6_miss : GoodIn wsL_law wsX6_miss := goodIn_r _ [558, 15, 162, 167, 104, 105, 106, 14, 107, 108, 109, 79, 35, 110, 111, 112, 113, 114, 115, 116, 117, 118, 37, 36, 119, 120, 121, 122, 123, 124, 125, 126, 127, 128, 129, 130, 181, 182, 183, 184, 559, 194, 195, 196, 197, 198, 199, 200, 201, 164, 165, 166, 931, 932, 933, 934, 935, 936, 937, 962, 963, 964, 965, 966, 967, 968, 969] (by decide +kernel) (by decide +kernel)
set_option maxRecDepth 20000 in
theorem gL_law_X6_miss : GoodIn wsL_law (wsV RL 32 RX6 yX6_miss wsX6_miss) := goodIn_app (goodIn_of _ (by decide +kernel)) ggL_law_X6_miss
set_option maxRecDepth 20000 in
theorem ggL_law_X7_miss : GoodIn wsL_law wsX7_miss := goodIn_app (goodIn_r (big := wsL_law) [.code yX7_miss cX7_miss 2 (some .int)] [563] (by decide +kernel) (by decide +kernel)) (goodIn_app (goodIn_app (goodIn_r (big := wsL_law) (wsX7_miss_r1) [505, 506, 514, 135, 136, 137, 5, 138, 139, 140, 84, 61, 141, 142, 143, 144, 145, 146, 147, 148, 149, 150, 63, 62] (by decide +kernel) (by decide +kernel)) (goodIn_r (big := wsL_law) (wsX7_miss_r2) [85, 86, 87, 151, 152, 153, 154, 155, 156, 157, 510, 511, 512, 513, 64, 65, 515, 516, 517, 518, 519, 520, 521] (by decide +kernel) (by decide +kernel))) (goodIn_r (big := wsL_law) (wsX70) [938, 939, 940, 941, 942, 943, 944, 945, 946, 947, 948, 949, 950, 951, 952, 953, 954, 955, 956, 957, 958, 959, 960, 961] (by decide +kernel) (by decide +kernel)))
set_option maxRecDepth 20000 in
theorem gL_law_X7_miss : GoodIn wsL_law (wsV RL 35 RX7 yX7_miss wsX7_miss) := goodIn_app (goodIn_of _ (by decide +kernel)) ggL_law_X7_miss
set_option maxRecDepth 20000 in
theorem ggL_law_X6_loose : GoodIn wsL_law wsX6_loose := goodIn_r _ [567, 19, 30, 931, 932, 933, 934, 935, 936, 937, 970, 971, 972, 973] (by decide +kernel) (by decide +kernel)
set_option maxRecDepth 20000 in
theorem gL_law_X6_loose : GoodIn wsL_law (wsV RL 36 RX6 yX6_loose wsX6_loose) := goodIn_app (goodIn_of _ (by decide +kernel)) ggL_law_X6_loose
set_option maxRecDepth 20000 in
theorem ggL_law_X7_loose : GoodIn wsL_law wsX7_loose := goodIn_r _ [571, 57, 85, 86, 5, 87, 938, 939, 940, 941, 942, 943, 944, 945, 946, 947, 948, 949, 950, 951, 952, 953, 954, 955, 956, 957, 958, 959, 960, 961] (by decide +kernel) (by decide +kernel)
set_option maxRecDepth 20000 in
theorem gL_law_X7_loose : GoodIn wsL_law (wsV RL 39 RX7 yX7_loose wsX7_loose) := goodIn_app (goodIn_of _ (by decide +kernel)) ggL_law_X7_loose
set_option maxRecDepth 20000 in
theorem ggL_law_X6_drop : GoodIn wsL_law wsX6_drop := goodIn_r _ [575, 19, 171, 576, 577, 578, 18, 579, 500, 580, 581, 582, 583, 42, 43, 584, 931, 932, 933, 934, 935, 936, 937, 970, 971, 972, 973] (by decide +kernel) (by decide +kernel)
set_option maxRecDepth 20000 in
theorem gL_law_X6_drop : GoodIn wsL_law (wsV RL 40 RX6 yX6_drop wsX6_drop) := goodIn_app (goodIn_of _ (by decide +kernel)) ggL_law_X6_drop
set_option maxRecDepth 20000 in
theorem ggL_law_X7_drop : GoodIn wsL_law wsX7_drop := goodIn_r _ [588, 57, 589, 590, 591, 5, 592, 85, 86, 87, 938, 939, 940, 941, 942, 943, 944, 945, 946, 947, 948, 949, 950, 951, 952, 953, 954, 955, 956, 957, 958, 959, 960, 961] (by decide +kernel) (by decide +kernel)
set_option maxRecDepth 20000 in
theorem gL_law_X7_drop : GoodIn wsL_law (wsV RL 43 RX7 yX7_drop wsX7_drop) := goodIn_app (goodIn_of _ (by decide +kernel)) ggL_law_X7_drop
set_option maxRecDepth 20000 in
theorem ggL_law_X6_year : GoodIn wsL_law wsX6_year := goodIn_r _ [596, 19, 576, 577, 578, 18, 579, 500, 178, 179, 2, 180, 597, 598, 599, 600, 43, 584, 601, 602, 603, 604, 605, 606, 607, 608, 609, 610, 611, 612, 931, 932, 933, 934, 935, 936, 937, 970, 971, 972, 973] (by decide +kernel) (by decide +kernel)
set_option maxRecDepth 20000 in
theorem gL_law_X6_year : GoodIn wsL_law (wsV RL 44 RX6 yX6_year wsX6_year) := goodIn_app (goodIn_of _ (by decide +kernel)) ggL_law_X6_year
set_option maxRecDepth 20000 in
theorem ggL_law_X7_year : GoodIn wsL_law wsX7_year := goodIn_r _ [616, 57, 589, 590, 591, 5, 592, 85, 86, 87, 617, 618, 619, 620, 938, 939, 940, 941, 942, 943, 944, 945, 946, 947, 948, 949, 950, 951, 952, 953, 954, 955, 956, 957, 958, 959, 960, 961] (by decide +kernel) (by decide +kernel)
set_option maxRecDepth 20000 in
theorem gL_law_X7_year : GoodIn wsL_law (wsV RL 48 RX7 yX7_year wsX7_year) := goodIn_app (goodIn_of _ (by decide +kernel)) ggL_law_X7_year
set_option maxRecDepth 20000 in
theorem ggL_law_X6_about : GoodIn wsL_law wsX6_about := goodIn_app (goodIn_r (big := wsL_law) [.code yX6_about cX6_about 4 (some .int)] [624] (by decide +kernel) (by decide +kernel)) (goodIn_app (goodIn_app (goodIn_app (goodIn_app (goodIn_app (goodIn_r (big := wsL_law) (wsX6_about_r1) [19, 625, 626, 163, 164, 165, 166, 627, 628, 629, 18, 630, 42, 584, 577, 578, 579, 500, 631, 610, 611, 612, 43, 632] (by decide +kernel) (by decide +kernel)) (goodIn_app (goodIn_r (big := wsL_law) (wsX6_about_r2) [633, 634, 170, 635, 211, 206, 207, 220, 221, 222, 223, 636, 637, 638, 247, 639, 255, 640, 2, 641, 642, 643, 399, 644] (by decide +kernel) (by decide +kernel)) (goodIn_app (goodIn_r (big := wsL_law) (wsX6_about_r3) [645, 646, 647, 648, 649, 650, 651, 256, 652, 653, 654, 655, 605, 606, 607, 608, 609, 656, 657, 658, 659, 660, 661, 176] (by decide +kernel) (by decide +kernel)) (goodIn_r (big := wsL_law) (wsX6_about_r4) [177, 662] (by decide +kernel) (by decide +kernel))))) (goodIn_r (big := wsL_law) (wsX60) [931, 932, 933, 934, 935, 936, 937] (by decide +kernel) (by decide +kernel))) (goodIn_r (big := wsL_law) (wsX20) [987, 988, 989, 990, 991] (by decide +kernel) (by decide +kernel))) (goodIn_r (big := wsL_law) (wsX10) [984, 985, 986] (by decide +kernel) (by decide +kernel))) (goodIn_r (big := wsL_law) (wsX00) [970, 971, 972, 973] (by decide +kernel) (by decide +kernel)))
set_option maxRecDepth 20000 in
theorem gL_law_X6_about : GoodIn wsL_law (wsV RL 49 RX6 yX6_about wsX6_about) := goodIn_app (goodIn_of _ (by decide +kernel)) ggL_law_X6_about
set_option maxRecDepth 20000 in
theorem ggL_law_X7_about : GoodIn wsL_law wsX7_about := goodIn_app (goodIn_r (big := wsL_law) [.code yX7_about cX7_about 3 (some .int)] [666] (by decide +kernel) (by decide +kernel)) (goodIn_app (goodIn_app (goodIn_r (big := wsL_law) (wsX7_about_r1) [57, 139, 589, 590, 591, 5, 592, 85, 86, 87, 667, 668, 669, 670, 64, 65, 671, 672, 673, 674, 526, 527, 528, 529] (by decide +kernel) (by decide +kernel)) (goodIn_app (goodIn_r (big := wsL_law) (wsX7_about_r2) [519, 520, 521, 675, 676, 677, 678, 679, 680, 681, 682, 534, 535, 536, 537, 538, 539, 540, 541, 542, 543, 544, 545, 546] (by decide +kernel) (by decide +kernel)) (goodIn_r (big := wsL_law) (wsX7_about_r3) [551, 552, 553, 554, 683, 684, 685, 686, 66, 687, 688, 689, 690, 617, 618, 619, 620] (by decide +kernel) (by decide +kernel)))) (goodIn_r (big := wsL_law) (wsX70) [938, 939, 940, 941, 942, 943, 944, 945, 946, 947, 948, 949, 950, 951, 952, 953, 954, 955, 956, 957, 958, 959, 960, 961] (by decide +kernel) (by decide +kernel)))
set_option maxRecDepth 20000 in
theorem gL_law_X7_about : GoodIn wsL_law (wsV RL 52 RX7 yX7_about wsX7_about) := goodIn_app (goodIn_of _ (by decide +kernel)) ggL_law_X7_about
set_option maxRecDepth 20000 in
theorem ggL_law_X6_corner : GoodIn wsL_law wsX6_corner := goodIn_r _ [694, 19, 625, 626, 695, 696, 627, 628, 629, 18, 630, 42, 584, 577, 578, 579, 500, 931, 932, 933, 934, 935, 936, 937, 987, 988, 989, 990, 991, 984, 985, 986, 970, 971, 972, 973] (by decide +kernel) (by decide +kernel)
set_option maxRecDepth 20000 in
theorem gL_law_X6_corner : GoodIn wsL_law (wsV RL 53 RX6 yX6_corner wsX6_corner) := goodIn_app (goodIn_of _ (by decide +kernel)) ggL_law_X6_corner
set_option maxRecDepth 20000 in
theorem ggL_law_X7_corner : GoodIn wsL_law wsX7_corner := goodIn_r _ [700, 139, 64, 65, 589, 590, 591, 5, 592, 57, 85, 86, 87, 667, 668, 669, 670, 938, 939, 940, 941, 942, 943, 944, 945, 946, 947, 948, 949, 950, 951, 952, 953, 954, 955, 956, 957, 958, 959, 960, 961] (by decide +kernel) (by decide +kernel)
set_option maxRecDepth 20000 in
theorem gL_law_X7_corner : GoodIn wsL_law (wsV RL 56 RX7 yX7_corner wsX7_corner) := goodIn_app (goodIn_of _ (by decide +kernel)) ggL_law_X7_corner
set_option maxRecDepth 20000 in
theorem ggL_law_X6_lies : GoodIn wsL_law wsX6_lies := goodIn_r _ [704, 19, 705, 706, 627, 628, 629, 18, 630, 42, 584, 577, 578, 579, 500, 172, 173, 2, 174, 175, 176, 177, 707, 708, 709, 931, 932, 933, 934, 935, 936, 937, 987, 988, 989, 990, 991, 970, 971, 972, 973] (by decide +kernel) (by decide +kernel)
set_option maxRecDepth 20000 in
theorem gL_law_X6_lies : GoodIn wsL_law (wsV RL 57 RX6 yX6_lies wsX6_lies) := goodIn_app (goodIn_of _ (by decide +kernel)) ggL_law_X6_lies
set_option maxRecDepth 20000 in
theorem ggL_law_X7_lies : GoodIn wsL_law wsX7_lies := goodIn_r _ [713, 589, 590, 591, 5, 592, 57, 85, 86, 87, 507, 508, 509, 667, 668, 669, 670, 139, 64, 65, 679, 680, 681, 682, 534, 535, 536, 537, 526, 527, 528, 529, 538, 539, 540, 541, 542, 543, 544, 545, 546, 551, 552, 553, 554, 938, 939, 940, 941, 942, 943, 944, 945, 946, 947, 948, 949, 950, 951, 952, 953, 954, 955, 956, 957, 958, 959, 960, 961] (by decide +kernel) (by decide +kernel)
set_option maxRecDepth 20000 in
theorem gL_law_X7_lies : GoodIn wsL_law (wsV RL 60 RX7 yX7_lies wsX7_lies) := goodIn_app (goodIn_of _ (by decide +kernel)) ggL_law_X7_lies
set_option maxRecDepth 20000 in
theorem ggL_law_X6_sign : GoodIn wsL_law wsX6_sign := goodIn_app (goodIn_r (big := wsL_law) [.code yX6_sign cX6_sign 5 (some .int)] [717] (by decide +kernel) (by decide +kernel)) (goodIn_app (goodIn_app (goodIn_app (goodIn_app (goodIn_app (goodIn_r (big := wsL_law) (wsX6_sign_r1) [19, 718, 627, 628, 629, 18, 630, 42, 584, 577, 578, 579, 500, 719, 720, 721, 360, 722, 437, 723, 724, 725, 726, 438] (by decide +kernel) (by decide +kernel)) (goodIn_app (goodIn_r (big := wsL_law) (wsX6_sign_r2) [436, 727, 728, 729, 730, 731, 732, 733, 734, 735, 736, 339, 737, 738, 380, 381, 362, 382, 383, 365, 384, 739, 740, 281] (by decide +kernel) (by decide +kernel)) (goodIn_r (big := wsL_law) (wsX6_sign_r3) [741, 376, 377, 378, 355, 356, 357, 379, 470, 471, 472, 370, 371, 372] (by decide +kernel) (by decide +kernel)))) (goodIn_r (big := wsL_law) (wsX60) [931, 932, 933, 934, 935, 936, 937] (by decide +kernel) (by decide +kernel))) (goodIn_r (big := wsL_law) (wsX20) [987, 988, 989, 990, 991] (by decide +kernel) (by decide +kernel))) (goodIn_r (big := wsL_law) (wsX00) [970, 971, 972, 973] (by decide +kernel) (by decide +kernel))) (goodIn_r (big := wsL_law) (wsJ00) [996, 997, 998, 999] (by decide +kernel) (by decide +kernel)))
