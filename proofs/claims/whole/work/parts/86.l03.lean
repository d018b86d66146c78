set_option maxRecDepth 20000 in
theorem gL_law_X7_gap : GoodIn wsL_law (wsV RL 85 RX7 yX7_gap wsX7_gap) := goodIn_app (goodIn_of _ (by decide +kernel)) ggL_law_X7_gap
set_option maxRecDepth 20000 in
theorem ggL_law_X6_count : GoodIn wsL_law wsX6_count := goodIn_r _ [892, 19, 171, 15, 74, 30, 893, 894, 895, 896, 18, 897, 500, 656, 657, 658, 659, 660, 661, 628, 629, 630, 42, 584, 577, 578, 579, 176, 2, 177, 662, 643, 399, 644, 645, 646, 647, 931, 932, 933, 934, 935, 936, 937, 970, 971, 972, 973, 962, 963, 964, 965, 966, 967, 968, 969, 987, 988, 989, 990, 991] (by decide +kernel) (by decide +kernel)
set_option maxRecDepth 20000 in
theorem gL_law_X6_count : GoodIn wsL_law (wsV RL 86 RX6 yX6_count wsX6_count) := goodIn_app (goodIn_of _ (by decide +kernel)) ggL_law_X6_count
set_option maxRecDepth 20000 in
theorem ggL_law_X7_count : GoodIn wsL_law wsX7_count := goodIn_r _ [901, 57, 84, 60, 902, 903, 904, 5, 905, 68, 667, 668, 669, 670, 139, 64, 65, 679, 680, 681, 682, 534, 535, 536, 537, 526, 527, 528, 529, 538, 539, 540, 541, 542, 543, 544, 545, 546, 85, 86, 87, 551, 552, 553, 554, 938, 939, 940, 941, 942, 943, 944, 945, 946, 947, 948, 949, 950, 951, 952, 953, 954, 955, 956, 957, 958, 959, 960, 961] (by decide +kernel) (by decide +kernel)
set_option maxRecDepth 20000 in
theorem gL_law_X7_count : GoodIn wsL_law (wsV RL 89 RX7 yX7_count wsX7_count) := goodIn_app (goodIn_of _ (by decide +kernel)) ggL_law_X7_count
set_option maxRecDepth 20000 in
theorem ggL_law_X6_image : GoodIn wsL_law wsX6_image := goodIn_r _ [909, 19, 893, 910, 911, 912, 2, 913, 20, 21, 914, 915, 916, 18, 917, 42, 43, 500, 918, 931, 932, 933, 934, 935, 936, 937, 970, 971, 972, 973] (by decide +kernel) (by decide +kernel)
set_option maxRecDepth 20000 in
theorem gL_law_X6_image : GoodIn wsL_law (wsV RL 90 RX6 yX6_image wsX6_image) := goodIn_app (goodIn_of _ (by decide +kernel)) ggL_law_X6_image
set_option maxRecDepth 20000 in
theorem ggL_law_X7_image : GoodIn wsL_law wsX7_image := goodIn_r _ [922, 58, 57, 60, 85, 86, 5, 87, 938, 939, 940, 941, 942, 943, 944, 945, 946, 947, 948, 949, 950, 951, 952, 953, 954, 955, 956, 957, 958, 959, 960, 961] (by decide +kernel) (by decide +kernel)
set_option maxRecDepth 20000 in
theorem gL_law_X7_image : GoodIn wsL_law (wsV RL 93 RX7 yX7_image wsX7_image) := goodIn_app (goodIn_of _ (by decide +kernel)) ggL_law_X7_image
set_option maxRecDepth 20000 in
theorem ggL_law_X6_restore : GoodIn wsL_law wsX6_restore := goodIn_r _ [926, 893, 19, 910, 911, 912, 2, 913, 20, 21, 914, 915, 916, 18, 917, 42, 43, 500, 918, 931, 932, 933, 934, 935, 936, 937, 970, 971, 972, 973] (by decide +kernel) (by decide +kernel)
set_option maxRecDepth 20000 in
theorem gL_law_X6_restore : GoodIn wsL_law (wsV RL 94 RX6 yX6_restore wsX6_restore) := goodIn_app (goodIn_of _ (by decide +kernel)) ggL_law_X6_restore
set_option maxRecDepth 20000 in
theorem ggL_law_X7_restore : GoodIn wsL_law wsX7_restore := goodIn_r _ [930, 60, 57, 58, 85, 86, 5, 87, 938, 939, 940, 941, 942, 943, 944, 945, 946, 947, 948, 949, 950, 951, 952, 953, 954, 955, 956, 957, 958, 959, 960, 961] (by decide +kernel) (by decide +kernel)
set_option maxRecDepth 20000 in
theorem gL_law_X7_restore : GoodIn wsL_law (wsV RL 97 RX7 yX7_restore wsX7_restore) := goodIn_app (goodIn_of _ (by decide +kernel)) ggL_law_X7_restore
