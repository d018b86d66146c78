set_option maxRecDepth 20000 in
theorem gL_law_X7_gap : GoodIn wsL_law (wsV RL 85 RX7 yX7_gap wsX7_gap) := goodIn_app (goodIn_of _ (by decide +kernel)) ggL_law_X7_gap
set_option maxRecDepth 20000 in
theorem ggL_law_X6_count : GoodIn wsL_law wsX6_count := goodIn_r _ [885, 19, 171, 15, 74, 30, 886, 887, 888, 889, 18, 890, 493, 649, 650, 651, 652, 653, 654, 621, 622, 623, 42, 577, 570, 571, 572, 179, 2, 180, 655, 636, 397, 637, 638, 639, 640, 924, 925, 926, 927, 928, 929, 930, 963, 964, 965, 966, 955, 956, 957, 958, 959, 960, 961, 962, 980, 981, 982, 983, 984] (by decide +kernel) (by decide +kernel)
set_option maxRecDepth 20000 in
theorem gL_law_X6_count : GoodIn wsL_law (wsV RL 86 RX6 yX6_count wsX6_count) := goodIn_app (goodIn_of _ (by decide +kernel)) ggL_law_X6_count
set_option maxRecDepth 20000 in
theorem ggL_law_X7_count : GoodIn wsL_law wsX7_count := goodIn_r _ [894, 57, 84, 60, 895, 896, 897, 5, 898, 68, 660, 661, 662, 663, 139, 64, 65, 672, 673, 674, 675, 527, 528, 529, 530, 519, 520, 521, 522, 531, 532, 533, 534, 535, 536, 537, 538, 539, 85, 86, 87, 544, 545, 546, 547, 931, 932, 933, 934, 935, 936, 937, 938, 939, 940, 941, 942, 943, 944, 945, 946, 947, 948, 949, 950, 951, 952, 953, 954] (by decide +kernel) (by decide +kernel)
set_option maxRecDepth 20000 in
theorem gL_law_X7_count : GoodIn wsL_law (wsV RL 89 RX7 yX7_count wsX7_count) := goodIn_app (goodIn_of _ (by decide +kernel)) ggL_law_X7_count
set_option maxRecDepth 20000 in
theorem ggL_law_X6_image : GoodIn wsL_law wsX6_image := goodIn_r _ [902, 19, 886, 903, 904, 905, 2, 906, 20, 21, 907, 908, 909, 18, 910, 42, 43, 493, 911, 924, 925, 926, 927, 928, 929, 930, 963, 964, 965, 966] (by decide +kernel) (by decide +kernel)
set_option maxRecDepth 20000 in
theorem gL_law_X6_image : GoodIn wsL_law (wsV RL 90 RX6 yX6_image wsX6_image) := goodIn_app (goodIn_of _ (by decide +kernel)) ggL_law_X6_image
set_option maxRecDepth 20000 in
theorem ggL_law_X7_image : GoodIn wsL_law wsX7_image := goodIn_r _ [915, 58, 57, 60, 85, 86, 5, 87, 931, 932, 933, 934, 935, 936, 937, 938, 939, 940, 941, 942, 943, 944, 945, 946, 947, 948, 949, 950, 951, 952, 953, 954] (by decide +kernel) (by decide +kernel)
set_option maxRecDepth 20000 in
theorem gL_law_X7_image : GoodIn wsL_law (wsV RL 93 RX7 yX7_image wsX7_image) := goodIn_app (goodIn_of _ (by decide +kernel)) ggL_law_X7_image
set_option maxRecDepth 20000 in
theorem ggL_law_X6_restore : GoodIn wsL_law wsX6_restore := goodIn_r _ [919, 886, 19, 903, 904, 905, 2, 906, 20, 21, 907, 908, 909, 18, 910, 42, 43, 493, 911, 924, 925, 926, 927, 928, 929, 930, 963, 964, 965, 966] (by decide +kernel) (by decide +kernel)
set_option maxRecDepth 20000 in
theorem gL_law_X6_restore : GoodIn wsL_law (wsV RL 94 RX6 yX6_restore wsX6_restore) := goodIn_app (goodIn_of _ (by decide +kernel)) ggL_law_X6_restore
set_option maxRecDepth 20000 in
theorem ggL_law_X7_restore : GoodIn wsL_law wsX7_restore := goodIn_r _ [923, 60, 57, 58, 85, 86, 5, 87, 931, 932, 933, 934, 935, 936, 937, 938, 939, 940, 941, 942, 943, 944, 945, 946, 947, 948, 949, 950, 951, 952, 953, 954] (by decide +kernel) (by decide +kernel)
set_option maxRecDepth 20000 in
theorem gL_law_X7_restore : GoodIn wsL_law (wsV RL 97 RX7 yX7_restore wsX7_restore) := goodIn_app (goodIn_of _ (by decide +kernel)) ggL_law_X7_restore
