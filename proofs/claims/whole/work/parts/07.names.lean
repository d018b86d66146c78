theorem dX7_layOwners_62 : decode cX7_layOwners 62 = .ok (.ifCond .le 33, 3) := by decide +kernel
theorem dX7_layOwners_65 : decode cX7_layOwners 65 = .ok (.aload_n 0, 1) := by decide +kernel
theorem dX7_layOwners_66 : decode cX7_layOwners 66 = .ok (.getfield 35, 3) := by decide +kernel
theorem dX7_layOwners_69 : decode cX7_layOwners 69 = .ok (.iload_n 2, 1) := by decide +kernel
theorem dX7_layOwners_70 : decode cX7_layOwners 70 = .ok (.iaload, 1) := by decide +kernel
theorem dX7_layOwners_71 : decode cX7_layOwners 71 = .ok (.ifCond .lt 17, 3) := by decide +kernel
theorem dX7_layOwners_74 : decode cX7_layOwners 74 = .ok (.aload_n 0, 1) := by decide +kernel
theorem dX7_layOwners_75 : decode cX7_layOwners 75 = .ok (.iload_n 1, 1) := by decide +kernel
theorem dX7_layOwners_76 : decode cX7_layOwners 76 = .ok (.aload_n 0, 1) := by decide +kernel
theorem dX7_layOwners_77 : decode cX7_layOwners 77 = .ok (.getfield 35, 3) := by decide +kernel
theorem dX7_layOwners_80 : decode cX7_layOwners 80 = .ok (.iload_n 2, 1) := by decide +kernel
theorem dX7_layOwners_81 : decode cX7_layOwners 81 = .ok (.iaload, 1) := by decide +kernel
theorem dX7_layOwners_82 : decode cX7_layOwners 82 = .ok (.invokevirtual 142, 3) := by decide +kernel
theorem dX7_layOwners_85 : decode cX7_layOwners 85 = .ok (.ifCond .eq 10, 3) := by decide +kernel
theorem dX7_layOwners_88 : decode cX7_layOwners 88 = .ok (.aload_n 0, 1) := by decide +kernel
theorem dX7_layOwners_89 : decode cX7_layOwners 89 = .ok (.getfield 35, 3) := by decide +kernel
theorem dX7_layOwners_92 : decode cX7_layOwners 92 = .ok (.iload_n 2, 1) := by decide +kernel
theorem dX7_layOwners_93 : decode cX7_layOwners 93 = .ok (.iload_n 1, 1) := by decide +kernel
theorem dX7_layOwners_94 : decode cX7_layOwners 94 = .ok (.iastore, 1) := by decide +kernel
theorem dX7_layOwners_95 : decode cX7_layOwners 95 = .ok (.iinc 2 1, 3) := by decide +kernel
theorem dX7_layOwners_98 : decode cX7_layOwners 98 = .ok (.goto (-55), 3) := by decide +kernel
theorem dX7_layOwners_101 : decode cX7_layOwners 101 = .ok (.iinc 1 1, 3) := by decide +kernel
theorem dX7_layOwners_104 : decode cX7_layOwners 104 = .ok (.goto (-79), 3) := by decide +kernel
theorem dX7_layOwners_107 : decode cX7_layOwners 107 = .ok (.return_, 1) := by decide +kernel
set_option maxRecDepth 20000 in
theorem ggX7_lostBy_X7_layOwners : GoodIn wsX7_lostBy wsX7_layOwners := goodIn_r _ [6, 1, 7, 8, 9, 10, 5, 11, 12, 13, 14, 15, 16, 17, 18, 19, 20, 21, 22, 23, 24, 25, 26, 27, 28, 29, 30, 31, 32, 33, 34, 35, 36, 37, 38, 39, 40, 41, 42, 43, 44, 45, 46, 47, 48, 49, 50, 51, 52, 53, 54, 55, 56, 57, 58, 59, 60, 61, 62, 63, 64, 65, 66, 67, 68, 69, 70] (by decide +kernel) (by decide +kernel)
set_option maxRecDepth 20000 in
theorem gX7_lostBy_X7_layOwners : GoodIn wsX7_lostBy (wsV RX7 153 RX7 yX7_layOwners wsX7_layOwners) := goodIn_app (goodIn_of _ (by decide +kernel)) ggX7_lostBy_X7_layOwners
set_option maxRecDepth 20000 in
theorem ggX7_lostBy_X7_look : GoodIn wsX7_lostBy wsX7_look := goodIn_r _ [11, 7, 12, 13, 14, 47, 48, 49, 50, 51, 52, 53, 54, 55, 56, 57, 58, 59, 60, 61, 62, 63, 64, 65, 66, 67, 68, 69, 70] (by decide +kernel) (by decide +kernel)
set_option maxRecDepth 20000 in
theorem gX7_lostBy_X7_look : GoodIn wsX7_lostBy (wsV RX7 149 RX7 yX7_look wsX7_look) := goodIn_app (goodIn_of _ (by decide +kernel)) ggX7_lostBy_X7_look
set_option maxRecDepth 20000 in
theorem ggX7_lostBy_X7_liesNow : GoodIn wsX7_lostBy wsX7_liesNow := goodIn_r _ [18, 12, 14, 19, 20, 21, 5, 22, 13, 23, 24, 25, 26, 27, 28, 29, 30, 31, 32, 33, 34, 35, 36, 37, 38, 39, 40, 41, 42, 47, 48, 49, 50, 51, 52, 53, 54, 55, 56, 57, 58, 59, 60, 61, 62, 63, 64, 65, 66, 67, 68, 69, 70] (by decide +kernel) (by decide +kernel)
set_option maxRecDepth 20000 in
theorem gX7_lostBy_X7_liesNow : GoodIn wsX7_lostBy (wsV RX7 145 RX7 yX7_liesNow wsX7_liesNow) := goodIn_app (goodIn_of _ (by decide +kernel)) ggX7_lostBy_X7_liesNow
theorem dX7_lostBy_0 : decode cX7_lostBy 0 = .ok (.aload_n 0, 1) := by decide +kernel
theorem dX7_lostBy_1 : decode cX7_lostBy 1 = .ok (.invokevirtual 153, 3) := by decide +kernel
theorem dX7_lostBy_4 : decode cX7_lostBy 4 = .ok (.aload_n 0, 1) := by decide +kernel
theorem dX7_lostBy_5 : decode cX7_lostBy 5 = .ok (.iload_n 1, 1) := by decide +kernel
theorem dX7_lostBy_6 : decode cX7_lostBy 6 = .ok (.invokevirtual 149, 3) := by decide +kernel
theorem dX7_lostBy_9 : decode cX7_lostBy 9 = .ok (.iconst 0, 1) := by decide +kernel
theorem dX7_lostBy_10 : decode cX7_lostBy 10 = .ok (.istore_n 2, 1) := by decide +kernel
theorem dX7_lostBy_11 : decode cX7_lostBy 11 = .ok (.iconst 0, 1) := by decide +kernel
theorem dX7_lostBy_12 : decode cX7_lostBy 12 = .ok (.istore_n 3, 1) := by decide +kernel
theorem dX7_lostBy_13 : decode cX7_lostBy 13 = .ok (.iload_n 3, 1) := by decide +kernel
theorem dX7_lostBy_14 : decode cX7_lostBy 14 = .ok (.sipush 1024, 3) := by decide +kernel
theorem dX7_lostBy_17 : decode cX7_lostBy 17 = .ok (.if_icmp .ge 42, 3) := by decide +kernel
theorem dX7_lostBy_20 : decode cX7_lostBy 20 = .ok (.iload_n 2, 1) := by decide +kernel
theorem dX7_lostBy_21 : decode cX7_lostBy 21 = .ok (.aload_n 0, 1) := by decide +kernel
theorem dX7_lostBy_22 : decode cX7_lostBy 22 = .ok (.iload_n 3, 1) := by decide +kernel
theorem dX7_lostBy_23 : decode cX7_lostBy 23 = .ok (.bipush 32, 2) := by decide +kernel
theorem dX7_lostBy_25 : decode cX7_lostBy 25 = .ok (.irem, 1) := by decide +kernel
theorem dX7_lostBy_26 : decode cX7_lostBy 26 = .ok (.iload_n 3, 1) := by decide +kernel
theorem dX7_lostBy_27 : decode cX7_lostBy 27 = .ok (.bipush 32, 2) := by decide +kernel
theorem dX7_lostBy_29 : decode cX7_lostBy 29 = .ok (.idiv, 1) := by decide +kernel
theorem dX7_lostBy_30 : decode cX7_lostBy 30 = .ok (.invokevirtual 145, 3) := by decide +kernel
theorem dX7_lostBy_33 : decode cX7_lostBy 33 = .ok (.ifCond .le 17, 3) := by decide +kernel
theorem dX7_lostBy_36 : decode cX7_lostBy 36 = .ok (.aload_n 0, 1) := by decide +kernel
theorem dX7_lostBy_37 : decode cX7_lostBy 37 = .ok (.getfield 35, 3) := by decide +kernel
theorem dX7_lostBy_40 : decode cX7_lostBy 40 = .ok (.iload_n 3, 1) := by decide +kernel
theorem dX7_lostBy_41 : decode cX7_lostBy 41 = .ok (.iaload, 1) := by decide +kernel
theorem dX7_lostBy_42 : decode cX7_lostBy 42 = .ok (.iload_n 1, 1) := by decide +kernel
theorem dX7_lostBy_43 : decode cX7_lostBy 43 = .ok (.if_icmp .eq 7, 3) := by decide +kernel
theorem dX7_lostBy_46 : decode cX7_lostBy 46 = .ok (.iconst 1, 1) := by decide +kernel
theorem dX7_lostBy_47 : decode cX7_lostBy 47 = .ok (.goto 4, 3) := by decide +kernel
theorem dX7_lostBy_50 : decode cX7_lostBy 50 = .ok (.iconst 0, 1) := by decide +kernel
theorem dX7_lostBy_51 : decode cX7_lostBy 51 = .ok (.iadd, 1) := by decide +kernel
theorem dX7_lostBy_52 : decode cX7_lostBy 52 = .ok (.istore_n 2, 1) := by decide +kernel
theorem dX7_lostBy_53 : decode cX7_lostBy 53 = .ok (.iinc 3 1, 3) := by decide +kernel
theorem dX7_lostBy_56 : decode cX7_lostBy 56 = .ok (.goto (-43), 3) := by decide +kernel
theorem dX7_lostBy_59 : decode cX7_lostBy 59 = .ok (.iload_n 2, 1) := by decide +kernel
theorem dX7_lostBy_60 : decode cX7_lostBy 60 = .ok (.ireturn, 1) := by decide +kernel
set_option maxRecDepth 20000 in
theorem ggX7_about_X7_isPlot : GoodIn wsX7_about wsX7_isPlot := goodIn_r _ [7, 1, 8, 9, 6, 10, 66, 67, 68, 69, 70, 71, 72, 73, 74, 75, 76, 77, 78, 79, 80, 81, 82, 83, 84, 85, 86, 87, 88, 89] (by decide +kernel) (by decide +kernel)
set_option maxRecDepth 20000 in
theorem gX7_about_X7_isPlot : GoodIn wsX7_about (wsV RX7 139 RX7 yX7_isPlot wsX7_isPlot) := goodIn_app (goodIn_of _ (by decide +kernel)) ggX7_about_X7_isPlot
set_option maxRecDepth 20000 in
theorem ggX7_about_X7_look : GoodIn wsX7_about wsX7_look := goodIn_r _ [14, 1, 2, 15, 16, 66, 67, 68, 69, 70, 71, 72, 73, 74, 75, 76, 77, 78, 79, 80, 81, 82, 83, 84, 85, 86, 87, 88, 89] (by decide +kernel) (by decide +kernel)
set_option maxRecDepth 20000 in
theorem gX7_about_X7_look : GoodIn wsX7_about (wsV RX7 149 RX7 yX7_look wsX7_look) := goodIn_app (goodIn_of _ (by decide +kernel)) ggX7_about_X7_look
set_option maxRecDepth 20000 in
theorem ggX7_about_X7_twice : GoodIn wsX7_about wsX7_twice := goodIn_r _ [20, 2, 15, 16, 21, 22, 23, 6, 24, 66, 67, 68, 69, 70, 71, 72, 73, 74, 75, 76, 77, 78, 79, 80, 81, 82, 83, 84, 85, 86, 87, 88, 89] (by decide +kernel) (by decide +kernel)
set_option maxRecDepth 20000 in
theorem gX7_about_X7_twice : GoodIn wsX7_about (wsV RX7 156 RX7 yX7_twice wsX7_twice) := goodIn_app (goodIn_of _ (by decide +kernel)) ggX7_about_X7_twice
set_option maxRecDepth 20000 in
theorem ggX7_about_X7_size : GoodIn wsX7_about wsX7_size := goodIn_r _ [27] (by decide +kernel) (by decide +kernel)
set_option maxRecDepth 20000 in
theorem gX7_about_X7_size : GoodIn wsX7_about (va_wsS RX7 84 yX7_size wsX7_size) := goodIn_app (goodIn_of _ (by decide +kernel)) ggX7_about_X7_size
set_option maxRecDepth 20000 in
theorem ggX7_about_X7_postsOf : GoodIn wsX7_about wsX7_postsOf := goodIn_r _ [31, 32, 33, 34, 6, 35, 2, 16, 36, 37, 38, 39, 15, 21, 22, 23, 24, 40, 41, 42, 43, 44, 45, 46, 47, 48, 8, 9, 10, 49, 50, 51, 52, 66, 67, 68, 69, 70, 71, 72, 73, 74, 75, 76, 77, 78, 79, 80, 81, 82, 83, 84, 85, 86, 87, 88, 89] (by decide +kernel) (by decide +kernel)
set_option maxRecDepth 20000 in
theorem gX7_about_X7_postsOf : GoodIn wsX7_about (wsV RX7 159 RX7 yX7_postsOf wsX7_postsOf) := goodIn_app (goodIn_of _ (by decide +kernel)) ggX7_about_X7_postsOf
set_option maxRecDepth 20000 in
theorem ggX7_about_X7_lostBy : GoodIn wsX7_about wsX7_lostBy := goodIn_r _ [56, 57, 58, 59, 60, 6, 61, 1, 11, 12, 13, 14, 2, 15, 16, 32, 33, 34, 35, 36, 37, 38, 39, 21, 22, 23, 24, 40, 41, 42, 43, 44, 45, 46, 47, 48, 8, 9, 10, 49, 50, 51, 52, 62, 63, 64, 65, 66, 67, 68, 69, 70, 71, 72, 73, 74, 75, 76, 77, 78, 79, 80, 81, 82, 83, 84, 85, 86, 87, 88, 89] (by decide +kernel) (by decide +kernel)
set_option maxRecDepth 20000 in
theorem gX7_about_X7_lostBy : GoodIn wsX7_about (wsV RX7 162 RX7 yX7_lostBy wsX7_lostBy) := goodIn_app (goodIn_of _ (by decide +kernel)) ggX7_about_X7_lostBy
theorem dX7_about_0 : decode cX7_about 0 = .ok (.aload_n 0, 1) := by decide +kernel
theorem dX7_about_1 : decode cX7_about 1 = .ok (.iload_n 1, 1) := by decide +kernel
theorem dX7_about_2 : decode cX7_about 2 = .ok (.invokevirtual 139, 3) := by decide +kernel
theorem dX7_about_5 : decode cX7_about 5 = .ok (.ifCond .ne 5, 3) := by decide +kernel
theorem dX7_about_8 : decode cX7_about 8 = .ok (.iconst (-1), 1) := by decide +kernel
theorem dX7_about_9 : decode cX7_about 9 = .ok (.ireturn, 1) := by decide +kernel
theorem dX7_about_10 : decode cX7_about 10 = .ok (.aload_n 0, 1) := by decide +kernel
theorem dX7_about_11 : decode cX7_about 11 = .ok (.iload_n 1, 1) := by decide +kernel
theorem dX7_about_12 : decode cX7_about 12 = .ok (.invokevirtual 149, 3) := by decide +kernel
theorem dX7_about_15 : decode cX7_about 15 = .ok (.iload_n 2, 1) := by decide +kernel
theorem dX7_about_16 : decode cX7_about 16 = .ok (.tableswitch 97 0 6 #[44, 53, 58, 66, 79, 85, 91], 44) := by decide +kernel
theorem dX7_about_60 : decode cX7_about 60 = .ok (.aload_n 0, 1) := by decide +kernel
theorem dX7_about_61 : decode cX7_about 61 = .ok (.getfield 7, 3) := by decide +kernel
theorem dX7_about_64 : decode cX7_about 64 = .ok (.iconst 0, 1) := by decide +kernel
theorem dX7_about_65 : decode cX7_about 65 = .ok (.iload_n 1, 1) := by decide +kernel
theorem dX7_about_66 : decode cX7_about 66 = .ok (.iadd, 1) := by decide +kernel
theorem dX7_about_67 : decode cX7_about 67 = .ok (.iaload, 1) := by decide +kernel
theorem dX7_about_68 : decode cX7_about 68 = .ok (.ireturn, 1) := by decide +kernel
theorem dX7_about_69 : decode cX7_about 69 = .ok (.aload_n 0, 1) := by decide +kernel
theorem dX7_about_70 : decode cX7_about 70 = .ok (.getfield 58, 3) := by decide +kernel
theorem dX7_about_73 : decode cX7_about 73 = .ok (.ireturn, 1) := by decide +kernel
theorem dX7_about_74 : decode cX7_about 74 = .ok (.aload_n 0, 1) := by decide +kernel
theorem dX7_about_75 : decode cX7_about 75 = .ok (.invokevirtual 156, 3) := by decide +kernel
theorem dX7_about_78 : decode cX7_about 78 = .ok (.invokestatic 84, 3) := by decide +kernel
theorem dX7_about_81 : decode cX7_about 81 = .ok (.ireturn, 1) := by decide +kernel
theorem dX7_about_82 : decode cX7_about 82 = .ok (.aload_n 0, 1) := by decide +kernel
theorem dX7_about_83 : decode cX7_about 83 = .ok (.invokevirtual 156, 3) := by decide +kernel
theorem dX7_about_86 : decode cX7_about 86 = .ok (.ifCond .le 7, 3) := by decide +kernel
theorem dX7_about_89 : decode cX7_about 89 = .ok (.iconst 1, 1) := by decide +kernel
theorem dX7_about_90 : decode cX7_about 90 = .ok (.goto 4, 3) := by decide +kernel
theorem dX7_about_93 : decode cX7_about 93 = .ok (.iconst 0, 1) := by decide +kernel
theorem dX7_about_94 : decode cX7_about 94 = .ok (.ireturn, 1) := by decide +kernel
theorem dX7_about_95 : decode cX7_about 95 = .ok (.aload_n 0, 1) := by decide +kernel
theorem dX7_about_96 : decode cX7_about 96 = .ok (.iconst 2, 1) := by decide +kernel
theorem dX7_about_97 : decode cX7_about 97 = .ok (.invokevirtual 159, 3) := by decide +kernel
theorem dX7_about_100 : decode cX7_about 100 = .ok (.ireturn, 1) := by decide +kernel
theorem dX7_about_101 : decode cX7_about 101 = .ok (.aload_n 0, 1) := by decide +kernel
theorem dX7_about_102 : decode cX7_about 102 = .ok (.iconst 1, 1) := by decide +kernel
theorem dX7_about_103 : decode cX7_about 103 = .ok (.invokevirtual 159, 3) := by decide +kernel
theorem dX7_about_106 : decode cX7_about 106 = .ok (.ireturn, 1) := by decide +kernel
theorem dX7_about_107 : decode cX7_about 107 = .ok (.aload_n 0, 1) := by decide +kernel
theorem dX7_about_108 : decode cX7_about 108 = .ok (.iload_n 1, 1) := by decide +kernel
theorem dX7_about_109 : decode cX7_about 109 = .ok (.invokevirtual 162, 3) := by decide +kernel
theorem dX7_about_112 : decode cX7_about 112 = .ok (.ireturn, 1) := by decide +kernel
theorem dX7_about_113 : decode cX7_about 113 = .ok (.bipush (-2), 2) := by decide +kernel
theorem dX7_about_115 : decode cX7_about 115 = .ok (.ireturn, 1) := by decide +kernel
set_option maxRecDepth 20000 in
theorem ggX7_corner_X7_isPlot : GoodIn wsX7_corner wsX7_isPlot := goodIn_r _ [8, 9, 10, 11, 7, 12, 17, 18, 19, 20, 21, 22, 23, 24, 25, 26, 27, 28, 29, 30, 31, 32, 33, 34, 35, 36, 37, 38, 39, 40] (by decide +kernel) (by decide +kernel)
set_option maxRecDepth 20000 in
theorem gX7_corner_X7_isPlot : GoodIn wsX7_corner (wsV RX7 139 RX7 yX7_isPlot wsX7_isPlot) := goodIn_app (goodIn_of _ (by decide +kernel)) ggX7_corner_X7_isPlot
set_option maxRecDepth 20000 in
theorem ggX7_corner_X7_in : GoodIn wsX7_corner wsX7_in := goodIn_r _ [12] (by decide +kernel) (by decide +kernel)
set_option maxRecDepth 20000 in
theorem gX7_corner_X7_in : GoodIn wsX7_corner (va_wsS RX7 47 yX7_in wsX7_in) := goodIn_app (goodIn_of _ (by decide +kernel)) ggX7_corner_X7_in
set_option maxRecDepth 20000 in
theorem ggX7_corner_X7_look : GoodIn wsX7_corner wsX7_look := goodIn_r _ [16, 9, 1, 2, 3, 17, 18, 19, 20, 21, 22, 23, 24, 25, 26, 27, 28, 29, 30, 31, 32, 33, 34, 35, 36, 37, 38, 39, 40] (by decide +kernel) (by decide +kernel)
set_option maxRecDepth 20000 in
theorem gX7_corner_X7_look : GoodIn wsX7_corner (wsV RX7 149 RX7 yX7_look wsX7_look) := goodIn_app (goodIn_of _ (by decide +kernel)) ggX7_corner_X7_look
theorem dX7_corner_0 : decode cX7_corner 0 = .ok (.aload_n 0, 1) := by decide +kernel
theorem dX7_corner_1 : decode cX7_corner 1 = .ok (.iload_n 1, 1) := by decide +kernel
theorem dX7_corner_2 : decode cX7_corner 2 = .ok (.invokevirtual 139, 3) := by decide +kernel
theorem dX7_corner_5 : decode cX7_corner 5 = .ok (.ifCond .ne 5, 3) := by decide +kernel
theorem dX7_corner_8 : decode cX7_corner 8 = .ok (.iconst (-1), 1) := by decide +kernel
theorem dX7_corner_9 : decode cX7_corner 9 = .ok (.ireturn, 1) := by decide +kernel
theorem dX7_corner_10 : decode cX7_corner 10 = .ok (.iload_n 3, 1) := by decide +kernel
theorem dX7_corner_11 : decode cX7_corner 11 = .ok (.iconst 0, 1) := by decide +kernel
theorem dX7_corner_12 : decode cX7_corner 12 = .ok (.iconst 1, 1) := by decide +kernel
theorem dX7_corner_13 : decode cX7_corner 13 = .ok (.invokestatic 47, 3) := by decide +kernel
theorem dX7_corner_16 : decode cX7_corner 16 = .ok (.ifCond .ne 6, 3) := by decide +kernel
theorem dX7_corner_19 : decode cX7_corner 19 = .ok (.bipush (-2), 2) := by decide +kernel
theorem dX7_corner_21 : decode cX7_corner 21 = .ok (.ireturn, 1) := by decide +kernel
theorem dX7_corner_22 : decode cX7_corner 22 = .ok (.aload_n 0, 1) := by decide +kernel
theorem dX7_corner_23 : decode cX7_corner 23 = .ok (.iload_n 1, 1) := by decide +kernel
theorem dX7_corner_24 : decode cX7_corner 24 = .ok (.invokevirtual 149, 3) := by decide +kernel
theorem dX7_corner_27 : decode cX7_corner 27 = .ok (.iload_n 2, 1) := by decide +kernel
theorem dX7_corner_28 : decode cX7_corner 28 = .ok (.iconst 0, 1) := by decide +kernel
theorem dX7_corner_29 : decode cX7_corner 29 = .ok (.aload_n 0, 1) := by decide +kernel
theorem dX7_corner_30 : decode cX7_corner 30 = .ok (.getfield 58, 3) := by decide +kernel
theorem dX7_corner_33 : decode cX7_corner 33 = .ok (.iconst 1, 1) := by decide +kernel
theorem dX7_corner_34 : decode cX7_corner 34 = .ok (.isub, 1) := by decide +kernel
theorem dX7_corner_35 : decode cX7_corner 35 = .ok (.invokestatic 47, 3) := by decide +kernel
theorem dX7_corner_38 : decode cX7_corner 38 = .ok (.ifCond .ne 8, 3) := by decide +kernel
theorem dX7_corner_41 : decode cX7_corner 41 = .ok (.bipush (-6), 2) := by decide +kernel
theorem dX7_corner_43 : decode cX7_corner 43 = .ok (.goto 22, 3) := by decide +kernel
theorem dX7_corner_46 : decode cX7_corner 46 = .ok (.iload_n 3, 1) := by decide +kernel
theorem dX7_corner_47 : decode cX7_corner 47 = .ok (.ifCond .ne 12, 3) := by decide +kernel
theorem dX7_corner_50 : decode cX7_corner 50 = .ok (.aload_n 0, 1) := by decide +kernel
theorem dX7_corner_51 : decode cX7_corner 51 = .ok (.getfield 29, 3) := by decide +kernel
theorem dX7_corner_54 : decode cX7_corner 54 = .ok (.iload_n 2, 1) := by decide +kernel
theorem dX7_corner_55 : decode cX7_corner 55 = .ok (.iaload, 1) := by decide +kernel
theorem dX7_corner_56 : decode cX7_corner 56 = .ok (.goto 9, 3) := by decide +kernel
theorem dX7_corner_59 : decode cX7_corner 59 = .ok (.aload_n 0, 1) := by decide +kernel
theorem dX7_corner_60 : decode cX7_corner 60 = .ok (.getfield 32, 3) := by decide +kernel
theorem dX7_corner_63 : decode cX7_corner 63 = .ok (.iload_n 2, 1) := by decide +kernel
theorem dX7_corner_64 : decode cX7_corner 64 = .ok (.iaload, 1) := by decide +kernel
theorem dX7_corner_65 : decode cX7_corner 65 = .ok (.ireturn, 1) := by decide +kernel
set_option maxRecDepth 20000 in
theorem ggX7_lies_X7_isPlot : GoodIn wsX7_lies wsX7_isPlot := goodIn_r _ [5, 6, 7, 8, 4, 9, 45, 46, 47, 48, 49, 50, 51, 52, 53, 54, 55, 56, 57, 58, 59, 60, 61, 62, 63, 64, 65, 66, 67, 68] (by decide +kernel) (by decide +kernel)
set_option maxRecDepth 20000 in
theorem gX7_lies_X7_isPlot : GoodIn wsX7_lies (wsV RX7 139 RX7 yX7_isPlot wsX7_isPlot) := goodIn_app (goodIn_of _ (by decide +kernel)) ggX7_lies_X7_isPlot
set_option maxRecDepth 20000 in
theorem ggX7_lies_X7_isPost : GoodIn wsX7_lies wsX7_isPost := goodIn_r _ [12, 7, 8, 4, 9] (by decide +kernel) (by decide +kernel)
set_option maxRecDepth 20000 in
theorem gX7_lies_X7_isPost : GoodIn wsX7_lies (va_wsS RX7 121 yX7_isPost wsX7_isPost) := goodIn_app (goodIn_of _ (by decide +kernel)) ggX7_lies_X7_isPost
set_option maxRecDepth 20000 in
theorem ggX7_lies_X7_look : GoodIn wsX7_lies wsX7_look := goodIn_r _ [16, 6, 17, 18, 19, 45, 46, 47, 48, 49, 50, 51, 52, 53, 54, 55, 56, 57, 58, 59, 60, 61, 62, 63, 64, 65, 66, 67, 68] (by decide +kernel) (by decide +kernel)
set_option maxRecDepth 20000 in
theorem gX7_lies_X7_look : GoodIn wsX7_lies (wsV RX7 149 RX7 yX7_look wsX7_look) := goodIn_app (goodIn_of _ (by decide +kernel)) ggX7_lies_X7_look
set_option maxRecDepth 20000 in
theorem ggX7_lies_X7_liesNow : GoodIn wsX7_lies wsX7_liesNow := goodIn_r _ [23, 17, 19, 24, 25, 26, 4, 27, 18, 28, 29, 30, 31, 32, 33, 34, 35, 36, 37, 38, 39, 40, 7, 8, 9, 41, 42, 43, 44, 45, 46, 47, 48, 49, 50, 51, 52, 53, 54, 55, 56, 57, 58, 59, 60, 61, 62, 63, 64, 65, 66, 67, 68] (by decide +kernel) (by decide +kernel)
set_option maxRecDepth 20000 in
theorem gX7_lies_X7_liesNow : GoodIn wsX7_lies (wsV RX7 145 RX7 yX7_liesNow wsX7_liesNow) := goodIn_app (goodIn_of _ (by decide +kernel)) ggX7_lies_X7_liesNow
theorem dX7_lies_0 : decode cX7_lies 0 = .ok (.aload_n 0, 1) := by decide +kernel
theorem dX7_lies_1 : decode cX7_lies 1 = .ok (.iload_n 1, 1) := by decide +kernel
theorem dX7_lies_2 : decode cX7_lies 2 = .ok (.invokevirtual 139, 3) := by decide +kernel
theorem dX7_lies_5 : decode cX7_lies 5 = .ok (.ifCond .ne 5, 3) := by decide +kernel
theorem dX7_lies_8 : decode cX7_lies 8 = .ok (.iconst (-1), 1) := by decide +kernel
theorem dX7_lies_9 : decode cX7_lies 9 = .ok (.ireturn, 1) := by decide +kernel
theorem dX7_lies_10 : decode cX7_lies 10 = .ok (.iload_n 2, 1) := by decide +kernel
theorem dX7_lies_11 : decode cX7_lies 11 = .ok (.iload_n 3, 1) := by decide +kernel
theorem dX7_lies_12 : decode cX7_lies 12 = .ok (.invokestatic 121, 3) := by decide +kernel
theorem dX7_lies_15 : decode cX7_lies 15 = .ok (.ifCond .ne 6, 3) := by decide +kernel
theorem dX7_lies_18 : decode cX7_lies 18 = .ok (.bipush (-2), 2) := by decide +kernel
theorem dX7_lies_20 : decode cX7_lies 20 = .ok (.ireturn, 1) := by decide +kernel
theorem dX7_lies_21 : decode cX7_lies 21 = .ok (.aload_n 0, 1) := by decide +kernel
theorem dX7_lies_22 : decode cX7_lies 22 = .ok (.iload_n 1, 1) := by decide +kernel
theorem dX7_lies_23 : decode cX7_lies 23 = .ok (.invokevirtual 149, 3) := by decide +kernel
theorem dX7_lies_26 : decode cX7_lies 26 = .ok (.aload_n 0, 1) := by decide +kernel
theorem dX7_lies_27 : decode cX7_lies 27 = .ok (.iload_n 2, 1) := by decide +kernel
theorem dX7_lies_28 : decode cX7_lies 28 = .ok (.iload_n 3, 1) := by decide +kernel
theorem dX7_lies_29 : decode cX7_lies 29 = .ok (.invokevirtual 145, 3) := by decide +kernel
theorem dX7_lies_32 : decode cX7_lies 32 = .ok (.ireturn, 1) := by decide +kernel
theorem dX7_write_0 : decode cX7_write 0 = .ok (.aload_n 0, 1) := by decide +kernel
theorem dX7_write_1 : decode cX7_write 1 = .ok (.getfield 38, 3) := by decide +kernel
theorem dX7_write_4 : decode cX7_write 4 = .ok (.aload_n 0, 1) := by decide +kernel
theorem dX7_write_5 : decode cX7_write 5 = .ok (.getfield 165, 3) := by decide +kernel
theorem dX7_write_8 : decode cX7_write 8 = .ok (.iload_n 1, 1) := by decide +kernel
theorem dX7_write_9 : decode cX7_write 9 = .ok (.iastore, 1) := by decide +kernel
theorem dX7_write_10 : decode cX7_write 10 = .ok (.aload_n 0, 1) := by decide +kernel
theorem dX7_write_11 : decode cX7_write 11 = .ok (.dup, 1) := by decide +kernel
theorem dX7_write_12 : decode cX7_write 12 = .ok (.getfield 165, 3) := by decide +kernel
theorem dX7_write_15 : decode cX7_write 15 = .ok (.iconst 1, 1) := by decide +kernel
theorem dX7_write_16 : decode cX7_write 16 = .ok (.iadd, 1) := by decide +kernel
theorem dX7_write_17 : decode cX7_write 17 = .ok (.putfield 165, 3) := by decide +kernel
theorem dX7_write_20 : decode cX7_write 20 = .ok (.return_, 1) := by decide +kernel
set_option maxRecDepth 20000 in
theorem ggX7_writeSteps_X7_write : GoodIn wsX7_writeSteps wsX7_write := goodIn_r _ [5, 6, 7, 11, 12, 13, 14, 15, 16, 17, 18, 19, 20, 21, 22, 23, 24, 25, 26, 27, 28, 29, 30, 31, 32, 33, 34] (by decide +kernel) (by decide +kernel)
set_option maxRecDepth 20000 in
theorem gX7_writeSteps_X7_write : GoodIn wsX7_writeSteps (wsV RX7 168 RX7 yX7_write wsX7_write) := goodIn_app (goodIn_of _ (by decide +kernel)) ggX7_writeSteps_X7_write
set_option maxRecDepth 20000 in
theorem ggX7_writeSteps_X7_size : GoodIn wsX7_writeSteps wsX7_size := goodIn_r _ [10] (by decide +kernel) (by decide +kernel)
set_option maxRecDepth 20000 in
theorem gX7_writeSteps_X7_size : GoodIn wsX7_writeSteps (va_wsS RX7 84 yX7_size wsX7_size) := goodIn_app (goodIn_of _ (by decide +kernel)) ggX7_writeSteps_X7_size
theorem dX7_writeSteps_0 : decode cX7_writeSteps 0 = .ok (.iload_n 1, 1) := by decide +kernel
theorem dX7_writeSteps_1 : decode cX7_writeSteps 1 = .ok (.ifCond .ne 4, 3) := by decide +kernel
theorem dX7_writeSteps_4 : decode cX7_writeSteps 4 = .ok (.return_, 1) := by decide +kernel
theorem dX7_writeSteps_5 : decode cX7_writeSteps 5 = .ok (.aload_n 0, 1) := by decide +kernel
theorem dX7_writeSteps_6 : decode cX7_writeSteps 6 = .ok (.iload_n 1, 1) := by decide +kernel
theorem dX7_writeSteps_7 : decode cX7_writeSteps 7 = .ok (.ifCond .le 7, 3) := by decide +kernel
theorem dX7_writeSteps_10 : decode cX7_writeSteps 10 = .ok (.iload_n 2, 1) := by decide +kernel
theorem dX7_writeSteps_11 : decode cX7_writeSteps 11 = .ok (.goto 4, 3) := by decide +kernel
theorem dX7_writeSteps_14 : decode cX7_writeSteps 14 = .ok (.iload_n 3, 1) := by decide +kernel
theorem dX7_writeSteps_15 : decode cX7_writeSteps 15 = .ok (.invokevirtual 168, 3) := by decide +kernel
theorem dX7_writeSteps_18 : decode cX7_writeSteps 18 = .ok (.iload_n 1, 1) := by decide +kernel
theorem dX7_writeSteps_19 : decode cX7_writeSteps 19 = .ok (.invokestatic 84, 3) := by decide +kernel
theorem dX7_writeSteps_22 : decode cX7_writeSteps 22 = .ok (.bipush 9, 2) := by decide +kernel
theorem dX7_writeSteps_24 : decode cX7_writeSteps 24 = .ok (.if_icmp .le 17, 3) := by decide +kernel
theorem dX7_writeSteps_27 : decode cX7_writeSteps 27 = .ok (.aload_n 0, 1) := by decide +kernel
theorem dX7_writeSteps_28 : decode cX7_writeSteps 28 = .ok (.bipush 48, 2) := by decide +kernel
theorem dX7_writeSteps_30 : decode cX7_writeSteps 30 = .ok (.iload_n 1, 1) := by decide +kernel
theorem dX7_writeSteps_31 : decode cX7_writeSteps 31 = .ok (.invokestatic 84, 3) := by decide +kernel
theorem dX7_writeSteps_34 : decode cX7_writeSteps 34 = .ok (.bipush 10, 2) := by decide +kernel
theorem dX7_writeSteps_36 : decode cX7_writeSteps 36 = .ok (.idiv, 1) := by decide +kernel
theorem dX7_writeSteps_37 : decode cX7_writeSteps 37 = .ok (.iadd, 1) := by decide +kernel
theorem dX7_writeSteps_38 : decode cX7_writeSteps 38 = .ok (.invokevirtual 168, 3) := by decide +kernel
theorem dX7_writeSteps_41 : decode cX7_writeSteps 41 = .ok (.aload_n 0, 1) := by decide +kernel
theorem dX7_writeSteps_42 : decode cX7_writeSteps 42 = .ok (.bipush 48, 2) := by decide +kernel
theorem dX7_writeSteps_44 : decode cX7_writeSteps 44 = .ok (.iload_n 1, 1) := by decide +kernel
theorem dX7_writeSteps_45 : decode cX7_writeSteps 45 = .ok (.invokestatic 84, 3) := by decide +kernel
theorem dX7_writeSteps_48 : decode cX7_writeSteps 48 = .ok (.bipush 10, 2) := by decide +kernel
theorem dX7_writeSteps_50 : decode cX7_writeSteps 50 = .ok (.irem, 1) := by decide +kernel
theorem dX7_writeSteps_51 : decode cX7_writeSteps 51 = .ok (.iadd, 1) := by decide +kernel
theorem dX7_writeSteps_52 : decode cX7_writeSteps 52 = .ok (.invokevirtual 168, 3) := by decide +kernel
theorem dX7_writeSteps_55 : decode cX7_writeSteps 55 = .ok (.return_, 1) := by decide +kernel
set_option maxRecDepth 20000 in
theorem ggX7_sign_X7_isPlot : GoodIn wsX7_sign wsX7_isPlot := goodIn_r _ [10, 11, 12, 13, 9, 14, 34, 35, 36, 37, 38, 39, 40, 41, 42, 43, 44, 45, 46, 47, 48, 49, 50, 51, 52, 53, 54, 55, 56, 57] (by decide +kernel) (by decide +kernel)
set_option maxRecDepth 20000 in
theorem gX7_sign_X7_isPlot : GoodIn wsX7_sign (wsV RX7 139 RX7 yX7_isPlot wsX7_isPlot) := goodIn_app (goodIn_of _ (by decide +kernel)) ggX7_sign_X7_isPlot
set_option maxRecDepth 20000 in
theorem ggX7_sign_X7_look : GoodIn wsX7_sign wsX7_look := goodIn_r _ [18, 11, 2, 4, 3, 34, 35, 36, 37, 38, 39, 40, 41, 42, 43, 44, 45, 46, 47, 48, 49, 50, 51, 52, 53, 54, 55, 56, 57] (by decide +kernel) (by decide +kernel)
set_option maxRecDepth 20000 in
theorem gX7_sign_X7_look : GoodIn wsX7_sign (wsV RX7 149 RX7 yX7_look wsX7_look) := goodIn_app (goodIn_of _ (by decide +kernel)) ggX7_sign_X7_look
set_option maxRecDepth 20000 in
theorem ggX7_sign_X7_write : GoodIn wsX7_sign wsX7_write := goodIn_r _ [22, 5, 1, 34, 35, 36, 37, 38, 39, 40, 41, 42, 43, 44, 45, 46, 47, 48, 49, 50, 51, 52, 53, 54, 55, 56, 57] (by decide +kernel) (by decide +kernel)
set_option maxRecDepth 20000 in
theorem gX7_sign_X7_write : GoodIn wsX7_sign (wsV RX7 168 RX7 yX7_write wsX7_write) := goodIn_app (goodIn_of _ (by decide +kernel)) ggX7_sign_X7_write
set_option maxRecDepth 20000 in
theorem ggX7_sign_X7_next : GoodIn wsX7_sign wsX7_next := goodIn_r _ [26, 2, 34, 35, 36, 37, 38, 39, 40, 41, 42, 43, 44, 45, 46, 47, 48, 49, 50, 51, 52, 53, 54, 55, 56, 57] (by decide +kernel) (by decide +kernel)
set_option maxRecDepth 20000 in
theorem gX7_sign_X7_next : GoodIn wsX7_sign (wsV RX7 107 RX7 yX7_next wsX7_next) := goodIn_app (goodIn_of _ (by decide +kernel)) ggX7_sign_X7_next
set_option maxRecDepth 20000 in
theorem ggX7_sign_X7_writeSteps : GoodIn wsX7_sign wsX7_writeSteps := goodIn_r _ [30, 19, 20, 21, 9, 22, 5, 1, 31, 32, 33, 34, 35, 36, 37, 38, 39, 40, 41, 42, 43, 44, 45, 46, 47, 48, 49, 50, 51, 52, 53, 54, 55, 56, 57] (by decide +kernel) (by decide +kernel)
set_option maxRecDepth 20000 in
theorem gX7_sign_X7_writeSteps : GoodIn wsX7_sign (wsV RX7 171 RX7 yX7_writeSteps wsX7_writeSteps) := goodIn_app (goodIn_of _ (by decide +kernel)) ggX7_sign_X7_writeSteps
set_option maxRecDepth 20000 in
theorem ggX7_sign_X7_in : GoodIn wsX7_sign wsX7_in := goodIn_r _ [14] (by decide +kernel) (by decide +kernel)
set_option maxRecDepth 20000 in
theorem gX7_sign_X7_in : GoodIn wsX7_sign (va_wsS RX7 47 yX7_in wsX7_in) := goodIn_app (goodIn_of _ (by decide +kernel)) ggX7_sign_X7_in
theorem dX7_sign_0 : decode cX7_sign 0 = .ok (.aload_n 0, 1) := by decide +kernel
theorem dX7_sign_1 : decode cX7_sign 1 = .ok (.iload_n 1, 1) := by decide +kernel
theorem dX7_sign_2 : decode cX7_sign 2 = .ok (.invokevirtual 139, 3) := by decide +kernel
theorem dX7_sign_5 : decode cX7_sign 5 = .ok (.ifCond .ne 5, 3) := by decide +kernel
theorem dX7_sign_8 : decode cX7_sign 8 = .ok (.iconst (-1), 1) := by decide +kernel
theorem dX7_sign_9 : decode cX7_sign 9 = .ok (.ireturn, 1) := by decide +kernel
theorem dX7_sign_10 : decode cX7_sign 10 = .ok (.aload_n 0, 1) := by decide +kernel
theorem dX7_sign_11 : decode cX7_sign 11 = .ok (.iload_n 1, 1) := by decide +kernel
theorem dX7_sign_12 : decode cX7_sign 12 = .ok (.invokevirtual 149, 3) := by decide +kernel
theorem dX7_sign_15 : decode cX7_sign 15 = .ok (.aload_n 0, 1) := by decide +kernel
theorem dX7_sign_16 : decode cX7_sign 16 = .ok (.iconst 0, 1) := by decide +kernel
theorem dX7_sign_17 : decode cX7_sign 17 = .ok (.putfield 165, 3) := by decide +kernel
theorem dX7_sign_20 : decode cX7_sign 20 = .ok (.iconst 0, 1) := by decide +kernel
theorem dX7_sign_21 : decode cX7_sign 21 = .ok (.istore_n 3, 1) := by decide +kernel
theorem dX7_sign_22 : decode cX7_sign 22 = .ok (.iload_n 3, 1) := by decide +kernel
theorem dX7_sign_23 : decode cX7_sign 23 = .ok (.aload_n 0, 1) := by decide +kernel
theorem dX7_sign_24 : decode cX7_sign 24 = .ok (.getfield 58, 3) := by decide +kernel
theorem dX7_sign_27 : decode cX7_sign 27 = .ok (.if_icmp .ge 69, 3) := by decide +kernel
theorem dX7_sign_30 : decode cX7_sign 30 = .ok (.iload_n 3, 1) := by decide +kernel
theorem dX7_sign_31 : decode cX7_sign 31 = .ok (.ifCond .le 9, 3) := by decide +kernel
theorem dX7_sign_34 : decode cX7_sign 34 = .ok (.aload_n 0, 1) := by decide +kernel
theorem dX7_sign_35 : decode cX7_sign 35 = .ok (.bipush 59, 2) := by decide +kernel
theorem dX7_sign_37 : decode cX7_sign 37 = .ok (.invokevirtual 168, 3) := by decide +kernel
theorem dX7_sign_40 : decode cX7_sign 40 = .ok (.aload_n 0, 1) := by decide +kernel
theorem dX7_sign_41 : decode cX7_sign 41 = .ok (.aload_n 0, 1) := by decide +kernel
theorem dX7_sign_42 : decode cX7_sign 42 = .ok (.getfield 32, 3) := by decide +kernel
theorem dX7_sign_45 : decode cX7_sign 45 = .ok (.aload_n 0, 1) := by decide +kernel
theorem dX7_sign_46 : decode cX7_sign 46 = .ok (.iload_n 3, 1) := by decide +kernel
theorem dX7_sign_47 : decode cX7_sign 47 = .ok (.invokevirtual 107, 3) := by decide +kernel
theorem dX7_sign_50 : decode cX7_sign 50 = .ok (.iaload, 1) := by decide +kernel
theorem dX7_sign_51 : decode cX7_sign 51 = .ok (.aload_n 0, 1) := by decide +kernel
theorem dX7_sign_52 : decode cX7_sign 52 = .ok (.getfield 32, 3) := by decide +kernel
theorem dX7_sign_55 : decode cX7_sign 55 = .ok (.iload_n 3, 1) := by decide +kernel
theorem dX7_sign_56 : decode cX7_sign 56 = .ok (.iaload, 1) := by decide +kernel
theorem dX7_sign_57 : decode cX7_sign 57 = .ok (.isub, 1) := by decide +kernel
theorem dX7_sign_58 : decode cX7_sign 58 = .ok (.bipush 110, 2) := by decide +kernel
theorem dX7_sign_60 : decode cX7_sign 60 = .ok (.bipush 115, 2) := by decide +kernel
theorem dX7_sign_62 : decode cX7_sign 62 = .ok (.invokevirtual 171, 3) := by decide +kernel
theorem dX7_sign_65 : decode cX7_sign 65 = .ok (.aload_n 0, 1) := by decide +kernel
theorem dX7_sign_66 : decode cX7_sign 66 = .ok (.aload_n 0, 1) := by decide +kernel
theorem dX7_sign_67 : decode cX7_sign 67 = .ok (.getfield 29, 3) := by decide +kernel
theorem dX7_sign_70 : decode cX7_sign 70 = .ok (.aload_n 0, 1) := by decide +kernel
theorem dX7_sign_71 : decode cX7_sign 71 = .ok (.iload_n 3, 1) := by decide +kernel
theorem dX7_sign_72 : decode cX7_sign 72 = .ok (.invokevirtual 107, 3) := by decide +kernel
theorem dX7_sign_75 : decode cX7_sign 75 = .ok (.iaload, 1) := by decide +kernel
theorem dX7_sign_76 : decode cX7_sign 76 = .ok (.aload_n 0, 1) := by decide +kernel
theorem dX7_sign_77 : decode cX7_sign 77 = .ok (.getfield 29, 3) := by decide +kernel
theorem dX7_sign_80 : decode cX7_sign 80 = .ok (.iload_n 3, 1) := by decide +kernel
theorem dX7_sign_81 : decode cX7_sign 81 = .ok (.iaload, 1) := by decide +kernel
theorem dX7_sign_82 : decode cX7_sign 82 = .ok (.isub, 1) := by decide +kernel
theorem dX7_sign_83 : decode cX7_sign 83 = .ok (.bipush 101, 2) := by decide +kernel
theorem dX7_sign_85 : decode cX7_sign 85 = .ok (.bipush 119, 2) := by decide +kernel
theorem dX7_sign_87 : decode cX7_sign 87 = .ok (.invokevirtual 171, 3) := by decide +kernel
theorem dX7_sign_90 : decode cX7_sign 90 = .ok (.iinc 3 1, 3) := by decide +kernel
theorem dX7_sign_93 : decode cX7_sign 93 = .ok (.goto (-71), 3) := by decide +kernel
theorem dX7_sign_96 : decode cX7_sign 96 = .ok (.iload_n 2, 1) := by decide +kernel
theorem dX7_sign_97 : decode cX7_sign 97 = .ok (.iconst (-1), 1) := by decide +kernel
theorem dX7_sign_98 : decode cX7_sign 98 = .ok (.if_icmp .ne 10, 3) := by decide +kernel
theorem dX7_sign_101 : decode cX7_sign 101 = .ok (.aload_n 0, 1) := by decide +kernel
theorem dX7_sign_102 : decode cX7_sign 102 = .ok (.getfield 165, 3) := by decide +kernel
theorem dX7_sign_105 : decode cX7_sign 105 = .ok (.goto 28, 3) := by decide +kernel
theorem dX7_sign_108 : decode cX7_sign 108 = .ok (.iload_n 2, 1) := by decide +kernel
theorem dX7_sign_109 : decode cX7_sign 109 = .ok (.iconst 0, 1) := by decide +kernel
theorem dX7_sign_110 : decode cX7_sign 110 = .ok (.aload_n 0, 1) := by decide +kernel
theorem dX7_sign_111 : decode cX7_sign 111 = .ok (.getfield 165, 3) := by decide +kernel
theorem dX7_sign_114 : decode cX7_sign 114 = .ok (.iconst 1, 1) := by decide +kernel
theorem dX7_sign_115 : decode cX7_sign 115 = .ok (.isub, 1) := by decide +kernel
theorem dX7_sign_116 : decode cX7_sign 116 = .ok (.invokestatic 47, 3) := by decide +kernel
theorem dX7_sign_119 : decode cX7_sign 119 = .ok (.ifCond .eq 12, 3) := by decide +kernel
theorem dX7_sign_122 : decode cX7_sign 122 = .ok (.aload_n 0, 1) := by decide +kernel
theorem dX7_sign_123 : decode cX7_sign 123 = .ok (.getfield 38, 3) := by decide +kernel
theorem dX7_sign_126 : decode cX7_sign 126 = .ok (.iload_n 2, 1) := by decide +kernel
theorem dX7_sign_127 : decode cX7_sign 127 = .ok (.iaload, 1) := by decide +kernel
theorem dX7_sign_128 : decode cX7_sign 128 = .ok (.goto 5, 3) := by decide +kernel
theorem dX7_sign_131 : decode cX7_sign 131 = .ok (.bipush (-6), 2) := by decide +kernel
theorem dX7_sign_133 : decode cX7_sign 133 = .ok (.ireturn, 1) := by decide +kernel
theorem dX7_common_0 : decode cX7_common 0 = .ok (.lload_n 0, 1) := by decide +kernel
theorem dX7_common_1 : decode cX7_common 1 = .ok (.lconst 0, 1) := by decide +kernel
theorem dX7_common_2 : decode cX7_common 2 = .ok (.lcmp, 1) := by decide +kernel
theorem dX7_common_3 : decode cX7_common 3 = .ok (.ifCond .ge 8, 3) := by decide +kernel
theorem dX7_common_6 : decode cX7_common 6 = .ok (.lload_n 0, 1) := by decide +kernel
theorem dX7_common_7 : decode cX7_common 7 = .ok (.lneg, 1) := by decide +kernel
theorem dX7_common_8 : decode cX7_common 8 = .ok (.goto 4, 3) := by decide +kernel
theorem dX7_common_11 : decode cX7_common 11 = .ok (.lload_n 0, 1) := by decide +kernel
theorem dX7_common_12 : decode cX7_common 12 = .ok (.lstore 4, 2) := by decide +kernel
theorem dX7_common_14 : decode cX7_common 14 = .ok (.lload_n 2, 1) := by decide +kernel
theorem dX7_common_15 : decode cX7_common 15 = .ok (.lstore 6, 2) := by decide +kernel
theorem dX7_common_17 : decode cX7_common 17 = .ok (.iconst 0, 1) := by decide +kernel
theorem dX7_common_18 : decode cX7_common 18 = .ok (.istore 8, 2) := by decide +kernel
theorem dX7_common_20 : decode cX7_common 20 = .ok (.iload 8, 2) := by decide +kernel
theorem dX7_common_22 : decode cX7_common 22 = .ok (.sipush 200, 3) := by decide +kernel
theorem dX7_common_25 : decode cX7_common 25 = .ok (.if_icmp .ge 31, 3) := by decide +kernel
theorem dX7_common_28 : decode cX7_common 28 = .ok (.lload 6, 2) := by decide +kernel
theorem dX7_common_30 : decode cX7_common 30 = .ok (.lconst 0, 1) := by decide +kernel
theorem dX7_common_31 : decode cX7_common 31 = .ok (.lcmp, 1) := by decide +kernel
theorem dX7_common_32 : decode cX7_common 32 = .ok (.ifCond .eq 24, 3) := by decide +kernel
theorem dX7_common_35 : decode cX7_common 35 = .ok (.lload 4, 2) := by decide +kernel
theorem dX7_common_37 : decode cX7_common 37 = .ok (.lload 6, 2) := by decide +kernel
theorem dX7_common_39 : decode cX7_common 39 = .ok (.lrem, 1) := by decide +kernel
theorem dX7_common_40 : decode cX7_common 40 = .ok (.lstore 9, 2) := by decide +kernel
theorem dX7_common_42 : decode cX7_common 42 = .ok (.lload 6, 2) := by decide +kernel
theorem dX7_common_44 : decode cX7_common 44 = .ok (.lstore 4, 2) := by decide +kernel
theorem dX7_common_46 : decode cX7_common 46 = .ok (.lload 9, 2) := by decide +kernel
theorem dX7_common_48 : decode cX7_common 48 = .ok (.lstore 6, 2) := by decide +kernel
theorem dX7_common_50 : decode cX7_common 50 = .ok (.iinc 8 1, 3) := by decide +kernel
theorem dX7_common_53 : decode cX7_common 53 = .ok (.goto (-33), 3) := by decide +kernel
theorem dX7_common_56 : decode cX7_common 56 = .ok (.lload 4, 2) := by decide +kernel
theorem dX7_common_58 : decode cX7_common 58 = .ok (.lreturn, 1) := by decide +kernel
set_option maxRecDepth 20000 in
theorem ggX7_add_X7_common : GoodIn wsX7_add wsX7_common := goodIn_r _ [6] (by decide +kernel) (by decide +kernel)
set_option maxRecDepth 20000 in
theorem gX7_add_X7_common : GoodIn wsX7_add (va_wsS RX7 182 yX7_common wsX7_common) := goodIn_app (goodIn_of _ (by decide +kernel)) ggX7_add_X7_common
theorem dX7_add_0 : decode cX7_add 0 = .ok (.aload_n 0, 1) := by decide +kernel
theorem dX7_add_1 : decode cX7_add 1 = .ok (.getfield 175, 3) := by decide +kernel
theorem dX7_add_4 : decode cX7_add 4 = .ok (.lload_n 3, 1) := by decide +kernel
theorem dX7_add_5 : decode cX7_add 5 = .ok (.lmul, 1) := by decide +kernel
theorem dX7_add_6 : decode cX7_add 6 = .ok (.lload_n 1, 1) := by decide +kernel
theorem dX7_add_7 : decode cX7_add 7 = .ok (.aload_n 0, 1) := by decide +kernel
theorem dX7_add_8 : decode cX7_add 8 = .ok (.getfield 179, 3) := by decide +kernel
theorem dX7_add_11 : decode cX7_add 11 = .ok (.lmul, 1) := by decide +kernel
theorem dX7_add_12 : decode cX7_add 12 = .ok (.ladd, 1) := by decide +kernel
theorem dX7_add_13 : decode cX7_add 13 = .ok (.lstore 5, 2) := by decide +kernel
theorem dX7_add_15 : decode cX7_add 15 = .ok (.aload_n 0, 1) := by decide +kernel
theorem dX7_add_16 : decode cX7_add 16 = .ok (.getfield 179, 3) := by decide +kernel
theorem dX7_add_19 : decode cX7_add 19 = .ok (.lload_n 3, 1) := by decide +kernel
theorem dX7_add_20 : decode cX7_add 20 = .ok (.lmul, 1) := by decide +kernel
theorem dX7_add_21 : decode cX7_add 21 = .ok (.lstore 7, 2) := by decide +kernel
theorem dX7_add_23 : decode cX7_add 23 = .ok (.lload 5, 2) := by decide +kernel
theorem dX7_add_25 : decode cX7_add 25 = .ok (.lload 7, 2) := by decide +kernel
theorem dX7_add_27 : decode cX7_add 27 = .ok (.invokestatic 182, 3) := by decide +kernel
theorem dX7_add_30 : decode cX7_add 30 = .ok (.lstore 9, 2) := by decide +kernel
theorem dX7_add_32 : decode cX7_add 32 = .ok (.aload_n 0, 1) := by decide +kernel
theorem dX7_add_33 : decode cX7_add 33 = .ok (.lload 5, 2) := by decide +kernel
theorem dX7_add_35 : decode cX7_add 35 = .ok (.lload 9, 2) := by decide +kernel
theorem dX7_add_37 : decode cX7_add 37 = .ok (.ldiv, 1) := by decide +kernel
theorem dX7_add_38 : decode cX7_add 38 = .ok (.putfield 175, 3) := by decide +kernel
theorem dX7_add_41 : decode cX7_add 41 = .ok (.aload_n 0, 1) := by decide +kernel
theorem dX7_add_42 : decode cX7_add 42 = .ok (.lload 7, 2) := by decide +kernel
theorem dX7_add_44 : decode cX7_add 44 = .ok (.lload 9, 2) := by decide +kernel
theorem dX7_add_46 : decode cX7_add 46 = .ok (.ldiv, 1) := by decide +kernel
theorem dX7_add_47 : decode cX7_add 47 = .ok (.putfield 179, 3) := by decide +kernel
theorem dX7_add_50 : decode cX7_add 50 = .ok (.return_, 1) := by decide +kernel
set_option maxRecDepth 20000 in
theorem ggX7_addSide_X7_next : GoodIn wsX7_addSide wsX7_next := goodIn_r _ [7, 8, 18, 19, 20, 21, 22, 23, 24, 25, 26, 27, 28, 29, 30, 31, 32, 33, 34, 35, 36, 37, 38, 39, 40, 41] (by decide +kernel) (by decide +kernel)
set_option maxRecDepth 20000 in
theorem gX7_addSide_X7_next : GoodIn wsX7_addSide (wsV RX7 107 RX7 yX7_next wsX7_next) := goodIn_app (goodIn_of _ (by decide +kernel)) ggX7_addSide_X7_next
set_option maxRecDepth 20000 in
theorem ggX7_addSide_X7_add : GoodIn wsX7_addSide wsX7_add := goodIn_r _ [12, 13, 14, 15, 16, 6, 17, 18, 19, 20, 21, 22, 23, 24, 25, 26, 27, 28, 29, 30, 31, 32, 33, 34, 35, 36, 37, 38, 39, 40, 41] (by decide +kernel) (by decide +kernel)
set_option maxRecDepth 20000 in
theorem gX7_addSide_X7_add : GoodIn wsX7_addSide (wsV RX7 186 RX7 yX7_add wsX7_add) := goodIn_app (goodIn_of _ (by decide +kernel)) ggX7_addSide_X7_add
theorem dX7_addSide_0 : decode cX7_addSide 0 = .ok (.aload_n 0, 1) := by decide +kernel
theorem dX7_addSide_1 : decode cX7_addSide 1 = .ok (.getfield 29, 3) := by decide +kernel
theorem dX7_addSide_4 : decode cX7_addSide 4 = .ok (.iload_n 1, 1) := by decide +kernel
theorem dX7_addSide_5 : decode cX7_addSide 5 = .ok (.iaload, 1) := by decide +kernel
theorem dX7_addSide_6 : decode cX7_addSide 6 = .ok (.aload_n 0, 1) := by decide +kernel
theorem dX7_addSide_7 : decode cX7_addSide 7 = .ok (.getfield 29, 3) := by decide +kernel
theorem dX7_addSide_10 : decode cX7_addSide 10 = .ok (.aload_n 0, 1) := by decide +kernel
theorem dX7_addSide_11 : decode cX7_addSide 11 = .ok (.iload_n 1, 1) := by decide +kernel
theorem dX7_addSide_12 : decode cX7_addSide 12 = .ok (.invokevirtual 107, 3) := by decide +kernel
theorem dX7_addSide_15 : decode cX7_addSide 15 = .ok (.iaload, 1) := by decide +kernel
theorem dX7_addSide_16 : decode cX7_addSide 16 = .ok (.if_icmp .ge 12, 3) := by decide +kernel
theorem dX7_addSide_19 : decode cX7_addSide 19 = .ok (.aload_n 0, 1) := by decide +kernel
theorem dX7_addSide_20 : decode cX7_addSide 20 = .ok (.getfield 29, 3) := by decide +kernel
theorem dX7_addSide_23 : decode cX7_addSide 23 = .ok (.iload_n 1, 1) := by decide +kernel
theorem dX7_addSide_24 : decode cX7_addSide 24 = .ok (.iaload, 1) := by decide +kernel
theorem dX7_addSide_25 : decode cX7_addSide 25 = .ok (.goto 13, 3) := by decide +kernel
theorem dX7_addSide_28 : decode cX7_addSide 28 = .ok (.aload_n 0, 1) := by decide +kernel
theorem dX7_addSide_29 : decode cX7_addSide 29 = .ok (.getfield 29, 3) := by decide +kernel
theorem dX7_addSide_32 : decode cX7_addSide 32 = .ok (.aload_n 0, 1) := by decide +kernel
theorem dX7_addSide_33 : decode cX7_addSide 33 = .ok (.iload_n 1, 1) := by decide +kernel
theorem dX7_addSide_34 : decode cX7_addSide 34 = .ok (.invokevirtual 107, 3) := by decide +kernel
theorem dX7_addSide_37 : decode cX7_addSide 37 = .ok (.iaload, 1) := by decide +kernel
theorem dX7_addSide_38 : decode cX7_addSide 38 = .ok (.istore_n 3, 1) := by decide +kernel
theorem dX7_addSide_39 : decode cX7_addSide 39 = .ok (.aload_n 0, 1) := by decide +kernel
theorem dX7_addSide_40 : decode cX7_addSide 40 = .ok (.getfield 29, 3) := by decide +kernel
theorem dX7_addSide_43 : decode cX7_addSide 43 = .ok (.iload_n 1, 1) := by decide +kernel
theorem dX7_addSide_44 : decode cX7_addSide 44 = .ok (.iaload, 1) := by decide +kernel
theorem dX7_addSide_45 : decode cX7_addSide 45 = .ok (.aload_n 0, 1) := by decide +kernel
theorem dX7_addSide_46 : decode cX7_addSide 46 = .ok (.getfield 29, 3) := by decide +kernel
theorem dX7_addSide_49 : decode cX7_addSide 49 = .ok (.aload_n 0, 1) := by decide +kernel
theorem dX7_addSide_50 : decode cX7_addSide 50 = .ok (.iload_n 1, 1) := by decide +kernel
theorem dX7_addSide_51 : decode cX7_addSide 51 = .ok (.invokevirtual 107, 3) := by decide +kernel
theorem dX7_addSide_54 : decode cX7_addSide 54 = .ok (.iaload, 1) := by decide +kernel
theorem dX7_addSide_55 : decode cX7_addSide 55 = .ok (.if_icmp .ge 16, 3) := by decide +kernel
theorem dX7_addSide_58 : decode cX7_addSide 58 = .ok (.aload_n 0, 1) := by decide +kernel
theorem dX7_addSide_59 : decode cX7_addSide 59 = .ok (.getfield 29, 3) := by decide +kernel
theorem dX7_addSide_62 : decode cX7_addSide 62 = .ok (.aload_n 0, 1) := by decide +kernel
theorem dX7_addSide_63 : decode cX7_addSide 63 = .ok (.iload_n 1, 1) := by decide +kernel
theorem dX7_addSide_64 : decode cX7_addSide 64 = .ok (.invokevirtual 107, 3) := by decide +kernel
theorem dX7_addSide_67 : decode cX7_addSide 67 = .ok (.iaload, 1) := by decide +kernel
theorem dX7_addSide_68 : decode cX7_addSide 68 = .ok (.goto 9, 3) := by decide +kernel
theorem dX7_addSide_71 : decode cX7_addSide 71 = .ok (.aload_n 0, 1) := by decide +kernel
theorem dX7_addSide_72 : decode cX7_addSide 72 = .ok (.getfield 29, 3) := by decide +kernel
theorem dX7_addSide_75 : decode cX7_addSide 75 = .ok (.iload_n 1, 1) := by decide +kernel
theorem dX7_addSide_76 : decode cX7_addSide 76 = .ok (.iaload, 1) := by decide +kernel
theorem dX7_addSide_77 : decode cX7_addSide 77 = .ok (.istore 4, 2) := by decide +kernel
theorem dX7_addSide_79 : decode cX7_addSide 79 = .ok (.aload_n 0, 1) := by decide +kernel
theorem dX7_addSide_80 : decode cX7_addSide 80 = .ok (.getfield 32, 3) := by decide +kernel
theorem dX7_addSide_83 : decode cX7_addSide 83 = .ok (.aload_n 0, 1) := by decide +kernel
theorem dX7_addSide_84 : decode cX7_addSide 84 = .ok (.iload_n 1, 1) := by decide +kernel
theorem dX7_addSide_85 : decode cX7_addSide 85 = .ok (.invokevirtual 107, 3) := by decide +kernel
theorem dX7_addSide_88 : decode cX7_addSide 88 = .ok (.iaload, 1) := by decide +kernel
theorem dX7_addSide_89 : decode cX7_addSide 89 = .ok (.aload_n 0, 1) := by decide +kernel
theorem dX7_addSide_90 : decode cX7_addSide 90 = .ok (.getfield 32, 3) := by decide +kernel
theorem dX7_addSide_93 : decode cX7_addSide 93 = .ok (.iload_n 1, 1) := by decide +kernel
theorem dX7_addSide_94 : decode cX7_addSide 94 = .ok (.iaload, 1) := by decide +kernel
theorem dX7_addSide_95 : decode cX7_addSide 95 = .ok (.isub, 1) := by decide +kernel
theorem dX7_addSide_96 : decode cX7_addSide 96 = .ok (.istore 5, 2) := by decide +kernel
theorem dX7_addSide_98 : decode cX7_addSide 98 = .ok (.iload 4, 2) := by decide +kernel
theorem dX7_addSide_100 : decode cX7_addSide 100 = .ok (.iload_n 2, 1) := by decide +kernel
theorem dX7_addSide_101 : decode cX7_addSide 101 = .ok (.if_icmp .gt 19, 3) := by decide +kernel
theorem dX7_addSide_104 : decode cX7_addSide 104 = .ok (.aload_n 0, 1) := by decide +kernel
theorem dX7_addSide_105 : decode cX7_addSide 105 = .ok (.iload 5, 2) := by decide +kernel
theorem dX7_addSide_107 : decode cX7_addSide 107 = .ok (.iload_n 3, 1) := by decide +kernel
theorem dX7_addSide_108 : decode cX7_addSide 108 = .ok (.iload 4, 2) := by decide +kernel
theorem dX7_addSide_110 : decode cX7_addSide 110 = .ok (.iadd, 1) := by decide +kernel
theorem dX7_addSide_111 : decode cX7_addSide 111 = .ok (.imul, 1) := by decide +kernel
theorem dX7_addSide_112 : decode cX7_addSide 112 = .ok (.i2l, 1) := by decide +kernel
theorem dX7_addSide_113 : decode cX7_addSide 113 = .ok (.lconst 1, 1) := by decide +kernel
theorem dX7_addSide_114 : decode cX7_addSide 114 = .ok (.invokevirtual 186, 3) := by decide +kernel
theorem dX7_addSide_117 : decode cX7_addSide 117 = .ok (.goto 50, 3) := by decide +kernel
theorem dX7_addSide_120 : decode cX7_addSide 120 = .ok (.iload_n 3, 1) := by decide +kernel
theorem dX7_addSide_121 : decode cX7_addSide 121 = .ok (.iload_n 2, 1) := by decide +kernel
theorem dX7_addSide_122 : decode cX7_addSide 122 = .ok (.if_icmp .lt 18, 3) := by decide +kernel
theorem dX7_addSide_125 : decode cX7_addSide 125 = .ok (.aload_n 0, 1) := by decide +kernel
theorem dX7_addSide_126 : decode cX7_addSide 126 = .ok (.iload 5, 2) := by decide +kernel
theorem dX7_addSide_128 : decode cX7_addSide 128 = .ok (.iconst 2, 1) := by decide +kernel
theorem dX7_addSide_129 : decode cX7_addSide 129 = .ok (.imul, 1) := by decide +kernel
theorem dX7_addSide_130 : decode cX7_addSide 130 = .ok (.iload_n 2, 1) := by decide +kernel
theorem dX7_addSide_131 : decode cX7_addSide 131 = .ok (.imul, 1) := by decide +kernel
theorem dX7_addSide_132 : decode cX7_addSide 132 = .ok (.i2l, 1) := by decide +kernel
theorem dX7_addSide_133 : decode cX7_addSide 133 = .ok (.lconst 1, 1) := by decide +kernel
theorem dX7_addSide_134 : decode cX7_addSide 134 = .ok (.invokevirtual 186, 3) := by decide +kernel
theorem dX7_addSide_137 : decode cX7_addSide 137 = .ok (.goto 30, 3) := by decide +kernel
theorem dX7_addSide_140 : decode cX7_addSide 140 = .ok (.aload_n 0, 1) := by decide +kernel
theorem dX7_addSide_141 : decode cX7_addSide 141 = .ok (.iload 5, 2) := by decide +kernel
theorem dX7_addSide_143 : decode cX7_addSide 143 = .ok (.iconst 2, 1) := by decide +kernel
theorem dX7_addSide_144 : decode cX7_addSide 144 = .ok (.iload_n 2, 1) := by decide +kernel
theorem dX7_addSide_145 : decode cX7_addSide 145 = .ok (.imul, 1) := by decide +kernel
theorem dX7_addSide_146 : decode cX7_addSide 146 = .ok (.iload 4, 2) := by decide +kernel
theorem dX7_addSide_148 : decode cX7_addSide 148 = .ok (.imul, 1) := by decide +kernel
theorem dX7_addSide_149 : decode cX7_addSide 149 = .ok (.iload_n 2, 1) := by decide +kernel
theorem dX7_addSide_150 : decode cX7_addSide 150 = .ok (.iload_n 2, 1) := by decide +kernel
theorem dX7_addSide_151 : decode cX7_addSide 151 = .ok (.imul, 1) := by decide +kernel
theorem dX7_addSide_152 : decode cX7_addSide 152 = .ok (.isub, 1) := by decide +kernel
theorem dX7_addSide_153 : decode cX7_addSide 153 = .ok (.iload_n 3, 1) := by decide +kernel
theorem dX7_addSide_154 : decode cX7_addSide 154 = .ok (.iload_n 3, 1) := by decide +kernel
theorem dX7_addSide_155 : decode cX7_addSide 155 = .ok (.imul, 1) := by decide +kernel
theorem dX7_addSide_156 : decode cX7_addSide 156 = .ok (.isub, 1) := by decide +kernel
theorem dX7_addSide_157 : decode cX7_addSide 157 = .ok (.imul, 1) := by decide +kernel
theorem dX7_addSide_158 : decode cX7_addSide 158 = .ok (.i2l, 1) := by decide +kernel
theorem dX7_addSide_159 : decode cX7_addSide 159 = .ok (.iload 4, 2) := by decide +kernel
theorem dX7_addSide_161 : decode cX7_addSide 161 = .ok (.iload_n 3, 1) := by decide +kernel
theorem dX7_addSide_162 : decode cX7_addSide 162 = .ok (.isub, 1) := by decide +kernel
theorem dX7_addSide_163 : decode cX7_addSide 163 = .ok (.i2l, 1) := by decide +kernel
theorem dX7_addSide_164 : decode cX7_addSide 164 = .ok (.invokevirtual 186, 3) := by decide +kernel
theorem dX7_addSide_167 : decode cX7_addSide 167 = .ok (.return_, 1) := by decide +kernel
set_option maxRecDepth 20000 in
theorem ggX7_layWest_X7_addSide : GoodIn wsX7_layWest wsX7_addSide := goodIn_r _ [8, 9, 10, 11, 12, 13, 7, 14, 3, 15, 16, 17, 18, 1, 2, 19, 20, 21, 26, 27, 28, 29, 30, 31, 32, 33, 34, 35, 36, 37, 38, 39, 40, 41, 42, 43, 44, 45, 46, 47, 48, 49] (by decide +kernel) (by decide +kernel)
set_option maxRecDepth 20000 in
theorem gX7_layWest_X7_addSide : GoodIn wsX7_layWest (wsV RX7 190 RX7 yX7_addSide wsX7_addSide) := goodIn_app (goodIn_of _ (by decide +kernel)) ggX7_layWest_X7_addSide
set_option maxRecDepth 20000 in
theorem ggX7_layWest_X7_twice : GoodIn wsX7_layWest wsX7_twice := goodIn_r _ [25, 3, 9, 10, 11, 12, 13, 7, 14, 26, 27, 28, 29, 30, 31, 32, 33, 34, 35, 36, 37, 38, 39, 40, 41, 42, 43, 44, 45, 46, 47, 48, 49] (by decide +kernel) (by decide +kernel)
set_option maxRecDepth 20000 in
theorem gX7_layWest_X7_twice : GoodIn wsX7_layWest (wsV RX7 156 RX7 yX7_twice wsX7_twice) := goodIn_app (goodIn_of _ (by decide +kernel)) ggX7_layWest_X7_twice
theorem dX7_layWest_0 : decode cX7_layWest 0 = .ok (.aload_n 0, 1) := by decide +kernel
theorem dX7_layWest_1 : decode cX7_layWest 1 = .ok (.lconst 0, 1) := by decide +kernel
theorem dX7_layWest_2 : decode cX7_layWest 2 = .ok (.putfield 175, 3) := by decide +kernel
theorem dX7_layWest_5 : decode cX7_layWest 5 = .ok (.aload_n 0, 1) := by decide +kernel
theorem dX7_layWest_6 : decode cX7_layWest 6 = .ok (.lconst 1, 1) := by decide +kernel
theorem dX7_layWest_7 : decode cX7_layWest 7 = .ok (.putfield 179, 3) := by decide +kernel
theorem dX7_layWest_10 : decode cX7_layWest 10 = .ok (.iconst 0, 1) := by decide +kernel
theorem dX7_layWest_11 : decode cX7_layWest 11 = .ok (.istore_n 2, 1) := by decide +kernel
theorem dX7_layWest_12 : decode cX7_layWest 12 = .ok (.iload_n 2, 1) := by decide +kernel
theorem dX7_layWest_13 : decode cX7_layWest 13 = .ok (.aload_n 0, 1) := by decide +kernel
theorem dX7_layWest_14 : decode cX7_layWest 14 = .ok (.getfield 58, 3) := by decide +kernel
theorem dX7_layWest_17 : decode cX7_layWest 17 = .ok (.if_icmp .ge 15, 3) := by decide +kernel
theorem dX7_layWest_20 : decode cX7_layWest 20 = .ok (.aload_n 0, 1) := by decide +kernel
theorem dX7_layWest_21 : decode cX7_layWest 21 = .ok (.iload_n 2, 1) := by decide +kernel
theorem dX7_layWest_22 : decode cX7_layWest 22 = .ok (.iload_n 1, 1) := by decide +kernel
theorem dX7_layWest_23 : decode cX7_layWest 23 = .ok (.invokevirtual 190, 3) := by decide +kernel
theorem dX7_layWest_26 : decode cX7_layWest 26 = .ok (.iinc 2 1, 3) := by decide +kernel
theorem dX7_layWest_29 : decode cX7_layWest 29 = .ok (.goto (-17), 3) := by decide +kernel
theorem dX7_layWest_32 : decode cX7_layWest 32 = .ok (.aload_n 0, 1) := by decide +kernel
theorem dX7_layWest_33 : decode cX7_layWest 33 = .ok (.aload_n 0, 1) := by decide +kernel
theorem dX7_layWest_34 : decode cX7_layWest 34 = .ok (.invokevirtual 156, 3) := by decide +kernel
theorem dX7_layWest_37 : decode cX7_layWest 37 = .ok (.ifCond .ge 11, 3) := by decide +kernel
theorem dX7_layWest_40 : decode cX7_layWest 40 = .ok (.aload_n 0, 1) := by decide +kernel
theorem dX7_layWest_41 : decode cX7_layWest 41 = .ok (.getfield 175, 3) := by decide +kernel
theorem dX7_layWest_44 : decode cX7_layWest 44 = .ok (.lneg, 1) := by decide +kernel
theorem dX7_layWest_45 : decode cX7_layWest 45 = .ok (.goto 7, 3) := by decide +kernel
theorem dX7_layWest_48 : decode cX7_layWest 48 = .ok (.aload_n 0, 1) := by decide +kernel
theorem dX7_layWest_49 : decode cX7_layWest 49 = .ok (.getfield 175, 3) := by decide +kernel
theorem dX7_layWest_52 : decode cX7_layWest 52 = .ok (.putfield 175, 3) := by decide +kernel
theorem dX7_layWest_55 : decode cX7_layWest 55 = .ok (.return_, 1) := by decide +kernel
set_option maxRecDepth 20000 in
theorem ggX7_west_X7_isPlot : GoodIn wsX7_west wsX7_isPlot := goodIn_r _ [9, 10, 11, 12, 8, 13, 44, 45, 46, 47, 48, 49, 50, 51, 52, 53, 54, 55, 56, 57, 58, 59, 60, 61, 62, 63, 64, 65, 66, 67] (by decide +kernel) (by decide +kernel)
set_option maxRecDepth 20000 in
theorem gX7_west_X7_isPlot : GoodIn wsX7_west (wsV RX7 139 RX7 yX7_isPlot wsX7_isPlot) := goodIn_app (goodIn_of _ (by decide +kernel)) ggX7_west_X7_isPlot
set_option maxRecDepth 20000 in
theorem ggX7_west_X7_in : GoodIn wsX7_west wsX7_in := goodIn_r _ [13] (by decide +kernel) (by decide +kernel)
set_option maxRecDepth 20000 in
theorem gX7_west_X7_in : GoodIn wsX7_west (va_wsS RX7 47 yX7_in wsX7_in) := goodIn_app (goodIn_of _ (by decide +kernel)) ggX7_west_X7_in
set_option maxRecDepth 20000 in
theorem ggX7_west_X7_look : GoodIn wsX7_west wsX7_look := goodIn_r _ [17, 10, 18, 19, 20, 44, 45, 46, 47, 48, 49, 50, 51, 52, 53, 54, 55, 56, 57, 58, 59, 60, 61, 62, 63, 64, 65, 66, 67] (by decide +kernel) (by decide +kernel)
set_option maxRecDepth 20000 in
theorem gX7_west_X7_look : GoodIn wsX7_west (wsV RX7 149 RX7 yX7_look wsX7_look) := goodIn_app (goodIn_of _ (by decide +kernel)) ggX7_west_X7_look
set_option maxRecDepth 20000 in
theorem ggX7_west_X7_layWest : GoodIn wsX7_west wsX7_layWest := goodIn_r _ [24, 3, 4, 18, 25, 26, 27, 8, 28, 19, 20, 29, 30, 31, 32, 33, 34, 35, 36, 37, 38, 39, 40, 41, 42, 43, 44, 45, 46, 47, 48, 49, 50, 51, 52, 53, 54, 55, 56, 57, 58, 59, 60, 61, 62, 63, 64, 65, 66, 67] (by decide +kernel) (by decide +kernel)
set_option maxRecDepth 20000 in
theorem gX7_west_X7_layWest : GoodIn wsX7_west (wsV RX7 197 RX7 yX7_layWest wsX7_layWest) := goodIn_app (goodIn_of _ (by decide +kernel)) ggX7_west_X7_layWest
theorem dX7_west_0 : decode cX7_west 0 = .ok (.aload_n 0, 1) := by decide +kernel
theorem dX7_west_1 : decode cX7_west 1 = .ok (.iload_n 1, 1) := by decide +kernel
theorem dX7_west_2 : decode cX7_west 2 = .ok (.invokevirtual 139, 3) := by decide +kernel
theorem dX7_west_5 : decode cX7_west 5 = .ok (.ifCond .ne 7, 3) := by decide +kernel
theorem dX7_west_8 : decode cX7_west 8 = .ok (.ldc2_w 193, 3) := by decide +kernel
theorem dX7_west_11 : decode cX7_west 11 = .ok (.lreturn, 1) := by decide +kernel
theorem dX7_west_12 : decode cX7_west 12 = .ok (.iload_n 2, 1) := by decide +kernel
theorem dX7_west_13 : decode cX7_west 13 = .ok (.iconst 0, 1) := by decide +kernel
theorem dX7_west_14 : decode cX7_west 14 = .ok (.bipush 31, 2) := by decide +kernel
theorem dX7_west_16 : decode cX7_west 16 = .ok (.invokestatic 47, 3) := by decide +kernel
theorem dX7_west_19 : decode cX7_west 19 = .ok (.ifCond .eq 12, 3) := by decide +kernel
theorem dX7_west_22 : decode cX7_west 22 = .ok (.iload_n 3, 1) := by decide +kernel
theorem dX7_west_23 : decode cX7_west 23 = .ok (.iconst 0, 1) := by decide +kernel
theorem dX7_west_24 : decode cX7_west 24 = .ok (.iconst 1, 1) := by decide +kernel
theorem dX7_west_25 : decode cX7_west 25 = .ok (.invokestatic 47, 3) := by decide +kernel
theorem dX7_west_28 : decode cX7_west 28 = .ok (.ifCond .ne 7, 3) := by decide +kernel
theorem dX7_west_31 : decode cX7_west 31 = .ok (.ldc2_w 195, 3) := by decide +kernel
theorem dX7_west_34 : decode cX7_west 34 = .ok (.lreturn, 1) := by decide +kernel
theorem dX7_west_35 : decode cX7_west 35 = .ok (.aload_n 0, 1) := by decide +kernel
theorem dX7_west_36 : decode cX7_west 36 = .ok (.iload_n 1, 1) := by decide +kernel
theorem dX7_west_37 : decode cX7_west 37 = .ok (.invokevirtual 149, 3) := by decide +kernel
theorem dX7_west_40 : decode cX7_west 40 = .ok (.aload_n 0, 1) := by decide +kernel
theorem dX7_west_41 : decode cX7_west 41 = .ok (.iload_n 2, 1) := by decide +kernel
theorem dX7_west_42 : decode cX7_west 42 = .ok (.invokevirtual 197, 3) := by decide +kernel
theorem dX7_west_45 : decode cX7_west 45 = .ok (.iload_n 3, 1) := by decide +kernel
theorem dX7_west_46 : decode cX7_west 46 = .ok (.ifCond .ne 10, 3) := by decide +kernel
theorem dX7_west_49 : decode cX7_west 49 = .ok (.aload_n 0, 1) := by decide +kernel
theorem dX7_west_50 : decode cX7_west 50 = .ok (.getfield 175, 3) := by decide +kernel
theorem dX7_west_53 : decode cX7_west 53 = .ok (.goto 7, 3) := by decide +kernel
theorem dX7_west_56 : decode cX7_west 56 = .ok (.aload_n 0, 1) := by decide +kernel
theorem dX7_west_57 : decode cX7_west 57 = .ok (.getfield 179, 3) := by decide +kernel
theorem dX7_west_60 : decode cX7_west 60 = .ok (.lreturn, 1) := by decide +kernel
set_option maxRecDepth 20000 in
theorem ggX7_line_X7_isPlot : GoodIn wsX7_line wsX7_isPlot := goodIn_r _ [7, 8, 9, 10, 6, 11, 42, 43, 44, 45, 46, 47, 48, 49, 50, 51, 52, 53, 54, 55, 56, 57, 58, 59, 60, 61, 62, 63, 64, 65] (by decide +kernel) (by decide +kernel)
set_option maxRecDepth 20000 in
theorem gX7_line_X7_isPlot : GoodIn wsX7_line (wsV RX7 139 RX7 yX7_isPlot wsX7_isPlot) := goodIn_app (goodIn_of _ (by decide +kernel)) ggX7_line_X7_isPlot
set_option maxRecDepth 20000 in
theorem ggX7_line_X7_in : GoodIn wsX7_line wsX7_in := goodIn_r _ [11] (by decide +kernel) (by decide +kernel)
set_option maxRecDepth 20000 in
theorem gX7_line_X7_in : GoodIn wsX7_line (va_wsS RX7 47 yX7_in wsX7_in) := goodIn_app (goodIn_of _ (by decide +kernel)) ggX7_line_X7_in
set_option maxRecDepth 20000 in
theorem ggX7_line_X7_look : GoodIn wsX7_line wsX7_look := goodIn_r _ [15, 8, 16, 17, 18, 42, 43, 44, 45, 46, 47, 48, 49, 50, 51, 52, 53, 54, 55, 56, 57, 58, 59, 60, 61, 62, 63, 64, 65] (by decide +kernel) (by decide +kernel)
set_option maxRecDepth 20000 in
theorem gX7_line_X7_look : GoodIn wsX7_line (wsV RX7 149 RX7 yX7_look wsX7_look) := goodIn_app (goodIn_of _ (by decide +kernel)) ggX7_line_X7_look
set_option maxRecDepth 20000 in
theorem ggX7_line_X7_layWest : GoodIn wsX7_line wsX7_layWest := goodIn_r _ [22, 1, 2, 16, 23, 24, 25, 6, 26, 17, 18, 27, 28, 29, 30, 31, 32, 33, 34, 35, 36, 37, 38, 39, 40, 41, 42, 43, 44, 45, 46, 47, 48, 49, 50, 51, 52, 53, 54, 55, 56, 57, 58, 59, 60, 61, 62, 63, 64, 65] (by decide +kernel) (by decide +kernel)
set_option maxRecDepth 20000 in
theorem gX7_line_X7_layWest : GoodIn wsX7_line (wsV RX7 197 RX7 yX7_layWest wsX7_layWest) := goodIn_app (goodIn_of _ (by decide +kernel)) ggX7_line_X7_layWest
theorem dX7_line_0 : decode cX7_line 0 = .ok (.aload_n 0, 1) := by decide +kernel
theorem dX7_line_1 : decode cX7_line 1 = .ok (.iload_n 1, 1) := by decide +kernel
theorem dX7_line_2 : decode cX7_line 2 = .ok (.invokevirtual 139, 3) := by decide +kernel
theorem dX7_line_5 : decode cX7_line 5 = .ok (.ifCond .ne 5, 3) := by decide +kernel
theorem dX7_line_8 : decode cX7_line 8 = .ok (.iconst (-1), 1) := by decide +kernel
theorem dX7_line_9 : decode cX7_line 9 = .ok (.ireturn, 1) := by decide +kernel
theorem dX7_line_10 : decode cX7_line 10 = .ok (.iload_n 2, 1) := by decide +kernel
theorem dX7_line_11 : decode cX7_line 11 = .ok (.iconst 1, 1) := by decide +kernel
theorem dX7_line_12 : decode cX7_line 12 = .ok (.sipush 2000, 3) := by decide +kernel
theorem dX7_line_15 : decode cX7_line 15 = .ok (.invokestatic 47, 3) := by decide +kernel
theorem dX7_line_18 : decode cX7_line 18 = .ok (.ifCond .ne 6, 3) := by decide +kernel
theorem dX7_line_21 : decode cX7_line 21 = .ok (.bipush (-2), 2) := by decide +kernel
theorem dX7_line_23 : decode cX7_line 23 = .ok (.ireturn, 1) := by decide +kernel
theorem dX7_line_24 : decode cX7_line 24 = .ok (.aload_n 0, 1) := by decide +kernel
theorem dX7_line_25 : decode cX7_line 25 = .ok (.iload_n 1, 1) := by decide +kernel
theorem dX7_line_26 : decode cX7_line 26 = .ok (.invokevirtual 149, 3) := by decide +kernel
theorem dX7_line_29 : decode cX7_line 29 = .ok (.iconst 0, 1) := by decide +kernel
theorem dX7_line_30 : decode cX7_line 30 = .ok (.istore_n 3, 1) := by decide +kernel
theorem dX7_line_31 : decode cX7_line 31 = .ok (.iload_n 3, 1) := by decide +kernel
theorem dX7_line_32 : decode cX7_line 32 = .ok (.bipush 32, 2) := by decide +kernel
theorem dX7_line_34 : decode cX7_line 34 = .ok (.if_icmp .ge 31, 3) := by decide +kernel
theorem dX7_line_37 : decode cX7_line 37 = .ok (.aload_n 0, 1) := by decide +kernel
theorem dX7_line_38 : decode cX7_line 38 = .ok (.iload_n 3, 1) := by decide +kernel
theorem dX7_line_39 : decode cX7_line 39 = .ok (.invokevirtual 197, 3) := by decide +kernel
theorem dX7_line_42 : decode cX7_line 42 = .ok (.aload_n 0, 1) := by decide +kernel
theorem dX7_line_43 : decode cX7_line 43 = .ok (.getfield 175, 3) := by decide +kernel
theorem dX7_line_46 : decode cX7_line 46 = .ok (.iload_n 2, 1) := by decide +kernel
theorem dX7_line_47 : decode cX7_line 47 = .ok (.i2l, 1) := by decide +kernel
theorem dX7_line_48 : decode cX7_line 48 = .ok (.aload_n 0, 1) := by decide +kernel
theorem dX7_line_49 : decode cX7_line 49 = .ok (.getfield 179, 3) := by decide +kernel
theorem dX7_line_52 : decode cX7_line 52 = .ok (.lmul, 1) := by decide +kernel
theorem dX7_line_53 : decode cX7_line 53 = .ok (.lcmp, 1) := by decide +kernel
theorem dX7_line_54 : decode cX7_line 54 = .ok (.ifCond .lt 5, 3) := by decide +kernel
theorem dX7_line_57 : decode cX7_line 57 = .ok (.iload_n 3, 1) := by decide +kernel
theorem dX7_line_58 : decode cX7_line 58 = .ok (.ireturn, 1) := by decide +kernel
theorem dX7_line_59 : decode cX7_line 59 = .ok (.iinc 3 1, 3) := by decide +kernel
theorem dX7_line_62 : decode cX7_line 62 = .ok (.goto (-31), 3) := by decide +kernel
theorem dX7_line_65 : decode cX7_line 65 = .ok (.bipush (-6), 2) := by decide +kernel
theorem dX7_line_67 : decode cX7_line 67 = .ok (.ireturn, 1) := by decide +kernel
set_option maxRecDepth 20000 in
theorem ggX7_common__X7_isPlot : GoodIn wsX7_common_ wsX7_isPlot := goodIn_r _ [6, 7, 8, 9, 5, 10, 43, 44, 45, 46, 47, 48, 49, 50, 51, 52, 53, 54, 55, 56, 57, 58, 59, 60, 61, 62, 63, 64, 65, 66] (by decide +kernel) (by decide +kernel)
set_option maxRecDepth 20000 in
theorem gX7_common__X7_isPlot : GoodIn wsX7_common_ (wsV RX7 139 RX7 yX7_isPlot wsX7_isPlot) := goodIn_app (goodIn_of _ (by decide +kernel)) ggX7_common__X7_isPlot
set_option maxRecDepth 20000 in
theorem ggX7_common__X7_in : GoodIn wsX7_common_ wsX7_in := goodIn_r _ [10] (by decide +kernel) (by decide +kernel)
set_option maxRecDepth 20000 in
theorem gX7_common__X7_in : GoodIn wsX7_common_ (va_wsS RX7 47 yX7_in wsX7_in) := goodIn_app (goodIn_of _ (by decide +kernel)) ggX7_common__X7_in
set_option maxRecDepth 20000 in
theorem ggX7_common__X7_look : GoodIn wsX7_common_ wsX7_look := goodIn_r _ [14, 7, 15, 16, 17, 43, 44, 45, 46, 47, 48, 49, 50, 51, 52, 53, 54, 55, 56, 57, 58, 59, 60, 61, 62, 63, 64, 65, 66] (by decide +kernel) (by decide +kernel)
set_option maxRecDepth 20000 in
theorem gX7_common__X7_look : GoodIn wsX7_common_ (wsV RX7 149 RX7 yX7_look wsX7_look) := goodIn_app (goodIn_of _ (by decide +kernel)) ggX7_common__X7_look
set_option maxRecDepth 20000 in
theorem ggX7_common__X7_liesNow : GoodIn wsX7_common_ wsX7_liesNow := goodIn_r _ [21, 15, 17, 22, 23, 24, 5, 25, 16, 26, 27, 28, 29, 30, 31, 32, 33, 34, 35, 36, 37, 38, 8, 9, 10, 39, 40, 41, 42, 43, 44, 45, 46, 47, 48, 49, 50, 51, 52, 53, 54, 55, 56, 57, 58, 59, 60, 61, 62, 63, 64, 65, 66] (by decide +kernel) (by decide +kernel)
set_option maxRecDepth 20000 in
theorem gX7_common__X7_liesNow : GoodIn wsX7_common_ (wsV RX7 145 RX7 yX7_liesNow wsX7_liesNow) := goodIn_app (goodIn_of _ (by decide +kernel)) ggX7_common__X7_liesNow
theorem dX7_common__0 : decode cX7_common_ 0 = .ok (.aload_n 0, 1) := by decide +kernel
theorem dX7_common__1 : decode cX7_common_ 1 = .ok (.iload_n 1, 1) := by decide +kernel
theorem dX7_common__2 : decode cX7_common_ 2 = .ok (.invokevirtual 139, 3) := by decide +kernel
theorem dX7_common__5 : decode cX7_common_ 5 = .ok (.ifCond .eq 11, 3) := by decide +kernel
theorem dX7_common__8 : decode cX7_common_ 8 = .ok (.aload_n 0, 1) := by decide +kernel
theorem dX7_common__9 : decode cX7_common_ 9 = .ok (.iload_n 2, 1) := by decide +kernel
theorem dX7_common__10 : decode cX7_common_ 10 = .ok (.invokevirtual 139, 3) := by decide +kernel
theorem dX7_common__13 : decode cX7_common_ 13 = .ok (.ifCond .ne 5, 3) := by decide +kernel
theorem dX7_common__16 : decode cX7_common_ 16 = .ok (.iconst (-1), 1) := by decide +kernel
theorem dX7_common__17 : decode cX7_common_ 17 = .ok (.ireturn, 1) := by decide +kernel
theorem dX7_common__18 : decode cX7_common_ 18 = .ok (.iload_n 3, 1) := by decide +kernel
theorem dX7_common__19 : decode cX7_common_ 19 = .ok (.iconst 0, 1) := by decide +kernel
theorem dX7_common__20 : decode cX7_common_ 20 = .ok (.iconst 2, 1) := by decide +kernel
theorem dX7_common__21 : decode cX7_common_ 21 = .ok (.invokestatic 47, 3) := by decide +kernel
theorem dX7_common__24 : decode cX7_common_ 24 = .ok (.ifCond .ne 6, 3) := by decide +kernel
theorem dX7_common__27 : decode cX7_common_ 27 = .ok (.bipush (-2), 2) := by decide +kernel
theorem dX7_common__29 : decode cX7_common_ 29 = .ok (.ireturn, 1) := by decide +kernel
theorem dX7_common__30 : decode cX7_common_ 30 = .ok (.aload_n 0, 1) := by decide +kernel
theorem dX7_common__31 : decode cX7_common_ 31 = .ok (.iload_n 1, 1) := by decide +kernel
theorem dX7_common__32 : decode cX7_common_ 32 = .ok (.invokevirtual 149, 3) := by decide +kernel
theorem dX7_common__35 : decode cX7_common_ 35 = .ok (.iconst 0, 1) := by decide +kernel
theorem dX7_common__36 : decode cX7_common_ 36 = .ok (.istore 4, 2) := by decide +kernel
theorem dX7_common__38 : decode cX7_common_ 38 = .ok (.iload 4, 2) := by decide +kernel
theorem dX7_common__40 : decode cX7_common_ 40 = .ok (.sipush 1024, 3) := by decide +kernel
theorem dX7_common__43 : decode cX7_common_ 43 = .ok (.if_icmp .ge 30, 3) := by decide +kernel
theorem dX7_common__46 : decode cX7_common_ 46 = .ok (.aload_n 0, 1) := by decide +kernel
theorem dX7_common__47 : decode cX7_common_ 47 = .ok (.getfield 41, 3) := by decide +kernel
theorem dX7_common__50 : decode cX7_common_ 50 = .ok (.iload 4, 2) := by decide +kernel
theorem dX7_common__52 : decode cX7_common_ 52 = .ok (.aload_n 0, 1) := by decide +kernel
theorem dX7_common__53 : decode cX7_common_ 53 = .ok (.iload 4, 2) := by decide +kernel
theorem dX7_common__55 : decode cX7_common_ 55 = .ok (.bipush 32, 2) := by decide +kernel
theorem dX7_common__57 : decode cX7_common_ 57 = .ok (.irem, 1) := by decide +kernel
theorem dX7_common__58 : decode cX7_common_ 58 = .ok (.iload 4, 2) := by decide +kernel
theorem dX7_common__60 : decode cX7_common_ 60 = .ok (.bipush 32, 2) := by decide +kernel
theorem dX7_common__62 : decode cX7_common_ 62 = .ok (.idiv, 1) := by decide +kernel
theorem dX7_common__63 : decode cX7_common_ 63 = .ok (.invokevirtual 145, 3) := by decide +kernel
theorem dX7_common__66 : decode cX7_common_ 66 = .ok (.iastore, 1) := by decide +kernel
theorem dX7_common__67 : decode cX7_common_ 67 = .ok (.iinc 4 1, 3) := by decide +kernel
theorem dX7_common__70 : decode cX7_common_ 70 = .ok (.goto (-32), 3) := by decide +kernel
theorem dX7_common__73 : decode cX7_common_ 73 = .ok (.aload_n 0, 1) := by decide +kernel
theorem dX7_common__74 : decode cX7_common_ 74 = .ok (.iload_n 2, 1) := by decide +kernel
theorem dX7_common__75 : decode cX7_common_ 75 = .ok (.invokevirtual 149, 3) := by decide +kernel
theorem dX7_common__78 : decode cX7_common_ 78 = .ok (.iconst 0, 1) := by decide +kernel
theorem dX7_common__79 : decode cX7_common_ 79 = .ok (.istore 4, 2) := by decide +kernel
theorem dX7_common__81 : decode cX7_common_ 81 = .ok (.iconst 0, 1) := by decide +kernel
theorem dX7_common__82 : decode cX7_common_ 82 = .ok (.istore 5, 2) := by decide +kernel
theorem dX7_common__84 : decode cX7_common_ 84 = .ok (.iload 5, 2) := by decide +kernel
theorem dX7_common__86 : decode cX7_common_ 86 = .ok (.sipush 1024, 3) := by decide +kernel
theorem dX7_common__89 : decode cX7_common_ 89 = .ok (.if_icmp .ge 98, 3) := by decide +kernel
theorem dX7_common__92 : decode cX7_common_ 92 = .ok (.aload_n 0, 1) := by decide +kernel
theorem dX7_common__93 : decode cX7_common_ 93 = .ok (.iload 5, 2) := by decide +kernel
theorem dX7_common__95 : decode cX7_common_ 95 = .ok (.bipush 32, 2) := by decide +kernel
theorem dX7_common__97 : decode cX7_common_ 97 = .ok (.irem, 1) := by decide +kernel
theorem dX7_common__98 : decode cX7_common_ 98 = .ok (.iload 5, 2) := by decide +kernel
theorem dX7_common__100 : decode cX7_common_ 100 = .ok (.bipush 32, 2) := by decide +kernel
theorem dX7_common__102 : decode cX7_common_ 102 = .ok (.idiv, 1) := by decide +kernel
theorem dX7_common__103 : decode cX7_common_ 103 = .ok (.invokevirtual 145, 3) := by decide +kernel
theorem dX7_common__106 : decode cX7_common_ 106 = .ok (.istore 6, 2) := by decide +kernel
theorem dX7_common__108 : decode cX7_common_ 108 = .ok (.iload 4, 2) := by decide +kernel
theorem dX7_common__110 : decode cX7_common_ 110 = .ok (.iload_n 3, 1) := by decide +kernel
theorem dX7_common__111 : decode cX7_common_ 111 = .ok (.ifCond .ne 20, 3) := by decide +kernel
theorem dX7_common__114 : decode cX7_common_ 114 = .ok (.iload 6, 2) := by decide +kernel
theorem dX7_common__116 : decode cX7_common_ 116 = .ok (.iconst 2, 1) := by decide +kernel
theorem dX7_common__117 : decode cX7_common_ 117 = .ok (.if_icmp .ne 14, 3) := by decide +kernel
theorem dX7_common__120 : decode cX7_common_ 120 = .ok (.aload_n 0, 1) := by decide +kernel
theorem dX7_common__121 : decode cX7_common_ 121 = .ok (.getfield 41, 3) := by decide +kernel
theorem dX7_common__124 : decode cX7_common_ 124 = .ok (.iload 5, 2) := by decide +kernel
theorem dX7_common__126 : decode cX7_common_ 126 = .ok (.iaload, 1) := by decide +kernel
theorem dX7_common__127 : decode cX7_common_ 127 = .ok (.iconst 2, 1) := by decide +kernel
theorem dX7_common__128 : decode cX7_common_ 128 = .ok (.if_icmp .eq 45, 3) := by decide +kernel
theorem dX7_common__131 : decode cX7_common_ 131 = .ok (.iload_n 3, 1) := by decide +kernel
theorem dX7_common__132 : decode cX7_common_ 132 = .ok (.iconst 1, 1) := by decide +kernel
theorem dX7_common__133 : decode cX7_common_ 133 = .ok (.if_icmp .ne 20, 3) := by decide +kernel
theorem dX7_common__136 : decode cX7_common_ 136 = .ok (.iload 6, 2) := by decide +kernel
theorem dX7_common__138 : decode cX7_common_ 138 = .ok (.iconst 1, 1) := by decide +kernel
theorem dX7_common__139 : decode cX7_common_ 139 = .ok (.if_icmp .ne 14, 3) := by decide +kernel
theorem dX7_common__142 : decode cX7_common_ 142 = .ok (.aload_n 0, 1) := by decide +kernel
theorem dX7_common__143 : decode cX7_common_ 143 = .ok (.getfield 41, 3) := by decide +kernel
theorem dX7_common__146 : decode cX7_common_ 146 = .ok (.iload 5, 2) := by decide +kernel
theorem dX7_common__148 : decode cX7_common_ 148 = .ok (.iaload, 1) := by decide +kernel
theorem dX7_common__149 : decode cX7_common_ 149 = .ok (.iconst 1, 1) := by decide +kernel
theorem dX7_common__150 : decode cX7_common_ 150 = .ok (.if_icmp .eq 23, 3) := by decide +kernel
theorem dX7_common__153 : decode cX7_common_ 153 = .ok (.iload_n 3, 1) := by decide +kernel
theorem dX7_common__154 : decode cX7_common_ 154 = .ok (.iconst 2, 1) := by decide +kernel
theorem dX7_common__155 : decode cX7_common_ 155 = .ok (.if_icmp .ne 22, 3) := by decide +kernel
theorem dX7_common__158 : decode cX7_common_ 158 = .ok (.iload 6, 2) := by decide +kernel
theorem dX7_common__160 : decode cX7_common_ 160 = .ok (.ifCond .le 17, 3) := by decide +kernel
theorem dX7_common__163 : decode cX7_common_ 163 = .ok (.aload_n 0, 1) := by decide +kernel
theorem dX7_common__164 : decode cX7_common_ 164 = .ok (.getfield 41, 3) := by decide +kernel
theorem dX7_common__167 : decode cX7_common_ 167 = .ok (.iload 5, 2) := by decide +kernel
theorem dX7_common__169 : decode cX7_common_ 169 = .ok (.iaload, 1) := by decide +kernel
theorem dX7_common__170 : decode cX7_common_ 170 = .ok (.ifCond .le 7, 3) := by decide +kernel
theorem dX7_common__173 : decode cX7_common_ 173 = .ok (.iconst 1, 1) := by decide +kernel
theorem dX7_common__174 : decode cX7_common_ 174 = .ok (.goto 4, 3) := by decide +kernel
theorem dX7_common__177 : decode cX7_common_ 177 = .ok (.iconst 0, 1) := by decide +kernel
theorem dX7_common__178 : decode cX7_common_ 178 = .ok (.iadd, 1) := by decide +kernel
theorem dX7_common__179 : decode cX7_common_ 179 = .ok (.istore 4, 2) := by decide +kernel
theorem dX7_common__181 : decode cX7_common_ 181 = .ok (.iinc 5 1, 3) := by decide +kernel
theorem dX7_common__184 : decode cX7_common_ 184 = .ok (.goto (-100), 3) := by decide +kernel
theorem dX7_common__187 : decode cX7_common_ 187 = .ok (.iload 4, 2) := by decide +kernel
theorem dX7_common__189 : decode cX7_common_ 189 = .ok (.ireturn, 1) := by decide +kernel
set_option maxRecDepth 20000 in
theorem ggX7_right_X7_isPost : GoodIn wsX7_right wsX7_isPost := goodIn_r _ [5, 6, 7, 4, 8] (by decide +kernel) (by decide +kernel)
set_option maxRecDepth 20000 in
theorem gX7_right_X7_isPost : GoodIn wsX7_right (va_wsS RX7 121 yX7_isPost wsX7_isPost) := goodIn_app (goodIn_of _ (by decide +kernel)) ggX7_right_X7_isPost
set_option maxRecDepth 20000 in
theorem ggX7_right_X7_layOwners : GoodIn wsX7_right wsX7_layOwners := goodIn_r _ [12, 1, 13, 14, 15, 16, 4, 17, 18, 19, 20, 21, 22, 23, 24, 25, 26, 27, 28, 29, 30, 31, 32, 33, 34, 35, 36, 37, 38, 39, 40, 41, 6, 7, 8, 42, 43, 44, 45, 46, 47, 48, 49, 50, 51, 52, 53, 54, 55, 56, 57, 58, 59, 60, 61, 62, 63, 64, 65, 66, 67, 68, 69, 70, 71, 72, 73] (by decide +kernel) (by decide +kernel)
set_option maxRecDepth 20000 in
theorem gX7_right_X7_layOwners : GoodIn wsX7_right (wsV RX7 153 RX7 yX7_layOwners wsX7_layOwners) := goodIn_app (goodIn_of _ (by decide +kernel)) ggX7_right_X7_layOwners
theorem dX7_right_0 : decode cX7_right 0 = .ok (.iload_n 1, 1) := by decide +kernel
theorem dX7_right_1 : decode cX7_right 1 = .ok (.iload_n 2, 1) := by decide +kernel
theorem dX7_right_2 : decode cX7_right 2 = .ok (.invokestatic 121, 3) := by decide +kernel
theorem dX7_right_5 : decode cX7_right 5 = .ok (.ifCond .ne 6, 3) := by decide +kernel
theorem dX7_right_8 : decode cX7_right 8 = .ok (.bipush (-2), 2) := by decide +kernel
theorem dX7_right_10 : decode cX7_right 10 = .ok (.ireturn, 1) := by decide +kernel
theorem dX7_right_11 : decode cX7_right 11 = .ok (.aload_n 0, 1) := by decide +kernel
theorem dX7_right_12 : decode cX7_right 12 = .ok (.invokevirtual 153, 3) := by decide +kernel
theorem dX7_right_15 : decode cX7_right 15 = .ok (.aload_n 0, 1) := by decide +kernel
theorem dX7_right_16 : decode cX7_right 16 = .ok (.getfield 35, 3) := by decide +kernel
theorem dX7_right_19 : decode cX7_right 19 = .ok (.bipush 32, 2) := by decide +kernel
theorem dX7_right_21 : decode cX7_right 21 = .ok (.iload_n 2, 1) := by decide +kernel
theorem dX7_right_22 : decode cX7_right 22 = .ok (.imul, 1) := by decide +kernel
theorem dX7_right_23 : decode cX7_right 23 = .ok (.iload_n 1, 1) := by decide +kernel
theorem dX7_right_24 : decode cX7_right 24 = .ok (.iadd, 1) := by decide +kernel
theorem dX7_right_25 : decode cX7_right 25 = .ok (.iaload, 1) := by decide +kernel
theorem dX7_right_26 : decode cX7_right 26 = .ok (.ireturn, 1) := by decide +kernel
set_option maxRecDepth 20000 in
theorem ggX7_spread_X7_isPost : GoodIn wsX7_spread wsX7_isPost := goodIn_r _ [7, 8, 9, 6, 10] (by decide +kernel) (by decide +kernel)
set_option maxRecDepth 20000 in
theorem gX7_spread_X7_isPost : GoodIn wsX7_spread (va_wsS RX7 121 yX7_isPost wsX7_isPost) := goodIn_app (goodIn_of _ (by decide +kernel)) ggX7_spread_X7_isPost
theorem dX7_spread_0 : decode cX7_spread 0 = .ok (.iload_n 1, 1) := by decide +kernel
theorem dX7_spread_1 : decode cX7_spread 1 = .ok (.iload_n 2, 1) := by decide +kernel
theorem dX7_spread_2 : decode cX7_spread 2 = .ok (.invokestatic 121, 3) := by decide +kernel
theorem dX7_spread_5 : decode cX7_spread 5 = .ok (.ifCond .eq 57, 3) := by decide +kernel
theorem dX7_spread_8 : decode cX7_spread 8 = .ok (.aload_n 0, 1) := by decide +kernel
theorem dX7_spread_9 : decode cX7_spread 9 = .ok (.getfield 35, 3) := by decide +kernel
theorem dX7_spread_12 : decode cX7_spread 12 = .ok (.bipush 32, 2) := by decide +kernel
theorem dX7_spread_14 : decode cX7_spread 14 = .ok (.iload_n 2, 1) := by decide +kernel
theorem dX7_spread_15 : decode cX7_spread 15 = .ok (.imul, 1) := by decide +kernel
theorem dX7_spread_16 : decode cX7_spread 16 = .ok (.iload_n 1, 1) := by decide +kernel
theorem dX7_spread_17 : decode cX7_spread 17 = .ok (.iadd, 1) := by decide +kernel
theorem dX7_spread_18 : decode cX7_spread 18 = .ok (.iaload, 1) := by decide +kernel
theorem dX7_spread_19 : decode cX7_spread 19 = .ok (.bipush (-6), 2) := by decide +kernel
theorem dX7_spread_21 : decode cX7_spread 21 = .ok (.if_icmp .ne 41, 3) := by decide +kernel
theorem dX7_spread_24 : decode cX7_spread 24 = .ok (.aload_n 0, 1) := by decide +kernel
theorem dX7_spread_25 : decode cX7_spread 25 = .ok (.getfield 35, 3) := by decide +kernel
theorem dX7_spread_28 : decode cX7_spread 28 = .ok (.bipush 32, 2) := by decide +kernel
theorem dX7_spread_30 : decode cX7_spread 30 = .ok (.iload_n 2, 1) := by decide +kernel
theorem dX7_spread_31 : decode cX7_spread 31 = .ok (.imul, 1) := by decide +kernel
theorem dX7_spread_32 : decode cX7_spread 32 = .ok (.iload_n 1, 1) := by decide +kernel
theorem dX7_spread_33 : decode cX7_spread 33 = .ok (.iadd, 1) := by decide +kernel
theorem dX7_spread_34 : decode cX7_spread 34 = .ok (.bipush 6, 2) := by decide +kernel
theorem dX7_spread_36 : decode cX7_spread 36 = .ok (.iastore, 1) := by decide +kernel
theorem dX7_spread_37 : decode cX7_spread 37 = .ok (.aload_n 0, 1) := by decide +kernel
theorem dX7_spread_38 : decode cX7_spread 38 = .ok (.getfield 44, 3) := by decide +kernel
theorem dX7_spread_41 : decode cX7_spread 41 = .ok (.aload_n 0, 1) := by decide +kernel
theorem dX7_spread_42 : decode cX7_spread 42 = .ok (.getfield 200, 3) := by decide +kernel
theorem dX7_spread_45 : decode cX7_spread 45 = .ok (.bipush 32, 2) := by decide +kernel
theorem dX7_spread_47 : decode cX7_spread 47 = .ok (.iload_n 2, 1) := by decide +kernel
theorem dX7_spread_48 : decode cX7_spread 48 = .ok (.imul, 1) := by decide +kernel
theorem dX7_spread_49 : decode cX7_spread 49 = .ok (.iload_n 1, 1) := by decide +kernel
theorem dX7_spread_50 : decode cX7_spread 50 = .ok (.iadd, 1) := by decide +kernel
theorem dX7_spread_51 : decode cX7_spread 51 = .ok (.iastore, 1) := by decide +kernel
theorem dX7_spread_52 : decode cX7_spread 52 = .ok (.aload_n 0, 1) := by decide +kernel
theorem dX7_spread_53 : decode cX7_spread 53 = .ok (.dup, 1) := by decide +kernel
theorem dX7_spread_54 : decode cX7_spread 54 = .ok (.getfield 200, 3) := by decide +kernel
theorem dX7_spread_57 : decode cX7_spread 57 = .ok (.iconst 1, 1) := by decide +kernel
theorem dX7_spread_58 : decode cX7_spread 58 = .ok (.iadd, 1) := by decide +kernel
theorem dX7_spread_59 : decode cX7_spread 59 = .ok (.putfield 200, 3) := by decide +kernel
theorem dX7_spread_62 : decode cX7_spread 62 = .ok (.return_, 1) := by decide +kernel
set_option maxRecDepth 20000 in
theorem ggX7_gapFrom_X7_spread : GoodIn wsX7_gapFrom wsX7_spread := goodIn_r _ [7, 8, 2, 1, 9, 10, 6, 11, 12, 13, 14, 15, 16, 17, 18, 19, 20, 21, 22, 23, 24, 25, 26, 27, 28, 29, 30, 31, 32, 33, 34, 35, 36, 37, 38] (by decide +kernel) (by decide +kernel)
set_option maxRecDepth 20000 in
theorem gX7_gapFrom_X7_spread : GoodIn wsX7_gapFrom (wsV RX7 203 RX7 yX7_spread wsX7_spread) := goodIn_app (goodIn_of _ (by decide +kernel)) ggX7_gapFrom_X7_spread
theorem dX7_gapFrom_0 : decode cX7_gapFrom 0 = .ok (.aload_n 0, 1) := by decide +kernel
theorem dX7_gapFrom_1 : decode cX7_gapFrom 1 = .ok (.iconst 0, 1) := by decide +kernel
theorem dX7_gapFrom_2 : decode cX7_gapFrom 2 = .ok (.putfield 200, 3) := by decide +kernel
theorem dX7_gapFrom_5 : decode cX7_gapFrom 5 = .ok (.aload_n 0, 1) := by decide +kernel
theorem dX7_gapFrom_6 : decode cX7_gapFrom 6 = .ok (.iload_n 1, 1) := by decide +kernel
theorem dX7_gapFrom_7 : decode cX7_gapFrom 7 = .ok (.bipush 32, 2) := by decide +kernel
theorem dX7_gapFrom_9 : decode cX7_gapFrom 9 = .ok (.irem, 1) := by decide +kernel
theorem dX7_gapFrom_10 : decode cX7_gapFrom 10 = .ok (.iload_n 1, 1) := by decide +kernel
theorem dX7_gapFrom_11 : decode cX7_gapFrom 11 = .ok (.bipush 32, 2) := by decide +kernel
theorem dX7_gapFrom_13 : decode cX7_gapFrom 13 = .ok (.idiv, 1) := by decide +kernel
theorem dX7_gapFrom_14 : decode cX7_gapFrom 14 = .ok (.invokevirtual 203, 3) := by decide +kernel
theorem dX7_gapFrom_17 : decode cX7_gapFrom 17 = .ok (.iconst 0, 1) := by decide +kernel
theorem dX7_gapFrom_18 : decode cX7_gapFrom 18 = .ok (.istore_n 2, 1) := by decide +kernel
theorem dX7_gapFrom_19 : decode cX7_gapFrom 19 = .ok (.iload_n 2, 1) := by decide +kernel
theorem dX7_gapFrom_20 : decode cX7_gapFrom 20 = .ok (.aload_n 0, 1) := by decide +kernel
theorem dX7_gapFrom_21 : decode cX7_gapFrom 21 = .ok (.getfield 200, 3) := by decide +kernel
theorem dX7_gapFrom_24 : decode cX7_gapFrom 24 = .ok (.if_icmp .ge 66, 3) := by decide +kernel
theorem dX7_gapFrom_27 : decode cX7_gapFrom 27 = .ok (.aload_n 0, 1) := by decide +kernel
theorem dX7_gapFrom_28 : decode cX7_gapFrom 28 = .ok (.getfield 44, 3) := by decide +kernel
theorem dX7_gapFrom_31 : decode cX7_gapFrom 31 = .ok (.iload_n 2, 1) := by decide +kernel
theorem dX7_gapFrom_32 : decode cX7_gapFrom 32 = .ok (.iaload, 1) := by decide +kernel
theorem dX7_gapFrom_33 : decode cX7_gapFrom 33 = .ok (.bipush 32, 2) := by decide +kernel
theorem dX7_gapFrom_35 : decode cX7_gapFrom 35 = .ok (.irem, 1) := by decide +kernel
theorem dX7_gapFrom_36 : decode cX7_gapFrom 36 = .ok (.istore_n 3, 1) := by decide +kernel
theorem dX7_gapFrom_37 : decode cX7_gapFrom 37 = .ok (.aload_n 0, 1) := by decide +kernel
theorem dX7_gapFrom_38 : decode cX7_gapFrom 38 = .ok (.getfield 44, 3) := by decide +kernel
theorem dX7_gapFrom_41 : decode cX7_gapFrom 41 = .ok (.iload_n 2, 1) := by decide +kernel
theorem dX7_gapFrom_42 : decode cX7_gapFrom 42 = .ok (.iaload, 1) := by decide +kernel
theorem dX7_gapFrom_43 : decode cX7_gapFrom 43 = .ok (.bipush 32, 2) := by decide +kernel
theorem dX7_gapFrom_45 : decode cX7_gapFrom 45 = .ok (.idiv, 1) := by decide +kernel
theorem dX7_gapFrom_46 : decode cX7_gapFrom 46 = .ok (.istore 4, 2) := by decide +kernel
theorem dX7_gapFrom_48 : decode cX7_gapFrom 48 = .ok (.aload_n 0, 1) := by decide +kernel
theorem dX7_gapFrom_49 : decode cX7_gapFrom 49 = .ok (.iload_n 3, 1) := by decide +kernel
theorem dX7_gapFrom_50 : decode cX7_gapFrom 50 = .ok (.iconst 1, 1) := by decide +kernel
theorem dX7_gapFrom_51 : decode cX7_gapFrom 51 = .ok (.iadd, 1) := by decide +kernel
theorem dX7_gapFrom_52 : decode cX7_gapFrom 52 = .ok (.iload 4, 2) := by decide +kernel
theorem dX7_gapFrom_54 : decode cX7_gapFrom 54 = .ok (.invokevirtual 203, 3) := by decide +kernel
theorem dX7_gapFrom_57 : decode cX7_gapFrom 57 = .ok (.aload_n 0, 1) := by decide +kernel
theorem dX7_gapFrom_58 : decode cX7_gapFrom 58 = .ok (.iload_n 3, 1) := by decide +kernel
theorem dX7_gapFrom_59 : decode cX7_gapFrom 59 = .ok (.iconst 1, 1) := by decide +kernel
theorem dX7_gapFrom_60 : decode cX7_gapFrom 60 = .ok (.isub, 1) := by decide +kernel
theorem dX7_gapFrom_61 : decode cX7_gapFrom 61 = .ok (.iload 4, 2) := by decide +kernel
theorem dX7_gapFrom_63 : decode cX7_gapFrom 63 = .ok (.invokevirtual 203, 3) := by decide +kernel
theorem dX7_gapFrom_66 : decode cX7_gapFrom 66 = .ok (.aload_n 0, 1) := by decide +kernel
theorem dX7_gapFrom_67 : decode cX7_gapFrom 67 = .ok (.iload_n 3, 1) := by decide +kernel
theorem dX7_gapFrom_68 : decode cX7_gapFrom 68 = .ok (.iload 4, 2) := by decide +kernel
theorem dX7_gapFrom_70 : decode cX7_gapFrom 70 = .ok (.iconst 1, 1) := by decide +kernel
theorem dX7_gapFrom_71 : decode cX7_gapFrom 71 = .ok (.iadd, 1) := by decide +kernel
theorem dX7_gapFrom_72 : decode cX7_gapFrom 72 = .ok (.invokevirtual 203, 3) := by decide +kernel
theorem dX7_gapFrom_75 : decode cX7_gapFrom 75 = .ok (.aload_n 0, 1) := by decide +kernel
theorem dX7_gapFrom_76 : decode cX7_gapFrom 76 = .ok (.iload_n 3, 1) := by decide +kernel
theorem dX7_gapFrom_77 : decode cX7_gapFrom 77 = .ok (.iload 4, 2) := by decide +kernel
theorem dX7_gapFrom_79 : decode cX7_gapFrom 79 = .ok (.iconst 1, 1) := by decide +kernel
theorem dX7_gapFrom_80 : decode cX7_gapFrom 80 = .ok (.isub, 1) := by decide +kernel
theorem dX7_gapFrom_81 : decode cX7_gapFrom 81 = .ok (.invokevirtual 203, 3) := by decide +kernel
theorem dX7_gapFrom_84 : decode cX7_gapFrom 84 = .ok (.iinc 2 1, 3) := by decide +kernel
theorem dX7_gapFrom_87 : decode cX7_gapFrom 87 = .ok (.goto (-68), 3) := by decide +kernel
theorem dX7_gapFrom_90 : decode cX7_gapFrom 90 = .ok (.aload_n 0, 1) := by decide +kernel
theorem dX7_gapFrom_91 : decode cX7_gapFrom 91 = .ok (.getfield 200, 3) := by decide +kernel
theorem dX7_gapFrom_94 : decode cX7_gapFrom 94 = .ok (.ireturn, 1) := by decide +kernel
set_option maxRecDepth 20000 in
theorem ggX7_gap_X7_in : GoodIn wsX7_gap wsX7_in := goodIn_r _ [5] (by decide +kernel) (by decide +kernel)
set_option maxRecDepth 20000 in
theorem gX7_gap_X7_in : GoodIn wsX7_gap (va_wsS RX7 47 yX7_in wsX7_in) := goodIn_app (goodIn_of _ (by decide +kernel)) ggX7_gap_X7_in
set_option maxRecDepth 20000 in
theorem ggX7_gap_X7_layOwners : GoodIn wsX7_gap wsX7_layOwners := goodIn_r _ [9, 1, 10, 11, 12, 13, 4, 14, 15, 16, 17, 18, 19, 20, 21, 22, 23, 24, 25, 26, 27, 28, 29, 30, 31, 32, 33, 34, 35, 36, 37, 38, 2, 3, 5, 39, 40, 41, 42, 43, 44, 45, 46, 60, 61, 62, 63, 64, 65, 66, 67, 68, 69, 70, 71, 72, 73, 74, 75, 76, 77, 78, 79, 80, 81, 82, 83] (by decide +kernel) (by decide +kernel)
set_option maxRecDepth 20000 in
theorem gX7_gap_X7_layOwners : GoodIn wsX7_gap (wsV RX7 153 RX7 yX7_layOwners wsX7_layOwners) := goodIn_app (goodIn_of _ (by decide +kernel)) ggX7_gap_X7_layOwners
set_option maxRecDepth 20000 in
theorem ggX7_gap_X7_gapFrom : GoodIn wsX7_gap wsX7_gapFrom := goodIn_r _ [50, 51, 52, 53, 54, 55, 4, 56, 1, 57, 58, 59, 2, 3, 5, 60, 61, 62, 63, 64, 65, 66, 67, 68, 69, 70, 71, 72, 73, 74, 75, 76, 77, 78, 79, 80, 81, 82, 83] (by decide +kernel) (by decide +kernel)
set_option maxRecDepth 20000 in
theorem gX7_gap_X7_gapFrom : GoodIn wsX7_gap (wsV RX7 206 RX7 yX7_gapFrom wsX7_gapFrom) := goodIn_app (goodIn_of _ (by decide +kernel)) ggX7_gap_X7_gapFrom
theorem dX7_gap_0 : decode cX7_gap 0 = .ok (.iload_n 1, 1) := by decide +kernel
theorem dX7_gap_1 : decode cX7_gap 1 = .ok (.iconst 0, 1) := by decide +kernel
theorem dX7_gap_2 : decode cX7_gap 2 = .ok (.iconst 4, 1) := by decide +kernel
theorem dX7_gap_3 : decode cX7_gap 3 = .ok (.invokestatic 47, 3) := by decide +kernel
theorem dX7_gap_6 : decode cX7_gap 6 = .ok (.ifCond .ne 6, 3) := by decide +kernel
theorem dX7_gap_9 : decode cX7_gap 9 = .ok (.bipush (-2), 2) := by decide +kernel
theorem dX7_gap_11 : decode cX7_gap 11 = .ok (.ireturn, 1) := by decide +kernel
theorem dX7_gap_12 : decode cX7_gap 12 = .ok (.aload_n 0, 1) := by decide +kernel
theorem dX7_gap_13 : decode cX7_gap 13 = .ok (.invokevirtual 153, 3) := by decide +kernel
theorem dX7_gap_16 : decode cX7_gap 16 = .ok (.iconst 0, 1) := by decide +kernel
theorem dX7_gap_17 : decode cX7_gap 17 = .ok (.istore_n 2, 1) := by decide +kernel
theorem dX7_gap_18 : decode cX7_gap 18 = .ok (.iconst 0, 1) := by decide +kernel
theorem dX7_gap_19 : decode cX7_gap 19 = .ok (.istore_n 3, 1) := by decide +kernel
theorem dX7_gap_20 : decode cX7_gap 20 = .ok (.iconst 0, 1) := by decide +kernel
theorem dX7_gap_21 : decode cX7_gap 21 = .ok (.istore 4, 2) := by decide +kernel
theorem dX7_gap_23 : decode cX7_gap 23 = .ok (.bipush (-6), 2) := by decide +kernel
theorem dX7_gap_25 : decode cX7_gap 25 = .ok (.istore 5, 2) := by decide +kernel
theorem dX7_gap_27 : decode cX7_gap 27 = .ok (.iconst 0, 1) := by decide +kernel
theorem dX7_gap_28 : decode cX7_gap 28 = .ok (.istore 6, 2) := by decide +kernel
theorem dX7_gap_30 : decode cX7_gap 30 = .ok (.iload 6, 2) := by decide +kernel
theorem dX7_gap_32 : decode cX7_gap 32 = .ok (.sipush 1024, 3) := by decide +kernel
theorem dX7_gap_35 : decode cX7_gap 35 = .ok (.if_icmp .ge 69, 3) := by decide +kernel
theorem dX7_gap_38 : decode cX7_gap 38 = .ok (.aload_n 0, 1) := by decide +kernel
theorem dX7_gap_39 : decode cX7_gap 39 = .ok (.getfield 35, 3) := by decide +kernel
theorem dX7_gap_42 : decode cX7_gap 42 = .ok (.iload 6, 2) := by decide +kernel
theorem dX7_gap_44 : decode cX7_gap 44 = .ok (.iaload, 1) := by decide +kernel
theorem dX7_gap_45 : decode cX7_gap 45 = .ok (.bipush (-6), 2) := by decide +kernel
theorem dX7_gap_47 : decode cX7_gap 47 = .ok (.if_icmp .ne 51, 3) := by decide +kernel
theorem dX7_gap_50 : decode cX7_gap 50 = .ok (.aload_n 0, 1) := by decide +kernel
theorem dX7_gap_51 : decode cX7_gap 51 = .ok (.iload 6, 2) := by decide +kernel
theorem dX7_gap_53 : decode cX7_gap 53 = .ok (.invokevirtual 206, 3) := by decide +kernel
theorem dX7_gap_56 : decode cX7_gap 56 = .ok (.istore 7, 2) := by decide +kernel
theorem dX7_gap_58 : decode cX7_gap 58 = .ok (.iload_n 2, 1) := by decide +kernel
theorem dX7_gap_59 : decode cX7_gap 59 = .ok (.iload 7, 2) := by decide +kernel
theorem dX7_gap_61 : decode cX7_gap 61 = .ok (.iadd, 1) := by decide +kernel
theorem dX7_gap_62 : decode cX7_gap 62 = .ok (.istore_n 2, 1) := by decide +kernel
theorem dX7_gap_63 : decode cX7_gap 63 = .ok (.iinc 3 1, 3) := by decide +kernel
theorem dX7_gap_66 : decode cX7_gap 66 = .ok (.iload 7, 2) := by decide +kernel
theorem dX7_gap_68 : decode cX7_gap 68 = .ok (.iload 4, 2) := by decide +kernel
theorem dX7_gap_70 : decode cX7_gap 70 = .ok (.if_icmp .le 8, 3) := by decide +kernel
theorem dX7_gap_73 : decode cX7_gap 73 = .ok (.iload 6, 2) := by decide +kernel
theorem dX7_gap_75 : decode cX7_gap 75 = .ok (.goto 5, 3) := by decide +kernel
theorem dX7_gap_78 : decode cX7_gap 78 = .ok (.iload 5, 2) := by decide +kernel
theorem dX7_gap_80 : decode cX7_gap 80 = .ok (.istore 5, 2) := by decide +kernel
theorem dX7_gap_82 : decode cX7_gap 82 = .ok (.iload 7, 2) := by decide +kernel
theorem dX7_gap_84 : decode cX7_gap 84 = .ok (.iload 4, 2) := by decide +kernel
theorem dX7_gap_86 : decode cX7_gap 86 = .ok (.if_icmp .le 8, 3) := by decide +kernel
theorem dX7_gap_89 : decode cX7_gap 89 = .ok (.iload 7, 2) := by decide +kernel
theorem dX7_gap_91 : decode cX7_gap 91 = .ok (.goto 5, 3) := by decide +kernel
theorem dX7_gap_94 : decode cX7_gap 94 = .ok (.iload 4, 2) := by decide +kernel
theorem dX7_gap_96 : decode cX7_gap 96 = .ok (.istore 4, 2) := by decide +kernel
theorem dX7_gap_98 : decode cX7_gap 98 = .ok (.iinc 6 1, 3) := by decide +kernel
theorem dX7_gap_101 : decode cX7_gap 101 = .ok (.goto (-71), 3) := by decide +kernel
theorem dX7_gap_104 : decode cX7_gap 104 = .ok (.iload_n 1, 1) := by decide +kernel
theorem dX7_gap_105 : decode cX7_gap 105 = .ok (.iconst 3, 1) := by decide +kernel
theorem dX7_gap_106 : decode cX7_gap 106 = .ok (.if_icmp .ge 23, 3) := by decide +kernel
theorem dX7_gap_109 : decode cX7_gap 109 = .ok (.iload_n 1, 1) := by decide +kernel
theorem dX7_gap_110 : decode cX7_gap 110 = .ok (.ifCond .ne 7, 3) := by decide +kernel
theorem dX7_gap_113 : decode cX7_gap 113 = .ok (.iload_n 2, 1) := by decide +kernel
theorem dX7_gap_114 : decode cX7_gap 114 = .ok (.goto 14, 3) := by decide +kernel
theorem dX7_gap_117 : decode cX7_gap 117 = .ok (.iload_n 1, 1) := by decide +kernel
theorem dX7_gap_118 : decode cX7_gap 118 = .ok (.iconst 1, 1) := by decide +kernel
theorem dX7_gap_119 : decode cX7_gap 119 = .ok (.if_icmp .ne 7, 3) := by decide +kernel
theorem dX7_gap_122 : decode cX7_gap 122 = .ok (.iload_n 3, 1) := by decide +kernel
theorem dX7_gap_123 : decode cX7_gap 123 = .ok (.goto 5, 3) := by decide +kernel
theorem dX7_gap_126 : decode cX7_gap 126 = .ok (.iload 4, 2) := by decide +kernel
theorem dX7_gap_128 : decode cX7_gap 128 = .ok (.ireturn, 1) := by decide +kernel
theorem dX7_gap_129 : decode cX7_gap 129 = .ok (.iload 5, 2) := by decide +kernel
theorem dX7_gap_131 : decode cX7_gap 131 = .ok (.ifCond .ge 8, 3) := by decide +kernel
theorem dX7_gap_134 : decode cX7_gap 134 = .ok (.bipush (-6), 2) := by decide +kernel
theorem dX7_gap_136 : decode cX7_gap 136 = .ok (.goto 21, 3) := by decide +kernel
theorem dX7_gap_139 : decode cX7_gap 139 = .ok (.iload_n 1, 1) := by decide +kernel
theorem dX7_gap_140 : decode cX7_gap 140 = .ok (.iconst 3, 1) := by decide +kernel
theorem dX7_gap_141 : decode cX7_gap 141 = .ok (.if_icmp .ne 11, 3) := by decide +kernel
theorem dX7_gap_144 : decode cX7_gap 144 = .ok (.iload 5, 2) := by decide +kernel
theorem dX7_gap_146 : decode cX7_gap 146 = .ok (.bipush 32, 2) := by decide +kernel
theorem dX7_gap_148 : decode cX7_gap 148 = .ok (.irem, 1) := by decide +kernel
theorem dX7_gap_149 : decode cX7_gap 149 = .ok (.goto 8, 3) := by decide +kernel
theorem dX7_gap_152 : decode cX7_gap 152 = .ok (.iload 5, 2) := by decide +kernel
theorem dX7_gap_154 : decode cX7_gap 154 = .ok (.bipush 32, 2) := by decide +kernel
theorem dX7_gap_156 : decode cX7_gap 156 = .ok (.idiv, 1) := by decide +kernel
theorem dX7_gap_157 : decode cX7_gap 157 = .ok (.ireturn, 1) := by decide +kernel
set_option maxRecDepth 20000 in
theorem ggX7_heldByMore_X7_look : GoodIn wsX7_heldByMore wsX7_look := goodIn_r _ [7, 2, 8, 9, 10, 39, 40, 41, 42, 43, 44, 45, 46, 47, 48, 49, 50, 51, 52, 53, 54, 55, 56, 57, 58, 59, 60, 61, 62] (by decide +kernel) (by decide +kernel)
set_option maxRecDepth 20000 in
theorem gX7_heldByMore_X7_look : GoodIn wsX7_heldByMore (wsV RX7 149 RX7 yX7_look wsX7_look) := goodIn_app (goodIn_of _ (by decide +kernel)) ggX7_heldByMore_X7_look
set_option maxRecDepth 20000 in
theorem ggX7_heldByMore_X7_liesNow : GoodIn wsX7_heldByMore wsX7_liesNow := goodIn_r _ [14, 8, 10, 15, 16, 17, 6, 18, 9, 19, 20, 21, 22, 23, 24, 25, 26, 27, 28, 29, 30, 31, 32, 33, 34, 35, 36, 37, 38, 39, 40, 41, 42, 43, 44, 45, 46, 47, 48, 49, 50, 51, 52, 53, 54, 55, 56, 57, 58, 59, 60, 61, 62] (by decide +kernel) (by decide +kernel)
set_option maxRecDepth 20000 in
theorem gX7_heldByMore_X7_liesNow : GoodIn wsX7_heldByMore (wsV RX7 145 RX7 yX7_liesNow wsX7_liesNow) := goodIn_app (goodIn_of _ (by decide +kernel)) ggX7_heldByMore_X7_liesNow
theorem dX7_heldByMore_0 : decode cX7_heldByMore 0 = .ok (.iconst 0, 1) := by decide +kernel
theorem dX7_heldByMore_1 : decode cX7_heldByMore 1 = .ok (.istore_n 1, 1) := by decide +kernel
theorem dX7_heldByMore_2 : decode cX7_heldByMore 2 = .ok (.iload_n 1, 1) := by decide +kernel
theorem dX7_heldByMore_3 : decode cX7_heldByMore 3 = .ok (.sipush 1024, 3) := by decide +kernel
theorem dX7_heldByMore_6 : decode cX7_heldByMore 6 = .ok (.if_icmp .ge 16, 3) := by decide +kernel
theorem dX7_heldByMore_9 : decode cX7_heldByMore 9 = .ok (.aload_n 0, 1) := by decide +kernel
theorem dX7_heldByMore_10 : decode cX7_heldByMore 10 = .ok (.getfield 41, 3) := by decide +kernel
theorem dX7_heldByMore_13 : decode cX7_heldByMore 13 = .ok (.iload_n 1, 1) := by decide +kernel
theorem dX7_heldByMore_14 : decode cX7_heldByMore 14 = .ok (.iconst 0, 1) := by decide +kernel
theorem dX7_heldByMore_15 : decode cX7_heldByMore 15 = .ok (.iastore, 1) := by decide +kernel
theorem dX7_heldByMore_16 : decode cX7_heldByMore 16 = .ok (.iinc 1 1, 3) := by decide +kernel
theorem dX7_heldByMore_19 : decode cX7_heldByMore 19 = .ok (.goto (-17), 3) := by decide +kernel
theorem dX7_heldByMore_22 : decode cX7_heldByMore 22 = .ok (.iconst 0, 1) := by decide +kernel
theorem dX7_heldByMore_23 : decode cX7_heldByMore 23 = .ok (.istore_n 1, 1) := by decide +kernel
theorem dX7_heldByMore_24 : decode cX7_heldByMore 24 = .ok (.iload_n 1, 1) := by decide +kernel
theorem dX7_heldByMore_25 : decode cX7_heldByMore 25 = .ok (.aload_n 0, 1) := by decide +kernel
theorem dX7_heldByMore_26 : decode cX7_heldByMore 26 = .ok (.getfield 7, 3) := by decide +kernel
theorem dX7_heldByMore_29 : decode cX7_heldByMore 29 = .ok (.bipush 108, 2) := by decide +kernel
theorem dX7_heldByMore_31 : decode cX7_heldByMore 31 = .ok (.iaload, 1) := by decide +kernel
theorem dX7_heldByMore_32 : decode cX7_heldByMore 32 = .ok (.if_icmp .ge 58, 3) := by decide +kernel
theorem dX7_heldByMore_35 : decode cX7_heldByMore 35 = .ok (.aload_n 0, 1) := by decide +kernel
theorem dX7_heldByMore_36 : decode cX7_heldByMore 36 = .ok (.iload_n 1, 1) := by decide +kernel
theorem dX7_heldByMore_37 : decode cX7_heldByMore 37 = .ok (.invokevirtual 149, 3) := by decide +kernel
theorem dX7_heldByMore_40 : decode cX7_heldByMore 40 = .ok (.iconst 0, 1) := by decide +kernel
theorem dX7_heldByMore_41 : decode cX7_heldByMore 41 = .ok (.istore_n 2, 1) := by decide +kernel
theorem dX7_heldByMore_42 : decode cX7_heldByMore 42 = .ok (.iload_n 2, 1) := by decide +kernel
theorem dX7_heldByMore_43 : decode cX7_heldByMore 43 = .ok (.sipush 1024, 3) := by decide +kernel
theorem dX7_heldByMore_46 : decode cX7_heldByMore 46 = .ok (.if_icmp .ge 38, 3) := by decide +kernel
theorem dX7_heldByMore_49 : decode cX7_heldByMore 49 = .ok (.aload_n 0, 1) := by decide +kernel
theorem dX7_heldByMore_50 : decode cX7_heldByMore 50 = .ok (.getfield 41, 3) := by decide +kernel
theorem dX7_heldByMore_53 : decode cX7_heldByMore 53 = .ok (.iload_n 2, 1) := by decide +kernel
theorem dX7_heldByMore_54 : decode cX7_heldByMore 54 = .ok (.dup2, 1) := by decide +kernel
theorem dX7_heldByMore_55 : decode cX7_heldByMore 55 = .ok (.iaload, 1) := by decide +kernel
theorem dX7_heldByMore_56 : decode cX7_heldByMore 56 = .ok (.aload_n 0, 1) := by decide +kernel
theorem dX7_heldByMore_57 : decode cX7_heldByMore 57 = .ok (.iload_n 2, 1) := by decide +kernel
theorem dX7_heldByMore_58 : decode cX7_heldByMore 58 = .ok (.bipush 32, 2) := by decide +kernel
theorem dX7_heldByMore_60 : decode cX7_heldByMore 60 = .ok (.irem, 1) := by decide +kernel
theorem dX7_heldByMore_61 : decode cX7_heldByMore 61 = .ok (.iload_n 2, 1) := by decide +kernel
theorem dX7_heldByMore_62 : decode cX7_heldByMore 62 = .ok (.bipush 32, 2) := by decide +kernel
theorem dX7_heldByMore_64 : decode cX7_heldByMore 64 = .ok (.idiv, 1) := by decide +kernel
theorem dX7_heldByMore_65 : decode cX7_heldByMore 65 = .ok (.invokevirtual 145, 3) := by decide +kernel
theorem dX7_heldByMore_68 : decode cX7_heldByMore 68 = .ok (.ifCond .le 7, 3) := by decide +kernel
theorem dX7_heldByMore_71 : decode cX7_heldByMore 71 = .ok (.iconst 1, 1) := by decide +kernel
theorem dX7_heldByMore_72 : decode cX7_heldByMore 72 = .ok (.goto 4, 3) := by decide +kernel
theorem dX7_heldByMore_75 : decode cX7_heldByMore 75 = .ok (.iconst 0, 1) := by decide +kernel
theorem dX7_heldByMore_76 : decode cX7_heldByMore 76 = .ok (.iadd, 1) := by decide +kernel
theorem dX7_heldByMore_77 : decode cX7_heldByMore 77 = .ok (.iastore, 1) := by decide +kernel
theorem dX7_heldByMore_78 : decode cX7_heldByMore 78 = .ok (.iinc 2 1, 3) := by decide +kernel
theorem dX7_heldByMore_81 : decode cX7_heldByMore 81 = .ok (.goto (-39), 3) := by decide +kernel
theorem dX7_heldByMore_84 : decode cX7_heldByMore 84 = .ok (.iinc 1 1, 3) := by decide +kernel
theorem dX7_heldByMore_87 : decode cX7_heldByMore 87 = .ok (.goto (-63), 3) := by decide +kernel
theorem dX7_heldByMore_90 : decode cX7_heldByMore 90 = .ok (.iconst 0, 1) := by decide +kernel
theorem dX7_heldByMore_91 : decode cX7_heldByMore 91 = .ok (.istore_n 1, 1) := by decide +kernel
theorem dX7_heldByMore_92 : decode cX7_heldByMore 92 = .ok (.iconst 0, 1) := by decide +kernel
theorem dX7_heldByMore_93 : decode cX7_heldByMore 93 = .ok (.istore_n 2, 1) := by decide +kernel
theorem dX7_heldByMore_94 : decode cX7_heldByMore 94 = .ok (.iload_n 2, 1) := by decide +kernel
theorem dX7_heldByMore_95 : decode cX7_heldByMore 95 = .ok (.sipush 1024, 3) := by decide +kernel
theorem dX7_heldByMore_98 : decode cX7_heldByMore 98 = .ok (.if_icmp .ge 27, 3) := by decide +kernel
theorem dX7_heldByMore_101 : decode cX7_heldByMore 101 = .ok (.iload_n 1, 1) := by decide +kernel
theorem dX7_heldByMore_102 : decode cX7_heldByMore 102 = .ok (.aload_n 0, 1) := by decide +kernel
theorem dX7_heldByMore_103 : decode cX7_heldByMore 103 = .ok (.getfield 41, 3) := by decide +kernel
theorem dX7_heldByMore_106 : decode cX7_heldByMore 106 = .ok (.iload_n 2, 1) := by decide +kernel
theorem dX7_heldByMore_107 : decode cX7_heldByMore 107 = .ok (.iaload, 1) := by decide +kernel
theorem dX7_heldByMore_108 : decode cX7_heldByMore 108 = .ok (.iconst 1, 1) := by decide +kernel
theorem dX7_heldByMore_109 : decode cX7_heldByMore 109 = .ok (.if_icmp .le 7, 3) := by decide +kernel
theorem dX7_heldByMore_112 : decode cX7_heldByMore 112 = .ok (.iconst 1, 1) := by decide +kernel
theorem dX7_heldByMore_113 : decode cX7_heldByMore 113 = .ok (.goto 4, 3) := by decide +kernel
theorem dX7_heldByMore_116 : decode cX7_heldByMore 116 = .ok (.iconst 0, 1) := by decide +kernel
theorem dX7_heldByMore_117 : decode cX7_heldByMore 117 = .ok (.iadd, 1) := by decide +kernel
theorem dX7_heldByMore_118 : decode cX7_heldByMore 118 = .ok (.istore_n 1, 1) := by decide +kernel
theorem dX7_heldByMore_119 : decode cX7_heldByMore 119 = .ok (.iinc 2 1, 3) := by decide +kernel
theorem dX7_heldByMore_122 : decode cX7_heldByMore 122 = .ok (.goto (-28), 3) := by decide +kernel
theorem dX7_heldByMore_125 : decode cX7_heldByMore 125 = .ok (.iload_n 1, 1) := by decide +kernel
theorem dX7_heldByMore_126 : decode cX7_heldByMore 126 = .ok (.ireturn, 1) := by decide +kernel
set_option maxRecDepth 20000 in
theorem ggX7_count_X7_heldByMore : GoodIn wsX7_count wsX7_heldByMore := goodIn_r _ [8, 9, 1, 10, 11, 12, 7, 13, 14, 15, 16, 17, 18, 19, 20, 21, 22, 23, 24, 25, 26, 27, 28, 29, 30, 31, 32, 33, 34, 35, 36, 37, 38, 39, 40, 41, 42, 43, 44, 45, 46, 47, 48, 49, 50, 51, 52, 53, 54, 55, 56, 57, 58, 59, 60, 61, 62, 63, 64, 65, 66, 67, 68] (by decide +kernel) (by decide +kernel)
set_option maxRecDepth 20000 in
theorem gX7_count_X7_heldByMore : GoodIn wsX7_count (wsV RX7 209 RX7 yX7_heldByMore wsX7_heldByMore) := goodIn_app (goodIn_of _ (by decide +kernel)) ggX7_count_X7_heldByMore
theorem dX7_count_0 : decode cX7_count 0 = .ok (.iload_n 1, 1) := by decide +kernel
theorem dX7_count_1 : decode cX7_count 1 = .ok (.tableswitch 91 0 4 #[35, 43, 48, 56, 61], 35) := by decide +kernel
theorem dX7_count_36 : decode cX7_count 36 = .ok (.aload_n 0, 1) := by decide +kernel
theorem dX7_count_37 : decode cX7_count 37 = .ok (.getfield 7, 3) := by decide +kernel
theorem dX7_count_40 : decode cX7_count 40 = .ok (.bipush 108, 2) := by decide +kernel
theorem dX7_count_42 : decode cX7_count 42 = .ok (.iaload, 1) := by decide +kernel
theorem dX7_count_43 : decode cX7_count 43 = .ok (.ireturn, 1) := by decide +kernel
theorem dX7_count_44 : decode cX7_count 44 = .ok (.aload_n 0, 1) := by decide +kernel
theorem dX7_count_45 : decode cX7_count 45 = .ok (.getfield 74, 3) := by decide +kernel
theorem dX7_count_48 : decode cX7_count 48 = .ok (.ireturn, 1) := by decide +kernel
theorem dX7_count_49 : decode cX7_count 49 = .ok (.aload_n 0, 1) := by decide +kernel
theorem dX7_count_50 : decode cX7_count 50 = .ok (.getfield 7, 3) := by decide +kernel
theorem dX7_count_53 : decode cX7_count 53 = .ok (.bipush 109, 2) := by decide +kernel
theorem dX7_count_55 : decode cX7_count 55 = .ok (.iaload, 1) := by decide +kernel
theorem dX7_count_56 : decode cX7_count 56 = .ok (.ireturn, 1) := by decide +kernel
theorem dX7_count_57 : decode cX7_count 57 = .ok (.aload_n 0, 1) := by decide +kernel
theorem dX7_count_58 : decode cX7_count 58 = .ok (.invokevirtual 209, 3) := by decide +kernel
theorem dX7_count_61 : decode cX7_count 61 = .ok (.ireturn, 1) := by decide +kernel
theorem dX7_count_62 : decode cX7_count 62 = .ok (.aload_n 0, 1) := by decide +kernel
theorem dX7_count_63 : decode cX7_count 63 = .ok (.getfield 16, 3) := by decide +kernel
theorem dX7_count_66 : decode cX7_count 66 = .ok (.iconst 0, 1) := by decide +kernel
theorem dX7_count_67 : decode cX7_count 67 = .ok (.baload, 1) := by decide +kernel
theorem dX7_count_68 : decode cX7_count 68 = .ok (.ifCond .eq 7, 3) := by decide +kernel
theorem dX7_count_71 : decode cX7_count 71 = .ok (.iconst 1, 1) := by decide +kernel
theorem dX7_count_72 : decode cX7_count 72 = .ok (.goto 4, 3) := by decide +kernel
theorem dX7_count_75 : decode cX7_count 75 = .ok (.iconst 0, 1) := by decide +kernel
theorem dX7_count_76 : decode cX7_count 76 = .ok (.aload_n 0, 1) := by decide +kernel
theorem dX7_count_77 : decode cX7_count 77 = .ok (.getfield 16, 3) := by decide +kernel
theorem dX7_count_80 : decode cX7_count 80 = .ok (.iconst 1, 1) := by decide +kernel
theorem dX7_count_81 : decode cX7_count 81 = .ok (.baload, 1) := by decide +kernel
theorem dX7_count_82 : decode cX7_count 82 = .ok (.ifCond .eq 7, 3) := by decide +kernel
theorem dX7_count_85 : decode cX7_count 85 = .ok (.iconst 2, 1) := by decide +kernel
theorem dX7_count_86 : decode cX7_count 86 = .ok (.goto 4, 3) := by decide +kernel
theorem dX7_count_89 : decode cX7_count 89 = .ok (.iconst 0, 1) := by decide +kernel
theorem dX7_count_90 : decode cX7_count 90 = .ok (.iadd, 1) := by decide +kernel
theorem dX7_count_91 : decode cX7_count 91 = .ok (.ireturn, 1) := by decide +kernel
theorem dX7_count_92 : decode cX7_count 92 = .ok (.bipush (-2), 2) := by decide +kernel
theorem dX7_count_94 : decode cX7_count 94 = .ok (.ireturn, 1) := by decide +kernel
set_option maxRecDepth 20000 in
theorem ggX7_image_X7_in : GoodIn wsX7_image wsX7_in := goodIn_r _ [7] (by decide +kernel) (by decide +kernel)
set_option maxRecDepth 20000 in
theorem gX7_image_X7_in : GoodIn wsX7_image (va_wsS RX7 47 yX7_in wsX7_in) := goodIn_app (goodIn_of _ (by decide +kernel)) ggX7_image_X7_in
theorem dX7_image_0 : decode cX7_image 0 = .ok (.iload_n 1, 1) := by decide +kernel
theorem dX7_image_1 : decode cX7_image 1 = .ok (.iconst 0, 1) := by decide +kernel
theorem dX7_image_2 : decode cX7_image 2 = .ok (.iconst 1, 1) := by decide +kernel
theorem dX7_image_3 : decode cX7_image 3 = .ok (.invokestatic 47, 3) := by decide +kernel
theorem dX7_image_6 : decode cX7_image 6 = .ok (.ifCond .ne 6, 3) := by decide +kernel
theorem dX7_image_9 : decode cX7_image 9 = .ok (.bipush (-2), 2) := by decide +kernel
theorem dX7_image_11 : decode cX7_image 11 = .ok (.ireturn, 1) := by decide +kernel
theorem dX7_image_12 : decode cX7_image 12 = .ok (.iconst 0, 1) := by decide +kernel
theorem dX7_image_13 : decode cX7_image 13 = .ok (.istore_n 2, 1) := by decide +kernel
theorem dX7_image_14 : decode cX7_image 14 = .ok (.iload_n 2, 1) := by decide +kernel
theorem dX7_image_15 : decode cX7_image 15 = .ok (.bipush 110, 2) := by decide +kernel
theorem dX7_image_17 : decode cX7_image 17 = .ok (.if_icmp .ge 26, 3) := by decide +kernel
theorem dX7_image_20 : decode cX7_image 20 = .ok (.aload_n 0, 1) := by decide +kernel
theorem dX7_image_21 : decode cX7_image 21 = .ok (.getfield 13, 3) := by decide +kernel
theorem dX7_image_24 : decode cX7_image 24 = .ok (.bipush 110, 2) := by decide +kernel
theorem dX7_image_26 : decode cX7_image 26 = .ok (.iload_n 1, 1) := by decide +kernel
theorem dX7_image_27 : decode cX7_image 27 = .ok (.imul, 1) := by decide +kernel
theorem dX7_image_28 : decode cX7_image 28 = .ok (.iload_n 2, 1) := by decide +kernel
theorem dX7_image_29 : decode cX7_image 29 = .ok (.iadd, 1) := by decide +kernel
theorem dX7_image_30 : decode cX7_image 30 = .ok (.aload_n 0, 1) := by decide +kernel
theorem dX7_image_31 : decode cX7_image 31 = .ok (.getfield 7, 3) := by decide +kernel
theorem dX7_image_34 : decode cX7_image 34 = .ok (.iload_n 2, 1) := by decide +kernel
theorem dX7_image_35 : decode cX7_image 35 = .ok (.iaload, 1) := by decide +kernel
theorem dX7_image_36 : decode cX7_image 36 = .ok (.iastore, 1) := by decide +kernel
theorem dX7_image_37 : decode cX7_image 37 = .ok (.iinc 2 1, 3) := by decide +kernel
theorem dX7_image_40 : decode cX7_image 40 = .ok (.goto (-26), 3) := by decide +kernel
theorem dX7_image_43 : decode cX7_image 43 = .ok (.aload_n 0, 1) := by decide +kernel
theorem dX7_image_44 : decode cX7_image 44 = .ok (.getfield 16, 3) := by decide +kernel
theorem dX7_image_47 : decode cX7_image 47 = .ok (.iload_n 1, 1) := by decide +kernel
