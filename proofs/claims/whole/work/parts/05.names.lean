theorem dX6_deed_89 : decode cX6_deed 89 = .ok (.iload_n 1, 1) := by decide +kernel
theorem dX6_deed_90 : decode cX6_deed 90 = .ok (.aload_n 0, 1) := by decide +kernel
theorem dX6_deed_91 : decode cX6_deed 91 = .ok (.getfield 10, 3) := by decide +kernel
theorem dX6_deed_94 : decode cX6_deed 94 = .ok (.getfield 68, 3) := by decide +kernel
theorem dX6_deed_97 : decode cX6_deed 97 = .ok (.invokevirtual 87, 3) := by decide +kernel
theorem dX6_deed_100 : decode cX6_deed 100 = .ok (.aload_n 0, 1) := by decide +kernel
theorem dX6_deed_101 : decode cX6_deed 101 = .ok (.getfield 10, 3) := by decide +kernel
theorem dX6_deed_104 : decode cX6_deed 104 = .ok (.iload_n 2, 1) := by decide +kernel
theorem dX6_deed_105 : decode cX6_deed 105 = .ok (.aload_n 0, 1) := by decide +kernel
theorem dX6_deed_106 : decode cX6_deed 106 = .ok (.getfield 10, 3) := by decide +kernel
theorem dX6_deed_109 : decode cX6_deed 109 = .ok (.getfield 82, 3) := by decide +kernel
theorem dX6_deed_112 : decode cX6_deed 112 = .ok (.invokevirtual 87, 3) := by decide +kernel
theorem dX6_deed_115 : decode cX6_deed 115 = .ok (.invokespecial 91, 3) := by decide +kernel
theorem dX6_deed_118 : decode cX6_deed 118 = .ok (.astore 4, 2) := by decide +kernel
theorem dX6_deed_120 : decode cX6_deed 120 = .ok (.aload 4, 2) := by decide +kernel
theorem dX6_deed_122 : decode cX6_deed 122 = .ok (.invokevirtual 94, 3) := by decide +kernel
theorem dX6_deed_125 : decode cX6_deed 125 = .ok (.ifCond .ne 6, 3) := by decide +kernel
theorem dX6_deed_128 : decode cX6_deed 128 = .ok (.bipush (-8), 2) := by decide +kernel
theorem dX6_deed_130 : decode cX6_deed 130 = .ok (.ireturn, 1) := by decide +kernel
theorem dX6_deed_131 : decode cX6_deed 131 = .ok (.aload_n 0, 1) := by decide +kernel
theorem dX6_deed_132 : decode cX6_deed 132 = .ok (.getfield 19, 3) := by decide +kernel
theorem dX6_deed_135 : decode cX6_deed 135 = .ok (.getfield 98, 3) := by decide +kernel
theorem dX6_deed_138 : decode cX6_deed 138 = .ok (.bipush 6, 2) := by decide +kernel
theorem dX6_deed_140 : decode cX6_deed 140 = .ok (.if_icmp .lt 6, 3) := by decide +kernel
theorem dX6_deed_143 : decode cX6_deed 143 = .ok (.bipush (-4), 2) := by decide +kernel
theorem dX6_deed_145 : decode cX6_deed 145 = .ok (.ireturn, 1) := by decide +kernel
theorem dX6_deed_146 : decode cX6_deed 146 = .ok (.aload_n 0, 1) := by decide +kernel
theorem dX6_deed_147 : decode cX6_deed 147 = .ok (.getfield 10, 3) := by decide +kernel
theorem dX6_deed_150 : decode cX6_deed 150 = .ok (.invokevirtual 54, 3) := by decide +kernel
theorem dX6_deed_153 : decode cX6_deed 153 = .ok (.pop, 1) := by decide +kernel
theorem dX6_deed_154 : decode cX6_deed 154 = .ok (.aload_n 0, 1) := by decide +kernel
theorem dX6_deed_155 : decode cX6_deed 155 = .ok (.getfield 19, 3) := by decide +kernel
theorem dX6_deed_158 : decode cX6_deed 158 = .ok (.aload 4, 2) := by decide +kernel
theorem dX6_deed_160 : decode cX6_deed 160 = .ok (.invokestatic 101, 3) := by decide +kernel
theorem dX6_deed_163 : decode cX6_deed 163 = .ok (.iload_n 3, 1) := by decide +kernel
theorem dX6_deed_164 : decode cX6_deed 164 = .ok (.invokevirtual 107, 3) := by decide +kernel
theorem dX6_deed_167 : decode cX6_deed 167 = .ok (.ireturn, 1) := by decide +kernel
set_option maxRecDepth 20000 in
theorem ggX6_miss_X4_read : GoodIn wsX6_miss wsX4_read := goodIn_r _ [8, 9, 10, 11, 12, 13, 14, 15, 16, 7, 17, 18, 19, 20, 21, 22, 23, 24, 25, 26, 27, 28, 29, 30, 31, 32, 33, 34, 35, 59, 60, 61, 62, 63, 64, 65, 66] (by decide +kernel) (by decide +kernel)
set_option maxRecDepth 20000 in
theorem gX6_miss_X4_read : GoodIn wsX6_miss (wsV RX6 58 RX4 yX4_read wsX4_read) := goodIn_app (goodIn_of _ (by decide +kernel)) ggX6_miss_X4_read
set_option maxRecDepth 20000 in
theorem ggX6_miss_X4_missed : GoodIn wsX6_miss wsX4_missed := goodIn_r _ [39, 9, 59, 60, 61, 62, 63, 64, 65, 66] (by decide +kernel) (by decide +kernel)
set_option maxRecDepth 20000 in
theorem gX6_miss_X4_missed : GoodIn wsX6_miss (wsV RX6 72 RX4 yX4_missed wsX4_missed) := goodIn_app (goodIn_of _ (by decide +kernel)) ggX6_miss_X4_missed
set_option maxRecDepth 20000 in
theorem ggX6_miss_X4_far : GoodIn wsX6_miss wsX4_far := goodIn_r _ [43, 9, 44, 45, 46, 7, 47, 23, 48, 49, 50, 51, 22, 59, 60, 61, 62, 63, 64, 65, 66] (by decide +kernel) (by decide +kernel)
set_option maxRecDepth 20000 in
theorem gX6_miss_X4_far : GoodIn wsX6_miss (wsV RX6 111 RX4 yX4_far wsX4_far) := goodIn_app (goodIn_of _ (by decide +kernel)) ggX6_miss_X4_far
theorem dX6_miss_0 : decode cX6_miss 0 = .ok (.aload_n 0, 1) := by decide +kernel
theorem dX6_miss_1 : decode cX6_miss 1 = .ok (.getfield 10, 3) := by decide +kernel
theorem dX6_miss_4 : decode cX6_miss 4 = .ok (.invokevirtual 58, 3) := by decide +kernel
theorem dX6_miss_7 : decode cX6_miss 7 = .ok (.bipush (-6), 2) := by decide +kernel
theorem dX6_miss_9 : decode cX6_miss 9 = .ok (.if_icmp .eq 6, 3) := by decide +kernel
theorem dX6_miss_12 : decode cX6_miss 12 = .ok (.bipush (-7), 2) := by decide +kernel
theorem dX6_miss_14 : decode cX6_miss 14 = .ok (.ireturn, 1) := by decide +kernel
theorem dX6_miss_15 : decode cX6_miss 15 = .ok (.iload_n 1, 1) := by decide +kernel
theorem dX6_miss_16 : decode cX6_miss 16 = .ok (.tableswitch 74 0 2 #[28, 47, 66], 28) := by decide +kernel
theorem dX6_miss_44 : decode cX6_miss 44 = .ok (.sipush 1000, 3) := by decide +kernel
theorem dX6_miss_47 : decode cX6_miss 47 = .ok (.aload_n 0, 1) := by decide +kernel
theorem dX6_miss_48 : decode cX6_miss 48 = .ok (.getfield 10, 3) := by decide +kernel
theorem dX6_miss_51 : decode cX6_miss 51 = .ok (.aload_n 0, 1) := by decide +kernel
theorem dX6_miss_52 : decode cX6_miss 52 = .ok (.getfield 10, 3) := by decide +kernel
theorem dX6_miss_55 : decode cX6_miss 55 = .ok (.getfield 68, 3) := by decide +kernel
theorem dX6_miss_58 : decode cX6_miss 58 = .ok (.invokevirtual 72, 3) := by decide +kernel
theorem dX6_miss_61 : decode cX6_miss 61 = .ok (.iadd, 1) := by decide +kernel
theorem dX6_miss_62 : decode cX6_miss 62 = .ok (.ireturn, 1) := by decide +kernel
theorem dX6_miss_63 : decode cX6_miss 63 = .ok (.sipush 1000, 3) := by decide +kernel
theorem dX6_miss_66 : decode cX6_miss 66 = .ok (.aload_n 0, 1) := by decide +kernel
theorem dX6_miss_67 : decode cX6_miss 67 = .ok (.getfield 10, 3) := by decide +kernel
theorem dX6_miss_70 : decode cX6_miss 70 = .ok (.aload_n 0, 1) := by decide +kernel
theorem dX6_miss_71 : decode cX6_miss 71 = .ok (.getfield 10, 3) := by decide +kernel
theorem dX6_miss_74 : decode cX6_miss 74 = .ok (.getfield 82, 3) := by decide +kernel
theorem dX6_miss_77 : decode cX6_miss 77 = .ok (.invokevirtual 72, 3) := by decide +kernel
theorem dX6_miss_80 : decode cX6_miss 80 = .ok (.iadd, 1) := by decide +kernel
theorem dX6_miss_81 : decode cX6_miss 81 = .ok (.ireturn, 1) := by decide +kernel
theorem dX6_miss_82 : decode cX6_miss 82 = .ok (.aload_n 0, 1) := by decide +kernel
theorem dX6_miss_83 : decode cX6_miss 83 = .ok (.getfield 10, 3) := by decide +kernel
theorem dX6_miss_86 : decode cX6_miss 86 = .ok (.invokevirtual 111, 3) := by decide +kernel
theorem dX6_miss_89 : decode cX6_miss 89 = .ok (.ireturn, 1) := by decide +kernel
theorem dX6_miss_90 : decode cX6_miss 90 = .ok (.bipush (-2), 2) := by decide +kernel
theorem dX6_miss_92 : decode cX6_miss 92 = .ok (.ireturn, 1) := by decide +kernel
theorem dX6_loose_0 : decode cX6_loose 0 = .ok (.iload_n 1, 1) := by decide +kernel
theorem dX6_loose_1 : decode cX6_loose 1 = .ok (.ifCond .lt 9, 3) := by decide +kernel
theorem dX6_loose_4 : decode cX6_loose 4 = .ok (.iload_n 1, 1) := by decide +kernel
theorem dX6_loose_5 : decode cX6_loose 5 = .ok (.bipush 20, 2) := by decide +kernel
theorem dX6_loose_7 : decode cX6_loose 7 = .ok (.if_icmp .le 6, 3) := by decide +kernel
theorem dX6_loose_10 : decode cX6_loose 10 = .ok (.bipush (-2), 2) := by decide +kernel
theorem dX6_loose_12 : decode cX6_loose 12 = .ok (.ireturn, 1) := by decide +kernel
theorem dX6_loose_13 : decode cX6_loose 13 = .ok (.aload_n 0, 1) := by decide +kernel
theorem dX6_loose_14 : decode cX6_loose 14 = .ok (.getfield 19, 3) := by decide +kernel
theorem dX6_loose_17 : decode cX6_loose 17 = .ok (.getfield 43, 3) := by decide +kernel
theorem dX6_loose_20 : decode cX6_loose 20 = .ok (.istore_n 2, 1) := by decide +kernel
theorem dX6_loose_21 : decode cX6_loose 21 = .ok (.aload_n 0, 1) := by decide +kernel
theorem dX6_loose_22 : decode cX6_loose 22 = .ok (.getfield 19, 3) := by decide +kernel
theorem dX6_loose_25 : decode cX6_loose 25 = .ok (.iload_n 1, 1) := by decide +kernel
theorem dX6_loose_26 : decode cX6_loose 26 = .ok (.putfield 43, 3) := by decide +kernel
theorem dX6_loose_29 : decode cX6_loose 29 = .ok (.iload_n 2, 1) := by decide +kernel
theorem dX6_loose_30 : decode cX6_loose 30 = .ok (.ireturn, 1) := by decide +kernel
set_option maxRecDepth 20000 in
theorem ggX6_drop_X0_has : GoodIn wsX6_drop wsX0_has := goodIn_r _ [7, 8, 23, 24, 25, 26] (by decide +kernel) (by decide +kernel)
set_option maxRecDepth 20000 in
theorem gX6_drop_X0_has : GoodIn wsX6_drop (wsV RX6 114 RX0 yX0_has wsX0_has) := goodIn_app (goodIn_of _ (by decide +kernel)) ggX6_drop_X0_has
set_option maxRecDepth 20000 in
theorem ggX6_drop_X0_remove : GoodIn wsX6_drop wsX0_remove := goodIn_r _ [12, 8, 13, 14, 15, 4, 5, 6, 7, 23, 24, 25, 26] (by decide +kernel) (by decide +kernel)
set_option maxRecDepth 20000 in
theorem gX6_drop_X0_remove : GoodIn wsX6_drop (wsV RX6 117 RX0 yX0_remove wsX0_remove) := goodIn_app (goodIn_of _ (by decide +kernel)) ggX6_drop_X0_remove
theorem dX6_drop_0 : decode cX6_drop 0 = .ok (.aload_n 0, 1) := by decide +kernel
theorem dX6_drop_1 : decode cX6_drop 1 = .ok (.getfield 19, 3) := by decide +kernel
theorem dX6_drop_4 : decode cX6_drop 4 = .ok (.iload_n 1, 1) := by decide +kernel
theorem dX6_drop_5 : decode cX6_drop 5 = .ok (.invokevirtual 114, 3) := by decide +kernel
theorem dX6_drop_8 : decode cX6_drop 8 = .ok (.ifCond .ne 5, 3) := by decide +kernel
theorem dX6_drop_11 : decode cX6_drop 11 = .ok (.iconst (-1), 1) := by decide +kernel
theorem dX6_drop_12 : decode cX6_drop 12 = .ok (.ireturn, 1) := by decide +kernel
theorem dX6_drop_13 : decode cX6_drop 13 = .ok (.aload_n 0, 1) := by decide +kernel
theorem dX6_drop_14 : decode cX6_drop 14 = .ok (.getfield 19, 3) := by decide +kernel
theorem dX6_drop_17 : decode cX6_drop 17 = .ok (.iload_n 1, 1) := by decide +kernel
theorem dX6_drop_18 : decode cX6_drop 18 = .ok (.invokevirtual 117, 3) := by decide +kernel
theorem dX6_drop_21 : decode cX6_drop 21 = .ok (.aload_n 0, 1) := by decide +kernel
theorem dX6_drop_22 : decode cX6_drop 22 = .ok (.getfield 19, 3) := by decide +kernel
theorem dX6_drop_25 : decode cX6_drop 25 = .ok (.getfield 98, 3) := by decide +kernel
theorem dX6_drop_28 : decode cX6_drop 28 = .ok (.ireturn, 1) := by decide +kernel
set_option maxRecDepth 20000 in
theorem ggX6_year_X0_has : GoodIn wsX6_year wsX0_has := goodIn_r _ [6, 7, 37, 38, 39, 40] (by decide +kernel) (by decide +kernel)
set_option maxRecDepth 20000 in
theorem gX6_year_X0_has : GoodIn wsX6_year (wsV RX6 114 RX0 yX0_has wsX0_has) := goodIn_app (goodIn_of _ (by decide +kernel)) ggX6_year_X0_has
set_option maxRecDepth 20000 in
theorem ggX6_year_X6_isYear : GoodIn wsX6_year wsX6_isYear := goodIn_r _ [11] (by decide +kernel) (by decide +kernel)
set_option maxRecDepth 20000 in
theorem gX6_year_X6_isYear : GoodIn wsX6_year (va_wsS RX6 65 yX6_isYear wsX6_isYear) := goodIn_app (goodIn_of _ (by decide +kernel)) ggX6_year_X6_isYear
set_option maxRecDepth 20000 in
theorem ggX6_year_X0_setYear : GoodIn wsX6_year wsX0_setYear := goodIn_r _ [15, 16, 17, 3, 4, 5, 6, 7, 37, 38, 39, 40] (by decide +kernel) (by decide +kernel)
set_option maxRecDepth 20000 in
theorem gX6_year_X0_setYear : GoodIn wsX6_year (wsV RX6 121 RX0 yX0_setYear wsX0_setYear) := goodIn_app (goodIn_of _ (by decide +kernel)) ggX6_year_X0_setYear
set_option maxRecDepth 20000 in
theorem ggX6_year_X0_howManyOlder : GoodIn wsX6_year wsX0_howManyOlder := goodIn_r _ [21, 7, 22, 23, 24, 5, 25, 26, 27, 28, 29, 16, 17, 3, 4, 6, 37, 38, 39, 40] (by decide +kernel) (by decide +kernel)
set_option maxRecDepth 20000 in
theorem gX6_year_X0_howManyOlder : GoodIn wsX6_year (wsV RX6 125 RX0 yX0_howManyOlder wsX0_howManyOlder) := goodIn_app (goodIn_of _ (by decide +kernel)) ggX6_year_X0_howManyOlder
theorem dX6_year_0 : decode cX6_year 0 = .ok (.aload_n 0, 1) := by decide +kernel
theorem dX6_year_1 : decode cX6_year 1 = .ok (.getfield 19, 3) := by decide +kernel
theorem dX6_year_4 : decode cX6_year 4 = .ok (.iload_n 1, 1) := by decide +kernel
theorem dX6_year_5 : decode cX6_year 5 = .ok (.invokevirtual 114, 3) := by decide +kernel
theorem dX6_year_8 : decode cX6_year 8 = .ok (.ifCond .ne 5, 3) := by decide +kernel
theorem dX6_year_11 : decode cX6_year 11 = .ok (.iconst (-1), 1) := by decide +kernel
theorem dX6_year_12 : decode cX6_year 12 = .ok (.ireturn, 1) := by decide +kernel
theorem dX6_year_13 : decode cX6_year 13 = .ok (.iload_n 2, 1) := by decide +kernel
theorem dX6_year_14 : decode cX6_year 14 = .ok (.invokestatic 65, 3) := by decide +kernel
theorem dX6_year_17 : decode cX6_year 17 = .ok (.ifCond .ne 6, 3) := by decide +kernel
theorem dX6_year_20 : decode cX6_year 20 = .ok (.bipush (-2), 2) := by decide +kernel
theorem dX6_year_22 : decode cX6_year 22 = .ok (.ireturn, 1) := by decide +kernel
theorem dX6_year_23 : decode cX6_year 23 = .ok (.aload_n 0, 1) := by decide +kernel
theorem dX6_year_24 : decode cX6_year 24 = .ok (.getfield 19, 3) := by decide +kernel
theorem dX6_year_27 : decode cX6_year 27 = .ok (.iload_n 1, 1) := by decide +kernel
theorem dX6_year_28 : decode cX6_year 28 = .ok (.iload_n 2, 1) := by decide +kernel
theorem dX6_year_29 : decode cX6_year 29 = .ok (.invokevirtual 121, 3) := by decide +kernel
theorem dX6_year_32 : decode cX6_year 32 = .ok (.aload_n 0, 1) := by decide +kernel
theorem dX6_year_33 : decode cX6_year 33 = .ok (.getfield 19, 3) := by decide +kernel
theorem dX6_year_36 : decode cX6_year 36 = .ok (.iload_n 1, 1) := by decide +kernel
theorem dX6_year_37 : decode cX6_year 37 = .ok (.invokevirtual 125, 3) := by decide +kernel
theorem dX6_year_40 : decode cX6_year 40 = .ok (.ireturn, 1) := by decide +kernel
set_option maxRecDepth 20000 in
theorem ggX6_about_X0_plotAt : GoodIn wsX6_about wsX0_plotAt := goodIn_r _ [12, 13, 14, 15, 16, 11, 17, 18, 90, 91, 92, 93] (by decide +kernel) (by decide +kernel)
set_option maxRecDepth 20000 in
theorem gX6_about_X0_plotAt : GoodIn wsX6_about (wsV RX6 128 RX0 yX0_plotAt wsX0_plotAt) := goodIn_app (goodIn_of _ (by decide +kernel)) ggX6_about_X0_plotAt
set_option maxRecDepth 20000 in
theorem ggX6_about_X0_yearOf : GoodIn wsX6_about wsX0_yearOf := goodIn_r _ [22, 23, 14, 15, 16, 11, 17, 18, 90, 91, 92, 93] (by decide +kernel) (by decide +kernel)
set_option maxRecDepth 20000 in
theorem gX6_about_X0_yearOf : GoodIn wsX6_about (wsV RX6 132 RX0 yX0_yearOf wsX0_yearOf) := goodIn_app (goodIn_of _ (by decide +kernel)) ggX6_about_X0_yearOf
set_option maxRecDepth 20000 in
theorem ggX6_about_X1_twiceSignedArea : GoodIn wsX6_about wsX1_twiceSignedArea := goodIn_r _ [28, 29, 30, 31, 32, 33, 34, 27, 35, 87, 88, 89] (by decide +kernel) (by decide +kernel)
set_option maxRecDepth 20000 in
theorem gX6_about_X1_twiceSignedArea : GoodIn wsX6_about (wsV RX6 142 RX1 yX1_twiceSignedArea wsX1_twiceSignedArea) := goodIn_app (goodIn_of _ (by decide +kernel)) ggX6_about_X1_twiceSignedArea
set_option maxRecDepth 20000 in
theorem ggX6_about_X2_howManyInside : GoodIn wsX6_about wsX2_howManyInside := goodIn_r _ [40, 41, 42, 43, 44, 45, 46, 47, 48, 49, 50, 51, 82, 83, 84, 85, 86] (by decide +kernel) (by decide +kernel)
set_option maxRecDepth 20000 in
theorem gX6_about_X2_howManyInside : GoodIn wsX6_about (wsV RX6 145 RX2 yX2_howManyInside wsX2_howManyInside) := goodIn_app (goodIn_of _ (by decide +kernel)) ggX6_about_X2_howManyInside
set_option maxRecDepth 20000 in
theorem ggX6_about_X2_howManyOnSides : GoodIn wsX6_about wsX2_howManyOnSides := goodIn_r _ [55, 56, 42, 43, 44, 45, 46, 47, 48, 49, 50, 51, 82, 83, 84, 85, 86] (by decide +kernel) (by decide +kernel)
set_option maxRecDepth 20000 in
theorem gX6_about_X2_howManyOnSides : GoodIn wsX6_about (wsV RX6 148 RX2 yX2_howManyOnSides wsX2_howManyOnSides) := goodIn_app (goodIn_of _ (by decide +kernel)) ggX6_about_X2_howManyOnSides
set_option maxRecDepth 20000 in
theorem ggX6_about_X0_howManyLost : GoodIn wsX6_about wsX0_howManyLost := goodIn_r _ [60, 18, 61, 62, 63, 11, 64, 65, 20, 21, 22, 23, 14, 15, 16, 17, 66, 67, 68, 69, 70, 71, 9, 10, 12, 13, 72, 43, 73, 74, 46, 47, 48, 49, 50, 51, 90, 91, 92, 93, 82, 83, 84, 85, 86] (by decide +kernel) (by decide +kernel)
set_option maxRecDepth 20000 in
theorem gX6_about_X0_howManyLost : GoodIn wsX6_about (wsV RX6 151 RX0 yX0_howManyLost wsX0_howManyLost) := goodIn_app (goodIn_of _ (by decide +kernel)) ggX6_about_X0_howManyLost
theorem dX6_about_0 : decode cX6_about 0 = .ok (.aload_n 0, 1) := by decide +kernel
theorem dX6_about_1 : decode cX6_about 1 = .ok (.getfield 19, 3) := by decide +kernel
theorem dX6_about_4 : decode cX6_about 4 = .ok (.iload_n 1, 1) := by decide +kernel
theorem dX6_about_5 : decode cX6_about 5 = .ok (.invokevirtual 128, 3) := by decide +kernel
theorem dX6_about_8 : decode cX6_about 8 = .ok (.astore_n 3, 1) := by decide +kernel
theorem dX6_about_9 : decode cX6_about 9 = .ok (.aload_n 3, 1) := by decide +kernel
theorem dX6_about_10 : decode cX6_about 10 = .ok (.ifnonnull 5, 3) := by decide +kernel
theorem dX6_about_13 : decode cX6_about 13 = .ok (.iconst (-1), 1) := by decide +kernel
theorem dX6_about_14 : decode cX6_about 14 = .ok (.ireturn, 1) := by decide +kernel
theorem dX6_about_15 : decode cX6_about 15 = .ok (.iload_n 2, 1) := by decide +kernel
theorem dX6_about_16 : decode cX6_about 16 = .ok (.tableswitch 107 0 6 #[44, 53, 61, 72, 88, 93, 98], 44) := by decide +kernel
theorem dX6_about_60 : decode cX6_about 60 = .ok (.aload_n 0, 1) := by decide +kernel
theorem dX6_about_61 : decode cX6_about 61 = .ok (.getfield 19, 3) := by decide +kernel
theorem dX6_about_64 : decode cX6_about 64 = .ok (.iload_n 1, 1) := by decide +kernel
theorem dX6_about_65 : decode cX6_about 65 = .ok (.invokevirtual 132, 3) := by decide +kernel
theorem dX6_about_68 : decode cX6_about 68 = .ok (.ireturn, 1) := by decide +kernel
theorem dX6_about_69 : decode cX6_about 69 = .ok (.aload_n 3, 1) := by decide +kernel
theorem dX6_about_70 : decode cX6_about 70 = .ok (.getfield 135, 3) := by decide +kernel
theorem dX6_about_73 : decode cX6_about 73 = .ok (.getfield 139, 3) := by decide +kernel
theorem dX6_about_76 : decode cX6_about 76 = .ok (.ireturn, 1) := by decide +kernel
theorem dX6_about_77 : decode cX6_about 77 = .ok (.aload_n 3, 1) := by decide +kernel
theorem dX6_about_78 : decode cX6_about 78 = .ok (.getfield 135, 3) := by decide +kernel
theorem dX6_about_81 : decode cX6_about 81 = .ok (.invokevirtual 142, 3) := by decide +kernel
theorem dX6_about_84 : decode cX6_about 84 = .ok (.invokestatic 76, 3) := by decide +kernel
theorem dX6_about_87 : decode cX6_about 87 = .ok (.ireturn, 1) := by decide +kernel
theorem dX6_about_88 : decode cX6_about 88 = .ok (.aload_n 3, 1) := by decide +kernel
theorem dX6_about_89 : decode cX6_about 89 = .ok (.getfield 135, 3) := by decide +kernel
theorem dX6_about_92 : decode cX6_about 92 = .ok (.invokevirtual 142, 3) := by decide +kernel
theorem dX6_about_95 : decode cX6_about 95 = .ok (.ifCond .le 7, 3) := by decide +kernel
theorem dX6_about_98 : decode cX6_about 98 = .ok (.iconst 1, 1) := by decide +kernel
theorem dX6_about_99 : decode cX6_about 99 = .ok (.goto 4, 3) := by decide +kernel
theorem dX6_about_102 : decode cX6_about 102 = .ok (.iconst 0, 1) := by decide +kernel
theorem dX6_about_103 : decode cX6_about 103 = .ok (.ireturn, 1) := by decide +kernel
theorem dX6_about_104 : decode cX6_about 104 = .ok (.aload_n 3, 1) := by decide +kernel
theorem dX6_about_105 : decode cX6_about 105 = .ok (.invokevirtual 145, 3) := by decide +kernel
theorem dX6_about_108 : decode cX6_about 108 = .ok (.ireturn, 1) := by decide +kernel
theorem dX6_about_109 : decode cX6_about 109 = .ok (.aload_n 3, 1) := by decide +kernel
theorem dX6_about_110 : decode cX6_about 110 = .ok (.invokevirtual 148, 3) := by decide +kernel
theorem dX6_about_113 : decode cX6_about 113 = .ok (.ireturn, 1) := by decide +kernel
theorem dX6_about_114 : decode cX6_about 114 = .ok (.aload_n 0, 1) := by decide +kernel
theorem dX6_about_115 : decode cX6_about 115 = .ok (.getfield 19, 3) := by decide +kernel
theorem dX6_about_118 : decode cX6_about 118 = .ok (.iload_n 1, 1) := by decide +kernel
theorem dX6_about_119 : decode cX6_about 119 = .ok (.invokevirtual 151, 3) := by decide +kernel
theorem dX6_about_122 : decode cX6_about 122 = .ok (.ireturn, 1) := by decide +kernel
theorem dX6_about_123 : decode cX6_about 123 = .ok (.bipush (-2), 2) := by decide +kernel
theorem dX6_about_125 : decode cX6_about 125 = .ok (.ireturn, 1) := by decide +kernel
set_option maxRecDepth 20000 in
theorem ggX6_corner_X0_plotAt : GoodIn wsX6_corner wsX0_plotAt := goodIn_r _ [10, 11, 12, 13, 14, 9, 15, 16, 32, 33, 34, 35] (by decide +kernel) (by decide +kernel)
set_option maxRecDepth 20000 in
theorem gX6_corner_X0_plotAt : GoodIn wsX6_corner (wsV RX6 128 RX0 yX0_plotAt wsX0_plotAt) := goodIn_app (goodIn_of _ (by decide +kernel)) ggX6_corner_X0_plotAt
theorem dX6_corner_0 : decode cX6_corner 0 = .ok (.aload_n 0, 1) := by decide +kernel
theorem dX6_corner_1 : decode cX6_corner 1 = .ok (.getfield 19, 3) := by decide +kernel
theorem dX6_corner_4 : decode cX6_corner 4 = .ok (.iload_n 1, 1) := by decide +kernel
theorem dX6_corner_5 : decode cX6_corner 5 = .ok (.invokevirtual 128, 3) := by decide +kernel
theorem dX6_corner_8 : decode cX6_corner 8 = .ok (.astore 4, 2) := by decide +kernel
theorem dX6_corner_10 : decode cX6_corner 10 = .ok (.aload 4, 2) := by decide +kernel
theorem dX6_corner_12 : decode cX6_corner 12 = .ok (.ifnonnull 5, 3) := by decide +kernel
theorem dX6_corner_15 : decode cX6_corner 15 = .ok (.iconst (-1), 1) := by decide +kernel
theorem dX6_corner_16 : decode cX6_corner 16 = .ok (.ireturn, 1) := by decide +kernel
theorem dX6_corner_17 : decode cX6_corner 17 = .ok (.iload_n 3, 1) := by decide +kernel
theorem dX6_corner_18 : decode cX6_corner 18 = .ok (.ifCond .lt 8, 3) := by decide +kernel
theorem dX6_corner_21 : decode cX6_corner 21 = .ok (.iload_n 3, 1) := by decide +kernel
theorem dX6_corner_22 : decode cX6_corner 22 = .ok (.iconst 1, 1) := by decide +kernel
theorem dX6_corner_23 : decode cX6_corner 23 = .ok (.if_icmp .le 6, 3) := by decide +kernel
theorem dX6_corner_26 : decode cX6_corner 26 = .ok (.bipush (-2), 2) := by decide +kernel
theorem dX6_corner_28 : decode cX6_corner 28 = .ok (.ireturn, 1) := by decide +kernel
theorem dX6_corner_29 : decode cX6_corner 29 = .ok (.iload_n 2, 1) := by decide +kernel
theorem dX6_corner_30 : decode cX6_corner 30 = .ok (.ifCond .lt 15, 3) := by decide +kernel
theorem dX6_corner_33 : decode cX6_corner 33 = .ok (.iload_n 2, 1) := by decide +kernel
theorem dX6_corner_34 : decode cX6_corner 34 = .ok (.aload 4, 2) := by decide +kernel
theorem dX6_corner_36 : decode cX6_corner 36 = .ok (.getfield 135, 3) := by decide +kernel
theorem dX6_corner_39 : decode cX6_corner 39 = .ok (.getfield 139, 3) := by decide +kernel
theorem dX6_corner_42 : decode cX6_corner 42 = .ok (.if_icmp .lt 6, 3) := by decide +kernel
theorem dX6_corner_45 : decode cX6_corner 45 = .ok (.bipush (-6), 2) := by decide +kernel
theorem dX6_corner_47 : decode cX6_corner 47 = .ok (.ireturn, 1) := by decide +kernel
theorem dX6_corner_48 : decode cX6_corner 48 = .ok (.iload_n 3, 1) := by decide +kernel
theorem dX6_corner_49 : decode cX6_corner 49 = .ok (.ifCond .ne 16, 3) := by decide +kernel
theorem dX6_corner_52 : decode cX6_corner 52 = .ok (.aload 4, 2) := by decide +kernel
theorem dX6_corner_54 : decode cX6_corner 54 = .ok (.getfield 135, 3) := by decide +kernel
theorem dX6_corner_57 : decode cX6_corner 57 = .ok (.getfield 154, 3) := by decide +kernel
theorem dX6_corner_60 : decode cX6_corner 60 = .ok (.iload_n 2, 1) := by decide +kernel
theorem dX6_corner_61 : decode cX6_corner 61 = .ok (.iaload, 1) := by decide +kernel
theorem dX6_corner_62 : decode cX6_corner 62 = .ok (.goto 13, 3) := by decide +kernel
theorem dX6_corner_65 : decode cX6_corner 65 = .ok (.aload 4, 2) := by decide +kernel
theorem dX6_corner_67 : decode cX6_corner 67 = .ok (.getfield 135, 3) := by decide +kernel
theorem dX6_corner_70 : decode cX6_corner 70 = .ok (.getfield 157, 3) := by decide +kernel
theorem dX6_corner_73 : decode cX6_corner 73 = .ok (.iload_n 2, 1) := by decide +kernel
theorem dX6_corner_74 : decode cX6_corner 74 = .ok (.iaload, 1) := by decide +kernel
theorem dX6_corner_75 : decode cX6_corner 75 = .ok (.ireturn, 1) := by decide +kernel
set_option maxRecDepth 20000 in
theorem ggX6_lies_X0_plotAt : GoodIn wsX6_lies wsX0_plotAt := goodIn_r _ [8, 9, 10, 11, 12, 7, 13, 14, 37, 38, 39, 40] (by decide +kernel) (by decide +kernel)
set_option maxRecDepth 20000 in
theorem gX6_lies_X0_plotAt : GoodIn wsX6_lies (wsV RX6 128 RX0 yX0_plotAt wsX0_plotAt) := goodIn_app (goodIn_of _ (by decide +kernel)) ggX6_lies_X0_plotAt
set_option maxRecDepth 20000 in
theorem ggX6_lies_X6_isPost : GoodIn wsX6_lies wsX6_isPost := goodIn_r _ [18, 19, 20, 17, 21] (by decide +kernel) (by decide +kernel)
set_option maxRecDepth 20000 in
theorem gX6_lies_X6_isPost : GoodIn wsX6_lies (va_wsS RX6 61 yX6_isPost wsX6_isPost) := goodIn_app (goodIn_of _ (by decide +kernel)) ggX6_lies_X6_isPost
set_option maxRecDepth 20000 in
theorem ggX6_lies_X6_isIn : GoodIn wsX6_lies wsX6_isIn := goodIn_r _ [24] (by decide +kernel) (by decide +kernel)
set_option maxRecDepth 20000 in
theorem gX6_lies_X6_isIn : GoodIn wsX6_lies (va_wsS RX6 163 yX6_isIn wsX6_isIn) := goodIn_app (goodIn_of _ (by decide +kernel)) ggX6_lies_X6_isIn
theorem dX6_lies_0 : decode cX6_lies 0 = .ok (.aload_n 0, 1) := by decide +kernel
theorem dX6_lies_1 : decode cX6_lies 1 = .ok (.getfield 19, 3) := by decide +kernel
theorem dX6_lies_4 : decode cX6_lies 4 = .ok (.iload_n 1, 1) := by decide +kernel
theorem dX6_lies_5 : decode cX6_lies 5 = .ok (.invokevirtual 128, 3) := by decide +kernel
theorem dX6_lies_8 : decode cX6_lies 8 = .ok (.astore 4, 2) := by decide +kernel
theorem dX6_lies_10 : decode cX6_lies 10 = .ok (.aload 4, 2) := by decide +kernel
theorem dX6_lies_12 : decode cX6_lies 12 = .ok (.ifnonnull 5, 3) := by decide +kernel
theorem dX6_lies_15 : decode cX6_lies 15 = .ok (.iconst (-1), 1) := by decide +kernel
theorem dX6_lies_16 : decode cX6_lies 16 = .ok (.ireturn, 1) := by decide +kernel
theorem dX6_lies_17 : decode cX6_lies 17 = .ok (.iload_n 2, 1) := by decide +kernel
theorem dX6_lies_18 : decode cX6_lies 18 = .ok (.iload_n 3, 1) := by decide +kernel
theorem dX6_lies_19 : decode cX6_lies 19 = .ok (.invokestatic 61, 3) := by decide +kernel
theorem dX6_lies_22 : decode cX6_lies 22 = .ok (.ifCond .ne 6, 3) := by decide +kernel
theorem dX6_lies_25 : decode cX6_lies 25 = .ok (.bipush (-2), 2) := by decide +kernel
theorem dX6_lies_27 : decode cX6_lies 27 = .ok (.ireturn, 1) := by decide +kernel
theorem dX6_lies_28 : decode cX6_lies 28 = .ok (.aload 4, 2) := by decide +kernel
theorem dX6_lies_30 : decode cX6_lies 30 = .ok (.getfield 160, 3) := by decide +kernel
theorem dX6_lies_33 : decode cX6_lies 33 = .ok (.iload_n 3, 1) := by decide +kernel
theorem dX6_lies_34 : decode cX6_lies 34 = .ok (.iaload, 1) := by decide +kernel
theorem dX6_lies_35 : decode cX6_lies 35 = .ok (.iload_n 2, 1) := by decide +kernel
theorem dX6_lies_36 : decode cX6_lies 36 = .ok (.invokestatic 163, 3) := by decide +kernel
theorem dX6_lies_39 : decode cX6_lies 39 = .ok (.ifCond .eq 5, 3) := by decide +kernel
theorem dX6_lies_42 : decode cX6_lies 42 = .ok (.iconst 1, 1) := by decide +kernel
theorem dX6_lies_43 : decode cX6_lies 43 = .ok (.ireturn, 1) := by decide +kernel
theorem dX6_lies_44 : decode cX6_lies 44 = .ok (.aload 4, 2) := by decide +kernel
theorem dX6_lies_46 : decode cX6_lies 46 = .ok (.getfield 166, 3) := by decide +kernel
theorem dX6_lies_49 : decode cX6_lies 49 = .ok (.iload_n 3, 1) := by decide +kernel
theorem dX6_lies_50 : decode cX6_lies 50 = .ok (.iaload, 1) := by decide +kernel
theorem dX6_lies_51 : decode cX6_lies 51 = .ok (.iload_n 2, 1) := by decide +kernel
theorem dX6_lies_52 : decode cX6_lies 52 = .ok (.invokestatic 163, 3) := by decide +kernel
theorem dX6_lies_55 : decode cX6_lies 55 = .ok (.ifCond .eq 7, 3) := by decide +kernel
theorem dX6_lies_58 : decode cX6_lies 58 = .ok (.iconst 2, 1) := by decide +kernel
theorem dX6_lies_59 : decode cX6_lies 59 = .ok (.goto 4, 3) := by decide +kernel
theorem dX6_lies_62 : decode cX6_lies 62 = .ok (.iconst 0, 1) := by decide +kernel
theorem dX6_lies_63 : decode cX6_lies 63 = .ok (.ireturn, 1) := by decide +kernel
set_option maxRecDepth 20000 in
theorem ggX6_sign_X0_plotAt : GoodIn wsX6_sign wsX0_plotAt := goodIn_r _ [7, 8, 9, 10, 11, 6, 12, 13, 75, 76, 77, 78] (by decide +kernel) (by decide +kernel)
set_option maxRecDepth 20000 in
theorem gX6_sign_X0_plotAt : GoodIn wsX6_sign (wsV RX6 128 RX0 yX0_plotAt wsX0_plotAt) := goodIn_app (goodIn_of _ (by decide +kernel)) ggX6_sign_X0_plotAt
set_option maxRecDepth 20000 in
theorem ggX6_sign_J0_length_8abf5 : GoodIn wsX6_sign wsJ0_length_8abf5 := goodIn_r _ [18, 19, 20, 21, 22, 17, 23, 24, 25, 79, 80, 81, 82] (by decide +kernel) (by decide +kernel)
set_option maxRecDepth 20000 in
theorem gX6_sign_J0_length_8abf5 : GoodIn wsX6_sign (wsV RX6 173 RJ0 yJ0_length_8abf5 wsJ0_length_8abf5) := goodIn_app (goodIn_of _ (by decide +kernel)) ggX6_sign_J0_length_8abf5
set_option maxRecDepth 20000 in
theorem ggX6_sign_J0_charAt_5068e : GoodIn wsX6_sign wsJ0_charAt_5068e := goodIn_r _ [29, 19, 30, 31, 32, 17, 33, 24, 25, 34, 35, 36, 37, 38, 39, 40, 41, 42, 43, 44, 45, 46, 47, 48, 49, 50, 51, 52, 53, 54, 55, 56, 57, 58, 59, 60, 61, 62, 79, 80, 81, 82] (by decide +kernel) (by decide +kernel)
set_option maxRecDepth 20000 in
theorem gX6_sign_J0_charAt_5068e : GoodIn wsX6_sign (wsV RX6 177 RJ0 yJ0_charAt_5068e wsJ0_charAt_5068e) := goodIn_app (goodIn_of _ (by decide +kernel)) ggX6_sign_J0_charAt_5068e
theorem dX6_sign_0 : decode cX6_sign 0 = .ok (.aload_n 0, 1) := by decide +kernel
theorem dX6_sign_1 : decode cX6_sign 1 = .ok (.getfield 19, 3) := by decide +kernel
theorem dX6_sign_4 : decode cX6_sign 4 = .ok (.iload_n 1, 1) := by decide +kernel
theorem dX6_sign_5 : decode cX6_sign 5 = .ok (.invokevirtual 128, 3) := by decide +kernel
theorem dX6_sign_8 : decode cX6_sign 8 = .ok (.astore_n 3, 1) := by decide +kernel
theorem dX6_sign_9 : decode cX6_sign 9 = .ok (.aload_n 3, 1) := by decide +kernel
theorem dX6_sign_10 : decode cX6_sign 10 = .ok (.ifnonnull 5, 3) := by decide +kernel
theorem dX6_sign_13 : decode cX6_sign 13 = .ok (.iconst (-1), 1) := by decide +kernel
theorem dX6_sign_14 : decode cX6_sign 14 = .ok (.ireturn, 1) := by decide +kernel
theorem dX6_sign_15 : decode cX6_sign 15 = .ok (.aload_n 3, 1) := by decide +kernel
theorem dX6_sign_16 : decode cX6_sign 16 = .ok (.getfield 169, 3) := by decide +kernel
theorem dX6_sign_19 : decode cX6_sign 19 = .ok (.invokevirtual 173, 3) := by decide +kernel
theorem dX6_sign_22 : decode cX6_sign 22 = .ok (.istore 4, 2) := by decide +kernel
theorem dX6_sign_24 : decode cX6_sign 24 = .ok (.iload_n 2, 1) := by decide +kernel
theorem dX6_sign_25 : decode cX6_sign 25 = .ok (.iconst (-1), 1) := by decide +kernel
theorem dX6_sign_26 : decode cX6_sign 26 = .ok (.if_icmp .ne 6, 3) := by decide +kernel
theorem dX6_sign_29 : decode cX6_sign 29 = .ok (.iload 4, 2) := by decide +kernel
theorem dX6_sign_31 : decode cX6_sign 31 = .ok (.ireturn, 1) := by decide +kernel
theorem dX6_sign_32 : decode cX6_sign 32 = .ok (.iload_n 2, 1) := by decide +kernel
theorem dX6_sign_33 : decode cX6_sign 33 = .ok (.ifCond .lt 20, 3) := by decide +kernel
theorem dX6_sign_36 : decode cX6_sign 36 = .ok (.iload_n 2, 1) := by decide +kernel
theorem dX6_sign_37 : decode cX6_sign 37 = .ok (.iload 4, 2) := by decide +kernel
theorem dX6_sign_39 : decode cX6_sign 39 = .ok (.if_icmp .ge 14, 3) := by decide +kernel
theorem dX6_sign_42 : decode cX6_sign 42 = .ok (.aload_n 3, 1) := by decide +kernel
theorem dX6_sign_43 : decode cX6_sign 43 = .ok (.getfield 169, 3) := by decide +kernel
theorem dX6_sign_46 : decode cX6_sign 46 = .ok (.iload_n 2, 1) := by decide +kernel
theorem dX6_sign_47 : decode cX6_sign 47 = .ok (.invokevirtual 177, 3) := by decide +kernel
theorem dX6_sign_50 : decode cX6_sign 50 = .ok (.goto 5, 3) := by decide +kernel
theorem dX6_sign_53 : decode cX6_sign 53 = .ok (.bipush (-6), 2) := by decide +kernel
theorem dX6_sign_55 : decode cX6_sign 55 = .ok (.ireturn, 1) := by decide +kernel
set_option maxRecDepth 20000 in
theorem ggX6_west_X0_plotAt : GoodIn wsX6_west wsX0_plotAt := goodIn_r _ [12, 13, 14, 15, 16, 11, 17, 18, 77, 78, 79, 80] (by decide +kernel) (by decide +kernel)
set_option maxRecDepth 20000 in
theorem gX6_west_X0_plotAt : GoodIn wsX6_west (wsV RX6 128 RX0 yX0_plotAt wsX0_plotAt) := goodIn_app (goodIn_of _ (by decide +kernel)) ggX6_west_X0_plotAt
set_option maxRecDepth 20000 in
theorem ggX6_west_X6_isPlace : GoodIn wsX6_west wsX6_isPlace := goodIn_r _ [22] (by decide +kernel) (by decide +kernel)
set_option maxRecDepth 20000 in
theorem gX6_west_X6_isPlace : GoodIn wsX6_west (va_wsS RX6 183 yX6_isPlace wsX6_isPlace) := goodIn_app (goodIn_of _ (by decide +kernel)) ggX6_west_X6_isPlace
set_option maxRecDepth 20000 in
theorem ggX6_west_X1_measureWest : GoodIn wsX6_west wsX1_measureWest := goodIn_r _ [27, 28, 29, 30, 31, 32, 33, 34, 35, 36, 37, 38, 39, 26, 40, 41, 42, 43, 44, 45, 46, 47, 48, 49, 50, 51, 52, 53, 54, 55, 56, 57, 21, 58, 59, 60, 61, 62, 81, 82, 83, 75, 76] (by decide +kernel) (by decide +kernel)
set_option maxRecDepth 20000 in
theorem gX6_west_X1_measureWest : GoodIn wsX6_west (wsV RX6 188 RX1 yX1_measureWest wsX1_measureWest) := goodIn_app (goodIn_of _ (by decide +kernel)) ggX6_west_X1_measureWest
theorem dX6_west_0 : decode cX6_west 0 = .ok (.aload_n 0, 1) := by decide +kernel
theorem dX6_west_1 : decode cX6_west 1 = .ok (.getfield 19, 3) := by decide +kernel
theorem dX6_west_4 : decode cX6_west 4 = .ok (.iload_n 1, 1) := by decide +kernel
theorem dX6_west_5 : decode cX6_west 5 = .ok (.invokevirtual 128, 3) := by decide +kernel
theorem dX6_west_8 : decode cX6_west 8 = .ok (.astore 4, 2) := by decide +kernel
theorem dX6_west_10 : decode cX6_west 10 = .ok (.aload 4, 2) := by decide +kernel
theorem dX6_west_12 : decode cX6_west 12 = .ok (.ifnonnull 7, 3) := by decide +kernel
theorem dX6_west_15 : decode cX6_west 15 = .ok (.ldc2_w 181, 3) := by decide +kernel
theorem dX6_west_18 : decode cX6_west 18 = .ok (.lreturn, 1) := by decide +kernel
theorem dX6_west_19 : decode cX6_west 19 = .ok (.iload_n 2, 1) := by decide +kernel
theorem dX6_west_20 : decode cX6_west 20 = .ok (.invokestatic 183, 3) := by decide +kernel
theorem dX6_west_23 : decode cX6_west 23 = .ok (.ifCond .eq 12, 3) := by decide +kernel
theorem dX6_west_26 : decode cX6_west 26 = .ok (.iload_n 3, 1) := by decide +kernel
theorem dX6_west_27 : decode cX6_west 27 = .ok (.ifCond .lt 8, 3) := by decide +kernel
theorem dX6_west_30 : decode cX6_west 30 = .ok (.iload_n 3, 1) := by decide +kernel
theorem dX6_west_31 : decode cX6_west 31 = .ok (.iconst 1, 1) := by decide +kernel
theorem dX6_west_32 : decode cX6_west 32 = .ok (.if_icmp .le 7, 3) := by decide +kernel
theorem dX6_west_35 : decode cX6_west 35 = .ok (.ldc2_w 186, 3) := by decide +kernel
theorem dX6_west_38 : decode cX6_west 38 = .ok (.lreturn, 1) := by decide +kernel
theorem dX6_west_39 : decode cX6_west 39 = .ok (.aload 4, 2) := by decide +kernel
theorem dX6_west_41 : decode cX6_west 41 = .ok (.getfield 135, 3) := by decide +kernel
theorem dX6_west_44 : decode cX6_west 44 = .ok (.iload_n 2, 1) := by decide +kernel
theorem dX6_west_45 : decode cX6_west 45 = .ok (.aload_n 0, 1) := by decide +kernel
theorem dX6_west_46 : decode cX6_west 46 = .ok (.getfield 39, 3) := by decide +kernel
theorem dX6_west_49 : decode cX6_west 49 = .ok (.invokevirtual 188, 3) := by decide +kernel
theorem dX6_west_52 : decode cX6_west 52 = .ok (.iload_n 3, 1) := by decide +kernel
theorem dX6_west_53 : decode cX6_west 53 = .ok (.ifCond .ne 13, 3) := by decide +kernel
theorem dX6_west_56 : decode cX6_west 56 = .ok (.aload_n 0, 1) := by decide +kernel
theorem dX6_west_57 : decode cX6_west 57 = .ok (.getfield 39, 3) := by decide +kernel
theorem dX6_west_60 : decode cX6_west 60 = .ok (.getfield 192, 3) := by decide +kernel
theorem dX6_west_63 : decode cX6_west 63 = .ok (.goto 10, 3) := by decide +kernel
theorem dX6_west_66 : decode cX6_west 66 = .ok (.aload_n 0, 1) := by decide +kernel
theorem dX6_west_67 : decode cX6_west 67 = .ok (.getfield 39, 3) := by decide +kernel
theorem dX6_west_70 : decode cX6_west 70 = .ok (.getfield 196, 3) := by decide +kernel
theorem dX6_west_73 : decode cX6_west 73 = .ok (.lreturn, 1) := by decide +kernel
set_option maxRecDepth 20000 in
theorem ggX6_line_X0_plotAt : GoodIn wsX6_line wsX0_plotAt := goodIn_r _ [10, 11, 12, 13, 14, 9, 15, 16, 72, 73, 74, 75] (by decide +kernel) (by decide +kernel)
set_option maxRecDepth 20000 in
theorem gX6_line_X0_plotAt : GoodIn wsX6_line (wsV RX6 128 RX0 yX0_plotAt wsX0_plotAt) := goodIn_app (goodIn_of _ (by decide +kernel)) ggX6_line_X0_plotAt
set_option maxRecDepth 20000 in
theorem ggX6_line_X1_measureWest : GoodIn wsX6_line wsX1_measureWest := goodIn_r _ [21, 22, 23, 24, 25, 26, 27, 28, 29, 30, 31, 32, 33, 20, 34, 35, 36, 37, 38, 39, 40, 41, 42, 43, 44, 45, 46, 47, 48, 49, 50, 51, 52, 53, 54, 55, 56, 57, 76, 77, 78, 70, 71] (by decide +kernel) (by decide +kernel)
set_option maxRecDepth 20000 in
theorem gX6_line_X1_measureWest : GoodIn wsX6_line (wsV RX6 188 RX1 yX1_measureWest wsX1_measureWest) := goodIn_app (goodIn_of _ (by decide +kernel)) ggX6_line_X1_measureWest
theorem dX6_line_0 : decode cX6_line 0 = .ok (.aload_n 0, 1) := by decide +kernel
theorem dX6_line_1 : decode cX6_line 1 = .ok (.getfield 19, 3) := by decide +kernel
theorem dX6_line_4 : decode cX6_line 4 = .ok (.iload_n 1, 1) := by decide +kernel
theorem dX6_line_5 : decode cX6_line 5 = .ok (.invokevirtual 128, 3) := by decide +kernel
theorem dX6_line_8 : decode cX6_line 8 = .ok (.astore_n 3, 1) := by decide +kernel
theorem dX6_line_9 : decode cX6_line 9 = .ok (.aload_n 3, 1) := by decide +kernel
theorem dX6_line_10 : decode cX6_line 10 = .ok (.ifnonnull 5, 3) := by decide +kernel
theorem dX6_line_13 : decode cX6_line 13 = .ok (.iconst (-1), 1) := by decide +kernel
theorem dX6_line_14 : decode cX6_line 14 = .ok (.ireturn, 1) := by decide +kernel
theorem dX6_line_15 : decode cX6_line 15 = .ok (.iload_n 2, 1) := by decide +kernel
theorem dX6_line_16 : decode cX6_line 16 = .ok (.iconst 1, 1) := by decide +kernel
theorem dX6_line_17 : decode cX6_line 17 = .ok (.if_icmp .lt 10, 3) := by decide +kernel
theorem dX6_line_20 : decode cX6_line 20 = .ok (.iload_n 2, 1) := by decide +kernel
theorem dX6_line_21 : decode cX6_line 21 = .ok (.sipush 2000, 3) := by decide +kernel
theorem dX6_line_24 : decode cX6_line 24 = .ok (.if_icmp .le 6, 3) := by decide +kernel
theorem dX6_line_27 : decode cX6_line 27 = .ok (.bipush (-2), 2) := by decide +kernel
theorem dX6_line_29 : decode cX6_line 29 = .ok (.ireturn, 1) := by decide +kernel
theorem dX6_line_30 : decode cX6_line 30 = .ok (.iconst 0, 1) := by decide +kernel
theorem dX6_line_31 : decode cX6_line 31 = .ok (.istore 4, 2) := by decide +kernel
theorem dX6_line_33 : decode cX6_line 33 = .ok (.iload 4, 2) := by decide +kernel
theorem dX6_line_35 : decode cX6_line 35 = .ok (.bipush 32, 2) := by decide +kernel
theorem dX6_line_37 : decode cX6_line 37 = .ok (.if_icmp .ge 46, 3) := by decide +kernel
theorem dX6_line_40 : decode cX6_line 40 = .ok (.aload_n 3, 1) := by decide +kernel
theorem dX6_line_41 : decode cX6_line 41 = .ok (.getfield 135, 3) := by decide +kernel
theorem dX6_line_44 : decode cX6_line 44 = .ok (.iload 4, 2) := by decide +kernel
theorem dX6_line_46 : decode cX6_line 46 = .ok (.aload_n 0, 1) := by decide +kernel
theorem dX6_line_47 : decode cX6_line 47 = .ok (.getfield 39, 3) := by decide +kernel
theorem dX6_line_50 : decode cX6_line 50 = .ok (.invokevirtual 188, 3) := by decide +kernel
theorem dX6_line_53 : decode cX6_line 53 = .ok (.aload_n 0, 1) := by decide +kernel
theorem dX6_line_54 : decode cX6_line 54 = .ok (.getfield 39, 3) := by decide +kernel
theorem dX6_line_57 : decode cX6_line 57 = .ok (.getfield 192, 3) := by decide +kernel
theorem dX6_line_60 : decode cX6_line 60 = .ok (.iload_n 2, 1) := by decide +kernel
theorem dX6_line_61 : decode cX6_line 61 = .ok (.i2l, 1) := by decide +kernel
theorem dX6_line_62 : decode cX6_line 62 = .ok (.aload_n 0, 1) := by decide +kernel
theorem dX6_line_63 : decode cX6_line 63 = .ok (.getfield 39, 3) := by decide +kernel
theorem dX6_line_66 : decode cX6_line 66 = .ok (.getfield 196, 3) := by decide +kernel
theorem dX6_line_69 : decode cX6_line 69 = .ok (.lmul, 1) := by decide +kernel
theorem dX6_line_70 : decode cX6_line 70 = .ok (.lcmp, 1) := by decide +kernel
theorem dX6_line_71 : decode cX6_line 71 = .ok (.ifCond .lt 6, 3) := by decide +kernel
theorem dX6_line_74 : decode cX6_line 74 = .ok (.iload 4, 2) := by decide +kernel
theorem dX6_line_76 : decode cX6_line 76 = .ok (.ireturn, 1) := by decide +kernel
theorem dX6_line_77 : decode cX6_line 77 = .ok (.iinc 4 1, 3) := by decide +kernel
theorem dX6_line_80 : decode cX6_line 80 = .ok (.goto (-47), 3) := by decide +kernel
theorem dX6_line_83 : decode cX6_line 83 = .ok (.bipush (-6), 2) := by decide +kernel
theorem dX6_line_85 : decode cX6_line 85 = .ok (.ireturn, 1) := by decide +kernel
set_option maxRecDepth 20000 in
theorem ggX6_common_X0_plotAt : GoodIn wsX6_common wsX0_plotAt := goodIn_r _ [9, 10, 11, 12, 13, 8, 14, 15, 39, 40, 41, 42] (by decide +kernel) (by decide +kernel)
set_option maxRecDepth 20000 in
theorem gX6_common_X0_plotAt : GoodIn wsX6_common (wsV RX6 128 RX0 yX0_plotAt wsX0_plotAt) := goodIn_app (goodIn_of _ (by decide +kernel)) ggX6_common_X0_plotAt
set_option maxRecDepth 20000 in
theorem ggX6_common_X6_howManyInBoth : GoodIn wsX6_common wsX6_howManyInBoth := goodIn_r _ [19, 20, 21, 22, 23, 24, 25, 26] (by decide +kernel) (by decide +kernel)
set_option maxRecDepth 20000 in
theorem gX6_common_X6_howManyInBoth : GoodIn wsX6_common (va_wsS RX6 199 yX6_howManyInBoth wsX6_howManyInBoth) := goodIn_app (goodIn_of _ (by decide +kernel)) ggX6_common_X6_howManyInBoth
theorem dX6_common_0 : decode cX6_common 0 = .ok (.aload_n 0, 1) := by decide +kernel
theorem dX6_common_1 : decode cX6_common 1 = .ok (.getfield 19, 3) := by decide +kernel
theorem dX6_common_4 : decode cX6_common 4 = .ok (.iload_n 1, 1) := by decide +kernel
theorem dX6_common_5 : decode cX6_common 5 = .ok (.invokevirtual 128, 3) := by decide +kernel
theorem dX6_common_8 : decode cX6_common 8 = .ok (.astore 4, 2) := by decide +kernel
theorem dX6_common_10 : decode cX6_common 10 = .ok (.aload_n 0, 1) := by decide +kernel
theorem dX6_common_11 : decode cX6_common 11 = .ok (.getfield 19, 3) := by decide +kernel
theorem dX6_common_14 : decode cX6_common 14 = .ok (.iload_n 2, 1) := by decide +kernel
theorem dX6_common_15 : decode cX6_common 15 = .ok (.invokevirtual 128, 3) := by decide +kernel
theorem dX6_common_18 : decode cX6_common 18 = .ok (.astore 5, 2) := by decide +kernel
theorem dX6_common_20 : decode cX6_common 20 = .ok (.aload 4, 2) := by decide +kernel
theorem dX6_common_22 : decode cX6_common 22 = .ok (.ifnull 8, 3) := by decide +kernel
theorem dX6_common_25 : decode cX6_common 25 = .ok (.aload 5, 2) := by decide +kernel
theorem dX6_common_27 : decode cX6_common 27 = .ok (.ifnonnull 5, 3) := by decide +kernel
theorem dX6_common_30 : decode cX6_common 30 = .ok (.iconst (-1), 1) := by decide +kernel
theorem dX6_common_31 : decode cX6_common 31 = .ok (.ireturn, 1) := by decide +kernel
theorem dX6_common_32 : decode cX6_common 32 = .ok (.iload_n 3, 1) := by decide +kernel
theorem dX6_common_33 : decode cX6_common 33 = .ok (.tableswitch 69 0 2 #[27, 41, 55], 27) := by decide +kernel
theorem dX6_common_60 : decode cX6_common 60 = .ok (.aload 4, 2) := by decide +kernel
theorem dX6_common_62 : decode cX6_common 62 = .ok (.getfield 166, 3) := by decide +kernel
theorem dX6_common_65 : decode cX6_common 65 = .ok (.aload 5, 2) := by decide +kernel
theorem dX6_common_67 : decode cX6_common 67 = .ok (.getfield 166, 3) := by decide +kernel
theorem dX6_common_70 : decode cX6_common 70 = .ok (.invokestatic 199, 3) := by decide +kernel
theorem dX6_common_73 : decode cX6_common 73 = .ok (.ireturn, 1) := by decide +kernel
theorem dX6_common_74 : decode cX6_common 74 = .ok (.aload 4, 2) := by decide +kernel
theorem dX6_common_76 : decode cX6_common 76 = .ok (.getfield 160, 3) := by decide +kernel
theorem dX6_common_79 : decode cX6_common 79 = .ok (.aload 5, 2) := by decide +kernel
theorem dX6_common_81 : decode cX6_common 81 = .ok (.getfield 160, 3) := by decide +kernel
theorem dX6_common_84 : decode cX6_common 84 = .ok (.invokestatic 199, 3) := by decide +kernel
theorem dX6_common_87 : decode cX6_common 87 = .ok (.ireturn, 1) := by decide +kernel
theorem dX6_common_88 : decode cX6_common 88 = .ok (.aload 4, 2) := by decide +kernel
theorem dX6_common_90 : decode cX6_common 90 = .ok (.getfield 203, 3) := by decide +kernel
theorem dX6_common_93 : decode cX6_common 93 = .ok (.aload 5, 2) := by decide +kernel
theorem dX6_common_95 : decode cX6_common 95 = .ok (.getfield 203, 3) := by decide +kernel
theorem dX6_common_98 : decode cX6_common 98 = .ok (.invokestatic 199, 3) := by decide +kernel
theorem dX6_common_101 : decode cX6_common 101 = .ok (.ireturn, 1) := by decide +kernel
theorem dX6_common_102 : decode cX6_common 102 = .ok (.bipush (-2), 2) := by decide +kernel
theorem dX6_common_104 : decode cX6_common 104 = .ok (.ireturn, 1) := by decide +kernel
set_option maxRecDepth 20000 in
theorem ggX6_right_X6_isPost : GoodIn wsX6_right wsX6_isPost := goodIn_r _ [5, 6, 7, 4, 8] (by decide +kernel) (by decide +kernel)
set_option maxRecDepth 20000 in
theorem gX6_right_X6_isPost : GoodIn wsX6_right (va_wsS RX6 61 yX6_isPost wsX6_isPost) := goodIn_app (goodIn_of _ (by decide +kernel)) ggX6_right_X6_isPost
set_option maxRecDepth 20000 in
theorem ggX6_right_X0_oldestThatHolds : GoodIn wsX6_right wsX0_oldestThatHolds := goodIn_r _ [13, 14, 15, 16, 17, 12, 18, 19, 20, 21, 22, 23, 24, 25, 26, 27, 28, 7, 4, 8, 29, 30, 31, 32, 33, 34, 35, 36, 37, 38, 39, 47, 48, 49, 50, 51, 52, 53, 54, 55] (by decide +kernel) (by decide +kernel)
set_option maxRecDepth 20000 in
theorem gX6_right_X0_oldestThatHolds : GoodIn wsX6_right (wsV RX6 206 RX0 yX0_oldestThatHolds wsX0_oldestThatHolds) := goodIn_app (goodIn_of _ (by decide +kernel)) ggX6_right_X0_oldestThatHolds
theorem dX6_right_0 : decode cX6_right 0 = .ok (.iload_n 1, 1) := by decide +kernel
theorem dX6_right_1 : decode cX6_right 1 = .ok (.iload_n 2, 1) := by decide +kernel
theorem dX6_right_2 : decode cX6_right 2 = .ok (.invokestatic 61, 3) := by decide +kernel
theorem dX6_right_5 : decode cX6_right 5 = .ok (.ifCond .ne 6, 3) := by decide +kernel
theorem dX6_right_8 : decode cX6_right 8 = .ok (.bipush (-2), 2) := by decide +kernel
theorem dX6_right_10 : decode cX6_right 10 = .ok (.ireturn, 1) := by decide +kernel
theorem dX6_right_11 : decode cX6_right 11 = .ok (.aload_n 0, 1) := by decide +kernel
theorem dX6_right_12 : decode cX6_right 12 = .ok (.getfield 19, 3) := by decide +kernel
theorem dX6_right_15 : decode cX6_right 15 = .ok (.iload_n 1, 1) := by decide +kernel
theorem dX6_right_16 : decode cX6_right 16 = .ok (.iload_n 2, 1) := by decide +kernel
theorem dX6_right_17 : decode cX6_right 17 = .ok (.invokevirtual 206, 3) := by decide +kernel
theorem dX6_right_20 : decode cX6_right 20 = .ok (.ireturn, 1) := by decide +kernel
set_option maxRecDepth 20000 in
theorem ggX6_gap_X5_survey : GoodIn wsX6_gap wsX5_survey := goodIn_r _ [12, 13, 14, 15, 16, 17, 18, 19, 20, 21, 22, 23, 24, 25, 26, 27, 28, 29, 30, 31, 32, 33, 34, 35, 36, 37, 38, 39, 40, 41, 42, 43, 44, 45, 46, 47, 48, 49, 50, 51, 52, 53, 11, 54, 55, 56, 57, 58, 59, 60, 61, 62, 63, 64, 65, 66, 67, 75, 76, 77, 78, 79, 80, 81, 82, 83, 84, 85, 86, 87, 88, 89, 90, 91] (by decide +kernel) (by decide +kernel)
set_option maxRecDepth 20000 in
theorem gX6_gap_X5_survey : GoodIn wsX6_gap (wsV RX6 210 RX5 yX5_survey wsX5_survey) := goodIn_app (goodIn_of _ (by decide +kernel)) ggX6_gap_X5_survey
theorem dX6_gap_0 : decode cX6_gap 0 = .ok (.iload_n 1, 1) := by decide +kernel
theorem dX6_gap_1 : decode cX6_gap 1 = .ok (.ifCond .lt 8, 3) := by decide +kernel
theorem dX6_gap_4 : decode cX6_gap 4 = .ok (.iload_n 1, 1) := by decide +kernel
theorem dX6_gap_5 : decode cX6_gap 5 = .ok (.iconst 4, 1) := by decide +kernel
theorem dX6_gap_6 : decode cX6_gap 6 = .ok (.if_icmp .le 6, 3) := by decide +kernel
theorem dX6_gap_9 : decode cX6_gap 9 = .ok (.bipush (-2), 2) := by decide +kernel
theorem dX6_gap_11 : decode cX6_gap 11 = .ok (.ireturn, 1) := by decide +kernel
theorem dX6_gap_12 : decode cX6_gap 12 = .ok (.aload_n 0, 1) := by decide +kernel
theorem dX6_gap_13 : decode cX6_gap 13 = .ok (.getfield 32, 3) := by decide +kernel
theorem dX6_gap_16 : decode cX6_gap 16 = .ok (.aload_n 0, 1) := by decide +kernel
theorem dX6_gap_17 : decode cX6_gap 17 = .ok (.getfield 19, 3) := by decide +kernel
theorem dX6_gap_20 : decode cX6_gap 20 = .ok (.invokevirtual 210, 3) := by decide +kernel
theorem dX6_gap_23 : decode cX6_gap 23 = .ok (.iload_n 1, 1) := by decide +kernel
theorem dX6_gap_24 : decode cX6_gap 24 = .ok (.tableswitch 64 0 3 #[32, 40, 48, 56], 32) := by decide +kernel
theorem dX6_gap_56 : decode cX6_gap 56 = .ok (.aload_n 0, 1) := by decide +kernel
theorem dX6_gap_57 : decode cX6_gap 57 = .ok (.getfield 32, 3) := by decide +kernel
theorem dX6_gap_60 : decode cX6_gap 60 = .ok (.getfield 214, 3) := by decide +kernel
theorem dX6_gap_63 : decode cX6_gap 63 = .ok (.ireturn, 1) := by decide +kernel
theorem dX6_gap_64 : decode cX6_gap 64 = .ok (.aload_n 0, 1) := by decide +kernel
theorem dX6_gap_65 : decode cX6_gap 65 = .ok (.getfield 32, 3) := by decide +kernel
theorem dX6_gap_68 : decode cX6_gap 68 = .ok (.getfield 217, 3) := by decide +kernel
theorem dX6_gap_71 : decode cX6_gap 71 = .ok (.ireturn, 1) := by decide +kernel
theorem dX6_gap_72 : decode cX6_gap 72 = .ok (.aload_n 0, 1) := by decide +kernel
theorem dX6_gap_73 : decode cX6_gap 73 = .ok (.getfield 32, 3) := by decide +kernel
theorem dX6_gap_76 : decode cX6_gap 76 = .ok (.getfield 220, 3) := by decide +kernel
theorem dX6_gap_79 : decode cX6_gap 79 = .ok (.ireturn, 1) := by decide +kernel
theorem dX6_gap_80 : decode cX6_gap 80 = .ok (.aload_n 0, 1) := by decide +kernel
theorem dX6_gap_81 : decode cX6_gap 81 = .ok (.getfield 32, 3) := by decide +kernel
theorem dX6_gap_84 : decode cX6_gap 84 = .ok (.getfield 223, 3) := by decide +kernel
theorem dX6_gap_87 : decode cX6_gap 87 = .ok (.ireturn, 1) := by decide +kernel
theorem dX6_gap_88 : decode cX6_gap 88 = .ok (.aload_n 0, 1) := by decide +kernel
theorem dX6_gap_89 : decode cX6_gap 89 = .ok (.getfield 32, 3) := by decide +kernel
theorem dX6_gap_92 : decode cX6_gap 92 = .ok (.getfield 226, 3) := by decide +kernel
theorem dX6_gap_95 : decode cX6_gap 95 = .ok (.ireturn, 1) := by decide +kernel
set_option maxRecDepth 20000 in
theorem ggX6_count_X0_howManyDisputed : GoodIn wsX6_count wsX0_howManyDisputed := goodIn_r _ [11, 12, 13, 14, 15, 10, 16, 17, 18, 19, 20, 21, 22, 23, 24, 25, 26, 27, 28, 29, 30, 31, 32, 33, 34, 35, 36, 44, 45, 46, 47, 56, 57, 58, 59, 60] (by decide +kernel) (by decide +kernel)
set_option maxRecDepth 20000 in
theorem gX6_count_X0_howManyDisputed : GoodIn wsX6_count (wsV RX6 229 RX0 yX0_howManyDisputed wsX0_howManyDisputed) := goodIn_app (goodIn_of _ (by decide +kernel)) ggX6_count_X0_howManyDisputed
theorem dX6_count_0 : decode cX6_count 0 = .ok (.iload_n 1, 1) := by decide +kernel
theorem dX6_count_1 : decode cX6_count 1 = .ok (.tableswitch 72 0 4 #[35, 43, 51, 59, 67], 35) := by decide +kernel
theorem dX6_count_36 : decode cX6_count 36 = .ok (.aload_n 0, 1) := by decide +kernel
theorem dX6_count_37 : decode cX6_count 37 = .ok (.getfield 19, 3) := by decide +kernel
theorem dX6_count_40 : decode cX6_count 40 = .ok (.getfield 98, 3) := by decide +kernel
theorem dX6_count_43 : decode cX6_count 43 = .ok (.ireturn, 1) := by decide +kernel
theorem dX6_count_44 : decode cX6_count 44 = .ok (.aload_n 0, 1) := by decide +kernel
theorem dX6_count_45 : decode cX6_count 45 = .ok (.getfield 10, 3) := by decide +kernel
theorem dX6_count_48 : decode cX6_count 48 = .ok (.getfield 51, 3) := by decide +kernel
theorem dX6_count_51 : decode cX6_count 51 = .ok (.ireturn, 1) := by decide +kernel
theorem dX6_count_52 : decode cX6_count 52 = .ok (.aload_n 0, 1) := by decide +kernel
theorem dX6_count_53 : decode cX6_count 53 = .ok (.getfield 19, 3) := by decide +kernel
theorem dX6_count_56 : decode cX6_count 56 = .ok (.getfield 43, 3) := by decide +kernel
theorem dX6_count_59 : decode cX6_count 59 = .ok (.ireturn, 1) := by decide +kernel
theorem dX6_count_60 : decode cX6_count 60 = .ok (.aload_n 0, 1) := by decide +kernel
theorem dX6_count_61 : decode cX6_count 61 = .ok (.getfield 19, 3) := by decide +kernel
theorem dX6_count_64 : decode cX6_count 64 = .ok (.invokevirtual 229, 3) := by decide +kernel
theorem dX6_count_67 : decode cX6_count 67 = .ok (.ireturn, 1) := by decide +kernel
theorem dX6_count_68 : decode cX6_count 68 = .ok (.aload_n 0, 1) := by decide +kernel
theorem dX6_count_69 : decode cX6_count 69 = .ok (.getfield 232, 3) := by decide +kernel
theorem dX6_count_72 : decode cX6_count 72 = .ok (.ireturn, 1) := by decide +kernel
theorem dX6_count_73 : decode cX6_count 73 = .ok (.bipush (-2), 2) := by decide +kernel
theorem dX6_count_75 : decode cX6_count 75 = .ok (.ireturn, 1) := by decide +kernel
set_option maxRecDepth 20000 in
theorem ggX6_image_X6_imageAt : GoodIn wsX6_image wsX6_imageAt := goodIn_r _ [7, 8, 9, 19, 20, 21, 22, 23, 24, 25] (by decide +kernel) (by decide +kernel)
set_option maxRecDepth 20000 in
theorem gX6_image_X6_imageAt : GoodIn wsX6_image (wsV RX6 235 RX6 yX6_imageAt wsX6_imageAt) := goodIn_app (goodIn_of _ (by decide +kernel)) ggX6_image_X6_imageAt
set_option maxRecDepth 20000 in
theorem ggX6_image_X0_become : GoodIn wsX6_image wsX0_become := goodIn_r _ [14, 15, 16, 17, 18, 26, 27, 28, 29] (by decide +kernel) (by decide +kernel)
set_option maxRecDepth 20000 in
theorem gX6_image_X0_become : GoodIn wsX6_image (wsV RX6 239 RX0 yX0_become wsX0_become) := goodIn_app (goodIn_of _ (by decide +kernel)) ggX6_image_X0_become
theorem dX6_image_0 : decode cX6_image 0 = .ok (.iload_n 1, 1) := by decide +kernel
theorem dX6_image_1 : decode cX6_image 1 = .ok (.ifCond .lt 8, 3) := by decide +kernel
theorem dX6_image_4 : decode cX6_image 4 = .ok (.iload_n 1, 1) := by decide +kernel
theorem dX6_image_5 : decode cX6_image 5 = .ok (.iconst 1, 1) := by decide +kernel
theorem dX6_image_6 : decode cX6_image 6 = .ok (.if_icmp .le 6, 3) := by decide +kernel
theorem dX6_image_9 : decode cX6_image 9 = .ok (.bipush (-2), 2) := by decide +kernel
theorem dX6_image_11 : decode cX6_image 11 = .ok (.ireturn, 1) := by decide +kernel
theorem dX6_image_12 : decode cX6_image 12 = .ok (.aload_n 0, 1) := by decide +kernel
theorem dX6_image_13 : decode cX6_image 13 = .ok (.iload_n 1, 1) := by decide +kernel
theorem dX6_image_14 : decode cX6_image 14 = .ok (.invokevirtual 235, 3) := by decide +kernel
theorem dX6_image_17 : decode cX6_image 17 = .ok (.aload_n 0, 1) := by decide +kernel
theorem dX6_image_18 : decode cX6_image 18 = .ok (.getfield 19, 3) := by decide +kernel
theorem dX6_image_21 : decode cX6_image 21 = .ok (.invokevirtual 239, 3) := by decide +kernel
theorem dX6_image_24 : decode cX6_image 24 = .ok (.aload_n 0, 1) := by decide +kernel
theorem dX6_image_25 : decode cX6_image 25 = .ok (.dup, 1) := by decide +kernel
theorem dX6_image_26 : decode cX6_image 26 = .ok (.getfield 232, 3) := by decide +kernel
theorem dX6_image_29 : decode cX6_image 29 = .ok (.iconst 1, 1) := by decide +kernel
theorem dX6_image_30 : decode cX6_image 30 = .ok (.iload_n 1, 1) := by decide +kernel
theorem dX6_image_31 : decode cX6_image 31 = .ok (.ishl, 1) := by decide +kernel
theorem dX6_image_32 : decode cX6_image 32 = .ok (.ior, 1) := by decide +kernel
theorem dX6_image_33 : decode cX6_image 33 = .ok (.putfield 232, 3) := by decide +kernel
theorem dX6_image_36 : decode cX6_image 36 = .ok (.iconst 1, 1) := by decide +kernel
theorem dX6_image_37 : decode cX6_image 37 = .ok (.ireturn, 1) := by decide +kernel
set_option maxRecDepth 20000 in
theorem ggX6_restore_X6_imageAt : GoodIn wsX6_restore wsX6_imageAt := goodIn_r _ [7, 8, 9, 19, 20, 21, 22, 23, 24, 25] (by decide +kernel) (by decide +kernel)
set_option maxRecDepth 20000 in
theorem gX6_restore_X6_imageAt : GoodIn wsX6_restore (wsV RX6 235 RX6 yX6_imageAt wsX6_imageAt) := goodIn_app (goodIn_of _ (by decide +kernel)) ggX6_restore_X6_imageAt
set_option maxRecDepth 20000 in
theorem ggX6_restore_X0_become : GoodIn wsX6_restore wsX0_become := goodIn_r _ [14, 15, 16, 17, 18, 26, 27, 28, 29] (by decide +kernel) (by decide +kernel)
set_option maxRecDepth 20000 in
theorem gX6_restore_X0_become : GoodIn wsX6_restore (wsV RX6 239 RX0 yX0_become wsX0_become) := goodIn_app (goodIn_of _ (by decide +kernel)) ggX6_restore_X0_become
theorem dX6_restore_0 : decode cX6_restore 0 = .ok (.iload_n 1, 1) := by decide +kernel
theorem dX6_restore_1 : decode cX6_restore 1 = .ok (.ifCond .lt 8, 3) := by decide +kernel
theorem dX6_restore_4 : decode cX6_restore 4 = .ok (.iload_n 1, 1) := by decide +kernel
theorem dX6_restore_5 : decode cX6_restore 5 = .ok (.iconst 1, 1) := by decide +kernel
theorem dX6_restore_6 : decode cX6_restore 6 = .ok (.if_icmp .le 6, 3) := by decide +kernel
theorem dX6_restore_9 : decode cX6_restore 9 = .ok (.bipush (-2), 2) := by decide +kernel
theorem dX6_restore_11 : decode cX6_restore 11 = .ok (.ireturn, 1) := by decide +kernel
theorem dX6_restore_12 : decode cX6_restore 12 = .ok (.aload_n 0, 1) := by decide +kernel
theorem dX6_restore_13 : decode cX6_restore 13 = .ok (.getfield 232, 3) := by decide +kernel
theorem dX6_restore_16 : decode cX6_restore 16 = .ok (.iconst 1, 1) := by decide +kernel
theorem dX6_restore_17 : decode cX6_restore 17 = .ok (.iload_n 1, 1) := by decide +kernel
theorem dX6_restore_18 : decode cX6_restore 18 = .ok (.ishl, 1) := by decide +kernel
theorem dX6_restore_19 : decode cX6_restore 19 = .ok (.iand, 1) := by decide +kernel
theorem dX6_restore_20 : decode cX6_restore 20 = .ok (.ifCond .ne 6, 3) := by decide +kernel
theorem dX6_restore_23 : decode cX6_restore 23 = .ok (.bipush (-3), 2) := by decide +kernel
theorem dX6_restore_25 : decode cX6_restore 25 = .ok (.ireturn, 1) := by decide +kernel
theorem dX6_restore_26 : decode cX6_restore 26 = .ok (.aload_n 0, 1) := by decide +kernel
theorem dX6_restore_27 : decode cX6_restore 27 = .ok (.getfield 19, 3) := by decide +kernel
theorem dX6_restore_30 : decode cX6_restore 30 = .ok (.aload_n 0, 1) := by decide +kernel
theorem dX6_restore_31 : decode cX6_restore 31 = .ok (.iload_n 1, 1) := by decide +kernel
theorem dX6_restore_32 : decode cX6_restore 32 = .ok (.invokevirtual 235, 3) := by decide +kernel
theorem dX6_restore_35 : decode cX6_restore 35 = .ok (.invokevirtual 239, 3) := by decide +kernel
theorem dX6_restore_38 : decode cX6_restore 38 = .ok (.iconst 1, 1) := by decide +kernel
theorem dX6_restore_39 : decode cX6_restore 39 = .ok (.ireturn, 1) := by decide +kernel
theorem dX6_imageAt_0 : decode cX6_imageAt 0 = .ok (.iload_n 1, 1) := by decide +kernel
theorem dX6_imageAt_1 : decode cX6_imageAt 1 = .ok (.ifCond .ne 10, 3) := by decide +kernel
theorem dX6_imageAt_4 : decode cX6_imageAt 4 = .ok (.aload_n 0, 1) := by decide +kernel
theorem dX6_imageAt_5 : decode cX6_imageAt 5 = .ok (.getfield 23, 3) := by decide +kernel
theorem dX6_imageAt_8 : decode cX6_imageAt 8 = .ok (.goto 7, 3) := by decide +kernel
theorem dX6_imageAt_11 : decode cX6_imageAt 11 = .ok (.aload_n 0, 1) := by decide +kernel
theorem dX6_imageAt_12 : decode cX6_imageAt 12 = .ok (.getfield 26, 3) := by decide +kernel
theorem dX6_imageAt_15 : decode cX6_imageAt 15 = .ok (.areturn, 1) := by decide +kernel
theorem dX6_isPlace_0 : decode cX6_isPlace 0 = .ok (.iload_n 0, 1) := by decide +kernel
theorem dX6_isPlace_1 : decode cX6_isPlace 1 = .ok (.ifCond .lt 13, 3) := by decide +kernel
theorem dX6_isPlace_4 : decode cX6_isPlace 4 = .ok (.iload_n 0, 1) := by decide +kernel
theorem dX6_isPlace_5 : decode cX6_isPlace 5 = .ok (.bipush 32, 2) := by decide +kernel
theorem dX6_isPlace_7 : decode cX6_isPlace 7 = .ok (.if_icmp .ge 7, 3) := by decide +kernel
theorem dX6_isPlace_10 : decode cX6_isPlace 10 = .ok (.iconst 1, 1) := by decide +kernel
theorem dX6_isPlace_11 : decode cX6_isPlace 11 = .ok (.goto 4, 3) := by decide +kernel
theorem dX6_isPlace_14 : decode cX6_isPlace 14 = .ok (.iconst 0, 1) := by decide +kernel
theorem dX6_isPlace_15 : decode cX6_isPlace 15 = .ok (.ireturn, 1) := by decide +kernel
set_option maxRecDepth 20000 in
theorem ggX6_isPost_X6_isPlace : GoodIn wsX6_isPost wsX6_isPlace := goodIn_r _ [4] (by decide +kernel) (by decide +kernel)
set_option maxRecDepth 20000 in
theorem gX6_isPost_X6_isPlace : GoodIn wsX6_isPost (va_wsS RX6 183 yX6_isPlace wsX6_isPlace) := goodIn_app (goodIn_of _ (by decide +kernel)) ggX6_isPost_X6_isPlace
theorem dX6_isPost_0 : decode cX6_isPost 0 = .ok (.iload_n 0, 1) := by decide +kernel
theorem dX6_isPost_1 : decode cX6_isPost 1 = .ok (.invokestatic 183, 3) := by decide +kernel
theorem dX6_isPost_4 : decode cX6_isPost 4 = .ok (.ifCond .eq 14, 3) := by decide +kernel
theorem dX6_isPost_7 : decode cX6_isPost 7 = .ok (.iload_n 1, 1) := by decide +kernel
theorem dX6_isPost_8 : decode cX6_isPost 8 = .ok (.invokestatic 183, 3) := by decide +kernel
theorem dX6_isPost_11 : decode cX6_isPost 11 = .ok (.ifCond .eq 7, 3) := by decide +kernel
theorem dX6_isPost_14 : decode cX6_isPost 14 = .ok (.iconst 1, 1) := by decide +kernel
theorem dX6_isPost_15 : decode cX6_isPost 15 = .ok (.goto 4, 3) := by decide +kernel
theorem dX6_isPost_18 : decode cX6_isPost 18 = .ok (.iconst 0, 1) := by decide +kernel
theorem dX6_isPost_19 : decode cX6_isPost 19 = .ok (.ireturn, 1) := by decide +kernel
theorem dX6_isYear_0 : decode cX6_isYear 0 = .ok (.iload_n 0, 1) := by decide +kernel
theorem dX6_isYear_1 : decode cX6_isYear 1 = .ok (.iconst 1, 1) := by decide +kernel
theorem dX6_isYear_2 : decode cX6_isYear 2 = .ok (.if_icmp .lt 14, 3) := by decide +kernel
theorem dX6_isYear_5 : decode cX6_isYear 5 = .ok (.iload_n 0, 1) := by decide +kernel
theorem dX6_isYear_6 : decode cX6_isYear 6 = .ok (.sipush 999, 3) := by decide +kernel
theorem dX6_isYear_9 : decode cX6_isYear 9 = .ok (.if_icmp .gt 7, 3) := by decide +kernel
theorem dX6_isYear_12 : decode cX6_isYear 12 = .ok (.iconst 1, 1) := by decide +kernel
theorem dX6_isYear_13 : decode cX6_isYear 13 = .ok (.goto 4, 3) := by decide +kernel
theorem dX6_isYear_16 : decode cX6_isYear 16 = .ok (.iconst 0, 1) := by decide +kernel
theorem dX6_isYear_17 : decode cX6_isYear 17 = .ok (.ireturn, 1) := by decide +kernel
theorem dX6_isIn_0 : decode cX6_isIn 0 = .ok (.iload_n 0, 1) := by decide +kernel
theorem dX6_isIn_1 : decode cX6_isIn 1 = .ok (.iload_n 1, 1) := by decide +kernel
theorem dX6_isIn_2 : decode cX6_isIn 2 = .ok (.iushr, 1) := by decide +kernel
theorem dX6_isIn_3 : decode cX6_isIn 3 = .ok (.iconst 1, 1) := by decide +kernel
theorem dX6_isIn_4 : decode cX6_isIn 4 = .ok (.iand, 1) := by decide +kernel
theorem dX6_isIn_5 : decode cX6_isIn 5 = .ok (.iconst 1, 1) := by decide +kernel
theorem dX6_isIn_6 : decode cX6_isIn 6 = .ok (.if_icmp .ne 7, 3) := by decide +kernel
theorem dX6_isIn_9 : decode cX6_isIn 9 = .ok (.iconst 1, 1) := by decide +kernel
theorem dX6_isIn_10 : decode cX6_isIn 10 = .ok (.goto 4, 3) := by decide +kernel
theorem dX6_isIn_13 : decode cX6_isIn 13 = .ok (.iconst 0, 1) := by decide +kernel
theorem dX6_isIn_14 : decode cX6_isIn 14 = .ok (.ireturn, 1) := by decide +kernel
set_option maxRecDepth 20000 in
theorem ggX6_howManyInBoth_J6_bitCount_0f7a4 : GoodIn wsX6_howManyInBoth wsJ6_bitCount_0f7a4 := goodIn_r _ [4, 5, 6, 7] (by decide +kernel) (by decide +kernel)
set_option maxRecDepth 20000 in
theorem gX6_howManyInBoth_J6_bitCount_0f7a4 : GoodIn wsX6_howManyInBoth (va_wsS RX6 242 yJ6_bitCount_0f7a4 wsJ6_bitCount_0f7a4) := goodIn_app (goodIn_of _ (by decide +kernel)) ggX6_howManyInBoth_J6_bitCount_0f7a4
theorem dX6_howManyInBoth_0 : decode cX6_howManyInBoth 0 = .ok (.iconst 0, 1) := by decide +kernel
theorem dX6_howManyInBoth_1 : decode cX6_howManyInBoth 1 = .ok (.istore_n 2, 1) := by decide +kernel
theorem dX6_howManyInBoth_2 : decode cX6_howManyInBoth 2 = .ok (.iconst 0, 1) := by decide +kernel
theorem dX6_howManyInBoth_3 : decode cX6_howManyInBoth 3 = .ok (.istore_n 3, 1) := by decide +kernel
theorem dX6_howManyInBoth_4 : decode cX6_howManyInBoth 4 = .ok (.iload_n 3, 1) := by decide +kernel
theorem dX6_howManyInBoth_5 : decode cX6_howManyInBoth 5 = .ok (.aload_n 0, 1) := by decide +kernel
theorem dX6_howManyInBoth_6 : decode cX6_howManyInBoth 6 = .ok (.arraylength, 1) := by decide +kernel
theorem dX6_howManyInBoth_7 : decode cX6_howManyInBoth 7 = .ok (.if_icmp .ge 28, 3) := by decide +kernel
theorem dX6_howManyInBoth_10 : decode cX6_howManyInBoth 10 = .ok (.iload_n 3, 1) := by decide +kernel
theorem dX6_howManyInBoth_11 : decode cX6_howManyInBoth 11 = .ok (.aload_n 1, 1) := by decide +kernel
theorem dX6_howManyInBoth_12 : decode cX6_howManyInBoth 12 = .ok (.arraylength, 1) := by decide +kernel
theorem dX6_howManyInBoth_13 : decode cX6_howManyInBoth 13 = .ok (.if_icmp .ge 22, 3) := by decide +kernel
theorem dX6_howManyInBoth_16 : decode cX6_howManyInBoth 16 = .ok (.iload_n 2, 1) := by decide +kernel
theorem dX6_howManyInBoth_17 : decode cX6_howManyInBoth 17 = .ok (.aload_n 0, 1) := by decide +kernel
theorem dX6_howManyInBoth_18 : decode cX6_howManyInBoth 18 = .ok (.iload_n 3, 1) := by decide +kernel
theorem dX6_howManyInBoth_19 : decode cX6_howManyInBoth 19 = .ok (.iaload, 1) := by decide +kernel
theorem dX6_howManyInBoth_20 : decode cX6_howManyInBoth 20 = .ok (.aload_n 1, 1) := by decide +kernel
theorem dX6_howManyInBoth_21 : decode cX6_howManyInBoth 21 = .ok (.iload_n 3, 1) := by decide +kernel
theorem dX6_howManyInBoth_22 : decode cX6_howManyInBoth 22 = .ok (.iaload, 1) := by decide +kernel
theorem dX6_howManyInBoth_23 : decode cX6_howManyInBoth 23 = .ok (.iand, 1) := by decide +kernel
theorem dX6_howManyInBoth_24 : decode cX6_howManyInBoth 24 = .ok (.invokestatic 242, 3) := by decide +kernel
theorem dX6_howManyInBoth_27 : decode cX6_howManyInBoth 27 = .ok (.iadd, 1) := by decide +kernel
theorem dX6_howManyInBoth_28 : decode cX6_howManyInBoth 28 = .ok (.istore_n 2, 1) := by decide +kernel
theorem dX6_howManyInBoth_29 : decode cX6_howManyInBoth 29 = .ok (.iinc 3 1, 3) := by decide +kernel
theorem dX6_howManyInBoth_32 : decode cX6_howManyInBoth 32 = .ok (.goto (-28), 3) := by decide +kernel
theorem dX6_howManyInBoth_35 : decode cX6_howManyInBoth 35 = .ok (.iload_n 2, 1) := by decide +kernel
theorem dX6_howManyInBoth_36 : decode cX6_howManyInBoth 36 = .ok (.ireturn, 1) := by decide +kernel
theorem dX6_greatestDivisor_0 : decode cX6_greatestDivisor 0 = .ok (.lload_n 0, 1) := by decide +kernel
theorem dX6_greatestDivisor_1 : decode cX6_greatestDivisor 1 = .ok (.lstore 4, 2) := by decide +kernel
theorem dX6_greatestDivisor_3 : decode cX6_greatestDivisor 3 = .ok (.lload_n 2, 1) := by decide +kernel
theorem dX6_greatestDivisor_4 : decode cX6_greatestDivisor 4 = .ok (.lstore 6, 2) := by decide +kernel
theorem dX6_greatestDivisor_6 : decode cX6_greatestDivisor 6 = .ok (.iconst 0, 1) := by decide +kernel
theorem dX6_greatestDivisor_7 : decode cX6_greatestDivisor 7 = .ok (.istore 8, 2) := by decide +kernel
theorem dX6_greatestDivisor_9 : decode cX6_greatestDivisor 9 = .ok (.iload 8, 2) := by decide +kernel
theorem dX6_greatestDivisor_11 : decode cX6_greatestDivisor 11 = .ok (.bipush 100, 2) := by decide +kernel
theorem dX6_greatestDivisor_13 : decode cX6_greatestDivisor 13 = .ok (.if_icmp .ge 31, 3) := by decide +kernel
theorem dX6_greatestDivisor_16 : decode cX6_greatestDivisor 16 = .ok (.lload 6, 2) := by decide +kernel
theorem dX6_greatestDivisor_18 : decode cX6_greatestDivisor 18 = .ok (.lconst 0, 1) := by decide +kernel
theorem dX6_greatestDivisor_19 : decode cX6_greatestDivisor 19 = .ok (.lcmp, 1) := by decide +kernel
theorem dX6_greatestDivisor_20 : decode cX6_greatestDivisor 20 = .ok (.ifCond .eq 24, 3) := by decide +kernel
theorem dX6_greatestDivisor_23 : decode cX6_greatestDivisor 23 = .ok (.lload 4, 2) := by decide +kernel
theorem dX6_greatestDivisor_25 : decode cX6_greatestDivisor 25 = .ok (.lload 6, 2) := by decide +kernel
theorem dX6_greatestDivisor_27 : decode cX6_greatestDivisor 27 = .ok (.lrem, 1) := by decide +kernel
theorem dX6_greatestDivisor_28 : decode cX6_greatestDivisor 28 = .ok (.lstore 9, 2) := by decide +kernel
theorem dX6_greatestDivisor_30 : decode cX6_greatestDivisor 30 = .ok (.lload 6, 2) := by decide +kernel
theorem dX6_greatestDivisor_32 : decode cX6_greatestDivisor 32 = .ok (.lstore 4, 2) := by decide +kernel
theorem dX6_greatestDivisor_34 : decode cX6_greatestDivisor 34 = .ok (.lload 9, 2) := by decide +kernel
theorem dX6_greatestDivisor_36 : decode cX6_greatestDivisor 36 = .ok (.lstore 6, 2) := by decide +kernel
theorem dX6_greatestDivisor_38 : decode cX6_greatestDivisor 38 = .ok (.iinc 8 1, 3) := by decide +kernel
theorem dX6_greatestDivisor_41 : decode cX6_greatestDivisor 41 = .ok (.goto (-32), 3) := by decide +kernel
theorem dX6_greatestDivisor_44 : decode cX6_greatestDivisor 44 = .ok (.lload 4, 2) := by decide +kernel
theorem dX6_greatestDivisor_46 : decode cX6_greatestDivisor 46 = .ok (.lreturn, 1) := by decide +kernel
theorem dX7_init_0 : decode cX7_init 0 = .ok (.aload_n 0, 1) := by decide +kernel
theorem dX7_init_1 : decode cX7_init 1 = .ok (.invokespecial 1, 3) := by decide +kernel
theorem dX7_init_4 : decode cX7_init 4 = .ok (.aload_n 0, 1) := by decide +kernel
theorem dX7_init_5 : decode cX7_init 5 = .ok (.bipush 110, 2) := by decide +kernel
theorem dX7_init_7 : decode cX7_init 7 = .ok (.newarray .int, 2) := by decide +kernel
theorem dX7_init_9 : decode cX7_init 9 = .ok (.putfield 7, 3) := by decide +kernel
theorem dX7_init_12 : decode cX7_init 12 = .ok (.aload_n 0, 1) := by decide +kernel
theorem dX7_init_13 : decode cX7_init 13 = .ok (.sipush 220, 3) := by decide +kernel
theorem dX7_init_16 : decode cX7_init 16 = .ok (.newarray .int, 2) := by decide +kernel
theorem dX7_init_18 : decode cX7_init 18 = .ok (.putfield 13, 3) := by decide +kernel
theorem dX7_init_21 : decode cX7_init 21 = .ok (.aload_n 0, 1) := by decide +kernel
theorem dX7_init_22 : decode cX7_init 22 = .ok (.iconst 2, 1) := by decide +kernel
theorem dX7_init_23 : decode cX7_init 23 = .ok (.newarray .boolean, 2) := by decide +kernel
theorem dX7_init_25 : decode cX7_init 25 = .ok (.putfield 16, 3) := by decide +kernel
theorem dX7_init_28 : decode cX7_init 28 = .ok (.aload_n 0, 1) := by decide +kernel
theorem dX7_init_29 : decode cX7_init 29 = .ok (.bipush 48, 2) := by decide +kernel
theorem dX7_init_31 : decode cX7_init 31 = .ok (.newarray .int, 2) := by decide +kernel
theorem dX7_init_33 : decode cX7_init 33 = .ok (.putfield 20, 3) := by decide +kernel
theorem dX7_init_36 : decode cX7_init 36 = .ok (.aload_n 0, 1) := by decide +kernel
theorem dX7_init_37 : decode cX7_init 37 = .ok (.bipush 8, 2) := by decide +kernel
theorem dX7_init_39 : decode cX7_init 39 = .ok (.newarray .int, 2) := by decide +kernel
theorem dX7_init_41 : decode cX7_init 41 = .ok (.putfield 23, 3) := by decide +kernel
theorem dX7_init_44 : decode cX7_init 44 = .ok (.aload_n 0, 1) := by decide +kernel
theorem dX7_init_45 : decode cX7_init 45 = .ok (.bipush 8, 2) := by decide +kernel
theorem dX7_init_47 : decode cX7_init 47 = .ok (.newarray .int, 2) := by decide +kernel
theorem dX7_init_49 : decode cX7_init 49 = .ok (.putfield 26, 3) := by decide +kernel
theorem dX7_init_52 : decode cX7_init 52 = .ok (.aload_n 0, 1) := by decide +kernel
theorem dX7_init_53 : decode cX7_init 53 = .ok (.bipush 8, 2) := by decide +kernel
theorem dX7_init_55 : decode cX7_init 55 = .ok (.newarray .int, 2) := by decide +kernel
theorem dX7_init_57 : decode cX7_init 57 = .ok (.putfield 29, 3) := by decide +kernel
theorem dX7_init_60 : decode cX7_init 60 = .ok (.aload_n 0, 1) := by decide +kernel
theorem dX7_init_61 : decode cX7_init 61 = .ok (.bipush 8, 2) := by decide +kernel
theorem dX7_init_63 : decode cX7_init 63 = .ok (.newarray .int, 2) := by decide +kernel
theorem dX7_init_65 : decode cX7_init 65 = .ok (.putfield 32, 3) := by decide +kernel
theorem dX7_init_68 : decode cX7_init 68 = .ok (.aload_n 0, 1) := by decide +kernel
theorem dX7_init_69 : decode cX7_init 69 = .ok (.sipush 1024, 3) := by decide +kernel
theorem dX7_init_72 : decode cX7_init 72 = .ok (.newarray .int, 2) := by decide +kernel
theorem dX7_init_74 : decode cX7_init 74 = .ok (.putfield 35, 3) := by decide +kernel
theorem dX7_init_77 : decode cX7_init 77 = .ok (.aload_n 0, 1) := by decide +kernel
theorem dX7_init_78 : decode cX7_init 78 = .ok (.bipush 64, 2) := by decide +kernel
theorem dX7_init_80 : decode cX7_init 80 = .ok (.newarray .int, 2) := by decide +kernel
theorem dX7_init_82 : decode cX7_init 82 = .ok (.putfield 38, 3) := by decide +kernel
theorem dX7_init_85 : decode cX7_init 85 = .ok (.aload_n 0, 1) := by decide +kernel
theorem dX7_init_86 : decode cX7_init 86 = .ok (.sipush 1024, 3) := by decide +kernel
theorem dX7_init_89 : decode cX7_init 89 = .ok (.newarray .int, 2) := by decide +kernel
theorem dX7_init_91 : decode cX7_init 91 = .ok (.putfield 41, 3) := by decide +kernel
theorem dX7_init_94 : decode cX7_init 94 = .ok (.aload_n 0, 1) := by decide +kernel
theorem dX7_init_95 : decode cX7_init 95 = .ok (.sipush 1024, 3) := by decide +kernel
theorem dX7_init_98 : decode cX7_init 98 = .ok (.newarray .int, 2) := by decide +kernel
theorem dX7_init_100 : decode cX7_init 100 = .ok (.putfield 44, 3) := by decide +kernel
theorem dX7_init_103 : decode cX7_init 103 = .ok (.aload_n 0, 1) := by decide +kernel
theorem dX7_init_104 : decode cX7_init 104 = .ok (.getfield 7, 3) := by decide +kernel
theorem dX7_init_107 : decode cX7_init 107 = .ok (.bipush 109, 2) := by decide +kernel
theorem dX7_init_109 : decode cX7_init 109 = .ok (.iconst 4, 1) := by decide +kernel
theorem dX7_init_110 : decode cX7_init 110 = .ok (.iastore, 1) := by decide +kernel
theorem dX7_init_111 : decode cX7_init 111 = .ok (.return_, 1) := by decide +kernel
theorem dX7_in_0 : decode cX7_in 0 = .ok (.iload_n 0, 1) := by decide +kernel
theorem dX7_in_1 : decode cX7_in 1 = .ok (.iload_n 1, 1) := by decide +kernel
theorem dX7_in_2 : decode cX7_in 2 = .ok (.if_icmp .lt 12, 3) := by decide +kernel
theorem dX7_in_5 : decode cX7_in 5 = .ok (.iload_n 0, 1) := by decide +kernel
theorem dX7_in_6 : decode cX7_in 6 = .ok (.iload_n 2, 1) := by decide +kernel
theorem dX7_in_7 : decode cX7_in 7 = .ok (.if_icmp .gt 7, 3) := by decide +kernel
theorem dX7_in_10 : decode cX7_in 10 = .ok (.iconst 1, 1) := by decide +kernel
theorem dX7_in_11 : decode cX7_in 11 = .ok (.goto 4, 3) := by decide +kernel
theorem dX7_in_14 : decode cX7_in 14 = .ok (.iconst 0, 1) := by decide +kernel
theorem dX7_in_15 : decode cX7_in 15 = .ok (.ireturn, 1) := by decide +kernel
set_option maxRecDepth 20000 in
theorem ggX7_isPost_X7_in : GoodIn wsX7_isPost wsX7_in := goodIn_r _ [4] (by decide +kernel) (by decide +kernel)
set_option maxRecDepth 20000 in
theorem gX7_isPost_X7_in : GoodIn wsX7_isPost (va_wsS RX7 47 yX7_in wsX7_in) := goodIn_app (goodIn_of _ (by decide +kernel)) ggX7_isPost_X7_in
theorem dX7_isPost_0 : decode cX7_isPost 0 = .ok (.iload_n 0, 1) := by decide +kernel
theorem dX7_isPost_1 : decode cX7_isPost 1 = .ok (.iconst 0, 1) := by decide +kernel
theorem dX7_isPost_2 : decode cX7_isPost 2 = .ok (.bipush 31, 2) := by decide +kernel
theorem dX7_isPost_4 : decode cX7_isPost 4 = .ok (.invokestatic 47, 3) := by decide +kernel
theorem dX7_isPost_7 : decode cX7_isPost 7 = .ok (.ifCond .eq 17, 3) := by decide +kernel
theorem dX7_isPost_10 : decode cX7_isPost 10 = .ok (.iload_n 1, 1) := by decide +kernel
theorem dX7_isPost_11 : decode cX7_isPost 11 = .ok (.iconst 0, 1) := by decide +kernel
theorem dX7_isPost_12 : decode cX7_isPost 12 = .ok (.bipush 31, 2) := by decide +kernel
theorem dX7_isPost_14 : decode cX7_isPost 14 = .ok (.invokestatic 47, 3) := by decide +kernel
theorem dX7_isPost_17 : decode cX7_isPost 17 = .ok (.ifCond .eq 7, 3) := by decide +kernel
theorem dX7_isPost_20 : decode cX7_isPost 20 = .ok (.iconst 1, 1) := by decide +kernel
theorem dX7_isPost_21 : decode cX7_isPost 21 = .ok (.goto 4, 3) := by decide +kernel
theorem dX7_isPost_24 : decode cX7_isPost 24 = .ok (.iconst 0, 1) := by decide +kernel
theorem dX7_isPost_25 : decode cX7_isPost 25 = .ok (.ireturn, 1) := by decide +kernel
set_option maxRecDepth 20000 in
theorem ggX7_isPlot_X7_in : GoodIn wsX7_isPlot wsX7_in := goodIn_r _ [5] (by decide +kernel) (by decide +kernel)
set_option maxRecDepth 20000 in
theorem gX7_isPlot_X7_in : GoodIn wsX7_isPlot (va_wsS RX7 47 yX7_in wsX7_in) := goodIn_app (goodIn_of _ (by decide +kernel)) ggX7_isPlot_X7_in
theorem dX7_isPlot_0 : decode cX7_isPlot 0 = .ok (.iload_n 1, 1) := by decide +kernel
theorem dX7_isPlot_1 : decode cX7_isPlot 1 = .ok (.iconst 0, 1) := by decide +kernel
theorem dX7_isPlot_2 : decode cX7_isPlot 2 = .ok (.aload_n 0, 1) := by decide +kernel
theorem dX7_isPlot_3 : decode cX7_isPlot 3 = .ok (.getfield 7, 3) := by decide +kernel
theorem dX7_isPlot_6 : decode cX7_isPlot 6 = .ok (.bipush 108, 2) := by decide +kernel
theorem dX7_isPlot_8 : decode cX7_isPlot 8 = .ok (.iaload, 1) := by decide +kernel
theorem dX7_isPlot_9 : decode cX7_isPlot 9 = .ok (.iconst 1, 1) := by decide +kernel
theorem dX7_isPlot_10 : decode cX7_isPlot 10 = .ok (.isub, 1) := by decide +kernel
theorem dX7_isPlot_11 : decode cX7_isPlot 11 = .ok (.invokestatic 47, 3) := by decide +kernel
theorem dX7_isPlot_14 : decode cX7_isPlot 14 = .ok (.ireturn, 1) := by decide +kernel
theorem dX7_endNumber_0 : decode cX7_endNumber 0 = .ok (.aload_n 0, 1) := by decide +kernel
theorem dX7_endNumber_1 : decode cX7_endNumber 1 = .ok (.getfield 51, 3) := by decide +kernel
theorem dX7_endNumber_4 : decode cX7_endNumber 4 = .ok (.bipush 115, 2) := by decide +kernel
theorem dX7_endNumber_6 : decode cX7_endNumber 6 = .ok (.if_icmp .eq 12, 3) := by decide +kernel
theorem dX7_endNumber_9 : decode cX7_endNumber 9 = .ok (.aload_n 0, 1) := by decide +kernel
theorem dX7_endNumber_10 : decode cX7_endNumber 10 = .ok (.getfield 51, 3) := by decide +kernel
theorem dX7_endNumber_13 : decode cX7_endNumber 13 = .ok (.bipush 119, 2) := by decide +kernel
theorem dX7_endNumber_15 : decode cX7_endNumber 15 = .ok (.if_icmp .ne 11, 3) := by decide +kernel
theorem dX7_endNumber_18 : decode cX7_endNumber 18 = .ok (.aload_n 0, 1) := by decide +kernel
theorem dX7_endNumber_19 : decode cX7_endNumber 19 = .ok (.getfield 55, 3) := by decide +kernel
theorem dX7_endNumber_22 : decode cX7_endNumber 22 = .ok (.ineg, 1) := by decide +kernel
theorem dX7_endNumber_23 : decode cX7_endNumber 23 = .ok (.goto 7, 3) := by decide +kernel
theorem dX7_endNumber_26 : decode cX7_endNumber 26 = .ok (.aload_n 0, 1) := by decide +kernel
theorem dX7_endNumber_27 : decode cX7_endNumber 27 = .ok (.getfield 55, 3) := by decide +kernel
theorem dX7_endNumber_30 : decode cX7_endNumber 30 = .ok (.istore_n 1, 1) := by decide +kernel
theorem dX7_endNumber_31 : decode cX7_endNumber 31 = .ok (.aload_n 0, 1) := by decide +kernel
theorem dX7_endNumber_32 : decode cX7_endNumber 32 = .ok (.getfield 51, 3) := by decide +kernel
theorem dX7_endNumber_35 : decode cX7_endNumber 35 = .ok (.bipush 110, 2) := by decide +kernel
theorem dX7_endNumber_37 : decode cX7_endNumber 37 = .ok (.if_icmp .eq 12, 3) := by decide +kernel
theorem dX7_endNumber_40 : decode cX7_endNumber 40 = .ok (.aload_n 0, 1) := by decide +kernel
theorem dX7_endNumber_41 : decode cX7_endNumber 41 = .ok (.getfield 51, 3) := by decide +kernel
theorem dX7_endNumber_44 : decode cX7_endNumber 44 = .ok (.bipush 115, 2) := by decide +kernel
theorem dX7_endNumber_46 : decode cX7_endNumber 46 = .ok (.if_icmp .ne 18, 3) := by decide +kernel
theorem dX7_endNumber_49 : decode cX7_endNumber 49 = .ok (.aload_n 0, 1) := by decide +kernel
theorem dX7_endNumber_50 : decode cX7_endNumber 50 = .ok (.getfield 26, 3) := by decide +kernel
theorem dX7_endNumber_53 : decode cX7_endNumber 53 = .ok (.aload_n 0, 1) := by decide +kernel
theorem dX7_endNumber_54 : decode cX7_endNumber 54 = .ok (.getfield 58, 3) := by decide +kernel
theorem dX7_endNumber_57 : decode cX7_endNumber 57 = .ok (.iconst 1, 1) := by decide +kernel
theorem dX7_endNumber_58 : decode cX7_endNumber 58 = .ok (.isub, 1) := by decide +kernel
theorem dX7_endNumber_59 : decode cX7_endNumber 59 = .ok (.iload_n 1, 1) := by decide +kernel
theorem dX7_endNumber_60 : decode cX7_endNumber 60 = .ok (.iastore, 1) := by decide +kernel
theorem dX7_endNumber_61 : decode cX7_endNumber 61 = .ok (.goto 15, 3) := by decide +kernel
theorem dX7_endNumber_64 : decode cX7_endNumber 64 = .ok (.aload_n 0, 1) := by decide +kernel
theorem dX7_endNumber_65 : decode cX7_endNumber 65 = .ok (.getfield 23, 3) := by decide +kernel
theorem dX7_endNumber_68 : decode cX7_endNumber 68 = .ok (.aload_n 0, 1) := by decide +kernel
theorem dX7_endNumber_69 : decode cX7_endNumber 69 = .ok (.getfield 58, 3) := by decide +kernel
theorem dX7_endNumber_72 : decode cX7_endNumber 72 = .ok (.iconst 1, 1) := by decide +kernel
theorem dX7_endNumber_73 : decode cX7_endNumber 73 = .ok (.isub, 1) := by decide +kernel
theorem dX7_endNumber_74 : decode cX7_endNumber 74 = .ok (.iload_n 1, 1) := by decide +kernel
theorem dX7_endNumber_75 : decode cX7_endNumber 75 = .ok (.iastore, 1) := by decide +kernel
theorem dX7_endNumber_76 : decode cX7_endNumber 76 = .ok (.return_, 1) := by decide +kernel
set_option maxRecDepth 20000 in
theorem ggX7_isFigure_X7_in : GoodIn wsX7_isFigure wsX7_in := goodIn_r _ [4] (by decide +kernel) (by decide +kernel)
set_option maxRecDepth 20000 in
theorem gX7_isFigure_X7_in : GoodIn wsX7_isFigure (va_wsS RX7 47 yX7_in wsX7_in) := goodIn_app (goodIn_of _ (by decide +kernel)) ggX7_isFigure_X7_in
theorem dX7_isFigure_0 : decode cX7_isFigure 0 = .ok (.iload_n 0, 1) := by decide +kernel
theorem dX7_isFigure_1 : decode cX7_isFigure 1 = .ok (.bipush 48, 2) := by decide +kernel
theorem dX7_isFigure_3 : decode cX7_isFigure 3 = .ok (.bipush 57, 2) := by decide +kernel
theorem dX7_isFigure_5 : decode cX7_isFigure 5 = .ok (.invokestatic 47, 3) := by decide +kernel
theorem dX7_isFigure_8 : decode cX7_isFigure 8 = .ok (.ireturn, 1) := by decide +kernel
theorem dX7_begins_0 : decode cX7_begins 0 = .ok (.iload_n 1, 1) := by decide +kernel
theorem dX7_begins_1 : decode cX7_begins 1 = .ok (.bipush 110, 2) := by decide +kernel
theorem dX7_begins_3 : decode cX7_begins 3 = .ok (.if_icmp .eq 9, 3) := by decide +kernel
theorem dX7_begins_6 : decode cX7_begins 6 = .ok (.iload_n 1, 1) := by decide +kernel
theorem dX7_begins_7 : decode cX7_begins 7 = .ok (.bipush 115, 2) := by decide +kernel
theorem dX7_begins_9 : decode cX7_begins 9 = .ok (.if_icmp .ne 7, 3) := by decide +kernel
theorem dX7_begins_12 : decode cX7_begins 12 = .ok (.iconst 1, 1) := by decide +kernel
theorem dX7_begins_13 : decode cX7_begins 13 = .ok (.goto 4, 3) := by decide +kernel
theorem dX7_begins_16 : decode cX7_begins 16 = .ok (.iconst 0, 1) := by decide +kernel
theorem dX7_begins_17 : decode cX7_begins 17 = .ok (.istore_n 2, 1) := by decide +kernel
theorem dX7_begins_18 : decode cX7_begins 18 = .ok (.iload_n 2, 1) := by decide +kernel
theorem dX7_begins_19 : decode cX7_begins 19 = .ok (.ifCond .ne 17, 3) := by decide +kernel
theorem dX7_begins_22 : decode cX7_begins 22 = .ok (.iload_n 1, 1) := by decide +kernel
theorem dX7_begins_23 : decode cX7_begins 23 = .ok (.bipush 101, 2) := by decide +kernel
theorem dX7_begins_25 : decode cX7_begins 25 = .ok (.if_icmp .eq 11, 3) := by decide +kernel
theorem dX7_begins_28 : decode cX7_begins 28 = .ok (.iload_n 1, 1) := by decide +kernel
theorem dX7_begins_29 : decode cX7_begins 29 = .ok (.bipush 119, 2) := by decide +kernel
theorem dX7_begins_31 : decode cX7_begins 31 = .ok (.if_icmp .eq 5, 3) := by decide +kernel
theorem dX7_begins_34 : decode cX7_begins 34 = .ok (.iconst 0, 1) := by decide +kernel
theorem dX7_begins_35 : decode cX7_begins 35 = .ok (.ireturn, 1) := by decide +kernel
theorem dX7_begins_36 : decode cX7_begins 36 = .ok (.aload_n 0, 1) := by decide +kernel
theorem dX7_begins_37 : decode cX7_begins 37 = .ok (.getfield 26, 3) := by decide +kernel
theorem dX7_begins_40 : decode cX7_begins 40 = .ok (.aload_n 0, 1) := by decide +kernel
theorem dX7_begins_41 : decode cX7_begins 41 = .ok (.getfield 58, 3) := by decide +kernel
theorem dX7_begins_44 : decode cX7_begins 44 = .ok (.iconst 0, 1) := by decide +kernel
theorem dX7_begins_45 : decode cX7_begins 45 = .ok (.iastore, 1) := by decide +kernel
theorem dX7_begins_46 : decode cX7_begins 46 = .ok (.aload_n 0, 1) := by decide +kernel
theorem dX7_begins_47 : decode cX7_begins 47 = .ok (.getfield 23, 3) := by decide +kernel
theorem dX7_begins_50 : decode cX7_begins 50 = .ok (.aload_n 0, 1) := by decide +kernel
theorem dX7_begins_51 : decode cX7_begins 51 = .ok (.getfield 58, 3) := by decide +kernel
theorem dX7_begins_54 : decode cX7_begins 54 = .ok (.iconst 0, 1) := by decide +kernel
theorem dX7_begins_55 : decode cX7_begins 55 = .ok (.iastore, 1) := by decide +kernel
theorem dX7_begins_56 : decode cX7_begins 56 = .ok (.aload_n 0, 1) := by decide +kernel
theorem dX7_begins_57 : decode cX7_begins 57 = .ok (.dup, 1) := by decide +kernel
theorem dX7_begins_58 : decode cX7_begins 58 = .ok (.getfield 58, 3) := by decide +kernel
theorem dX7_begins_61 : decode cX7_begins 61 = .ok (.iconst 1, 1) := by decide +kernel
theorem dX7_begins_62 : decode cX7_begins 62 = .ok (.iadd, 1) := by decide +kernel
theorem dX7_begins_63 : decode cX7_begins 63 = .ok (.putfield 58, 3) := by decide +kernel
theorem dX7_begins_66 : decode cX7_begins 66 = .ok (.aload_n 0, 1) := by decide +kernel
theorem dX7_begins_67 : decode cX7_begins 67 = .ok (.iload_n 1, 1) := by decide +kernel
theorem dX7_begins_68 : decode cX7_begins 68 = .ok (.putfield 51, 3) := by decide +kernel
theorem dX7_begins_71 : decode cX7_begins 71 = .ok (.aload_n 0, 1) := by decide +kernel
theorem dX7_begins_72 : decode cX7_begins 72 = .ok (.iconst 0, 1) := by decide +kernel
theorem dX7_begins_73 : decode cX7_begins 73 = .ok (.putfield 55, 3) := by decide +kernel
theorem dX7_begins_76 : decode cX7_begins 76 = .ok (.aload_n 0, 1) := by decide +kernel
theorem dX7_begins_77 : decode cX7_begins 77 = .ok (.iload_n 2, 1) := by decide +kernel
theorem dX7_begins_78 : decode cX7_begins 78 = .ok (.ifCond .eq 7, 3) := by decide +kernel
theorem dX7_begins_81 : decode cX7_begins 81 = .ok (.iconst 1, 1) := by decide +kernel
theorem dX7_begins_82 : decode cX7_begins 82 = .ok (.goto 4, 3) := by decide +kernel
theorem dX7_begins_85 : decode cX7_begins 85 = .ok (.iconst 3, 1) := by decide +kernel
theorem dX7_begins_86 : decode cX7_begins 86 = .ok (.putfield 61, 3) := by decide +kernel
theorem dX7_begins_89 : decode cX7_begins 89 = .ok (.iconst 1, 1) := by decide +kernel
theorem dX7_begins_90 : decode cX7_begins 90 = .ok (.ireturn, 1) := by decide +kernel
set_option maxRecDepth 20000 in
theorem ggX7_reads_X7_begins : GoodIn wsX7_reads wsX7_begins := goodIn_r _ [9, 10, 4, 11, 3, 2, 1, 22, 23, 24, 25, 26, 27, 28, 29, 30, 31, 32, 33, 34, 35, 36, 37, 38, 39, 40, 41, 42, 43, 44, 45] (by decide +kernel) (by decide +kernel)
set_option maxRecDepth 20000 in
theorem gX7_reads_X7_begins : GoodIn wsX7_reads (wsV RX7 64 RX7 yX7_begins wsX7_begins) := goodIn_app (goodIn_of _ (by decide +kernel)) ggX7_reads_X7_begins
set_option maxRecDepth 20000 in
theorem ggX7_reads_X7_in : GoodIn wsX7_reads wsX7_in := goodIn_r _ [14] (by decide +kernel) (by decide +kernel)
set_option maxRecDepth 20000 in
theorem gX7_reads_X7_in : GoodIn wsX7_reads (va_wsS RX7 47 yX7_in wsX7_in) := goodIn_app (goodIn_of _ (by decide +kernel)) ggX7_reads_X7_in
set_option maxRecDepth 20000 in
theorem ggX7_reads_X7_isFigure : GoodIn wsX7_reads wsX7_isFigure := goodIn_r _ [17, 12, 13, 8, 14] (by decide +kernel) (by decide +kernel)
set_option maxRecDepth 20000 in
theorem gX7_reads_X7_isFigure : GoodIn wsX7_reads (va_wsS RX7 68 yX7_isFigure wsX7_isFigure) := goodIn_app (goodIn_of _ (by decide +kernel)) ggX7_reads_X7_isFigure
set_option maxRecDepth 20000 in
theorem ggX7_reads_X7_endNumber : GoodIn wsX7_reads wsX7_endNumber := goodIn_r _ [21, 3, 2, 10, 4, 11, 22, 23, 24, 25, 26, 27, 28, 29, 30, 31, 32, 33, 34, 35, 36, 37, 38, 39, 40, 41, 42, 43, 44, 45] (by decide +kernel) (by decide +kernel)
set_option maxRecDepth 20000 in
theorem gX7_reads_X7_endNumber : GoodIn wsX7_reads (wsV RX7 71 RX7 yX7_endNumber wsX7_endNumber) := goodIn_app (goodIn_of _ (by decide +kernel)) ggX7_reads_X7_endNumber
theorem dX7_reads_0 : decode cX7_reads 0 = .ok (.aload_n 0, 1) := by decide +kernel
theorem dX7_reads_1 : decode cX7_reads 1 = .ok (.getfield 61, 3) := by decide +kernel
theorem dX7_reads_4 : decode cX7_reads 4 = .ok (.ifCond .ne 9, 3) := by decide +kernel
theorem dX7_reads_7 : decode cX7_reads 7 = .ok (.aload_n 0, 1) := by decide +kernel
theorem dX7_reads_8 : decode cX7_reads 8 = .ok (.iload_n 1, 1) := by decide +kernel
theorem dX7_reads_9 : decode cX7_reads 9 = .ok (.invokevirtual 64, 3) := by decide +kernel
theorem dX7_reads_12 : decode cX7_reads 12 = .ok (.ireturn, 1) := by decide +kernel
theorem dX7_reads_13 : decode cX7_reads 13 = .ok (.aload_n 0, 1) := by decide +kernel
theorem dX7_reads_14 : decode cX7_reads 14 = .ok (.getfield 61, 3) := by decide +kernel
theorem dX7_reads_17 : decode cX7_reads 17 = .ok (.iconst 2, 1) := by decide +kernel
theorem dX7_reads_18 : decode cX7_reads 18 = .ok (.irem, 1) := by decide +kernel
theorem dX7_reads_19 : decode cX7_reads 19 = .ok (.iconst 1, 1) := by decide +kernel
theorem dX7_reads_20 : decode cX7_reads 20 = .ok (.if_icmp .ne 30, 3) := by decide +kernel
theorem dX7_reads_23 : decode cX7_reads 23 = .ok (.aload_n 0, 1) := by decide +kernel
theorem dX7_reads_24 : decode cX7_reads 24 = .ok (.iload_n 1, 1) := by decide +kernel
theorem dX7_reads_25 : decode cX7_reads 25 = .ok (.bipush 48, 2) := by decide +kernel
theorem dX7_reads_27 : decode cX7_reads 27 = .ok (.isub, 1) := by decide +kernel
theorem dX7_reads_28 : decode cX7_reads 28 = .ok (.putfield 55, 3) := by decide +kernel
theorem dX7_reads_31 : decode cX7_reads 31 = .ok (.aload_n 0, 1) := by decide +kernel
theorem dX7_reads_32 : decode cX7_reads 32 = .ok (.dup, 1) := by decide +kernel
theorem dX7_reads_33 : decode cX7_reads 33 = .ok (.getfield 61, 3) := by decide +kernel
theorem dX7_reads_36 : decode cX7_reads 36 = .ok (.iconst 1, 1) := by decide +kernel
theorem dX7_reads_37 : decode cX7_reads 37 = .ok (.iadd, 1) := by decide +kernel
theorem dX7_reads_38 : decode cX7_reads 38 = .ok (.putfield 61, 3) := by decide +kernel
theorem dX7_reads_41 : decode cX7_reads 41 = .ok (.iload_n 1, 1) := by decide +kernel
theorem dX7_reads_42 : decode cX7_reads 42 = .ok (.bipush 49, 2) := by decide +kernel
theorem dX7_reads_44 : decode cX7_reads 44 = .ok (.bipush 57, 2) := by decide +kernel
theorem dX7_reads_46 : decode cX7_reads 46 = .ok (.invokestatic 47, 3) := by decide +kernel
theorem dX7_reads_49 : decode cX7_reads 49 = .ok (.ireturn, 1) := by decide +kernel
theorem dX7_reads_50 : decode cX7_reads 50 = .ok (.iload_n 1, 1) := by decide +kernel
theorem dX7_reads_51 : decode cX7_reads 51 = .ok (.invokestatic 68, 3) := by decide +kernel
theorem dX7_reads_54 : decode cX7_reads 54 = .ok (.ifCond .eq 34, 3) := by decide +kernel
theorem dX7_reads_57 : decode cX7_reads 57 = .ok (.aload_n 0, 1) := by decide +kernel
theorem dX7_reads_58 : decode cX7_reads 58 = .ok (.bipush 10, 2) := by decide +kernel
theorem dX7_reads_60 : decode cX7_reads 60 = .ok (.aload_n 0, 1) := by decide +kernel
theorem dX7_reads_61 : decode cX7_reads 61 = .ok (.getfield 55, 3) := by decide +kernel
theorem dX7_reads_64 : decode cX7_reads 64 = .ok (.imul, 1) := by decide +kernel
theorem dX7_reads_65 : decode cX7_reads 65 = .ok (.iload_n 1, 1) := by decide +kernel
theorem dX7_reads_66 : decode cX7_reads 66 = .ok (.iadd, 1) := by decide +kernel
theorem dX7_reads_67 : decode cX7_reads 67 = .ok (.bipush 48, 2) := by decide +kernel
theorem dX7_reads_69 : decode cX7_reads 69 = .ok (.isub, 1) := by decide +kernel
theorem dX7_reads_70 : decode cX7_reads 70 = .ok (.putfield 55, 3) := by decide +kernel
theorem dX7_reads_73 : decode cX7_reads 73 = .ok (.aload_n 0, 1) := by decide +kernel
theorem dX7_reads_74 : decode cX7_reads 74 = .ok (.getfield 55, 3) := by decide +kernel
theorem dX7_reads_77 : decode cX7_reads 77 = .ok (.bipush 32, 2) := by decide +kernel
theorem dX7_reads_79 : decode cX7_reads 79 = .ok (.if_icmp .ge 7, 3) := by decide +kernel
theorem dX7_reads_82 : decode cX7_reads 82 = .ok (.iconst 1, 1) := by decide +kernel
theorem dX7_reads_83 : decode cX7_reads 83 = .ok (.goto 4, 3) := by decide +kernel
theorem dX7_reads_86 : decode cX7_reads 86 = .ok (.iconst 0, 1) := by decide +kernel
theorem dX7_reads_87 : decode cX7_reads 87 = .ok (.ireturn, 1) := by decide +kernel
theorem dX7_reads_88 : decode cX7_reads 88 = .ok (.aload_n 0, 1) := by decide +kernel
theorem dX7_reads_89 : decode cX7_reads 89 = .ok (.getfield 61, 3) := by decide +kernel
theorem dX7_reads_92 : decode cX7_reads 92 = .ok (.iconst 2, 1) := by decide +kernel
theorem dX7_reads_93 : decode cX7_reads 93 = .ok (.if_icmp .ne 31, 3) := by decide +kernel
theorem dX7_reads_96 : decode cX7_reads 96 = .ok (.iload_n 1, 1) := by decide +kernel
theorem dX7_reads_97 : decode cX7_reads 97 = .ok (.bipush 101, 2) := by decide +kernel
theorem dX7_reads_99 : decode cX7_reads 99 = .ok (.if_icmp .eq 9, 3) := by decide +kernel
theorem dX7_reads_102 : decode cX7_reads 102 = .ok (.iload_n 1, 1) := by decide +kernel
theorem dX7_reads_103 : decode cX7_reads 103 = .ok (.bipush 119, 2) := by decide +kernel
theorem dX7_reads_105 : decode cX7_reads 105 = .ok (.if_icmp .ne 19, 3) := by decide +kernel
theorem dX7_reads_108 : decode cX7_reads 108 = .ok (.aload_n 0, 1) := by decide +kernel
theorem dX7_reads_109 : decode cX7_reads 109 = .ok (.invokevirtual 71, 3) := by decide +kernel
theorem dX7_reads_112 : decode cX7_reads 112 = .ok (.aload_n 0, 1) := by decide +kernel
theorem dX7_reads_113 : decode cX7_reads 113 = .ok (.iload_n 1, 1) := by decide +kernel
theorem dX7_reads_114 : decode cX7_reads 114 = .ok (.putfield 51, 3) := by decide +kernel
theorem dX7_reads_117 : decode cX7_reads 117 = .ok (.aload_n 0, 1) := by decide +kernel
theorem dX7_reads_118 : decode cX7_reads 118 = .ok (.iconst 3, 1) := by decide +kernel
theorem dX7_reads_119 : decode cX7_reads 119 = .ok (.putfield 61, 3) := by decide +kernel
theorem dX7_reads_122 : decode cX7_reads 122 = .ok (.iconst 1, 1) := by decide +kernel
theorem dX7_reads_123 : decode cX7_reads 123 = .ok (.ireturn, 1) := by decide +kernel
theorem dX7_reads_124 : decode cX7_reads 124 = .ok (.aload_n 0, 1) := by decide +kernel
theorem dX7_reads_125 : decode cX7_reads 125 = .ok (.invokevirtual 71, 3) := by decide +kernel
theorem dX7_reads_128 : decode cX7_reads 128 = .ok (.aload_n 0, 1) := by decide +kernel
theorem dX7_reads_129 : decode cX7_reads 129 = .ok (.iconst 0, 1) := by decide +kernel
theorem dX7_reads_130 : decode cX7_reads 130 = .ok (.putfield 61, 3) := by decide +kernel
theorem dX7_reads_133 : decode cX7_reads 133 = .ok (.iload_n 1, 1) := by decide +kernel
theorem dX7_reads_134 : decode cX7_reads 134 = .ok (.bipush 59, 2) := by decide +kernel
theorem dX7_reads_136 : decode cX7_reads 136 = .ok (.if_icmp .ne 16, 3) := by decide +kernel
theorem dX7_reads_139 : decode cX7_reads 139 = .ok (.aload_n 0, 1) := by decide +kernel
theorem dX7_reads_140 : decode cX7_reads 140 = .ok (.getfield 58, 3) := by decide +kernel
theorem dX7_reads_143 : decode cX7_reads 143 = .ok (.bipush 8, 2) := by decide +kernel
theorem dX7_reads_145 : decode cX7_reads 145 = .ok (.if_icmp .ge 7, 3) := by decide +kernel
theorem dX7_reads_148 : decode cX7_reads 148 = .ok (.iconst 1, 1) := by decide +kernel
theorem dX7_reads_149 : decode cX7_reads 149 = .ok (.goto 4, 3) := by decide +kernel
theorem dX7_reads_152 : decode cX7_reads 152 = .ok (.iconst 0, 1) := by decide +kernel
theorem dX7_reads_153 : decode cX7_reads 153 = .ok (.ireturn, 1) := by decide +kernel
set_option maxRecDepth 20000 in
theorem ggX7_faultNow_X7_reads : GoodIn wsX7_faultNow wsX7_reads := goodIn_r _ [9, 2, 10, 11, 1, 12, 13, 14, 8, 15, 16, 17, 18, 19, 20, 21, 22, 23, 24, 25, 26, 27, 28, 29, 30, 31, 32, 33, 34, 35, 36, 37, 38, 39, 40, 41, 42, 43, 44, 45, 46, 47, 48, 49, 50, 51] (by decide +kernel) (by decide +kernel)
set_option maxRecDepth 20000 in
theorem gX7_faultNow_X7_reads : GoodIn wsX7_faultNow (wsV RX7 77 RX7 yX7_reads wsX7_reads) := goodIn_app (goodIn_of _ (by decide +kernel)) ggX7_faultNow_X7_reads
set_option maxRecDepth 20000 in
theorem ggX7_faultNow_X7_endNumber : GoodIn wsX7_faultNow wsX7_endNumber := goodIn_r _ [27, 11, 10, 16, 1, 17, 28, 29, 30, 31, 32, 33, 34, 35, 36, 37, 38, 39, 40, 41, 42, 43, 44, 45, 46, 47, 48, 49, 50, 51] (by decide +kernel) (by decide +kernel)
set_option maxRecDepth 20000 in
theorem gX7_faultNow_X7_endNumber : GoodIn wsX7_faultNow (wsV RX7 71 RX7 yX7_endNumber wsX7_endNumber) := goodIn_app (goodIn_of _ (by decide +kernel)) ggX7_faultNow_X7_endNumber
theorem dX7_faultNow_0 : decode cX7_faultNow 0 = .ok (.aload_n 0, 1) := by decide +kernel
theorem dX7_faultNow_1 : decode cX7_faultNow 1 = .ok (.iconst 0, 1) := by decide +kernel
theorem dX7_faultNow_2 : decode cX7_faultNow 2 = .ok (.putfield 58, 3) := by decide +kernel
theorem dX7_faultNow_5 : decode cX7_faultNow 5 = .ok (.aload_n 0, 1) := by decide +kernel
theorem dX7_faultNow_6 : decode cX7_faultNow 6 = .ok (.iconst 0, 1) := by decide +kernel
theorem dX7_faultNow_7 : decode cX7_faultNow 7 = .ok (.putfield 61, 3) := by decide +kernel
theorem dX7_faultNow_10 : decode cX7_faultNow 10 = .ok (.iconst 0, 1) := by decide +kernel
theorem dX7_faultNow_11 : decode cX7_faultNow 11 = .ok (.istore_n 1, 1) := by decide +kernel
theorem dX7_faultNow_12 : decode cX7_faultNow 12 = .ok (.iload_n 1, 1) := by decide +kernel
theorem dX7_faultNow_13 : decode cX7_faultNow 13 = .ok (.aload_n 0, 1) := by decide +kernel
theorem dX7_faultNow_14 : decode cX7_faultNow 14 = .ok (.getfield 74, 3) := by decide +kernel
theorem dX7_faultNow_17 : decode cX7_faultNow 17 = .ok (.if_icmp .ge 24, 3) := by decide +kernel
theorem dX7_faultNow_20 : decode cX7_faultNow 20 = .ok (.aload_n 0, 1) := by decide +kernel
theorem dX7_faultNow_21 : decode cX7_faultNow 21 = .ok (.aload_n 0, 1) := by decide +kernel
theorem dX7_faultNow_22 : decode cX7_faultNow 22 = .ok (.getfield 20, 3) := by decide +kernel
theorem dX7_faultNow_25 : decode cX7_faultNow 25 = .ok (.iload_n 1, 1) := by decide +kernel
theorem dX7_faultNow_26 : decode cX7_faultNow 26 = .ok (.iaload, 1) := by decide +kernel
theorem dX7_faultNow_27 : decode cX7_faultNow 27 = .ok (.invokevirtual 77, 3) := by decide +kernel
theorem dX7_faultNow_30 : decode cX7_faultNow 30 = .ok (.ifCond .ne 5, 3) := by decide +kernel
theorem dX7_faultNow_33 : decode cX7_faultNow 33 = .ok (.iload_n 1, 1) := by decide +kernel
theorem dX7_faultNow_34 : decode cX7_faultNow 34 = .ok (.ireturn, 1) := by decide +kernel
theorem dX7_faultNow_35 : decode cX7_faultNow 35 = .ok (.iinc 1 1, 3) := by decide +kernel
theorem dX7_faultNow_38 : decode cX7_faultNow 38 = .ok (.goto (-26), 3) := by decide +kernel
theorem dX7_faultNow_41 : decode cX7_faultNow 41 = .ok (.aload_n 0, 1) := by decide +kernel
theorem dX7_faultNow_42 : decode cX7_faultNow 42 = .ok (.getfield 61, 3) := by decide +kernel
theorem dX7_faultNow_45 : decode cX7_faultNow 45 = .ok (.ifCond .eq 21, 3) := by decide +kernel
theorem dX7_faultNow_48 : decode cX7_faultNow 48 = .ok (.aload_n 0, 1) := by decide +kernel
theorem dX7_faultNow_49 : decode cX7_faultNow 49 = .ok (.getfield 61, 3) := by decide +kernel
theorem dX7_faultNow_52 : decode cX7_faultNow 52 = .ok (.iconst 2, 1) := by decide +kernel
theorem dX7_faultNow_53 : decode cX7_faultNow 53 = .ok (.irem, 1) := by decide +kernel
theorem dX7_faultNow_54 : decode cX7_faultNow 54 = .ok (.iconst 1, 1) := by decide +kernel
theorem dX7_faultNow_55 : decode cX7_faultNow 55 = .ok (.if_icmp .eq 11, 3) := by decide +kernel
theorem dX7_faultNow_58 : decode cX7_faultNow 58 = .ok (.aload_n 0, 1) := by decide +kernel
theorem dX7_faultNow_59 : decode cX7_faultNow 59 = .ok (.getfield 58, 3) := by decide +kernel
theorem dX7_faultNow_62 : decode cX7_faultNow 62 = .ok (.iconst 3, 1) := by decide +kernel
theorem dX7_faultNow_63 : decode cX7_faultNow 63 = .ok (.if_icmp .ge 8, 3) := by decide +kernel
theorem dX7_faultNow_66 : decode cX7_faultNow 66 = .ok (.aload_n 0, 1) := by decide +kernel
theorem dX7_faultNow_67 : decode cX7_faultNow 67 = .ok (.getfield 74, 3) := by decide +kernel
theorem dX7_faultNow_70 : decode cX7_faultNow 70 = .ok (.ireturn, 1) := by decide +kernel
theorem dX7_faultNow_71 : decode cX7_faultNow 71 = .ok (.aload_n 0, 1) := by decide +kernel
theorem dX7_faultNow_72 : decode cX7_faultNow 72 = .ok (.invokevirtual 71, 3) := by decide +kernel
theorem dX7_faultNow_75 : decode cX7_faultNow 75 = .ok (.bipush (-6), 2) := by decide +kernel
theorem dX7_faultNow_77 : decode cX7_faultNow 77 = .ok (.ireturn, 1) := by decide +kernel
set_option maxRecDepth 20000 in
theorem ggX7_say_X7_in : GoodIn wsX7_say wsX7_in := goodIn_r _ [6] (by decide +kernel) (by decide +kernel)
set_option maxRecDepth 20000 in
theorem gX7_say_X7_in : GoodIn wsX7_say (va_wsS RX7 47 yX7_in wsX7_in) := goodIn_app (goodIn_of _ (by decide +kernel)) ggX7_say_X7_in
theorem dX7_say_0 : decode cX7_say 0 = .ok (.iload_n 1, 1) := by decide +kernel
theorem dX7_say_1 : decode cX7_say 1 = .ok (.bipush 33, 2) := by decide +kernel
theorem dX7_say_3 : decode cX7_say 3 = .ok (.bipush 126, 2) := by decide +kernel
theorem dX7_say_5 : decode cX7_say 5 = .ok (.invokestatic 47, 3) := by decide +kernel
theorem dX7_say_8 : decode cX7_say 8 = .ok (.ifCond .ne 6, 3) := by decide +kernel
theorem dX7_say_11 : decode cX7_say 11 = .ok (.bipush (-2), 2) := by decide +kernel
theorem dX7_say_13 : decode cX7_say 13 = .ok (.ireturn, 1) := by decide +kernel
theorem dX7_say_14 : decode cX7_say 14 = .ok (.aload_n 0, 1) := by decide +kernel
theorem dX7_say_15 : decode cX7_say 15 = .ok (.getfield 74, 3) := by decide +kernel
theorem dX7_say_18 : decode cX7_say 18 = .ok (.bipush 48, 2) := by decide +kernel
theorem dX7_say_20 : decode cX7_say 20 = .ok (.if_icmp .ne 6, 3) := by decide +kernel
theorem dX7_say_23 : decode cX7_say 23 = .ok (.bipush (-4), 2) := by decide +kernel
theorem dX7_say_25 : decode cX7_say 25 = .ok (.ireturn, 1) := by decide +kernel
theorem dX7_say_26 : decode cX7_say 26 = .ok (.aload_n 0, 1) := by decide +kernel
theorem dX7_say_27 : decode cX7_say 27 = .ok (.getfield 20, 3) := by decide +kernel
theorem dX7_say_30 : decode cX7_say 30 = .ok (.aload_n 0, 1) := by decide +kernel
theorem dX7_say_31 : decode cX7_say 31 = .ok (.getfield 74, 3) := by decide +kernel
theorem dX7_say_34 : decode cX7_say 34 = .ok (.iload_n 1, 1) := by decide +kernel
theorem dX7_say_35 : decode cX7_say 35 = .ok (.iastore, 1) := by decide +kernel
theorem dX7_say_36 : decode cX7_say 36 = .ok (.aload_n 0, 1) := by decide +kernel
theorem dX7_say_37 : decode cX7_say 37 = .ok (.dup, 1) := by decide +kernel
theorem dX7_say_38 : decode cX7_say 38 = .ok (.getfield 74, 3) := by decide +kernel
theorem dX7_say_41 : decode cX7_say 41 = .ok (.iconst 1, 1) := by decide +kernel
theorem dX7_say_42 : decode cX7_say 42 = .ok (.iadd, 1) := by decide +kernel
theorem dX7_say_43 : decode cX7_say 43 = .ok (.putfield 74, 3) := by decide +kernel
theorem dX7_say_46 : decode cX7_say 46 = .ok (.aload_n 0, 1) := by decide +kernel
theorem dX7_say_47 : decode cX7_say 47 = .ok (.getfield 74, 3) := by decide +kernel
theorem dX7_say_50 : decode cX7_say 50 = .ok (.ireturn, 1) := by decide +kernel
theorem dX7_wipe_0 : decode cX7_wipe 0 = .ok (.aload_n 0, 1) := by decide +kernel
theorem dX7_wipe_1 : decode cX7_wipe 1 = .ok (.getfield 74, 3) := by decide +kernel
theorem dX7_wipe_4 : decode cX7_wipe 4 = .ok (.istore_n 1, 1) := by decide +kernel
theorem dX7_wipe_5 : decode cX7_wipe 5 = .ok (.aload_n 0, 1) := by decide +kernel
theorem dX7_wipe_6 : decode cX7_wipe 6 = .ok (.iconst 0, 1) := by decide +kernel
theorem dX7_wipe_7 : decode cX7_wipe 7 = .ok (.putfield 74, 3) := by decide +kernel
theorem dX7_wipe_10 : decode cX7_wipe 10 = .ok (.iload_n 1, 1) := by decide +kernel
theorem dX7_wipe_11 : decode cX7_wipe 11 = .ok (.ireturn, 1) := by decide +kernel
set_option maxRecDepth 20000 in
theorem ggX7_fault_X7_faultNow : GoodIn wsX7_fault wsX7_faultNow := goodIn_r _ [5, 6, 7, 8, 9, 10, 11, 12, 4, 13, 14, 15, 16, 17, 18, 19, 20, 21, 22, 23, 24, 25, 26, 27, 28, 29, 30, 31, 32, 33, 34, 35, 36, 37, 38, 39, 40, 41, 42, 43, 44, 45, 46, 47, 48, 49, 50, 51, 52, 53, 54, 55] (by decide +kernel) (by decide +kernel)
set_option maxRecDepth 20000 in
theorem gX7_fault_X7_faultNow : GoodIn wsX7_fault (wsV RX7 80 RX7 yX7_faultNow wsX7_faultNow) := goodIn_app (goodIn_of _ (by decide +kernel)) ggX7_fault_X7_faultNow
theorem dX7_fault_0 : decode cX7_fault 0 = .ok (.aload_n 0, 1) := by decide +kernel
theorem dX7_fault_1 : decode cX7_fault 1 = .ok (.invokevirtual 80, 3) := by decide +kernel
theorem dX7_fault_4 : decode cX7_fault 4 = .ok (.ireturn, 1) := by decide +kernel
theorem dX7_size_0 : decode cX7_size 0 = .ok (.iload_n 0, 1) := by decide +kernel
theorem dX7_size_1 : decode cX7_size 1 = .ok (.ifCond .ge 8, 3) := by decide +kernel
theorem dX7_size_4 : decode cX7_size 4 = .ok (.iload_n 0, 1) := by decide +kernel
theorem dX7_size_5 : decode cX7_size 5 = .ok (.ineg, 1) := by decide +kernel
theorem dX7_size_6 : decode cX7_size 6 = .ok (.goto 4, 3) := by decide +kernel
theorem dX7_size_9 : decode cX7_size 9 = .ok (.iload_n 0, 1) := by decide +kernel
theorem dX7_size_10 : decode cX7_size 10 = .ok (.ireturn, 1) := by decide +kernel
set_option maxRecDepth 20000 in
theorem ggX7_farOf_X7_size : GoodIn wsX7_farOf wsX7_size := goodIn_r _ [6] (by decide +kernel) (by decide +kernel)
set_option maxRecDepth 20000 in
theorem gX7_farOf_X7_size : GoodIn wsX7_farOf (va_wsS RX7 84 yX7_size wsX7_size) := goodIn_app (goodIn_of _ (by decide +kernel)) ggX7_farOf_X7_size
theorem dX7_farOf_0 : decode cX7_farOf 0 = .ok (.iconst 0, 1) := by decide +kernel
theorem dX7_farOf_1 : decode cX7_farOf 1 = .ok (.istore_n 2, 1) := by decide +kernel
theorem dX7_farOf_2 : decode cX7_farOf 2 = .ok (.iconst 0, 1) := by decide +kernel
theorem dX7_farOf_3 : decode cX7_farOf 3 = .ok (.istore_n 3, 1) := by decide +kernel
theorem dX7_farOf_4 : decode cX7_farOf 4 = .ok (.iload_n 3, 1) := by decide +kernel
theorem dX7_farOf_5 : decode cX7_farOf 5 = .ok (.iload_n 1, 1) := by decide +kernel
theorem dX7_farOf_6 : decode cX7_farOf 6 = .ok (.if_icmp .ge 31, 3) := by decide +kernel
theorem dX7_farOf_9 : decode cX7_farOf 9 = .ok (.iload_n 2, 1) := by decide +kernel
theorem dX7_farOf_10 : decode cX7_farOf 10 = .ok (.aload_n 0, 1) := by decide +kernel
theorem dX7_farOf_11 : decode cX7_farOf 11 = .ok (.getfield 23, 3) := by decide +kernel
theorem dX7_farOf_14 : decode cX7_farOf 14 = .ok (.iload_n 3, 1) := by decide +kernel
theorem dX7_farOf_15 : decode cX7_farOf 15 = .ok (.iaload, 1) := by decide +kernel
theorem dX7_farOf_16 : decode cX7_farOf 16 = .ok (.invokestatic 84, 3) := by decide +kernel
theorem dX7_farOf_19 : decode cX7_farOf 19 = .ok (.aload_n 0, 1) := by decide +kernel
theorem dX7_farOf_20 : decode cX7_farOf 20 = .ok (.getfield 26, 3) := by decide +kernel
theorem dX7_farOf_23 : decode cX7_farOf 23 = .ok (.iload_n 3, 1) := by decide +kernel
theorem dX7_farOf_24 : decode cX7_farOf 24 = .ok (.iaload, 1) := by decide +kernel
theorem dX7_farOf_25 : decode cX7_farOf 25 = .ok (.invokestatic 84, 3) := by decide +kernel
theorem dX7_farOf_28 : decode cX7_farOf 28 = .ok (.iadd, 1) := by decide +kernel
theorem dX7_farOf_29 : decode cX7_farOf 29 = .ok (.iadd, 1) := by decide +kernel
theorem dX7_farOf_30 : decode cX7_farOf 30 = .ok (.istore_n 2, 1) := by decide +kernel
theorem dX7_farOf_31 : decode cX7_farOf 31 = .ok (.iinc 3 1, 3) := by decide +kernel
theorem dX7_farOf_34 : decode cX7_farOf 34 = .ok (.goto (-30), 3) := by decide +kernel
theorem dX7_farOf_37 : decode cX7_farOf 37 = .ok (.iload_n 2, 1) := by decide +kernel
theorem dX7_farOf_38 : decode cX7_farOf 38 = .ok (.ireturn, 1) := by decide +kernel
set_option maxRecDepth 20000 in
theorem ggX7_layCorners_X7_farOf : GoodIn wsX7_layCorners wsX7_farOf := goodIn_r _ [13, 4, 5, 14, 15, 12, 16, 17, 18, 19, 20, 21, 22, 23, 24, 25, 26, 27, 28, 29, 30, 31, 32, 33, 34, 35, 36, 37, 38, 39, 40] (by decide +kernel) (by decide +kernel)
