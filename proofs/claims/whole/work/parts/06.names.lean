set_option maxRecDepth 20000 in
theorem gX7_layCorners_X7_farOf : GoodIn wsX7_layCorners (wsV RX7 94 RX7 yX7_farOf wsX7_farOf) := goodIn_app (goodIn_of _ (by decide +kernel)) ggX7_layCorners_X7_farOf
theorem dX7_layCorners_0 : decode cX7_layCorners 0 = .ok (.aload_n 0, 1) := by decide +kernel
theorem dX7_layCorners_1 : decode cX7_layCorners 1 = .ok (.iconst 0, 1) := by decide +kernel
theorem dX7_layCorners_2 : decode cX7_layCorners 2 = .ok (.putfield 88, 3) := by decide +kernel
theorem dX7_layCorners_5 : decode cX7_layCorners 5 = .ok (.aload_n 0, 1) := by decide +kernel
theorem dX7_layCorners_6 : decode cX7_layCorners 6 = .ok (.iconst 0, 1) := by decide +kernel
theorem dX7_layCorners_7 : decode cX7_layCorners 7 = .ok (.putfield 91, 3) := by decide +kernel
theorem dX7_layCorners_10 : decode cX7_layCorners 10 = .ok (.iconst 0, 1) := by decide +kernel
theorem dX7_layCorners_11 : decode cX7_layCorners 11 = .ok (.istore_n 3, 1) := by decide +kernel
theorem dX7_layCorners_12 : decode cX7_layCorners 12 = .ok (.iload_n 3, 1) := by decide +kernel
theorem dX7_layCorners_13 : decode cX7_layCorners 13 = .ok (.aload_n 0, 1) := by decide +kernel
theorem dX7_layCorners_14 : decode cX7_layCorners 14 = .ok (.getfield 58, 3) := by decide +kernel
theorem dX7_layCorners_17 : decode cX7_layCorners 17 = .ok (.if_icmp .ge 39, 3) := by decide +kernel
theorem dX7_layCorners_20 : decode cX7_layCorners 20 = .ok (.aload_n 0, 1) := by decide +kernel
theorem dX7_layCorners_21 : decode cX7_layCorners 21 = .ok (.dup, 1) := by decide +kernel
theorem dX7_layCorners_22 : decode cX7_layCorners 22 = .ok (.getfield 88, 3) := by decide +kernel
theorem dX7_layCorners_25 : decode cX7_layCorners 25 = .ok (.aload_n 0, 1) := by decide +kernel
theorem dX7_layCorners_26 : decode cX7_layCorners 26 = .ok (.getfield 23, 3) := by decide +kernel
theorem dX7_layCorners_29 : decode cX7_layCorners 29 = .ok (.iload_n 3, 1) := by decide +kernel
theorem dX7_layCorners_30 : decode cX7_layCorners 30 = .ok (.iaload, 1) := by decide +kernel
theorem dX7_layCorners_31 : decode cX7_layCorners 31 = .ok (.iadd, 1) := by decide +kernel
theorem dX7_layCorners_32 : decode cX7_layCorners 32 = .ok (.putfield 88, 3) := by decide +kernel
theorem dX7_layCorners_35 : decode cX7_layCorners 35 = .ok (.aload_n 0, 1) := by decide +kernel
theorem dX7_layCorners_36 : decode cX7_layCorners 36 = .ok (.dup, 1) := by decide +kernel
theorem dX7_layCorners_37 : decode cX7_layCorners 37 = .ok (.getfield 91, 3) := by decide +kernel
theorem dX7_layCorners_40 : decode cX7_layCorners 40 = .ok (.aload_n 0, 1) := by decide +kernel
theorem dX7_layCorners_41 : decode cX7_layCorners 41 = .ok (.getfield 26, 3) := by decide +kernel
theorem dX7_layCorners_44 : decode cX7_layCorners 44 = .ok (.iload_n 3, 1) := by decide +kernel
theorem dX7_layCorners_45 : decode cX7_layCorners 45 = .ok (.iaload, 1) := by decide +kernel
theorem dX7_layCorners_46 : decode cX7_layCorners 46 = .ok (.iadd, 1) := by decide +kernel
theorem dX7_layCorners_47 : decode cX7_layCorners 47 = .ok (.putfield 91, 3) := by decide +kernel
theorem dX7_layCorners_50 : decode cX7_layCorners 50 = .ok (.iinc 3 1, 3) := by decide +kernel
theorem dX7_layCorners_53 : decode cX7_layCorners 53 = .ok (.goto (-41), 3) := by decide +kernel
theorem dX7_layCorners_56 : decode cX7_layCorners 56 = .ok (.aload_n 0, 1) := by decide +kernel
theorem dX7_layCorners_57 : decode cX7_layCorners 57 = .ok (.aload_n 0, 1) := by decide +kernel
theorem dX7_layCorners_58 : decode cX7_layCorners 58 = .ok (.aload_n 0, 1) := by decide +kernel
theorem dX7_layCorners_59 : decode cX7_layCorners 59 = .ok (.getfield 58, 3) := by decide +kernel
theorem dX7_layCorners_62 : decode cX7_layCorners 62 = .ok (.invokevirtual 94, 3) := by decide +kernel
theorem dX7_layCorners_65 : decode cX7_layCorners 65 = .ok (.putfield 97, 3) := by decide +kernel
theorem dX7_layCorners_68 : decode cX7_layCorners 68 = .ok (.iload_n 1, 1) := by decide +kernel
theorem dX7_layCorners_69 : decode cX7_layCorners 69 = .ok (.istore_n 3, 1) := by decide +kernel
theorem dX7_layCorners_70 : decode cX7_layCorners 70 = .ok (.iload_n 2, 1) := by decide +kernel
theorem dX7_layCorners_71 : decode cX7_layCorners 71 = .ok (.istore 4, 2) := by decide +kernel
theorem dX7_layCorners_73 : decode cX7_layCorners 73 = .ok (.iconst 0, 1) := by decide +kernel
theorem dX7_layCorners_74 : decode cX7_layCorners 74 = .ok (.istore 5, 2) := by decide +kernel
theorem dX7_layCorners_76 : decode cX7_layCorners 76 = .ok (.iload 5, 2) := by decide +kernel
theorem dX7_layCorners_78 : decode cX7_layCorners 78 = .ok (.aload_n 0, 1) := by decide +kernel
theorem dX7_layCorners_79 : decode cX7_layCorners 79 = .ok (.getfield 58, 3) := by decide +kernel
theorem dX7_layCorners_82 : decode cX7_layCorners 82 = .ok (.if_icmp .ge 82, 3) := by decide +kernel
theorem dX7_layCorners_85 : decode cX7_layCorners 85 = .ok (.aload_n 0, 1) := by decide +kernel
theorem dX7_layCorners_86 : decode cX7_layCorners 86 = .ok (.getfield 29, 3) := by decide +kernel
theorem dX7_layCorners_89 : decode cX7_layCorners 89 = .ok (.iload 5, 2) := by decide +kernel
theorem dX7_layCorners_91 : decode cX7_layCorners 91 = .ok (.iload_n 3, 1) := by decide +kernel
theorem dX7_layCorners_92 : decode cX7_layCorners 92 = .ok (.aload_n 0, 1) := by decide +kernel
theorem dX7_layCorners_93 : decode cX7_layCorners 93 = .ok (.getfield 88, 3) := by decide +kernel
theorem dX7_layCorners_96 : decode cX7_layCorners 96 = .ok (.aload_n 0, 1) := by decide +kernel
theorem dX7_layCorners_97 : decode cX7_layCorners 97 = .ok (.iload 5, 2) := by decide +kernel
theorem dX7_layCorners_99 : decode cX7_layCorners 99 = .ok (.invokevirtual 94, 3) := by decide +kernel
theorem dX7_layCorners_102 : decode cX7_layCorners 102 = .ok (.imul, 1) := by decide +kernel
theorem dX7_layCorners_103 : decode cX7_layCorners 103 = .ok (.aload_n 0, 1) := by decide +kernel
theorem dX7_layCorners_104 : decode cX7_layCorners 104 = .ok (.getfield 97, 3) := by decide +kernel
theorem dX7_layCorners_107 : decode cX7_layCorners 107 = .ok (.idiv, 1) := by decide +kernel
theorem dX7_layCorners_108 : decode cX7_layCorners 108 = .ok (.isub, 1) := by decide +kernel
theorem dX7_layCorners_109 : decode cX7_layCorners 109 = .ok (.iastore, 1) := by decide +kernel
theorem dX7_layCorners_110 : decode cX7_layCorners 110 = .ok (.aload_n 0, 1) := by decide +kernel
theorem dX7_layCorners_111 : decode cX7_layCorners 111 = .ok (.getfield 32, 3) := by decide +kernel
theorem dX7_layCorners_114 : decode cX7_layCorners 114 = .ok (.iload 5, 2) := by decide +kernel
theorem dX7_layCorners_116 : decode cX7_layCorners 116 = .ok (.iload 4, 2) := by decide +kernel
theorem dX7_layCorners_118 : decode cX7_layCorners 118 = .ok (.aload_n 0, 1) := by decide +kernel
theorem dX7_layCorners_119 : decode cX7_layCorners 119 = .ok (.getfield 91, 3) := by decide +kernel
theorem dX7_layCorners_122 : decode cX7_layCorners 122 = .ok (.aload_n 0, 1) := by decide +kernel
theorem dX7_layCorners_123 : decode cX7_layCorners 123 = .ok (.iload 5, 2) := by decide +kernel
theorem dX7_layCorners_125 : decode cX7_layCorners 125 = .ok (.invokevirtual 94, 3) := by decide +kernel
theorem dX7_layCorners_128 : decode cX7_layCorners 128 = .ok (.imul, 1) := by decide +kernel
theorem dX7_layCorners_129 : decode cX7_layCorners 129 = .ok (.aload_n 0, 1) := by decide +kernel
theorem dX7_layCorners_130 : decode cX7_layCorners 130 = .ok (.getfield 97, 3) := by decide +kernel
theorem dX7_layCorners_133 : decode cX7_layCorners 133 = .ok (.idiv, 1) := by decide +kernel
theorem dX7_layCorners_134 : decode cX7_layCorners 134 = .ok (.isub, 1) := by decide +kernel
theorem dX7_layCorners_135 : decode cX7_layCorners 135 = .ok (.iastore, 1) := by decide +kernel
theorem dX7_layCorners_136 : decode cX7_layCorners 136 = .ok (.iload_n 3, 1) := by decide +kernel
theorem dX7_layCorners_137 : decode cX7_layCorners 137 = .ok (.aload_n 0, 1) := by decide +kernel
theorem dX7_layCorners_138 : decode cX7_layCorners 138 = .ok (.getfield 23, 3) := by decide +kernel
theorem dX7_layCorners_141 : decode cX7_layCorners 141 = .ok (.iload 5, 2) := by decide +kernel
theorem dX7_layCorners_143 : decode cX7_layCorners 143 = .ok (.iaload, 1) := by decide +kernel
theorem dX7_layCorners_144 : decode cX7_layCorners 144 = .ok (.iadd, 1) := by decide +kernel
theorem dX7_layCorners_145 : decode cX7_layCorners 145 = .ok (.istore_n 3, 1) := by decide +kernel
theorem dX7_layCorners_146 : decode cX7_layCorners 146 = .ok (.iload 4, 2) := by decide +kernel
theorem dX7_layCorners_148 : decode cX7_layCorners 148 = .ok (.aload_n 0, 1) := by decide +kernel
theorem dX7_layCorners_149 : decode cX7_layCorners 149 = .ok (.getfield 26, 3) := by decide +kernel
theorem dX7_layCorners_152 : decode cX7_layCorners 152 = .ok (.iload 5, 2) := by decide +kernel
theorem dX7_layCorners_154 : decode cX7_layCorners 154 = .ok (.iaload, 1) := by decide +kernel
theorem dX7_layCorners_155 : decode cX7_layCorners 155 = .ok (.iadd, 1) := by decide +kernel
theorem dX7_layCorners_156 : decode cX7_layCorners 156 = .ok (.istore 4, 2) := by decide +kernel
theorem dX7_layCorners_158 : decode cX7_layCorners 158 = .ok (.iinc 5 1, 3) := by decide +kernel
theorem dX7_layCorners_161 : decode cX7_layCorners 161 = .ok (.goto (-85), 3) := by decide +kernel
theorem dX7_layCorners_164 : decode cX7_layCorners 164 = .ok (.return_, 1) := by decide +kernel
theorem dX7_turn_0 : decode cX7_turn 0 = .ok (.iload_n 2, 1) := by decide +kernel
theorem dX7_turn_1 : decode cX7_turn 1 = .ok (.iload_n 0, 1) := by decide +kernel
theorem dX7_turn_2 : decode cX7_turn 2 = .ok (.isub, 1) := by decide +kernel
theorem dX7_turn_3 : decode cX7_turn 3 = .ok (.iload 5, 2) := by decide +kernel
theorem dX7_turn_5 : decode cX7_turn 5 = .ok (.iload_n 1, 1) := by decide +kernel
theorem dX7_turn_6 : decode cX7_turn 6 = .ok (.isub, 1) := by decide +kernel
theorem dX7_turn_7 : decode cX7_turn 7 = .ok (.imul, 1) := by decide +kernel
theorem dX7_turn_8 : decode cX7_turn 8 = .ok (.iload_n 3, 1) := by decide +kernel
theorem dX7_turn_9 : decode cX7_turn 9 = .ok (.iload_n 1, 1) := by decide +kernel
theorem dX7_turn_10 : decode cX7_turn 10 = .ok (.isub, 1) := by decide +kernel
theorem dX7_turn_11 : decode cX7_turn 11 = .ok (.iload 4, 2) := by decide +kernel
theorem dX7_turn_13 : decode cX7_turn 13 = .ok (.iload_n 0, 1) := by decide +kernel
theorem dX7_turn_14 : decode cX7_turn 14 = .ok (.isub, 1) := by decide +kernel
theorem dX7_turn_15 : decode cX7_turn 15 = .ok (.imul, 1) := by decide +kernel
theorem dX7_turn_16 : decode cX7_turn 16 = .ok (.isub, 1) := by decide +kernel
theorem dX7_turn_17 : decode cX7_turn 17 = .ok (.istore 6, 2) := by decide +kernel
theorem dX7_turn_19 : decode cX7_turn 19 = .ok (.iload 6, 2) := by decide +kernel
theorem dX7_turn_21 : decode cX7_turn 21 = .ok (.ifCond .le 7, 3) := by decide +kernel
theorem dX7_turn_24 : decode cX7_turn 24 = .ok (.iconst 1, 1) := by decide +kernel
theorem dX7_turn_25 : decode cX7_turn 25 = .ok (.goto 13, 3) := by decide +kernel
theorem dX7_turn_28 : decode cX7_turn 28 = .ok (.iload 6, 2) := by decide +kernel
theorem dX7_turn_30 : decode cX7_turn 30 = .ok (.ifCond .ge 7, 3) := by decide +kernel
theorem dX7_turn_33 : decode cX7_turn 33 = .ok (.iconst (-1), 1) := by decide +kernel
theorem dX7_turn_34 : decode cX7_turn 34 = .ok (.goto 4, 3) := by decide +kernel
theorem dX7_turn_37 : decode cX7_turn 37 = .ok (.iconst 0, 1) := by decide +kernel
theorem dX7_turn_38 : decode cX7_turn 38 = .ok (.ireturn, 1) := by decide +kernel
set_option maxRecDepth 20000 in
theorem ggX7_isBetween_X7_in : GoodIn wsX7_isBetween wsX7_in := goodIn_r _ [4] (by decide +kernel) (by decide +kernel)
set_option maxRecDepth 20000 in
theorem gX7_isBetween_X7_in : GoodIn wsX7_isBetween (va_wsS RX7 47 yX7_in wsX7_in) := goodIn_app (goodIn_of _ (by decide +kernel)) ggX7_isBetween_X7_in
theorem dX7_isBetween_0 : decode cX7_isBetween 0 = .ok (.iload_n 1, 1) := by decide +kernel
theorem dX7_isBetween_1 : decode cX7_isBetween 1 = .ok (.iload_n 2, 1) := by decide +kernel
theorem dX7_isBetween_2 : decode cX7_isBetween 2 = .ok (.if_icmp .ge 12, 3) := by decide +kernel
theorem dX7_isBetween_5 : decode cX7_isBetween 5 = .ok (.iload_n 0, 1) := by decide +kernel
theorem dX7_isBetween_6 : decode cX7_isBetween 6 = .ok (.iload_n 1, 1) := by decide +kernel
theorem dX7_isBetween_7 : decode cX7_isBetween 7 = .ok (.iload_n 2, 1) := by decide +kernel
theorem dX7_isBetween_8 : decode cX7_isBetween 8 = .ok (.invokestatic 47, 3) := by decide +kernel
theorem dX7_isBetween_11 : decode cX7_isBetween 11 = .ok (.goto 9, 3) := by decide +kernel
theorem dX7_isBetween_14 : decode cX7_isBetween 14 = .ok (.iload_n 0, 1) := by decide +kernel
theorem dX7_isBetween_15 : decode cX7_isBetween 15 = .ok (.iload_n 2, 1) := by decide +kernel
theorem dX7_isBetween_16 : decode cX7_isBetween 16 = .ok (.iload_n 1, 1) := by decide +kernel
theorem dX7_isBetween_17 : decode cX7_isBetween 17 = .ok (.invokestatic 47, 3) := by decide +kernel
theorem dX7_isBetween_20 : decode cX7_isBetween 20 = .ok (.ireturn, 1) := by decide +kernel
set_option maxRecDepth 20000 in
theorem ggX7_isOn_X7_turn : GoodIn wsX7_isOn wsX7_turn := goodIn_r _ [4] (by decide +kernel) (by decide +kernel)
set_option maxRecDepth 20000 in
theorem gX7_isOn_X7_turn : GoodIn wsX7_isOn (va_wsS RX7 100 yX7_turn wsX7_turn) := goodIn_app (goodIn_of _ (by decide +kernel)) ggX7_isOn_X7_turn
set_option maxRecDepth 20000 in
theorem ggX7_isOn_X7_isBetween : GoodIn wsX7_isOn wsX7_isBetween := goodIn_r _ [7, 8, 9, 3, 10] (by decide +kernel) (by decide +kernel)
set_option maxRecDepth 20000 in
theorem gX7_isOn_X7_isBetween : GoodIn wsX7_isOn (va_wsS RX7 104 yX7_isBetween wsX7_isBetween) := goodIn_app (goodIn_of _ (by decide +kernel)) ggX7_isOn_X7_isBetween
theorem dX7_isOn_0 : decode cX7_isOn 0 = .ok (.iload_n 0, 1) := by decide +kernel
theorem dX7_isOn_1 : decode cX7_isOn 1 = .ok (.iload_n 1, 1) := by decide +kernel
theorem dX7_isOn_2 : decode cX7_isOn 2 = .ok (.iload_n 2, 1) := by decide +kernel
theorem dX7_isOn_3 : decode cX7_isOn 3 = .ok (.iload_n 3, 1) := by decide +kernel
theorem dX7_isOn_4 : decode cX7_isOn 4 = .ok (.iload 4, 2) := by decide +kernel
theorem dX7_isOn_6 : decode cX7_isOn 6 = .ok (.iload 5, 2) := by decide +kernel
theorem dX7_isOn_8 : decode cX7_isOn 8 = .ok (.invokestatic 100, 3) := by decide +kernel
theorem dX7_isOn_11 : decode cX7_isOn 11 = .ok (.ifCond .ne 27, 3) := by decide +kernel
theorem dX7_isOn_14 : decode cX7_isOn 14 = .ok (.iload 4, 2) := by decide +kernel
theorem dX7_isOn_16 : decode cX7_isOn 16 = .ok (.iload_n 0, 1) := by decide +kernel
theorem dX7_isOn_17 : decode cX7_isOn 17 = .ok (.iload_n 2, 1) := by decide +kernel
theorem dX7_isOn_18 : decode cX7_isOn 18 = .ok (.invokestatic 104, 3) := by decide +kernel
theorem dX7_isOn_21 : decode cX7_isOn 21 = .ok (.ifCond .eq 17, 3) := by decide +kernel
theorem dX7_isOn_24 : decode cX7_isOn 24 = .ok (.iload 5, 2) := by decide +kernel
theorem dX7_isOn_26 : decode cX7_isOn 26 = .ok (.iload_n 1, 1) := by decide +kernel
theorem dX7_isOn_27 : decode cX7_isOn 27 = .ok (.iload_n 3, 1) := by decide +kernel
theorem dX7_isOn_28 : decode cX7_isOn 28 = .ok (.invokestatic 104, 3) := by decide +kernel
theorem dX7_isOn_31 : decode cX7_isOn 31 = .ok (.ifCond .eq 7, 3) := by decide +kernel
theorem dX7_isOn_34 : decode cX7_isOn 34 = .ok (.iconst 1, 1) := by decide +kernel
theorem dX7_isOn_35 : decode cX7_isOn 35 = .ok (.goto 4, 3) := by decide +kernel
theorem dX7_isOn_38 : decode cX7_isOn 38 = .ok (.iconst 0, 1) := by decide +kernel
theorem dX7_isOn_39 : decode cX7_isOn 39 = .ok (.ireturn, 1) := by decide +kernel
theorem dX7_next_0 : decode cX7_next 0 = .ok (.iload_n 1, 1) := by decide +kernel
theorem dX7_next_1 : decode cX7_next 1 = .ok (.iconst 1, 1) := by decide +kernel
theorem dX7_next_2 : decode cX7_next 2 = .ok (.iadd, 1) := by decide +kernel
theorem dX7_next_3 : decode cX7_next 3 = .ok (.aload_n 0, 1) := by decide +kernel
theorem dX7_next_4 : decode cX7_next 4 = .ok (.getfield 58, 3) := by decide +kernel
theorem dX7_next_7 : decode cX7_next 7 = .ok (.if_icmp .ne 7, 3) := by decide +kernel
theorem dX7_next_10 : decode cX7_next 10 = .ok (.iconst 0, 1) := by decide +kernel
theorem dX7_next_11 : decode cX7_next 11 = .ok (.goto 6, 3) := by decide +kernel
theorem dX7_next_14 : decode cX7_next 14 = .ok (.iload_n 1, 1) := by decide +kernel
theorem dX7_next_15 : decode cX7_next 15 = .ok (.iconst 1, 1) := by decide +kernel
theorem dX7_next_16 : decode cX7_next 16 = .ok (.iadd, 1) := by decide +kernel
theorem dX7_next_17 : decode cX7_next 17 = .ok (.ireturn, 1) := by decide +kernel
set_option maxRecDepth 20000 in
theorem ggX7_isOnSide_X7_next : GoodIn wsX7_isOnSide wsX7_next := goodIn_r _ [7, 8, 21, 22, 23, 24, 25, 26, 27, 28, 29, 30, 31, 32, 33, 34, 35, 36, 37, 38, 39, 40, 41, 42, 43, 44] (by decide +kernel) (by decide +kernel)
set_option maxRecDepth 20000 in
theorem gX7_isOnSide_X7_next : GoodIn wsX7_isOnSide (wsV RX7 107 RX7 yX7_next wsX7_next) := goodIn_app (goodIn_of _ (by decide +kernel)) ggX7_isOnSide_X7_next
set_option maxRecDepth 20000 in
theorem ggX7_isOnSide_X7_isOn : GoodIn wsX7_isOnSide wsX7_isOn := goodIn_r _ [11, 12, 13, 6, 14, 15, 16, 17, 18, 19, 20] (by decide +kernel) (by decide +kernel)
set_option maxRecDepth 20000 in
theorem gX7_isOnSide_X7_isOn : GoodIn wsX7_isOnSide (va_wsS RX7 110 yX7_isOn wsX7_isOn) := goodIn_app (goodIn_of _ (by decide +kernel)) ggX7_isOnSide_X7_isOn
theorem dX7_isOnSide_0 : decode cX7_isOnSide 0 = .ok (.aload_n 0, 1) := by decide +kernel
theorem dX7_isOnSide_1 : decode cX7_isOnSide 1 = .ok (.getfield 29, 3) := by decide +kernel
theorem dX7_isOnSide_4 : decode cX7_isOnSide 4 = .ok (.iload_n 1, 1) := by decide +kernel
theorem dX7_isOnSide_5 : decode cX7_isOnSide 5 = .ok (.iaload, 1) := by decide +kernel
theorem dX7_isOnSide_6 : decode cX7_isOnSide 6 = .ok (.aload_n 0, 1) := by decide +kernel
theorem dX7_isOnSide_7 : decode cX7_isOnSide 7 = .ok (.getfield 32, 3) := by decide +kernel
theorem dX7_isOnSide_10 : decode cX7_isOnSide 10 = .ok (.iload_n 1, 1) := by decide +kernel
theorem dX7_isOnSide_11 : decode cX7_isOnSide 11 = .ok (.iaload, 1) := by decide +kernel
theorem dX7_isOnSide_12 : decode cX7_isOnSide 12 = .ok (.aload_n 0, 1) := by decide +kernel
theorem dX7_isOnSide_13 : decode cX7_isOnSide 13 = .ok (.getfield 29, 3) := by decide +kernel
theorem dX7_isOnSide_16 : decode cX7_isOnSide 16 = .ok (.aload_n 0, 1) := by decide +kernel
theorem dX7_isOnSide_17 : decode cX7_isOnSide 17 = .ok (.iload_n 1, 1) := by decide +kernel
theorem dX7_isOnSide_18 : decode cX7_isOnSide 18 = .ok (.invokevirtual 107, 3) := by decide +kernel
theorem dX7_isOnSide_21 : decode cX7_isOnSide 21 = .ok (.iaload, 1) := by decide +kernel
theorem dX7_isOnSide_22 : decode cX7_isOnSide 22 = .ok (.aload_n 0, 1) := by decide +kernel
theorem dX7_isOnSide_23 : decode cX7_isOnSide 23 = .ok (.getfield 32, 3) := by decide +kernel
theorem dX7_isOnSide_26 : decode cX7_isOnSide 26 = .ok (.aload_n 0, 1) := by decide +kernel
theorem dX7_isOnSide_27 : decode cX7_isOnSide 27 = .ok (.iload_n 1, 1) := by decide +kernel
theorem dX7_isOnSide_28 : decode cX7_isOnSide 28 = .ok (.invokevirtual 107, 3) := by decide +kernel
theorem dX7_isOnSide_31 : decode cX7_isOnSide 31 = .ok (.iaload, 1) := by decide +kernel
theorem dX7_isOnSide_32 : decode cX7_isOnSide 32 = .ok (.iload_n 2, 1) := by decide +kernel
theorem dX7_isOnSide_33 : decode cX7_isOnSide 33 = .ok (.iload_n 3, 1) := by decide +kernel
theorem dX7_isOnSide_34 : decode cX7_isOnSide 34 = .ok (.invokestatic 110, 3) := by decide +kernel
theorem dX7_isOnSide_37 : decode cX7_isOnSide 37 = .ok (.ireturn, 1) := by decide +kernel
set_option maxRecDepth 20000 in
theorem ggX7_turnOf_X7_next : GoodIn wsX7_turnOf wsX7_next := goodIn_r _ [7, 8, 12, 13, 14, 15, 16, 17, 18, 19, 20, 21, 22, 23, 24, 25, 26, 27, 28, 29, 30, 31, 32, 33, 34, 35] (by decide +kernel) (by decide +kernel)
set_option maxRecDepth 20000 in
theorem gX7_turnOf_X7_next : GoodIn wsX7_turnOf (wsV RX7 107 RX7 yX7_next wsX7_next) := goodIn_app (goodIn_of _ (by decide +kernel)) ggX7_turnOf_X7_next
set_option maxRecDepth 20000 in
theorem ggX7_turnOf_X7_turn : GoodIn wsX7_turnOf wsX7_turn := goodIn_r _ [11] (by decide +kernel) (by decide +kernel)
set_option maxRecDepth 20000 in
theorem gX7_turnOf_X7_turn : GoodIn wsX7_turnOf (va_wsS RX7 100 yX7_turn wsX7_turn) := goodIn_app (goodIn_of _ (by decide +kernel)) ggX7_turnOf_X7_turn
theorem dX7_turnOf_0 : decode cX7_turnOf 0 = .ok (.aload_n 0, 1) := by decide +kernel
theorem dX7_turnOf_1 : decode cX7_turnOf 1 = .ok (.getfield 29, 3) := by decide +kernel
theorem dX7_turnOf_4 : decode cX7_turnOf 4 = .ok (.iload_n 1, 1) := by decide +kernel
theorem dX7_turnOf_5 : decode cX7_turnOf 5 = .ok (.iaload, 1) := by decide +kernel
theorem dX7_turnOf_6 : decode cX7_turnOf 6 = .ok (.aload_n 0, 1) := by decide +kernel
theorem dX7_turnOf_7 : decode cX7_turnOf 7 = .ok (.getfield 32, 3) := by decide +kernel
theorem dX7_turnOf_10 : decode cX7_turnOf 10 = .ok (.iload_n 1, 1) := by decide +kernel
theorem dX7_turnOf_11 : decode cX7_turnOf 11 = .ok (.iaload, 1) := by decide +kernel
theorem dX7_turnOf_12 : decode cX7_turnOf 12 = .ok (.aload_n 0, 1) := by decide +kernel
theorem dX7_turnOf_13 : decode cX7_turnOf 13 = .ok (.getfield 29, 3) := by decide +kernel
theorem dX7_turnOf_16 : decode cX7_turnOf 16 = .ok (.aload_n 0, 1) := by decide +kernel
theorem dX7_turnOf_17 : decode cX7_turnOf 17 = .ok (.iload_n 1, 1) := by decide +kernel
theorem dX7_turnOf_18 : decode cX7_turnOf 18 = .ok (.invokevirtual 107, 3) := by decide +kernel
theorem dX7_turnOf_21 : decode cX7_turnOf 21 = .ok (.iaload, 1) := by decide +kernel
theorem dX7_turnOf_22 : decode cX7_turnOf 22 = .ok (.aload_n 0, 1) := by decide +kernel
theorem dX7_turnOf_23 : decode cX7_turnOf 23 = .ok (.getfield 32, 3) := by decide +kernel
theorem dX7_turnOf_26 : decode cX7_turnOf 26 = .ok (.aload_n 0, 1) := by decide +kernel
theorem dX7_turnOf_27 : decode cX7_turnOf 27 = .ok (.iload_n 1, 1) := by decide +kernel
theorem dX7_turnOf_28 : decode cX7_turnOf 28 = .ok (.invokevirtual 107, 3) := by decide +kernel
theorem dX7_turnOf_31 : decode cX7_turnOf 31 = .ok (.iaload, 1) := by decide +kernel
theorem dX7_turnOf_32 : decode cX7_turnOf 32 = .ok (.iload_n 2, 1) := by decide +kernel
theorem dX7_turnOf_33 : decode cX7_turnOf 33 = .ok (.iload_n 3, 1) := by decide +kernel
theorem dX7_turnOf_34 : decode cX7_turnOf 34 = .ok (.invokestatic 100, 3) := by decide +kernel
theorem dX7_turnOf_37 : decode cX7_turnOf 37 = .ok (.ireturn, 1) := by decide +kernel
set_option maxRecDepth 20000 in
theorem ggX7_meet_X7_isOnSide : GoodIn wsX7_meet wsX7_isOnSide := goodIn_r _ [7, 1, 2, 8, 9, 10, 6, 11, 12, 13, 14, 15, 16, 17, 18, 19, 20, 21, 22, 23, 24, 29, 30, 31, 32, 33, 34, 35, 36, 37, 38, 39, 40, 41, 42, 43, 44, 45, 46, 47, 48, 49, 50, 51, 52] (by decide +kernel) (by decide +kernel)
set_option maxRecDepth 20000 in
theorem gX7_meet_X7_isOnSide : GoodIn wsX7_meet (wsV RX7 114 RX7 yX7_isOnSide wsX7_isOnSide) := goodIn_app (goodIn_of _ (by decide +kernel)) ggX7_meet_X7_isOnSide
set_option maxRecDepth 20000 in
theorem ggX7_meet_X7_next : GoodIn wsX7_meet wsX7_next := goodIn_r _ [11, 12, 29, 30, 31, 32, 33, 34, 35, 36, 37, 38, 39, 40, 41, 42, 43, 44, 45, 46, 47, 48, 49, 50, 51, 52] (by decide +kernel) (by decide +kernel)
set_option maxRecDepth 20000 in
theorem gX7_meet_X7_next : GoodIn wsX7_meet (wsV RX7 107 RX7 yX7_next wsX7_next) := goodIn_app (goodIn_of _ (by decide +kernel)) ggX7_meet_X7_next
set_option maxRecDepth 20000 in
theorem ggX7_meet_X7_turnOf : GoodIn wsX7_meet wsX7_turnOf := goodIn_r _ [28, 1, 2, 8, 9, 10, 6, 11, 12, 16, 17, 18, 29, 30, 31, 32, 33, 34, 35, 36, 37, 38, 39, 40, 41, 42, 43, 44, 45, 46, 47, 48, 49, 50, 51, 52] (by decide +kernel) (by decide +kernel)
set_option maxRecDepth 20000 in
theorem gX7_meet_X7_turnOf : GoodIn wsX7_meet (wsV RX7 117 RX7 yX7_turnOf wsX7_turnOf) := goodIn_app (goodIn_of _ (by decide +kernel)) ggX7_meet_X7_turnOf
theorem dX7_meet_0 : decode cX7_meet 0 = .ok (.aload_n 0, 1) := by decide +kernel
theorem dX7_meet_1 : decode cX7_meet 1 = .ok (.iload_n 1, 1) := by decide +kernel
theorem dX7_meet_2 : decode cX7_meet 2 = .ok (.aload_n 0, 1) := by decide +kernel
theorem dX7_meet_3 : decode cX7_meet 3 = .ok (.getfield 29, 3) := by decide +kernel
theorem dX7_meet_6 : decode cX7_meet 6 = .ok (.iload_n 2, 1) := by decide +kernel
theorem dX7_meet_7 : decode cX7_meet 7 = .ok (.iaload, 1) := by decide +kernel
theorem dX7_meet_8 : decode cX7_meet 8 = .ok (.aload_n 0, 1) := by decide +kernel
theorem dX7_meet_9 : decode cX7_meet 9 = .ok (.getfield 32, 3) := by decide +kernel
theorem dX7_meet_12 : decode cX7_meet 12 = .ok (.iload_n 2, 1) := by decide +kernel
theorem dX7_meet_13 : decode cX7_meet 13 = .ok (.iaload, 1) := by decide +kernel
theorem dX7_meet_14 : decode cX7_meet 14 = .ok (.invokevirtual 114, 3) := by decide +kernel
theorem dX7_meet_17 : decode cX7_meet 17 = .ok (.ifCond .ne 79, 3) := by decide +kernel
theorem dX7_meet_20 : decode cX7_meet 20 = .ok (.aload_n 0, 1) := by decide +kernel
theorem dX7_meet_21 : decode cX7_meet 21 = .ok (.iload_n 1, 1) := by decide +kernel
theorem dX7_meet_22 : decode cX7_meet 22 = .ok (.aload_n 0, 1) := by decide +kernel
theorem dX7_meet_23 : decode cX7_meet 23 = .ok (.getfield 29, 3) := by decide +kernel
theorem dX7_meet_26 : decode cX7_meet 26 = .ok (.aload_n 0, 1) := by decide +kernel
theorem dX7_meet_27 : decode cX7_meet 27 = .ok (.iload_n 2, 1) := by decide +kernel
theorem dX7_meet_28 : decode cX7_meet 28 = .ok (.invokevirtual 107, 3) := by decide +kernel
theorem dX7_meet_31 : decode cX7_meet 31 = .ok (.iaload, 1) := by decide +kernel
theorem dX7_meet_32 : decode cX7_meet 32 = .ok (.aload_n 0, 1) := by decide +kernel
theorem dX7_meet_33 : decode cX7_meet 33 = .ok (.getfield 32, 3) := by decide +kernel
theorem dX7_meet_36 : decode cX7_meet 36 = .ok (.aload_n 0, 1) := by decide +kernel
theorem dX7_meet_37 : decode cX7_meet 37 = .ok (.iload_n 2, 1) := by decide +kernel
theorem dX7_meet_38 : decode cX7_meet 38 = .ok (.invokevirtual 107, 3) := by decide +kernel
theorem dX7_meet_41 : decode cX7_meet 41 = .ok (.iaload, 1) := by decide +kernel
theorem dX7_meet_42 : decode cX7_meet 42 = .ok (.invokevirtual 114, 3) := by decide +kernel
theorem dX7_meet_45 : decode cX7_meet 45 = .ok (.ifCond .ne 51, 3) := by decide +kernel
theorem dX7_meet_48 : decode cX7_meet 48 = .ok (.aload_n 0, 1) := by decide +kernel
theorem dX7_meet_49 : decode cX7_meet 49 = .ok (.iload_n 2, 1) := by decide +kernel
theorem dX7_meet_50 : decode cX7_meet 50 = .ok (.aload_n 0, 1) := by decide +kernel
theorem dX7_meet_51 : decode cX7_meet 51 = .ok (.getfield 29, 3) := by decide +kernel
theorem dX7_meet_54 : decode cX7_meet 54 = .ok (.iload_n 1, 1) := by decide +kernel
theorem dX7_meet_55 : decode cX7_meet 55 = .ok (.iaload, 1) := by decide +kernel
theorem dX7_meet_56 : decode cX7_meet 56 = .ok (.aload_n 0, 1) := by decide +kernel
theorem dX7_meet_57 : decode cX7_meet 57 = .ok (.getfield 32, 3) := by decide +kernel
theorem dX7_meet_60 : decode cX7_meet 60 = .ok (.iload_n 1, 1) := by decide +kernel
theorem dX7_meet_61 : decode cX7_meet 61 = .ok (.iaload, 1) := by decide +kernel
theorem dX7_meet_62 : decode cX7_meet 62 = .ok (.invokevirtual 114, 3) := by decide +kernel
theorem dX7_meet_65 : decode cX7_meet 65 = .ok (.ifCond .ne 31, 3) := by decide +kernel
theorem dX7_meet_68 : decode cX7_meet 68 = .ok (.aload_n 0, 1) := by decide +kernel
theorem dX7_meet_69 : decode cX7_meet 69 = .ok (.iload_n 2, 1) := by decide +kernel
theorem dX7_meet_70 : decode cX7_meet 70 = .ok (.aload_n 0, 1) := by decide +kernel
theorem dX7_meet_71 : decode cX7_meet 71 = .ok (.getfield 29, 3) := by decide +kernel
theorem dX7_meet_74 : decode cX7_meet 74 = .ok (.aload_n 0, 1) := by decide +kernel
theorem dX7_meet_75 : decode cX7_meet 75 = .ok (.iload_n 1, 1) := by decide +kernel
theorem dX7_meet_76 : decode cX7_meet 76 = .ok (.invokevirtual 107, 3) := by decide +kernel
theorem dX7_meet_79 : decode cX7_meet 79 = .ok (.iaload, 1) := by decide +kernel
theorem dX7_meet_80 : decode cX7_meet 80 = .ok (.aload_n 0, 1) := by decide +kernel
theorem dX7_meet_81 : decode cX7_meet 81 = .ok (.getfield 32, 3) := by decide +kernel
theorem dX7_meet_84 : decode cX7_meet 84 = .ok (.aload_n 0, 1) := by decide +kernel
theorem dX7_meet_85 : decode cX7_meet 85 = .ok (.iload_n 1, 1) := by decide +kernel
theorem dX7_meet_86 : decode cX7_meet 86 = .ok (.invokevirtual 107, 3) := by decide +kernel
theorem dX7_meet_89 : decode cX7_meet 89 = .ok (.iaload, 1) := by decide +kernel
theorem dX7_meet_90 : decode cX7_meet 90 = .ok (.invokevirtual 114, 3) := by decide +kernel
theorem dX7_meet_93 : decode cX7_meet 93 = .ok (.ifCond .eq 5, 3) := by decide +kernel
theorem dX7_meet_96 : decode cX7_meet 96 = .ok (.iconst 1, 1) := by decide +kernel
theorem dX7_meet_97 : decode cX7_meet 97 = .ok (.ireturn, 1) := by decide +kernel
theorem dX7_meet_98 : decode cX7_meet 98 = .ok (.aload_n 0, 1) := by decide +kernel
theorem dX7_meet_99 : decode cX7_meet 99 = .ok (.iload_n 1, 1) := by decide +kernel
theorem dX7_meet_100 : decode cX7_meet 100 = .ok (.aload_n 0, 1) := by decide +kernel
theorem dX7_meet_101 : decode cX7_meet 101 = .ok (.getfield 29, 3) := by decide +kernel
theorem dX7_meet_104 : decode cX7_meet 104 = .ok (.iload_n 2, 1) := by decide +kernel
theorem dX7_meet_105 : decode cX7_meet 105 = .ok (.iaload, 1) := by decide +kernel
theorem dX7_meet_106 : decode cX7_meet 106 = .ok (.aload_n 0, 1) := by decide +kernel
theorem dX7_meet_107 : decode cX7_meet 107 = .ok (.getfield 32, 3) := by decide +kernel
theorem dX7_meet_110 : decode cX7_meet 110 = .ok (.iload_n 2, 1) := by decide +kernel
theorem dX7_meet_111 : decode cX7_meet 111 = .ok (.iaload, 1) := by decide +kernel
theorem dX7_meet_112 : decode cX7_meet 112 = .ok (.invokevirtual 117, 3) := by decide +kernel
theorem dX7_meet_115 : decode cX7_meet 115 = .ok (.aload_n 0, 1) := by decide +kernel
theorem dX7_meet_116 : decode cX7_meet 116 = .ok (.iload_n 1, 1) := by decide +kernel
theorem dX7_meet_117 : decode cX7_meet 117 = .ok (.aload_n 0, 1) := by decide +kernel
theorem dX7_meet_118 : decode cX7_meet 118 = .ok (.getfield 29, 3) := by decide +kernel
theorem dX7_meet_121 : decode cX7_meet 121 = .ok (.aload_n 0, 1) := by decide +kernel
theorem dX7_meet_122 : decode cX7_meet 122 = .ok (.iload_n 2, 1) := by decide +kernel
theorem dX7_meet_123 : decode cX7_meet 123 = .ok (.invokevirtual 107, 3) := by decide +kernel
theorem dX7_meet_126 : decode cX7_meet 126 = .ok (.iaload, 1) := by decide +kernel
theorem dX7_meet_127 : decode cX7_meet 127 = .ok (.aload_n 0, 1) := by decide +kernel
theorem dX7_meet_128 : decode cX7_meet 128 = .ok (.getfield 32, 3) := by decide +kernel
theorem dX7_meet_131 : decode cX7_meet 131 = .ok (.aload_n 0, 1) := by decide +kernel
theorem dX7_meet_132 : decode cX7_meet 132 = .ok (.iload_n 2, 1) := by decide +kernel
theorem dX7_meet_133 : decode cX7_meet 133 = .ok (.invokevirtual 107, 3) := by decide +kernel
theorem dX7_meet_136 : decode cX7_meet 136 = .ok (.iaload, 1) := by decide +kernel
theorem dX7_meet_137 : decode cX7_meet 137 = .ok (.invokevirtual 117, 3) := by decide +kernel
theorem dX7_meet_140 : decode cX7_meet 140 = .ok (.imul, 1) := by decide +kernel
theorem dX7_meet_141 : decode cX7_meet 141 = .ok (.ifCond .ge 53, 3) := by decide +kernel
theorem dX7_meet_144 : decode cX7_meet 144 = .ok (.aload_n 0, 1) := by decide +kernel
theorem dX7_meet_145 : decode cX7_meet 145 = .ok (.iload_n 2, 1) := by decide +kernel
theorem dX7_meet_146 : decode cX7_meet 146 = .ok (.aload_n 0, 1) := by decide +kernel
theorem dX7_meet_147 : decode cX7_meet 147 = .ok (.getfield 29, 3) := by decide +kernel
theorem dX7_meet_150 : decode cX7_meet 150 = .ok (.iload_n 1, 1) := by decide +kernel
theorem dX7_meet_151 : decode cX7_meet 151 = .ok (.iaload, 1) := by decide +kernel
theorem dX7_meet_152 : decode cX7_meet 152 = .ok (.aload_n 0, 1) := by decide +kernel
theorem dX7_meet_153 : decode cX7_meet 153 = .ok (.getfield 32, 3) := by decide +kernel
theorem dX7_meet_156 : decode cX7_meet 156 = .ok (.iload_n 1, 1) := by decide +kernel
theorem dX7_meet_157 : decode cX7_meet 157 = .ok (.iaload, 1) := by decide +kernel
theorem dX7_meet_158 : decode cX7_meet 158 = .ok (.invokevirtual 117, 3) := by decide +kernel
theorem dX7_meet_161 : decode cX7_meet 161 = .ok (.aload_n 0, 1) := by decide +kernel
theorem dX7_meet_162 : decode cX7_meet 162 = .ok (.iload_n 2, 1) := by decide +kernel
theorem dX7_meet_163 : decode cX7_meet 163 = .ok (.aload_n 0, 1) := by decide +kernel
theorem dX7_meet_164 : decode cX7_meet 164 = .ok (.getfield 29, 3) := by decide +kernel
theorem dX7_meet_167 : decode cX7_meet 167 = .ok (.aload_n 0, 1) := by decide +kernel
theorem dX7_meet_168 : decode cX7_meet 168 = .ok (.iload_n 1, 1) := by decide +kernel
theorem dX7_meet_169 : decode cX7_meet 169 = .ok (.invokevirtual 107, 3) := by decide +kernel
theorem dX7_meet_172 : decode cX7_meet 172 = .ok (.iaload, 1) := by decide +kernel
theorem dX7_meet_173 : decode cX7_meet 173 = .ok (.aload_n 0, 1) := by decide +kernel
theorem dX7_meet_174 : decode cX7_meet 174 = .ok (.getfield 32, 3) := by decide +kernel
theorem dX7_meet_177 : decode cX7_meet 177 = .ok (.aload_n 0, 1) := by decide +kernel
theorem dX7_meet_178 : decode cX7_meet 178 = .ok (.iload_n 1, 1) := by decide +kernel
theorem dX7_meet_179 : decode cX7_meet 179 = .ok (.invokevirtual 107, 3) := by decide +kernel
theorem dX7_meet_182 : decode cX7_meet 182 = .ok (.iaload, 1) := by decide +kernel
theorem dX7_meet_183 : decode cX7_meet 183 = .ok (.invokevirtual 117, 3) := by decide +kernel
theorem dX7_meet_186 : decode cX7_meet 186 = .ok (.imul, 1) := by decide +kernel
theorem dX7_meet_187 : decode cX7_meet 187 = .ok (.ifCond .ge 7, 3) := by decide +kernel
theorem dX7_meet_190 : decode cX7_meet 190 = .ok (.iconst 1, 1) := by decide +kernel
theorem dX7_meet_191 : decode cX7_meet 191 = .ok (.goto 4, 3) := by decide +kernel
theorem dX7_meet_194 : decode cX7_meet 194 = .ok (.iconst 0, 1) := by decide +kernel
theorem dX7_meet_195 : decode cX7_meet 195 = .ok (.ireturn, 1) := by decide +kernel
set_option maxRecDepth 20000 in
theorem ggX7_foldsBack_X7_next : GoodIn wsX7_foldsBack wsX7_next := goodIn_r _ [7, 8, 25, 26, 27, 28, 29, 30, 31, 32, 33, 34, 35, 36, 37, 38, 39, 40, 41, 42, 43, 44, 45, 46, 47, 48] (by decide +kernel) (by decide +kernel)
set_option maxRecDepth 20000 in
theorem gX7_foldsBack_X7_next : GoodIn wsX7_foldsBack (wsV RX7 107 RX7 yX7_next wsX7_next) := goodIn_app (goodIn_of _ (by decide +kernel)) ggX7_foldsBack_X7_next
set_option maxRecDepth 20000 in
theorem ggX7_foldsBack_X7_isOnSide : GoodIn wsX7_foldsBack wsX7_isOnSide := goodIn_r _ [12, 1, 2, 3, 4, 5, 6, 7, 8, 13, 14, 15, 16, 17, 18, 19, 20, 21, 22, 23, 24, 25, 26, 27, 28, 29, 30, 31, 32, 33, 34, 35, 36, 37, 38, 39, 40, 41, 42, 43, 44, 45, 46, 47, 48] (by decide +kernel) (by decide +kernel)
set_option maxRecDepth 20000 in
theorem gX7_foldsBack_X7_isOnSide : GoodIn wsX7_foldsBack (wsV RX7 114 RX7 yX7_isOnSide wsX7_isOnSide) := goodIn_app (goodIn_of _ (by decide +kernel)) ggX7_foldsBack_X7_isOnSide
theorem dX7_foldsBack_0 : decode cX7_foldsBack 0 = .ok (.aload_n 0, 1) := by decide +kernel
theorem dX7_foldsBack_1 : decode cX7_foldsBack 1 = .ok (.iload_n 1, 1) := by decide +kernel
theorem dX7_foldsBack_2 : decode cX7_foldsBack 2 = .ok (.invokevirtual 107, 3) := by decide +kernel
theorem dX7_foldsBack_5 : decode cX7_foldsBack 5 = .ok (.istore_n 2, 1) := by decide +kernel
theorem dX7_foldsBack_6 : decode cX7_foldsBack 6 = .ok (.aload_n 0, 1) := by decide +kernel
theorem dX7_foldsBack_7 : decode cX7_foldsBack 7 = .ok (.iload_n 1, 1) := by decide +kernel
theorem dX7_foldsBack_8 : decode cX7_foldsBack 8 = .ok (.aload_n 0, 1) := by decide +kernel
theorem dX7_foldsBack_9 : decode cX7_foldsBack 9 = .ok (.getfield 29, 3) := by decide +kernel
theorem dX7_foldsBack_12 : decode cX7_foldsBack 12 = .ok (.aload_n 0, 1) := by decide +kernel
theorem dX7_foldsBack_13 : decode cX7_foldsBack 13 = .ok (.iload_n 2, 1) := by decide +kernel
theorem dX7_foldsBack_14 : decode cX7_foldsBack 14 = .ok (.invokevirtual 107, 3) := by decide +kernel
theorem dX7_foldsBack_17 : decode cX7_foldsBack 17 = .ok (.iaload, 1) := by decide +kernel
theorem dX7_foldsBack_18 : decode cX7_foldsBack 18 = .ok (.aload_n 0, 1) := by decide +kernel
theorem dX7_foldsBack_19 : decode cX7_foldsBack 19 = .ok (.getfield 32, 3) := by decide +kernel
theorem dX7_foldsBack_22 : decode cX7_foldsBack 22 = .ok (.aload_n 0, 1) := by decide +kernel
theorem dX7_foldsBack_23 : decode cX7_foldsBack 23 = .ok (.iload_n 2, 1) := by decide +kernel
theorem dX7_foldsBack_24 : decode cX7_foldsBack 24 = .ok (.invokevirtual 107, 3) := by decide +kernel
theorem dX7_foldsBack_27 : decode cX7_foldsBack 27 = .ok (.iaload, 1) := by decide +kernel
theorem dX7_foldsBack_28 : decode cX7_foldsBack 28 = .ok (.invokevirtual 114, 3) := by decide +kernel
theorem dX7_foldsBack_31 : decode cX7_foldsBack 31 = .ok (.ifCond .ne 23, 3) := by decide +kernel
theorem dX7_foldsBack_34 : decode cX7_foldsBack 34 = .ok (.aload_n 0, 1) := by decide +kernel
theorem dX7_foldsBack_35 : decode cX7_foldsBack 35 = .ok (.iload_n 2, 1) := by decide +kernel
theorem dX7_foldsBack_36 : decode cX7_foldsBack 36 = .ok (.aload_n 0, 1) := by decide +kernel
theorem dX7_foldsBack_37 : decode cX7_foldsBack 37 = .ok (.getfield 29, 3) := by decide +kernel
theorem dX7_foldsBack_40 : decode cX7_foldsBack 40 = .ok (.iload_n 1, 1) := by decide +kernel
theorem dX7_foldsBack_41 : decode cX7_foldsBack 41 = .ok (.iaload, 1) := by decide +kernel
theorem dX7_foldsBack_42 : decode cX7_foldsBack 42 = .ok (.aload_n 0, 1) := by decide +kernel
theorem dX7_foldsBack_43 : decode cX7_foldsBack 43 = .ok (.getfield 32, 3) := by decide +kernel
theorem dX7_foldsBack_46 : decode cX7_foldsBack 46 = .ok (.iload_n 1, 1) := by decide +kernel
theorem dX7_foldsBack_47 : decode cX7_foldsBack 47 = .ok (.iaload, 1) := by decide +kernel
theorem dX7_foldsBack_48 : decode cX7_foldsBack 48 = .ok (.invokevirtual 114, 3) := by decide +kernel
theorem dX7_foldsBack_51 : decode cX7_foldsBack 51 = .ok (.ifCond .eq 7, 3) := by decide +kernel
theorem dX7_foldsBack_54 : decode cX7_foldsBack 54 = .ok (.iconst 1, 1) := by decide +kernel
theorem dX7_foldsBack_55 : decode cX7_foldsBack 55 = .ok (.goto 4, 3) := by decide +kernel
theorem dX7_foldsBack_58 : decode cX7_foldsBack 58 = .ok (.iconst 0, 1) := by decide +kernel
theorem dX7_foldsBack_59 : decode cX7_foldsBack 59 = .ok (.ireturn, 1) := by decide +kernel
set_option maxRecDepth 20000 in
theorem ggX7_stands_X7_isPost : GoodIn wsX7_stands wsX7_isPost := goodIn_r _ [7, 8, 9, 6, 10] (by decide +kernel) (by decide +kernel)
set_option maxRecDepth 20000 in
theorem gX7_stands_X7_isPost : GoodIn wsX7_stands (va_wsS RX7 121 yX7_isPost wsX7_isPost) := goodIn_app (goodIn_of _ (by decide +kernel)) ggX7_stands_X7_isPost
set_option maxRecDepth 20000 in
theorem ggX7_stands_X7_next : GoodIn wsX7_stands wsX7_next := goodIn_r _ [14, 1, 40, 41, 42, 43, 44, 45, 46, 47, 48, 49, 50, 51, 52, 53, 54, 55, 56, 57, 58, 59, 60, 61, 62, 63] (by decide +kernel) (by decide +kernel)
set_option maxRecDepth 20000 in
theorem gX7_stands_X7_next : GoodIn wsX7_stands (wsV RX7 107 RX7 yX7_next wsX7_next) := goodIn_app (goodIn_of _ (by decide +kernel)) ggX7_stands_X7_next
set_option maxRecDepth 20000 in
theorem ggX7_stands_X7_foldsBack : GoodIn wsX7_stands wsX7_foldsBack := goodIn_r _ [18, 2, 3, 11, 12, 13, 6, 14, 1, 19, 20, 21, 22, 23, 24, 25, 26, 27, 28, 29, 30, 31, 8, 9, 10, 40, 41, 42, 43, 44, 45, 46, 47, 48, 49, 50, 51, 52, 53, 54, 55, 56, 57, 58, 59, 60, 61, 62, 63] (by decide +kernel) (by decide +kernel)
set_option maxRecDepth 20000 in
theorem gX7_stands_X7_foldsBack : GoodIn wsX7_stands (wsV RX7 125 RX7 yX7_foldsBack wsX7_foldsBack) := goodIn_app (goodIn_of _ (by decide +kernel)) ggX7_stands_X7_foldsBack
set_option maxRecDepth 20000 in
theorem ggX7_stands_X7_meet : GoodIn wsX7_stands wsX7_meet := goodIn_r _ [35, 2, 3, 19, 20, 21, 6, 22, 11, 12, 13, 14, 1, 23, 24, 25, 26, 27, 28, 29, 30, 31, 8, 9, 10, 36, 37, 38, 39, 40, 41, 42, 43, 44, 45, 46, 47, 48, 49, 50, 51, 52, 53, 54, 55, 56, 57, 58, 59, 60, 61, 62, 63] (by decide +kernel) (by decide +kernel)
set_option maxRecDepth 20000 in
theorem gX7_stands_X7_meet : GoodIn wsX7_stands (wsV RX7 128 RX7 yX7_meet wsX7_meet) := goodIn_app (goodIn_of _ (by decide +kernel)) ggX7_stands_X7_meet
theorem dX7_stands_0 : decode cX7_stands 0 = .ok (.iconst 0, 1) := by decide +kernel
theorem dX7_stands_1 : decode cX7_stands 1 = .ok (.istore_n 1, 1) := by decide +kernel
theorem dX7_stands_2 : decode cX7_stands 2 = .ok (.iload_n 1, 1) := by decide +kernel
theorem dX7_stands_3 : decode cX7_stands 3 = .ok (.aload_n 0, 1) := by decide +kernel
theorem dX7_stands_4 : decode cX7_stands 4 = .ok (.getfield 58, 3) := by decide +kernel
theorem dX7_stands_7 : decode cX7_stands 7 = .ok (.if_icmp .ge 67, 3) := by decide +kernel
theorem dX7_stands_10 : decode cX7_stands 10 = .ok (.aload_n 0, 1) := by decide +kernel
theorem dX7_stands_11 : decode cX7_stands 11 = .ok (.getfield 29, 3) := by decide +kernel
theorem dX7_stands_14 : decode cX7_stands 14 = .ok (.iload_n 1, 1) := by decide +kernel
theorem dX7_stands_15 : decode cX7_stands 15 = .ok (.iaload, 1) := by decide +kernel
theorem dX7_stands_16 : decode cX7_stands 16 = .ok (.aload_n 0, 1) := by decide +kernel
theorem dX7_stands_17 : decode cX7_stands 17 = .ok (.getfield 32, 3) := by decide +kernel
theorem dX7_stands_20 : decode cX7_stands 20 = .ok (.iload_n 1, 1) := by decide +kernel
theorem dX7_stands_21 : decode cX7_stands 21 = .ok (.iaload, 1) := by decide +kernel
theorem dX7_stands_22 : decode cX7_stands 22 = .ok (.invokestatic 121, 3) := by decide +kernel
theorem dX7_stands_25 : decode cX7_stands 25 = .ok (.ifCond .eq 41, 3) := by decide +kernel
theorem dX7_stands_28 : decode cX7_stands 28 = .ok (.aload_n 0, 1) := by decide +kernel
theorem dX7_stands_29 : decode cX7_stands 29 = .ok (.getfield 29, 3) := by decide +kernel
theorem dX7_stands_32 : decode cX7_stands 32 = .ok (.iload_n 1, 1) := by decide +kernel
theorem dX7_stands_33 : decode cX7_stands 33 = .ok (.iaload, 1) := by decide +kernel
theorem dX7_stands_34 : decode cX7_stands 34 = .ok (.aload_n 0, 1) := by decide +kernel
theorem dX7_stands_35 : decode cX7_stands 35 = .ok (.getfield 29, 3) := by decide +kernel
theorem dX7_stands_38 : decode cX7_stands 38 = .ok (.aload_n 0, 1) := by decide +kernel
theorem dX7_stands_39 : decode cX7_stands 39 = .ok (.iload_n 1, 1) := by decide +kernel
theorem dX7_stands_40 : decode cX7_stands 40 = .ok (.invokevirtual 107, 3) := by decide +kernel
theorem dX7_stands_43 : decode cX7_stands 43 = .ok (.iaload, 1) := by decide +kernel
theorem dX7_stands_44 : decode cX7_stands 44 = .ok (.if_icmp .ne 24, 3) := by decide +kernel
theorem dX7_stands_47 : decode cX7_stands 47 = .ok (.aload_n 0, 1) := by decide +kernel
theorem dX7_stands_48 : decode cX7_stands 48 = .ok (.getfield 32, 3) := by decide +kernel
theorem dX7_stands_51 : decode cX7_stands 51 = .ok (.iload_n 1, 1) := by decide +kernel
theorem dX7_stands_52 : decode cX7_stands 52 = .ok (.iaload, 1) := by decide +kernel
theorem dX7_stands_53 : decode cX7_stands 53 = .ok (.aload_n 0, 1) := by decide +kernel
theorem dX7_stands_54 : decode cX7_stands 54 = .ok (.getfield 32, 3) := by decide +kernel
theorem dX7_stands_57 : decode cX7_stands 57 = .ok (.aload_n 0, 1) := by decide +kernel
theorem dX7_stands_58 : decode cX7_stands 58 = .ok (.iload_n 1, 1) := by decide +kernel
theorem dX7_stands_59 : decode cX7_stands 59 = .ok (.invokevirtual 107, 3) := by decide +kernel
theorem dX7_stands_62 : decode cX7_stands 62 = .ok (.iaload, 1) := by decide +kernel
theorem dX7_stands_63 : decode cX7_stands 63 = .ok (.if_icmp .ne 5, 3) := by decide +kernel
theorem dX7_stands_66 : decode cX7_stands 66 = .ok (.iconst 0, 1) := by decide +kernel
theorem dX7_stands_67 : decode cX7_stands 67 = .ok (.ireturn, 1) := by decide +kernel
theorem dX7_stands_68 : decode cX7_stands 68 = .ok (.iinc 1 1, 3) := by decide +kernel
theorem dX7_stands_71 : decode cX7_stands 71 = .ok (.goto (-69), 3) := by decide +kernel
theorem dX7_stands_74 : decode cX7_stands 74 = .ok (.iconst 0, 1) := by decide +kernel
theorem dX7_stands_75 : decode cX7_stands 75 = .ok (.istore_n 1, 1) := by decide +kernel
theorem dX7_stands_76 : decode cX7_stands 76 = .ok (.iload_n 1, 1) := by decide +kernel
theorem dX7_stands_77 : decode cX7_stands 77 = .ok (.aload_n 0, 1) := by decide +kernel
theorem dX7_stands_78 : decode cX7_stands 78 = .ok (.getfield 58, 3) := by decide +kernel
theorem dX7_stands_81 : decode cX7_stands 81 = .ok (.if_icmp .ge 69, 3) := by decide +kernel
theorem dX7_stands_84 : decode cX7_stands 84 = .ok (.aload_n 0, 1) := by decide +kernel
theorem dX7_stands_85 : decode cX7_stands 85 = .ok (.iload_n 1, 1) := by decide +kernel
theorem dX7_stands_86 : decode cX7_stands 86 = .ok (.invokevirtual 125, 3) := by decide +kernel
theorem dX7_stands_89 : decode cX7_stands 89 = .ok (.ifCond .eq 5, 3) := by decide +kernel
theorem dX7_stands_92 : decode cX7_stands 92 = .ok (.iconst 0, 1) := by decide +kernel
theorem dX7_stands_93 : decode cX7_stands 93 = .ok (.ireturn, 1) := by decide +kernel
theorem dX7_stands_94 : decode cX7_stands 94 = .ok (.iconst 0, 1) := by decide +kernel
theorem dX7_stands_95 : decode cX7_stands 95 = .ok (.istore_n 2, 1) := by decide +kernel
theorem dX7_stands_96 : decode cX7_stands 96 = .ok (.iload_n 2, 1) := by decide +kernel
theorem dX7_stands_97 : decode cX7_stands 97 = .ok (.aload_n 0, 1) := by decide +kernel
theorem dX7_stands_98 : decode cX7_stands 98 = .ok (.getfield 58, 3) := by decide +kernel
theorem dX7_stands_101 : decode cX7_stands 101 = .ok (.if_icmp .ge 43, 3) := by decide +kernel
theorem dX7_stands_104 : decode cX7_stands 104 = .ok (.iload_n 2, 1) := by decide +kernel
theorem dX7_stands_105 : decode cX7_stands 105 = .ok (.iload_n 1, 1) := by decide +kernel
theorem dX7_stands_106 : decode cX7_stands 106 = .ok (.if_icmp .eq 32, 3) := by decide +kernel
theorem dX7_stands_109 : decode cX7_stands 109 = .ok (.iload_n 2, 1) := by decide +kernel
theorem dX7_stands_110 : decode cX7_stands 110 = .ok (.aload_n 0, 1) := by decide +kernel
theorem dX7_stands_111 : decode cX7_stands 111 = .ok (.iload_n 1, 1) := by decide +kernel
theorem dX7_stands_112 : decode cX7_stands 112 = .ok (.invokevirtual 107, 3) := by decide +kernel
theorem dX7_stands_115 : decode cX7_stands 115 = .ok (.if_icmp .eq 23, 3) := by decide +kernel
theorem dX7_stands_118 : decode cX7_stands 118 = .ok (.iload_n 1, 1) := by decide +kernel
theorem dX7_stands_119 : decode cX7_stands 119 = .ok (.aload_n 0, 1) := by decide +kernel
theorem dX7_stands_120 : decode cX7_stands 120 = .ok (.iload_n 2, 1) := by decide +kernel
theorem dX7_stands_121 : decode cX7_stands 121 = .ok (.invokevirtual 107, 3) := by decide +kernel
theorem dX7_stands_124 : decode cX7_stands 124 = .ok (.if_icmp .eq 14, 3) := by decide +kernel
theorem dX7_stands_127 : decode cX7_stands 127 = .ok (.aload_n 0, 1) := by decide +kernel
theorem dX7_stands_128 : decode cX7_stands 128 = .ok (.iload_n 1, 1) := by decide +kernel
theorem dX7_stands_129 : decode cX7_stands 129 = .ok (.iload_n 2, 1) := by decide +kernel
theorem dX7_stands_130 : decode cX7_stands 130 = .ok (.invokevirtual 128, 3) := by decide +kernel
theorem dX7_stands_133 : decode cX7_stands 133 = .ok (.ifCond .eq 5, 3) := by decide +kernel
theorem dX7_stands_136 : decode cX7_stands 136 = .ok (.iconst 0, 1) := by decide +kernel
theorem dX7_stands_137 : decode cX7_stands 137 = .ok (.ireturn, 1) := by decide +kernel
theorem dX7_stands_138 : decode cX7_stands 138 = .ok (.iinc 2 1, 3) := by decide +kernel
theorem dX7_stands_141 : decode cX7_stands 141 = .ok (.goto (-45), 3) := by decide +kernel
theorem dX7_stands_144 : decode cX7_stands 144 = .ok (.iinc 1 1, 3) := by decide +kernel
theorem dX7_stands_147 : decode cX7_stands 147 = .ok (.goto (-71), 3) := by decide +kernel
theorem dX7_stands_150 : decode cX7_stands 150 = .ok (.iconst 1, 1) := by decide +kernel
theorem dX7_stands_151 : decode cX7_stands 151 = .ok (.ireturn, 1) := by decide +kernel
set_option maxRecDepth 20000 in
theorem ggX7_deed_X7_isPost : GoodIn wsX7_deed wsX7_isPost := goodIn_r _ [11, 12, 13, 10, 14] (by decide +kernel) (by decide +kernel)
set_option maxRecDepth 20000 in
theorem gX7_deed_X7_isPost : GoodIn wsX7_deed (va_wsS RX7 121 yX7_isPost wsX7_isPost) := goodIn_app (goodIn_of _ (by decide +kernel)) ggX7_deed_X7_isPost
set_option maxRecDepth 20000 in
theorem ggX7_deed_X7_in : GoodIn wsX7_deed wsX7_in := goodIn_r _ [14] (by decide +kernel) (by decide +kernel)
set_option maxRecDepth 20000 in
theorem gX7_deed_X7_in : GoodIn wsX7_deed (va_wsS RX7 47 yX7_in wsX7_in) := goodIn_app (goodIn_of _ (by decide +kernel)) ggX7_deed_X7_in
set_option maxRecDepth 20000 in
theorem ggX7_deed_X7_faultNow : GoodIn wsX7_deed wsX7_faultNow := goodIn_r _ [18, 4, 19, 7, 20, 21, 22, 23, 10, 24, 25, 26, 27, 28, 29, 30, 31, 32, 12, 13, 14, 33, 34, 35, 36, 37, 38, 39, 85, 86, 87, 88, 89, 90, 91, 92, 93, 94, 95, 96, 97, 98, 99, 100, 101, 102, 103, 104, 105, 106, 107, 108] (by decide +kernel) (by decide +kernel)
set_option maxRecDepth 20000 in
theorem gX7_deed_X7_faultNow : GoodIn wsX7_deed (wsV RX7 80 RX7 yX7_faultNow wsX7_faultNow) := goodIn_app (goodIn_of _ (by decide +kernel)) ggX7_deed_X7_faultNow
set_option maxRecDepth 20000 in
theorem ggX7_deed_X7_layCorners : GoodIn wsX7_deed wsX7_layCorners := goodIn_r _ [43, 1, 2, 4, 32, 31, 44, 5, 6, 45, 46, 47, 10, 48, 49, 50, 51, 85, 86, 87, 88, 89, 90, 91, 92, 93, 94, 95, 96, 97, 98, 99, 100, 101, 102, 103, 104, 105, 106, 107, 108] (by decide +kernel) (by decide +kernel)
set_option maxRecDepth 20000 in
theorem gX7_deed_X7_layCorners : GoodIn wsX7_deed (wsV RX7 131 RX7 yX7_layCorners wsX7_layCorners) := goodIn_app (goodIn_of _ (by decide +kernel)) ggX7_deed_X7_layCorners
set_option maxRecDepth 20000 in
theorem ggX7_deed_X7_size : GoodIn wsX7_deed wsX7_size := goodIn_r _ [51] (by decide +kernel) (by decide +kernel)
set_option maxRecDepth 20000 in
theorem gX7_deed_X7_size : GoodIn wsX7_deed (va_wsS RX7 84 yX7_size wsX7_size) := goodIn_app (goodIn_of _ (by decide +kernel)) ggX7_deed_X7_size
set_option maxRecDepth 20000 in
theorem ggX7_deed_X7_stands : GoodIn wsX7_deed wsX7_stands := goodIn_r _ [55, 4, 5, 6, 8, 9, 10, 11, 12, 13, 14, 56, 57, 58, 59, 60, 61, 62, 63, 64, 65, 66, 67, 68, 69, 70, 71, 72, 73, 74, 75, 76, 77, 78, 79, 80, 81, 82, 83, 84, 85, 86, 87, 88, 89, 90, 91, 92, 93, 94, 95, 96, 97, 98, 99, 100, 101, 102, 103, 104, 105, 106, 107, 108] (by decide +kernel) (by decide +kernel)
set_option maxRecDepth 20000 in
theorem gX7_deed_X7_stands : GoodIn wsX7_deed (wsV RX7 135 RX7 yX7_stands wsX7_stands) := goodIn_app (goodIn_of _ (by decide +kernel)) ggX7_deed_X7_stands
theorem dX7_deed_0 : decode cX7_deed 0 = .ok (.iload_n 1, 1) := by decide +kernel
theorem dX7_deed_1 : decode cX7_deed 1 = .ok (.iload_n 2, 1) := by decide +kernel
theorem dX7_deed_2 : decode cX7_deed 2 = .ok (.invokestatic 121, 3) := by decide +kernel
theorem dX7_deed_5 : decode cX7_deed 5 = .ok (.ifCond .eq 14, 3) := by decide +kernel
theorem dX7_deed_8 : decode cX7_deed 8 = .ok (.iload_n 3, 1) := by decide +kernel
theorem dX7_deed_9 : decode cX7_deed 9 = .ok (.iconst 1, 1) := by decide +kernel
theorem dX7_deed_10 : decode cX7_deed 10 = .ok (.sipush 999, 3) := by decide +kernel
theorem dX7_deed_13 : decode cX7_deed 13 = .ok (.invokestatic 47, 3) := by decide +kernel
theorem dX7_deed_16 : decode cX7_deed 16 = .ok (.ifCond .ne 6, 3) := by decide +kernel
theorem dX7_deed_19 : decode cX7_deed 19 = .ok (.bipush (-2), 2) := by decide +kernel
theorem dX7_deed_21 : decode cX7_deed 21 = .ok (.ireturn, 1) := by decide +kernel
theorem dX7_deed_22 : decode cX7_deed 22 = .ok (.aload_n 0, 1) := by decide +kernel
theorem dX7_deed_23 : decode cX7_deed 23 = .ok (.invokevirtual 80, 3) := by decide +kernel
theorem dX7_deed_26 : decode cX7_deed 26 = .ok (.ifCond .lt 6, 3) := by decide +kernel
theorem dX7_deed_29 : decode cX7_deed 29 = .ok (.bipush (-7), 2) := by decide +kernel
theorem dX7_deed_31 : decode cX7_deed 31 = .ok (.ireturn, 1) := by decide +kernel
theorem dX7_deed_32 : decode cX7_deed 32 = .ok (.aload_n 0, 1) := by decide +kernel
theorem dX7_deed_33 : decode cX7_deed 33 = .ok (.iload_n 1, 1) := by decide +kernel
theorem dX7_deed_34 : decode cX7_deed 34 = .ok (.iload_n 2, 1) := by decide +kernel
theorem dX7_deed_35 : decode cX7_deed 35 = .ok (.invokevirtual 131, 3) := by decide +kernel
theorem dX7_deed_38 : decode cX7_deed 38 = .ok (.aload_n 0, 1) := by decide +kernel
theorem dX7_deed_39 : decode cX7_deed 39 = .ok (.getfield 88, 3) := by decide +kernel
theorem dX7_deed_42 : decode cX7_deed 42 = .ok (.invokestatic 84, 3) := by decide +kernel
theorem dX7_deed_45 : decode cX7_deed 45 = .ok (.aload_n 0, 1) := by decide +kernel
theorem dX7_deed_46 : decode cX7_deed 46 = .ok (.getfield 91, 3) := by decide +kernel
theorem dX7_deed_49 : decode cX7_deed 49 = .ok (.invokestatic 84, 3) := by decide +kernel
theorem dX7_deed_52 : decode cX7_deed 52 = .ok (.iadd, 1) := by decide +kernel
theorem dX7_deed_53 : decode cX7_deed 53 = .ok (.aload_n 0, 1) := by decide +kernel
theorem dX7_deed_54 : decode cX7_deed 54 = .ok (.getfield 7, 3) := by decide +kernel
theorem dX7_deed_57 : decode cX7_deed 57 = .ok (.bipush 109, 2) := by decide +kernel
theorem dX7_deed_59 : decode cX7_deed 59 = .ok (.iaload, 1) := by decide +kernel
theorem dX7_deed_60 : decode cX7_deed 60 = .ok (.if_icmp .le 6, 3) := by decide +kernel
theorem dX7_deed_63 : decode cX7_deed 63 = .ok (.bipush (-5), 2) := by decide +kernel
theorem dX7_deed_65 : decode cX7_deed 65 = .ok (.ireturn, 1) := by decide +kernel
theorem dX7_deed_66 : decode cX7_deed 66 = .ok (.aload_n 0, 1) := by decide +kernel
theorem dX7_deed_67 : decode cX7_deed 67 = .ok (.invokevirtual 135, 3) := by decide +kernel
theorem dX7_deed_70 : decode cX7_deed 70 = .ok (.ifCond .ne 6, 3) := by decide +kernel
theorem dX7_deed_73 : decode cX7_deed 73 = .ok (.bipush (-8), 2) := by decide +kernel
theorem dX7_deed_75 : decode cX7_deed 75 = .ok (.ireturn, 1) := by decide +kernel
theorem dX7_deed_76 : decode cX7_deed 76 = .ok (.aload_n 0, 1) := by decide +kernel
theorem dX7_deed_77 : decode cX7_deed 77 = .ok (.getfield 7, 3) := by decide +kernel
theorem dX7_deed_80 : decode cX7_deed 80 = .ok (.bipush 108, 2) := by decide +kernel
theorem dX7_deed_82 : decode cX7_deed 82 = .ok (.iaload, 1) := by decide +kernel
theorem dX7_deed_83 : decode cX7_deed 83 = .ok (.bipush 6, 2) := by decide +kernel
theorem dX7_deed_85 : decode cX7_deed 85 = .ok (.if_icmp .ne 6, 3) := by decide +kernel
theorem dX7_deed_88 : decode cX7_deed 88 = .ok (.bipush (-4), 2) := by decide +kernel
theorem dX7_deed_90 : decode cX7_deed 90 = .ok (.ireturn, 1) := by decide +kernel
theorem dX7_deed_91 : decode cX7_deed 91 = .ok (.aload_n 0, 1) := by decide +kernel
theorem dX7_deed_92 : decode cX7_deed 92 = .ok (.getfield 7, 3) := by decide +kernel
theorem dX7_deed_95 : decode cX7_deed 95 = .ok (.bipush 108, 2) := by decide +kernel
theorem dX7_deed_97 : decode cX7_deed 97 = .ok (.iaload, 1) := by decide +kernel
theorem dX7_deed_98 : decode cX7_deed 98 = .ok (.istore 4, 2) := by decide +kernel
theorem dX7_deed_100 : decode cX7_deed 100 = .ok (.aload_n 0, 1) := by decide +kernel
theorem dX7_deed_101 : decode cX7_deed 101 = .ok (.getfield 7, 3) := by decide +kernel
theorem dX7_deed_104 : decode cX7_deed 104 = .ok (.iconst 0, 1) := by decide +kernel
theorem dX7_deed_105 : decode cX7_deed 105 = .ok (.iload 4, 2) := by decide +kernel
theorem dX7_deed_107 : decode cX7_deed 107 = .ok (.iadd, 1) := by decide +kernel
theorem dX7_deed_108 : decode cX7_deed 108 = .ok (.iload_n 3, 1) := by decide +kernel
theorem dX7_deed_109 : decode cX7_deed 109 = .ok (.iastore, 1) := by decide +kernel
theorem dX7_deed_110 : decode cX7_deed 110 = .ok (.aload_n 0, 1) := by decide +kernel
theorem dX7_deed_111 : decode cX7_deed 111 = .ok (.getfield 7, 3) := by decide +kernel
theorem dX7_deed_114 : decode cX7_deed 114 = .ok (.bipush 6, 2) := by decide +kernel
theorem dX7_deed_116 : decode cX7_deed 116 = .ok (.iload 4, 2) := by decide +kernel
theorem dX7_deed_118 : decode cX7_deed 118 = .ok (.iadd, 1) := by decide +kernel
theorem dX7_deed_119 : decode cX7_deed 119 = .ok (.aload_n 0, 1) := by decide +kernel
theorem dX7_deed_120 : decode cX7_deed 120 = .ok (.getfield 58, 3) := by decide +kernel
theorem dX7_deed_123 : decode cX7_deed 123 = .ok (.iastore, 1) := by decide +kernel
theorem dX7_deed_124 : decode cX7_deed 124 = .ok (.iconst 0, 1) := by decide +kernel
theorem dX7_deed_125 : decode cX7_deed 125 = .ok (.istore 5, 2) := by decide +kernel
theorem dX7_deed_127 : decode cX7_deed 127 = .ok (.iload 5, 2) := by decide +kernel
theorem dX7_deed_129 : decode cX7_deed 129 = .ok (.aload_n 0, 1) := by decide +kernel
theorem dX7_deed_130 : decode cX7_deed 130 = .ok (.getfield 58, 3) := by decide +kernel
theorem dX7_deed_133 : decode cX7_deed 133 = .ok (.if_icmp .ge 55, 3) := by decide +kernel
theorem dX7_deed_136 : decode cX7_deed 136 = .ok (.aload_n 0, 1) := by decide +kernel
theorem dX7_deed_137 : decode cX7_deed 137 = .ok (.getfield 7, 3) := by decide +kernel
theorem dX7_deed_140 : decode cX7_deed 140 = .ok (.bipush 12, 2) := by decide +kernel
theorem dX7_deed_142 : decode cX7_deed 142 = .ok (.bipush 8, 2) := by decide +kernel
theorem dX7_deed_144 : decode cX7_deed 144 = .ok (.iload 4, 2) := by decide +kernel
theorem dX7_deed_146 : decode cX7_deed 146 = .ok (.imul, 1) := by decide +kernel
theorem dX7_deed_147 : decode cX7_deed 147 = .ok (.iadd, 1) := by decide +kernel
theorem dX7_deed_148 : decode cX7_deed 148 = .ok (.iload 5, 2) := by decide +kernel
theorem dX7_deed_150 : decode cX7_deed 150 = .ok (.iadd, 1) := by decide +kernel
theorem dX7_deed_151 : decode cX7_deed 151 = .ok (.aload_n 0, 1) := by decide +kernel
theorem dX7_deed_152 : decode cX7_deed 152 = .ok (.getfield 29, 3) := by decide +kernel
theorem dX7_deed_155 : decode cX7_deed 155 = .ok (.iload 5, 2) := by decide +kernel
theorem dX7_deed_157 : decode cX7_deed 157 = .ok (.iaload, 1) := by decide +kernel
theorem dX7_deed_158 : decode cX7_deed 158 = .ok (.iastore, 1) := by decide +kernel
theorem dX7_deed_159 : decode cX7_deed 159 = .ok (.aload_n 0, 1) := by decide +kernel
theorem dX7_deed_160 : decode cX7_deed 160 = .ok (.getfield 7, 3) := by decide +kernel
theorem dX7_deed_163 : decode cX7_deed 163 = .ok (.bipush 60, 2) := by decide +kernel
theorem dX7_deed_165 : decode cX7_deed 165 = .ok (.bipush 8, 2) := by decide +kernel
theorem dX7_deed_167 : decode cX7_deed 167 = .ok (.iload 4, 2) := by decide +kernel
theorem dX7_deed_169 : decode cX7_deed 169 = .ok (.imul, 1) := by decide +kernel
theorem dX7_deed_170 : decode cX7_deed 170 = .ok (.iadd, 1) := by decide +kernel
theorem dX7_deed_171 : decode cX7_deed 171 = .ok (.iload 5, 2) := by decide +kernel
theorem dX7_deed_173 : decode cX7_deed 173 = .ok (.iadd, 1) := by decide +kernel
theorem dX7_deed_174 : decode cX7_deed 174 = .ok (.aload_n 0, 1) := by decide +kernel
theorem dX7_deed_175 : decode cX7_deed 175 = .ok (.getfield 32, 3) := by decide +kernel
theorem dX7_deed_178 : decode cX7_deed 178 = .ok (.iload 5, 2) := by decide +kernel
theorem dX7_deed_180 : decode cX7_deed 180 = .ok (.iaload, 1) := by decide +kernel
theorem dX7_deed_181 : decode cX7_deed 181 = .ok (.iastore, 1) := by decide +kernel
theorem dX7_deed_182 : decode cX7_deed 182 = .ok (.iinc 5 1, 3) := by decide +kernel
theorem dX7_deed_185 : decode cX7_deed 185 = .ok (.goto (-58), 3) := by decide +kernel
theorem dX7_deed_188 : decode cX7_deed 188 = .ok (.aload_n 0, 1) := by decide +kernel
theorem dX7_deed_189 : decode cX7_deed 189 = .ok (.getfield 7, 3) := by decide +kernel
theorem dX7_deed_192 : decode cX7_deed 192 = .ok (.bipush 108, 2) := by decide +kernel
theorem dX7_deed_194 : decode cX7_deed 194 = .ok (.dup2, 1) := by decide +kernel
theorem dX7_deed_195 : decode cX7_deed 195 = .ok (.iaload, 1) := by decide +kernel
theorem dX7_deed_196 : decode cX7_deed 196 = .ok (.iconst 1, 1) := by decide +kernel
theorem dX7_deed_197 : decode cX7_deed 197 = .ok (.iadd, 1) := by decide +kernel
theorem dX7_deed_198 : decode cX7_deed 198 = .ok (.iastore, 1) := by decide +kernel
theorem dX7_deed_199 : decode cX7_deed 199 = .ok (.aload_n 0, 1) := by decide +kernel
theorem dX7_deed_200 : decode cX7_deed 200 = .ok (.iconst 0, 1) := by decide +kernel
theorem dX7_deed_201 : decode cX7_deed 201 = .ok (.putfield 74, 3) := by decide +kernel
theorem dX7_deed_204 : decode cX7_deed 204 = .ok (.iload 4, 2) := by decide +kernel
theorem dX7_deed_206 : decode cX7_deed 206 = .ok (.ireturn, 1) := by decide +kernel
set_option maxRecDepth 20000 in
theorem ggX7_miss_X7_faultNow : GoodIn wsX7_miss wsX7_faultNow := goodIn_r _ [8, 9, 10, 11, 12, 13, 14, 15, 7, 16, 17, 18, 19, 20, 21, 22, 23, 24, 25, 26, 27, 28, 29, 30, 31, 32, 33, 34, 48, 49, 50, 51, 52, 53, 54, 55, 56, 57, 58, 59, 60, 61, 62, 63, 64, 65, 66, 67, 68, 69, 70, 71] (by decide +kernel) (by decide +kernel)
set_option maxRecDepth 20000 in
theorem gX7_miss_X7_faultNow : GoodIn wsX7_miss (wsV RX7 80 RX7 yX7_faultNow wsX7_faultNow) := goodIn_app (goodIn_of _ (by decide +kernel)) ggX7_miss_X7_faultNow
set_option maxRecDepth 20000 in
theorem ggX7_miss_X7_in : GoodIn wsX7_miss wsX7_in := goodIn_r _ [27] (by decide +kernel) (by decide +kernel)
set_option maxRecDepth 20000 in
theorem gX7_miss_X7_in : GoodIn wsX7_miss (va_wsS RX7 47 yX7_in wsX7_in) := goodIn_app (goodIn_of _ (by decide +kernel)) ggX7_miss_X7_in
set_option maxRecDepth 20000 in
theorem ggX7_miss_X7_layCorners : GoodIn wsX7_miss wsX7_layCorners := goodIn_r _ [38, 1, 2, 9, 24, 23, 3, 39, 40, 41, 42, 43, 7, 44, 45, 46, 47, 48, 49, 50, 51, 52, 53, 54, 55, 56, 57, 58, 59, 60, 61, 62, 63, 64, 65, 66, 67, 68, 69, 70, 71] (by decide +kernel) (by decide +kernel)
set_option maxRecDepth 20000 in
theorem gX7_miss_X7_layCorners : GoodIn wsX7_miss (wsV RX7 131 RX7 yX7_layCorners wsX7_layCorners) := goodIn_app (goodIn_of _ (by decide +kernel)) ggX7_miss_X7_layCorners
theorem dX7_miss_0 : decode cX7_miss 0 = .ok (.aload_n 0, 1) := by decide +kernel
theorem dX7_miss_1 : decode cX7_miss 1 = .ok (.invokevirtual 80, 3) := by decide +kernel
theorem dX7_miss_4 : decode cX7_miss 4 = .ok (.ifCond .lt 6, 3) := by decide +kernel
theorem dX7_miss_7 : decode cX7_miss 7 = .ok (.bipush (-7), 2) := by decide +kernel
theorem dX7_miss_9 : decode cX7_miss 9 = .ok (.ireturn, 1) := by decide +kernel
theorem dX7_miss_10 : decode cX7_miss 10 = .ok (.iload_n 1, 1) := by decide +kernel
theorem dX7_miss_11 : decode cX7_miss 11 = .ok (.iconst 0, 1) := by decide +kernel
theorem dX7_miss_12 : decode cX7_miss 12 = .ok (.iconst 2, 1) := by decide +kernel
theorem dX7_miss_13 : decode cX7_miss 13 = .ok (.invokestatic 47, 3) := by decide +kernel
theorem dX7_miss_16 : decode cX7_miss 16 = .ok (.ifCond .ne 6, 3) := by decide +kernel
theorem dX7_miss_19 : decode cX7_miss 19 = .ok (.bipush (-2), 2) := by decide +kernel
theorem dX7_miss_21 : decode cX7_miss 21 = .ok (.ireturn, 1) := by decide +kernel
theorem dX7_miss_22 : decode cX7_miss 22 = .ok (.aload_n 0, 1) := by decide +kernel
theorem dX7_miss_23 : decode cX7_miss 23 = .ok (.iconst 0, 1) := by decide +kernel
theorem dX7_miss_24 : decode cX7_miss 24 = .ok (.iconst 0, 1) := by decide +kernel
theorem dX7_miss_25 : decode cX7_miss 25 = .ok (.invokevirtual 131, 3) := by decide +kernel
theorem dX7_miss_28 : decode cX7_miss 28 = .ok (.iload_n 1, 1) := by decide +kernel
theorem dX7_miss_29 : decode cX7_miss 29 = .ok (.ifCond .ne 14, 3) := by decide +kernel
theorem dX7_miss_32 : decode cX7_miss 32 = .ok (.aload_n 0, 1) := by decide +kernel
theorem dX7_miss_33 : decode cX7_miss 33 = .ok (.getfield 88, 3) := by decide +kernel
theorem dX7_miss_36 : decode cX7_miss 36 = .ok (.sipush 1000, 3) := by decide +kernel
theorem dX7_miss_39 : decode cX7_miss 39 = .ok (.iadd, 1) := by decide +kernel
theorem dX7_miss_40 : decode cX7_miss 40 = .ok (.goto 23, 3) := by decide +kernel
theorem dX7_miss_43 : decode cX7_miss 43 = .ok (.iload_n 1, 1) := by decide +kernel
theorem dX7_miss_44 : decode cX7_miss 44 = .ok (.iconst 1, 1) := by decide +kernel
theorem dX7_miss_45 : decode cX7_miss 45 = .ok (.if_icmp .ne 14, 3) := by decide +kernel
theorem dX7_miss_48 : decode cX7_miss 48 = .ok (.aload_n 0, 1) := by decide +kernel
theorem dX7_miss_49 : decode cX7_miss 49 = .ok (.getfield 91, 3) := by decide +kernel
theorem dX7_miss_52 : decode cX7_miss 52 = .ok (.sipush 1000, 3) := by decide +kernel
theorem dX7_miss_55 : decode cX7_miss 55 = .ok (.iadd, 1) := by decide +kernel
theorem dX7_miss_56 : decode cX7_miss 56 = .ok (.goto 7, 3) := by decide +kernel
theorem dX7_miss_59 : decode cX7_miss 59 = .ok (.aload_n 0, 1) := by decide +kernel
theorem dX7_miss_60 : decode cX7_miss 60 = .ok (.getfield 97, 3) := by decide +kernel
theorem dX7_miss_63 : decode cX7_miss 63 = .ok (.ireturn, 1) := by decide +kernel
set_option maxRecDepth 20000 in
theorem ggX7_loose_X7_in : GoodIn wsX7_loose wsX7_in := goodIn_r _ [5] (by decide +kernel) (by decide +kernel)
set_option maxRecDepth 20000 in
theorem gX7_loose_X7_in : GoodIn wsX7_loose (va_wsS RX7 47 yX7_in wsX7_in) := goodIn_app (goodIn_of _ (by decide +kernel)) ggX7_loose_X7_in
theorem dX7_loose_0 : decode cX7_loose 0 = .ok (.iload_n 1, 1) := by decide +kernel
theorem dX7_loose_1 : decode cX7_loose 1 = .ok (.iconst 0, 1) := by decide +kernel
theorem dX7_loose_2 : decode cX7_loose 2 = .ok (.bipush 20, 2) := by decide +kernel
theorem dX7_loose_4 : decode cX7_loose 4 = .ok (.invokestatic 47, 3) := by decide +kernel
theorem dX7_loose_7 : decode cX7_loose 7 = .ok (.ifCond .ne 6, 3) := by decide +kernel
theorem dX7_loose_10 : decode cX7_loose 10 = .ok (.bipush (-2), 2) := by decide +kernel
theorem dX7_loose_12 : decode cX7_loose 12 = .ok (.ireturn, 1) := by decide +kernel
theorem dX7_loose_13 : decode cX7_loose 13 = .ok (.aload_n 0, 1) := by decide +kernel
theorem dX7_loose_14 : decode cX7_loose 14 = .ok (.getfield 7, 3) := by decide +kernel
theorem dX7_loose_17 : decode cX7_loose 17 = .ok (.bipush 109, 2) := by decide +kernel
theorem dX7_loose_19 : decode cX7_loose 19 = .ok (.iaload, 1) := by decide +kernel
theorem dX7_loose_20 : decode cX7_loose 20 = .ok (.istore_n 2, 1) := by decide +kernel
theorem dX7_loose_21 : decode cX7_loose 21 = .ok (.aload_n 0, 1) := by decide +kernel
theorem dX7_loose_22 : decode cX7_loose 22 = .ok (.getfield 7, 3) := by decide +kernel
theorem dX7_loose_25 : decode cX7_loose 25 = .ok (.bipush 109, 2) := by decide +kernel
theorem dX7_loose_27 : decode cX7_loose 27 = .ok (.iload_n 1, 1) := by decide +kernel
theorem dX7_loose_28 : decode cX7_loose 28 = .ok (.iastore, 1) := by decide +kernel
theorem dX7_loose_29 : decode cX7_loose 29 = .ok (.iload_n 2, 1) := by decide +kernel
theorem dX7_loose_30 : decode cX7_loose 30 = .ok (.ireturn, 1) := by decide +kernel
set_option maxRecDepth 20000 in
theorem ggX7_drop_X7_isPlot : GoodIn wsX7_drop wsX7_isPlot := goodIn_r _ [6, 1, 7, 8, 5, 9, 10, 11, 12, 13, 14, 15, 16, 17, 18, 19, 20, 21, 22, 23, 24, 25, 26, 27, 28, 29, 30, 31, 32, 33] (by decide +kernel) (by decide +kernel)
set_option maxRecDepth 20000 in
theorem gX7_drop_X7_isPlot : GoodIn wsX7_drop (wsV RX7 139 RX7 yX7_isPlot wsX7_isPlot) := goodIn_app (goodIn_of _ (by decide +kernel)) ggX7_drop_X7_isPlot
theorem dX7_drop_0 : decode cX7_drop 0 = .ok (.aload_n 0, 1) := by decide +kernel
theorem dX7_drop_1 : decode cX7_drop 1 = .ok (.iload_n 1, 1) := by decide +kernel
theorem dX7_drop_2 : decode cX7_drop 2 = .ok (.invokevirtual 139, 3) := by decide +kernel
theorem dX7_drop_5 : decode cX7_drop 5 = .ok (.ifCond .ne 5, 3) := by decide +kernel
theorem dX7_drop_8 : decode cX7_drop 8 = .ok (.iconst (-1), 1) := by decide +kernel
theorem dX7_drop_9 : decode cX7_drop 9 = .ok (.ireturn, 1) := by decide +kernel
theorem dX7_drop_10 : decode cX7_drop 10 = .ok (.aload_n 0, 1) := by decide +kernel
theorem dX7_drop_11 : decode cX7_drop 11 = .ok (.getfield 7, 3) := by decide +kernel
theorem dX7_drop_14 : decode cX7_drop 14 = .ok (.bipush 108, 2) := by decide +kernel
theorem dX7_drop_16 : decode cX7_drop 16 = .ok (.dup2, 1) := by decide +kernel
theorem dX7_drop_17 : decode cX7_drop 17 = .ok (.iaload, 1) := by decide +kernel
theorem dX7_drop_18 : decode cX7_drop 18 = .ok (.iconst 1, 1) := by decide +kernel
theorem dX7_drop_19 : decode cX7_drop 19 = .ok (.isub, 1) := by decide +kernel
theorem dX7_drop_20 : decode cX7_drop 20 = .ok (.iastore, 1) := by decide +kernel
theorem dX7_drop_21 : decode cX7_drop 21 = .ok (.iload_n 1, 1) := by decide +kernel
theorem dX7_drop_22 : decode cX7_drop 22 = .ok (.istore_n 2, 1) := by decide +kernel
theorem dX7_drop_23 : decode cX7_drop 23 = .ok (.iload_n 2, 1) := by decide +kernel
theorem dX7_drop_24 : decode cX7_drop 24 = .ok (.aload_n 0, 1) := by decide +kernel
theorem dX7_drop_25 : decode cX7_drop 25 = .ok (.getfield 7, 3) := by decide +kernel
theorem dX7_drop_28 : decode cX7_drop 28 = .ok (.bipush 108, 2) := by decide +kernel
theorem dX7_drop_30 : decode cX7_drop 30 = .ok (.iaload, 1) := by decide +kernel
theorem dX7_drop_31 : decode cX7_drop 31 = .ok (.if_icmp .ge 123, 3) := by decide +kernel
theorem dX7_drop_34 : decode cX7_drop 34 = .ok (.aload_n 0, 1) := by decide +kernel
theorem dX7_drop_35 : decode cX7_drop 35 = .ok (.getfield 7, 3) := by decide +kernel
theorem dX7_drop_38 : decode cX7_drop 38 = .ok (.iconst 0, 1) := by decide +kernel
theorem dX7_drop_39 : decode cX7_drop 39 = .ok (.iload_n 2, 1) := by decide +kernel
theorem dX7_drop_40 : decode cX7_drop 40 = .ok (.iadd, 1) := by decide +kernel
theorem dX7_drop_41 : decode cX7_drop 41 = .ok (.aload_n 0, 1) := by decide +kernel
theorem dX7_drop_42 : decode cX7_drop 42 = .ok (.getfield 7, 3) := by decide +kernel
theorem dX7_drop_45 : decode cX7_drop 45 = .ok (.iconst 0, 1) := by decide +kernel
theorem dX7_drop_46 : decode cX7_drop 46 = .ok (.iload_n 2, 1) := by decide +kernel
theorem dX7_drop_47 : decode cX7_drop 47 = .ok (.iadd, 1) := by decide +kernel
theorem dX7_drop_48 : decode cX7_drop 48 = .ok (.iconst 1, 1) := by decide +kernel
theorem dX7_drop_49 : decode cX7_drop 49 = .ok (.iadd, 1) := by decide +kernel
theorem dX7_drop_50 : decode cX7_drop 50 = .ok (.iaload, 1) := by decide +kernel
theorem dX7_drop_51 : decode cX7_drop 51 = .ok (.iastore, 1) := by decide +kernel
theorem dX7_drop_52 : decode cX7_drop 52 = .ok (.aload_n 0, 1) := by decide +kernel
theorem dX7_drop_53 : decode cX7_drop 53 = .ok (.getfield 7, 3) := by decide +kernel
theorem dX7_drop_56 : decode cX7_drop 56 = .ok (.bipush 6, 2) := by decide +kernel
theorem dX7_drop_58 : decode cX7_drop 58 = .ok (.iload_n 2, 1) := by decide +kernel
theorem dX7_drop_59 : decode cX7_drop 59 = .ok (.iadd, 1) := by decide +kernel
theorem dX7_drop_60 : decode cX7_drop 60 = .ok (.aload_n 0, 1) := by decide +kernel
theorem dX7_drop_61 : decode cX7_drop 61 = .ok (.getfield 7, 3) := by decide +kernel
theorem dX7_drop_64 : decode cX7_drop 64 = .ok (.bipush 6, 2) := by decide +kernel
theorem dX7_drop_66 : decode cX7_drop 66 = .ok (.iload_n 2, 1) := by decide +kernel
theorem dX7_drop_67 : decode cX7_drop 67 = .ok (.iadd, 1) := by decide +kernel
theorem dX7_drop_68 : decode cX7_drop 68 = .ok (.iconst 1, 1) := by decide +kernel
theorem dX7_drop_69 : decode cX7_drop 69 = .ok (.iadd, 1) := by decide +kernel
theorem dX7_drop_70 : decode cX7_drop 70 = .ok (.iaload, 1) := by decide +kernel
theorem dX7_drop_71 : decode cX7_drop 71 = .ok (.iastore, 1) := by decide +kernel
theorem dX7_drop_72 : decode cX7_drop 72 = .ok (.iconst 0, 1) := by decide +kernel
theorem dX7_drop_73 : decode cX7_drop 73 = .ok (.istore_n 3, 1) := by decide +kernel
theorem dX7_drop_74 : decode cX7_drop 74 = .ok (.iload_n 3, 1) := by decide +kernel
theorem dX7_drop_75 : decode cX7_drop 75 = .ok (.bipush 8, 2) := by decide +kernel
theorem dX7_drop_77 : decode cX7_drop 77 = .ok (.if_icmp .ge 71, 3) := by decide +kernel
theorem dX7_drop_80 : decode cX7_drop 80 = .ok (.aload_n 0, 1) := by decide +kernel
theorem dX7_drop_81 : decode cX7_drop 81 = .ok (.getfield 7, 3) := by decide +kernel
theorem dX7_drop_84 : decode cX7_drop 84 = .ok (.bipush 12, 2) := by decide +kernel
theorem dX7_drop_86 : decode cX7_drop 86 = .ok (.bipush 8, 2) := by decide +kernel
theorem dX7_drop_88 : decode cX7_drop 88 = .ok (.iload_n 2, 1) := by decide +kernel
theorem dX7_drop_89 : decode cX7_drop 89 = .ok (.imul, 1) := by decide +kernel
theorem dX7_drop_90 : decode cX7_drop 90 = .ok (.iadd, 1) := by decide +kernel
theorem dX7_drop_91 : decode cX7_drop 91 = .ok (.iload_n 3, 1) := by decide +kernel
theorem dX7_drop_92 : decode cX7_drop 92 = .ok (.iadd, 1) := by decide +kernel
theorem dX7_drop_93 : decode cX7_drop 93 = .ok (.aload_n 0, 1) := by decide +kernel
theorem dX7_drop_94 : decode cX7_drop 94 = .ok (.getfield 7, 3) := by decide +kernel
theorem dX7_drop_97 : decode cX7_drop 97 = .ok (.bipush 12, 2) := by decide +kernel
theorem dX7_drop_99 : decode cX7_drop 99 = .ok (.bipush 8, 2) := by decide +kernel
theorem dX7_drop_101 : decode cX7_drop 101 = .ok (.iload_n 2, 1) := by decide +kernel
theorem dX7_drop_102 : decode cX7_drop 102 = .ok (.imul, 1) := by decide +kernel
theorem dX7_drop_103 : decode cX7_drop 103 = .ok (.iadd, 1) := by decide +kernel
theorem dX7_drop_104 : decode cX7_drop 104 = .ok (.bipush 8, 2) := by decide +kernel
theorem dX7_drop_106 : decode cX7_drop 106 = .ok (.iadd, 1) := by decide +kernel
theorem dX7_drop_107 : decode cX7_drop 107 = .ok (.iload_n 3, 1) := by decide +kernel
theorem dX7_drop_108 : decode cX7_drop 108 = .ok (.iadd, 1) := by decide +kernel
theorem dX7_drop_109 : decode cX7_drop 109 = .ok (.iaload, 1) := by decide +kernel
theorem dX7_drop_110 : decode cX7_drop 110 = .ok (.iastore, 1) := by decide +kernel
theorem dX7_drop_111 : decode cX7_drop 111 = .ok (.aload_n 0, 1) := by decide +kernel
theorem dX7_drop_112 : decode cX7_drop 112 = .ok (.getfield 7, 3) := by decide +kernel
theorem dX7_drop_115 : decode cX7_drop 115 = .ok (.bipush 60, 2) := by decide +kernel
theorem dX7_drop_117 : decode cX7_drop 117 = .ok (.bipush 8, 2) := by decide +kernel
theorem dX7_drop_119 : decode cX7_drop 119 = .ok (.iload_n 2, 1) := by decide +kernel
theorem dX7_drop_120 : decode cX7_drop 120 = .ok (.imul, 1) := by decide +kernel
theorem dX7_drop_121 : decode cX7_drop 121 = .ok (.iadd, 1) := by decide +kernel
theorem dX7_drop_122 : decode cX7_drop 122 = .ok (.iload_n 3, 1) := by decide +kernel
theorem dX7_drop_123 : decode cX7_drop 123 = .ok (.iadd, 1) := by decide +kernel
theorem dX7_drop_124 : decode cX7_drop 124 = .ok (.aload_n 0, 1) := by decide +kernel
theorem dX7_drop_125 : decode cX7_drop 125 = .ok (.getfield 7, 3) := by decide +kernel
theorem dX7_drop_128 : decode cX7_drop 128 = .ok (.bipush 60, 2) := by decide +kernel
theorem dX7_drop_130 : decode cX7_drop 130 = .ok (.bipush 8, 2) := by decide +kernel
theorem dX7_drop_132 : decode cX7_drop 132 = .ok (.iload_n 2, 1) := by decide +kernel
theorem dX7_drop_133 : decode cX7_drop 133 = .ok (.imul, 1) := by decide +kernel
theorem dX7_drop_134 : decode cX7_drop 134 = .ok (.iadd, 1) := by decide +kernel
theorem dX7_drop_135 : decode cX7_drop 135 = .ok (.bipush 8, 2) := by decide +kernel
theorem dX7_drop_137 : decode cX7_drop 137 = .ok (.iadd, 1) := by decide +kernel
theorem dX7_drop_138 : decode cX7_drop 138 = .ok (.iload_n 3, 1) := by decide +kernel
theorem dX7_drop_139 : decode cX7_drop 139 = .ok (.iadd, 1) := by decide +kernel
theorem dX7_drop_140 : decode cX7_drop 140 = .ok (.iaload, 1) := by decide +kernel
theorem dX7_drop_141 : decode cX7_drop 141 = .ok (.iastore, 1) := by decide +kernel
theorem dX7_drop_142 : decode cX7_drop 142 = .ok (.iinc 3 1, 3) := by decide +kernel
theorem dX7_drop_145 : decode cX7_drop 145 = .ok (.goto (-71), 3) := by decide +kernel
theorem dX7_drop_148 : decode cX7_drop 148 = .ok (.iinc 2 1, 3) := by decide +kernel
theorem dX7_drop_151 : decode cX7_drop 151 = .ok (.goto (-128), 3) := by decide +kernel
theorem dX7_drop_154 : decode cX7_drop 154 = .ok (.aload_n 0, 1) := by decide +kernel
theorem dX7_drop_155 : decode cX7_drop 155 = .ok (.getfield 7, 3) := by decide +kernel
theorem dX7_drop_158 : decode cX7_drop 158 = .ok (.bipush 108, 2) := by decide +kernel
theorem dX7_drop_160 : decode cX7_drop 160 = .ok (.iaload, 1) := by decide +kernel
theorem dX7_drop_161 : decode cX7_drop 161 = .ok (.ireturn, 1) := by decide +kernel
theorem dX7_isOlder_0 : decode cX7_isOlder 0 = .ok (.aload_n 0, 1) := by decide +kernel
theorem dX7_isOlder_1 : decode cX7_isOlder 1 = .ok (.getfield 7, 3) := by decide +kernel
theorem dX7_isOlder_4 : decode cX7_isOlder 4 = .ok (.iconst 0, 1) := by decide +kernel
theorem dX7_isOlder_5 : decode cX7_isOlder 5 = .ok (.iload_n 1, 1) := by decide +kernel
theorem dX7_isOlder_6 : decode cX7_isOlder 6 = .ok (.iadd, 1) := by decide +kernel
theorem dX7_isOlder_7 : decode cX7_isOlder 7 = .ok (.iaload, 1) := by decide +kernel
theorem dX7_isOlder_8 : decode cX7_isOlder 8 = .ok (.aload_n 0, 1) := by decide +kernel
theorem dX7_isOlder_9 : decode cX7_isOlder 9 = .ok (.getfield 7, 3) := by decide +kernel
theorem dX7_isOlder_12 : decode cX7_isOlder 12 = .ok (.iconst 0, 1) := by decide +kernel
theorem dX7_isOlder_13 : decode cX7_isOlder 13 = .ok (.iload_n 2, 1) := by decide +kernel
theorem dX7_isOlder_14 : decode cX7_isOlder 14 = .ok (.iadd, 1) := by decide +kernel
theorem dX7_isOlder_15 : decode cX7_isOlder 15 = .ok (.iaload, 1) := by decide +kernel
theorem dX7_isOlder_16 : decode cX7_isOlder 16 = .ok (.if_icmp .lt 27, 3) := by decide +kernel
theorem dX7_isOlder_19 : decode cX7_isOlder 19 = .ok (.aload_n 0, 1) := by decide +kernel
theorem dX7_isOlder_20 : decode cX7_isOlder 20 = .ok (.getfield 7, 3) := by decide +kernel
theorem dX7_isOlder_23 : decode cX7_isOlder 23 = .ok (.iconst 0, 1) := by decide +kernel
theorem dX7_isOlder_24 : decode cX7_isOlder 24 = .ok (.iload_n 1, 1) := by decide +kernel
theorem dX7_isOlder_25 : decode cX7_isOlder 25 = .ok (.iadd, 1) := by decide +kernel
theorem dX7_isOlder_26 : decode cX7_isOlder 26 = .ok (.iaload, 1) := by decide +kernel
theorem dX7_isOlder_27 : decode cX7_isOlder 27 = .ok (.aload_n 0, 1) := by decide +kernel
theorem dX7_isOlder_28 : decode cX7_isOlder 28 = .ok (.getfield 7, 3) := by decide +kernel
theorem dX7_isOlder_31 : decode cX7_isOlder 31 = .ok (.iconst 0, 1) := by decide +kernel
theorem dX7_isOlder_32 : decode cX7_isOlder 32 = .ok (.iload_n 2, 1) := by decide +kernel
theorem dX7_isOlder_33 : decode cX7_isOlder 33 = .ok (.iadd, 1) := by decide +kernel
theorem dX7_isOlder_34 : decode cX7_isOlder 34 = .ok (.iaload, 1) := by decide +kernel
theorem dX7_isOlder_35 : decode cX7_isOlder 35 = .ok (.if_icmp .ne 12, 3) := by decide +kernel
theorem dX7_isOlder_38 : decode cX7_isOlder 38 = .ok (.iload_n 1, 1) := by decide +kernel
theorem dX7_isOlder_39 : decode cX7_isOlder 39 = .ok (.iload_n 2, 1) := by decide +kernel
theorem dX7_isOlder_40 : decode cX7_isOlder 40 = .ok (.if_icmp .ge 7, 3) := by decide +kernel
theorem dX7_isOlder_43 : decode cX7_isOlder 43 = .ok (.iconst 1, 1) := by decide +kernel
theorem dX7_isOlder_44 : decode cX7_isOlder 44 = .ok (.goto 4, 3) := by decide +kernel
theorem dX7_isOlder_47 : decode cX7_isOlder 47 = .ok (.iconst 0, 1) := by decide +kernel
theorem dX7_isOlder_48 : decode cX7_isOlder 48 = .ok (.ireturn, 1) := by decide +kernel
set_option maxRecDepth 20000 in
theorem ggX7_year_X7_isPlot : GoodIn wsX7_year wsX7_isPlot := goodIn_r _ [6, 1, 7, 8, 5, 9, 14, 15, 16, 17, 18, 19, 20, 21, 22, 23, 24, 25, 26, 27, 28, 29, 30, 31, 32, 33, 34, 35, 36, 37] (by decide +kernel) (by decide +kernel)
set_option maxRecDepth 20000 in
theorem gX7_year_X7_isPlot : GoodIn wsX7_year (wsV RX7 139 RX7 yX7_isPlot wsX7_isPlot) := goodIn_app (goodIn_of _ (by decide +kernel)) ggX7_year_X7_isPlot
set_option maxRecDepth 20000 in
theorem ggX7_year_X7_in : GoodIn wsX7_year wsX7_in := goodIn_r _ [9] (by decide +kernel) (by decide +kernel)
set_option maxRecDepth 20000 in
theorem gX7_year_X7_in : GoodIn wsX7_year (va_wsS RX7 47 yX7_in wsX7_in) := goodIn_app (goodIn_of _ (by decide +kernel)) ggX7_year_X7_in
set_option maxRecDepth 20000 in
theorem ggX7_year_X7_isOlder : GoodIn wsX7_year wsX7_isOlder := goodIn_r _ [13, 1, 14, 15, 16, 17, 18, 19, 20, 21, 22, 23, 24, 25, 26, 27, 28, 29, 30, 31, 32, 33, 34, 35, 36, 37] (by decide +kernel) (by decide +kernel)
set_option maxRecDepth 20000 in
theorem gX7_year_X7_isOlder : GoodIn wsX7_year (wsV RX7 142 RX7 yX7_isOlder wsX7_isOlder) := goodIn_app (goodIn_of _ (by decide +kernel)) ggX7_year_X7_isOlder
theorem dX7_year_0 : decode cX7_year 0 = .ok (.aload_n 0, 1) := by decide +kernel
theorem dX7_year_1 : decode cX7_year 1 = .ok (.iload_n 1, 1) := by decide +kernel
theorem dX7_year_2 : decode cX7_year 2 = .ok (.invokevirtual 139, 3) := by decide +kernel
theorem dX7_year_5 : decode cX7_year 5 = .ok (.ifCond .ne 5, 3) := by decide +kernel
theorem dX7_year_8 : decode cX7_year 8 = .ok (.iconst (-1), 1) := by decide +kernel
theorem dX7_year_9 : decode cX7_year 9 = .ok (.ireturn, 1) := by decide +kernel
theorem dX7_year_10 : decode cX7_year 10 = .ok (.iload_n 2, 1) := by decide +kernel
theorem dX7_year_11 : decode cX7_year 11 = .ok (.iconst 1, 1) := by decide +kernel
theorem dX7_year_12 : decode cX7_year 12 = .ok (.sipush 999, 3) := by decide +kernel
theorem dX7_year_15 : decode cX7_year 15 = .ok (.invokestatic 47, 3) := by decide +kernel
theorem dX7_year_18 : decode cX7_year 18 = .ok (.ifCond .ne 6, 3) := by decide +kernel
theorem dX7_year_21 : decode cX7_year 21 = .ok (.bipush (-2), 2) := by decide +kernel
theorem dX7_year_23 : decode cX7_year 23 = .ok (.ireturn, 1) := by decide +kernel
theorem dX7_year_24 : decode cX7_year 24 = .ok (.aload_n 0, 1) := by decide +kernel
theorem dX7_year_25 : decode cX7_year 25 = .ok (.getfield 7, 3) := by decide +kernel
theorem dX7_year_28 : decode cX7_year 28 = .ok (.iconst 0, 1) := by decide +kernel
theorem dX7_year_29 : decode cX7_year 29 = .ok (.iload_n 1, 1) := by decide +kernel
theorem dX7_year_30 : decode cX7_year 30 = .ok (.iadd, 1) := by decide +kernel
theorem dX7_year_31 : decode cX7_year 31 = .ok (.iload_n 2, 1) := by decide +kernel
theorem dX7_year_32 : decode cX7_year 32 = .ok (.iastore, 1) := by decide +kernel
theorem dX7_year_33 : decode cX7_year 33 = .ok (.iconst 0, 1) := by decide +kernel
theorem dX7_year_34 : decode cX7_year 34 = .ok (.istore_n 3, 1) := by decide +kernel
theorem dX7_year_35 : decode cX7_year 35 = .ok (.iconst 0, 1) := by decide +kernel
theorem dX7_year_36 : decode cX7_year 36 = .ok (.istore 4, 2) := by decide +kernel
theorem dX7_year_38 : decode cX7_year 38 = .ok (.iload 4, 2) := by decide +kernel
theorem dX7_year_40 : decode cX7_year 40 = .ok (.aload_n 0, 1) := by decide +kernel
theorem dX7_year_41 : decode cX7_year 41 = .ok (.getfield 7, 3) := by decide +kernel
theorem dX7_year_44 : decode cX7_year 44 = .ok (.bipush 108, 2) := by decide +kernel
theorem dX7_year_46 : decode cX7_year 46 = .ok (.iaload, 1) := by decide +kernel
theorem dX7_year_47 : decode cX7_year 47 = .ok (.if_icmp .ge 27, 3) := by decide +kernel
theorem dX7_year_50 : decode cX7_year 50 = .ok (.iload_n 3, 1) := by decide +kernel
theorem dX7_year_51 : decode cX7_year 51 = .ok (.aload_n 0, 1) := by decide +kernel
theorem dX7_year_52 : decode cX7_year 52 = .ok (.iload 4, 2) := by decide +kernel
theorem dX7_year_54 : decode cX7_year 54 = .ok (.iload_n 1, 1) := by decide +kernel
theorem dX7_year_55 : decode cX7_year 55 = .ok (.invokevirtual 142, 3) := by decide +kernel
theorem dX7_year_58 : decode cX7_year 58 = .ok (.ifCond .eq 7, 3) := by decide +kernel
theorem dX7_year_61 : decode cX7_year 61 = .ok (.iconst 1, 1) := by decide +kernel
theorem dX7_year_62 : decode cX7_year 62 = .ok (.goto 4, 3) := by decide +kernel
theorem dX7_year_65 : decode cX7_year 65 = .ok (.iconst 0, 1) := by decide +kernel
theorem dX7_year_66 : decode cX7_year 66 = .ok (.iadd, 1) := by decide +kernel
theorem dX7_year_67 : decode cX7_year 67 = .ok (.istore_n 3, 1) := by decide +kernel
theorem dX7_year_68 : decode cX7_year 68 = .ok (.iinc 4 1, 3) := by decide +kernel
theorem dX7_year_71 : decode cX7_year 71 = .ok (.goto (-33), 3) := by decide +kernel
theorem dX7_year_74 : decode cX7_year 74 = .ok (.iload_n 3, 1) := by decide +kernel
theorem dX7_year_75 : decode cX7_year 75 = .ok (.ireturn, 1) := by decide +kernel
theorem dX7_look_0 : decode cX7_look 0 = .ok (.aload_n 0, 1) := by decide +kernel
theorem dX7_look_1 : decode cX7_look 1 = .ok (.aload_n 0, 1) := by decide +kernel
theorem dX7_look_2 : decode cX7_look 2 = .ok (.getfield 7, 3) := by decide +kernel
theorem dX7_look_5 : decode cX7_look 5 = .ok (.bipush 6, 2) := by decide +kernel
theorem dX7_look_7 : decode cX7_look 7 = .ok (.iload_n 1, 1) := by decide +kernel
theorem dX7_look_8 : decode cX7_look 8 = .ok (.iadd, 1) := by decide +kernel
theorem dX7_look_9 : decode cX7_look 9 = .ok (.iaload, 1) := by decide +kernel
theorem dX7_look_10 : decode cX7_look 10 = .ok (.putfield 58, 3) := by decide +kernel
theorem dX7_look_13 : decode cX7_look 13 = .ok (.iconst 0, 1) := by decide +kernel
theorem dX7_look_14 : decode cX7_look 14 = .ok (.istore_n 2, 1) := by decide +kernel
theorem dX7_look_15 : decode cX7_look 15 = .ok (.iload_n 2, 1) := by decide +kernel
theorem dX7_look_16 : decode cX7_look 16 = .ok (.aload_n 0, 1) := by decide +kernel
theorem dX7_look_17 : decode cX7_look 17 = .ok (.getfield 58, 3) := by decide +kernel
theorem dX7_look_20 : decode cX7_look 20 = .ok (.if_icmp .ge 49, 3) := by decide +kernel
theorem dX7_look_23 : decode cX7_look 23 = .ok (.aload_n 0, 1) := by decide +kernel
theorem dX7_look_24 : decode cX7_look 24 = .ok (.getfield 29, 3) := by decide +kernel
theorem dX7_look_27 : decode cX7_look 27 = .ok (.iload_n 2, 1) := by decide +kernel
theorem dX7_look_28 : decode cX7_look 28 = .ok (.aload_n 0, 1) := by decide +kernel
theorem dX7_look_29 : decode cX7_look 29 = .ok (.getfield 7, 3) := by decide +kernel
theorem dX7_look_32 : decode cX7_look 32 = .ok (.bipush 12, 2) := by decide +kernel
theorem dX7_look_34 : decode cX7_look 34 = .ok (.bipush 8, 2) := by decide +kernel
theorem dX7_look_36 : decode cX7_look 36 = .ok (.iload_n 1, 1) := by decide +kernel
theorem dX7_look_37 : decode cX7_look 37 = .ok (.imul, 1) := by decide +kernel
theorem dX7_look_38 : decode cX7_look 38 = .ok (.iadd, 1) := by decide +kernel
theorem dX7_look_39 : decode cX7_look 39 = .ok (.iload_n 2, 1) := by decide +kernel
theorem dX7_look_40 : decode cX7_look 40 = .ok (.iadd, 1) := by decide +kernel
theorem dX7_look_41 : decode cX7_look 41 = .ok (.iaload, 1) := by decide +kernel
theorem dX7_look_42 : decode cX7_look 42 = .ok (.iastore, 1) := by decide +kernel
theorem dX7_look_43 : decode cX7_look 43 = .ok (.aload_n 0, 1) := by decide +kernel
theorem dX7_look_44 : decode cX7_look 44 = .ok (.getfield 32, 3) := by decide +kernel
theorem dX7_look_47 : decode cX7_look 47 = .ok (.iload_n 2, 1) := by decide +kernel
theorem dX7_look_48 : decode cX7_look 48 = .ok (.aload_n 0, 1) := by decide +kernel
theorem dX7_look_49 : decode cX7_look 49 = .ok (.getfield 7, 3) := by decide +kernel
theorem dX7_look_52 : decode cX7_look 52 = .ok (.bipush 60, 2) := by decide +kernel
theorem dX7_look_54 : decode cX7_look 54 = .ok (.bipush 8, 2) := by decide +kernel
theorem dX7_look_56 : decode cX7_look 56 = .ok (.iload_n 1, 1) := by decide +kernel
theorem dX7_look_57 : decode cX7_look 57 = .ok (.imul, 1) := by decide +kernel
theorem dX7_look_58 : decode cX7_look 58 = .ok (.iadd, 1) := by decide +kernel
theorem dX7_look_59 : decode cX7_look 59 = .ok (.iload_n 2, 1) := by decide +kernel
theorem dX7_look_60 : decode cX7_look 60 = .ok (.iadd, 1) := by decide +kernel
theorem dX7_look_61 : decode cX7_look 61 = .ok (.iaload, 1) := by decide +kernel
theorem dX7_look_62 : decode cX7_look 62 = .ok (.iastore, 1) := by decide +kernel
theorem dX7_look_63 : decode cX7_look 63 = .ok (.iinc 2 1, 3) := by decide +kernel
theorem dX7_look_66 : decode cX7_look 66 = .ok (.goto (-51), 3) := by decide +kernel
theorem dX7_look_69 : decode cX7_look 69 = .ok (.return_, 1) := by decide +kernel
set_option maxRecDepth 20000 in
theorem ggX7_liesNow_X7_isOnSide : GoodIn wsX7_liesNow wsX7_isOnSide := goodIn_r _ [7, 8, 2, 9, 10, 11, 6, 12, 1, 13, 14, 15, 16, 17, 18, 19, 20, 21, 22, 23, 24, 29, 30, 31, 32, 33, 34, 35, 36, 37, 38, 39, 40, 41, 42, 43, 44, 45, 46, 47, 48, 49, 50, 51, 52] (by decide +kernel) (by decide +kernel)
set_option maxRecDepth 20000 in
theorem gX7_liesNow_X7_isOnSide : GoodIn wsX7_liesNow (wsV RX7 114 RX7 yX7_isOnSide wsX7_isOnSide) := goodIn_app (goodIn_of _ (by decide +kernel)) ggX7_liesNow_X7_isOnSide
set_option maxRecDepth 20000 in
theorem ggX7_liesNow_X7_next : GoodIn wsX7_liesNow wsX7_next := goodIn_r _ [12, 1, 29, 30, 31, 32, 33, 34, 35, 36, 37, 38, 39, 40, 41, 42, 43, 44, 45, 46, 47, 48, 49, 50, 51, 52] (by decide +kernel) (by decide +kernel)
set_option maxRecDepth 20000 in
theorem gX7_liesNow_X7_next : GoodIn wsX7_liesNow (wsV RX7 107 RX7 yX7_next wsX7_next) := goodIn_app (goodIn_of _ (by decide +kernel)) ggX7_liesNow_X7_next
set_option maxRecDepth 20000 in
theorem ggX7_liesNow_X7_turnOf : GoodIn wsX7_liesNow wsX7_turnOf := goodIn_r _ [28, 8, 2, 9, 10, 11, 6, 12, 1, 16, 17, 18, 29, 30, 31, 32, 33, 34, 35, 36, 37, 38, 39, 40, 41, 42, 43, 44, 45, 46, 47, 48, 49, 50, 51, 52] (by decide +kernel) (by decide +kernel)
set_option maxRecDepth 20000 in
theorem gX7_liesNow_X7_turnOf : GoodIn wsX7_liesNow (wsV RX7 117 RX7 yX7_turnOf wsX7_turnOf) := goodIn_app (goodIn_of _ (by decide +kernel)) ggX7_liesNow_X7_turnOf
theorem dX7_liesNow_0 : decode cX7_liesNow 0 = .ok (.iconst 0, 1) := by decide +kernel
theorem dX7_liesNow_1 : decode cX7_liesNow 1 = .ok (.istore_n 3, 1) := by decide +kernel
theorem dX7_liesNow_2 : decode cX7_liesNow 2 = .ok (.iconst 0, 1) := by decide +kernel
theorem dX7_liesNow_3 : decode cX7_liesNow 3 = .ok (.istore 4, 2) := by decide +kernel
theorem dX7_liesNow_5 : decode cX7_liesNow 5 = .ok (.iload 4, 2) := by decide +kernel
theorem dX7_liesNow_7 : decode cX7_liesNow 7 = .ok (.aload_n 0, 1) := by decide +kernel
theorem dX7_liesNow_8 : decode cX7_liesNow 8 = .ok (.getfield 58, 3) := by decide +kernel
theorem dX7_liesNow_11 : decode cX7_liesNow 11 = .ok (.if_icmp .ge 100, 3) := by decide +kernel
theorem dX7_liesNow_14 : decode cX7_liesNow 14 = .ok (.aload_n 0, 1) := by decide +kernel
theorem dX7_liesNow_15 : decode cX7_liesNow 15 = .ok (.iload 4, 2) := by decide +kernel
theorem dX7_liesNow_17 : decode cX7_liesNow 17 = .ok (.iload_n 1, 1) := by decide +kernel
theorem dX7_liesNow_18 : decode cX7_liesNow 18 = .ok (.iload_n 2, 1) := by decide +kernel
theorem dX7_liesNow_19 : decode cX7_liesNow 19 = .ok (.invokevirtual 114, 3) := by decide +kernel
theorem dX7_liesNow_22 : decode cX7_liesNow 22 = .ok (.ifCond .eq 5, 3) := by decide +kernel
theorem dX7_liesNow_25 : decode cX7_liesNow 25 = .ok (.iconst 1, 1) := by decide +kernel
theorem dX7_liesNow_26 : decode cX7_liesNow 26 = .ok (.ireturn, 1) := by decide +kernel
theorem dX7_liesNow_27 : decode cX7_liesNow 27 = .ok (.aload_n 0, 1) := by decide +kernel
theorem dX7_liesNow_28 : decode cX7_liesNow 28 = .ok (.getfield 32, 3) := by decide +kernel
theorem dX7_liesNow_31 : decode cX7_liesNow 31 = .ok (.iload 4, 2) := by decide +kernel
theorem dX7_liesNow_33 : decode cX7_liesNow 33 = .ok (.iaload, 1) := by decide +kernel
theorem dX7_liesNow_34 : decode cX7_liesNow 34 = .ok (.istore 5, 2) := by decide +kernel
theorem dX7_liesNow_36 : decode cX7_liesNow 36 = .ok (.aload_n 0, 1) := by decide +kernel
theorem dX7_liesNow_37 : decode cX7_liesNow 37 = .ok (.getfield 32, 3) := by decide +kernel
theorem dX7_liesNow_40 : decode cX7_liesNow 40 = .ok (.aload_n 0, 1) := by decide +kernel
theorem dX7_liesNow_41 : decode cX7_liesNow 41 = .ok (.iload 4, 2) := by decide +kernel
theorem dX7_liesNow_43 : decode cX7_liesNow 43 = .ok (.invokevirtual 107, 3) := by decide +kernel
theorem dX7_liesNow_46 : decode cX7_liesNow 46 = .ok (.iaload, 1) := by decide +kernel
theorem dX7_liesNow_47 : decode cX7_liesNow 47 = .ok (.istore 6, 2) := by decide +kernel
theorem dX7_liesNow_49 : decode cX7_liesNow 49 = .ok (.iload 5, 2) := by decide +kernel
theorem dX7_liesNow_51 : decode cX7_liesNow 51 = .ok (.iload_n 2, 1) := by decide +kernel
theorem dX7_liesNow_52 : decode cX7_liesNow 52 = .ok (.if_icmp .gt 20, 3) := by decide +kernel
theorem dX7_liesNow_55 : decode cX7_liesNow 55 = .ok (.iload 6, 2) := by decide +kernel
theorem dX7_liesNow_57 : decode cX7_liesNow 57 = .ok (.iload_n 2, 1) := by decide +kernel
theorem dX7_liesNow_58 : decode cX7_liesNow 58 = .ok (.if_icmp .le 14, 3) := by decide +kernel
theorem dX7_liesNow_61 : decode cX7_liesNow 61 = .ok (.aload_n 0, 1) := by decide +kernel
theorem dX7_liesNow_62 : decode cX7_liesNow 62 = .ok (.iload 4, 2) := by decide +kernel
theorem dX7_liesNow_64 : decode cX7_liesNow 64 = .ok (.iload_n 1, 1) := by decide +kernel
theorem dX7_liesNow_65 : decode cX7_liesNow 65 = .ok (.iload_n 2, 1) := by decide +kernel
theorem dX7_liesNow_66 : decode cX7_liesNow 66 = .ok (.invokevirtual 117, 3) := by decide +kernel
theorem dX7_liesNow_69 : decode cX7_liesNow 69 = .ok (.ifCond .gt 26, 3) := by decide +kernel
theorem dX7_liesNow_72 : decode cX7_liesNow 72 = .ok (.iload 6, 2) := by decide +kernel
theorem dX7_liesNow_74 : decode cX7_liesNow 74 = .ok (.iload_n 2, 1) := by decide +kernel
theorem dX7_liesNow_75 : decode cX7_liesNow 75 = .ok (.if_icmp .gt 30, 3) := by decide +kernel
theorem dX7_liesNow_78 : decode cX7_liesNow 78 = .ok (.iload 5, 2) := by decide +kernel
theorem dX7_liesNow_80 : decode cX7_liesNow 80 = .ok (.iload_n 2, 1) := by decide +kernel
theorem dX7_liesNow_81 : decode cX7_liesNow 81 = .ok (.if_icmp .le 24, 3) := by decide +kernel
theorem dX7_liesNow_84 : decode cX7_liesNow 84 = .ok (.aload_n 0, 1) := by decide +kernel
theorem dX7_liesNow_85 : decode cX7_liesNow 85 = .ok (.iload 4, 2) := by decide +kernel
theorem dX7_liesNow_87 : decode cX7_liesNow 87 = .ok (.iload_n 1, 1) := by decide +kernel
theorem dX7_liesNow_88 : decode cX7_liesNow 88 = .ok (.iload_n 2, 1) := by decide +kernel
theorem dX7_liesNow_89 : decode cX7_liesNow 89 = .ok (.invokevirtual 117, 3) := by decide +kernel
theorem dX7_liesNow_92 : decode cX7_liesNow 92 = .ok (.ifCond .ge 13, 3) := by decide +kernel
theorem dX7_liesNow_95 : decode cX7_liesNow 95 = .ok (.iload_n 3, 1) := by decide +kernel
theorem dX7_liesNow_96 : decode cX7_liesNow 96 = .ok (.ifCond .ne 7, 3) := by decide +kernel
theorem dX7_liesNow_99 : decode cX7_liesNow 99 = .ok (.iconst 1, 1) := by decide +kernel
theorem dX7_liesNow_100 : decode cX7_liesNow 100 = .ok (.goto 4, 3) := by decide +kernel
theorem dX7_liesNow_103 : decode cX7_liesNow 103 = .ok (.iconst 0, 1) := by decide +kernel
theorem dX7_liesNow_104 : decode cX7_liesNow 104 = .ok (.istore_n 3, 1) := by decide +kernel
theorem dX7_liesNow_105 : decode cX7_liesNow 105 = .ok (.iinc 4 1, 3) := by decide +kernel
theorem dX7_liesNow_108 : decode cX7_liesNow 108 = .ok (.goto (-103), 3) := by decide +kernel
theorem dX7_liesNow_111 : decode cX7_liesNow 111 = .ok (.iload_n 3, 1) := by decide +kernel
theorem dX7_liesNow_112 : decode cX7_liesNow 112 = .ok (.ifCond .eq 7, 3) := by decide +kernel
theorem dX7_liesNow_115 : decode cX7_liesNow 115 = .ok (.iconst 2, 1) := by decide +kernel
theorem dX7_liesNow_116 : decode cX7_liesNow 116 = .ok (.goto 4, 3) := by decide +kernel
theorem dX7_liesNow_119 : decode cX7_liesNow 119 = .ok (.iconst 0, 1) := by decide +kernel
theorem dX7_liesNow_120 : decode cX7_liesNow 120 = .ok (.ireturn, 1) := by decide +kernel
set_option maxRecDepth 20000 in
theorem ggX7_twice_X7_next : GoodIn wsX7_twice wsX7_next := goodIn_r _ [8, 1, 9, 10, 11, 12, 13, 14, 15, 16, 17, 18, 19, 20, 21, 22, 23, 24, 25, 26, 27, 28, 29, 30, 31, 32] (by decide +kernel) (by decide +kernel)
set_option maxRecDepth 20000 in
theorem gX7_twice_X7_next : GoodIn wsX7_twice (wsV RX7 107 RX7 yX7_next wsX7_next) := goodIn_app (goodIn_of _ (by decide +kernel)) ggX7_twice_X7_next
theorem dX7_twice_0 : decode cX7_twice 0 = .ok (.iconst 0, 1) := by decide +kernel
theorem dX7_twice_1 : decode cX7_twice 1 = .ok (.istore_n 1, 1) := by decide +kernel
theorem dX7_twice_2 : decode cX7_twice 2 = .ok (.iconst 0, 1) := by decide +kernel
theorem dX7_twice_3 : decode cX7_twice 3 = .ok (.istore_n 2, 1) := by decide +kernel
theorem dX7_twice_4 : decode cX7_twice 4 = .ok (.iload_n 2, 1) := by decide +kernel
theorem dX7_twice_5 : decode cX7_twice 5 = .ok (.aload_n 0, 1) := by decide +kernel
theorem dX7_twice_6 : decode cX7_twice 6 = .ok (.getfield 58, 3) := by decide +kernel
theorem dX7_twice_9 : decode cX7_twice 9 = .ok (.if_icmp .ge 47, 3) := by decide +kernel
theorem dX7_twice_12 : decode cX7_twice 12 = .ok (.iload_n 1, 1) := by decide +kernel
theorem dX7_twice_13 : decode cX7_twice 13 = .ok (.aload_n 0, 1) := by decide +kernel
theorem dX7_twice_14 : decode cX7_twice 14 = .ok (.getfield 29, 3) := by decide +kernel
theorem dX7_twice_17 : decode cX7_twice 17 = .ok (.iload_n 2, 1) := by decide +kernel
theorem dX7_twice_18 : decode cX7_twice 18 = .ok (.iaload, 1) := by decide +kernel
theorem dX7_twice_19 : decode cX7_twice 19 = .ok (.aload_n 0, 1) := by decide +kernel
theorem dX7_twice_20 : decode cX7_twice 20 = .ok (.getfield 32, 3) := by decide +kernel
theorem dX7_twice_23 : decode cX7_twice 23 = .ok (.aload_n 0, 1) := by decide +kernel
theorem dX7_twice_24 : decode cX7_twice 24 = .ok (.iload_n 2, 1) := by decide +kernel
theorem dX7_twice_25 : decode cX7_twice 25 = .ok (.invokevirtual 107, 3) := by decide +kernel
theorem dX7_twice_28 : decode cX7_twice 28 = .ok (.iaload, 1) := by decide +kernel
theorem dX7_twice_29 : decode cX7_twice 29 = .ok (.imul, 1) := by decide +kernel
theorem dX7_twice_30 : decode cX7_twice 30 = .ok (.aload_n 0, 1) := by decide +kernel
theorem dX7_twice_31 : decode cX7_twice 31 = .ok (.getfield 29, 3) := by decide +kernel
theorem dX7_twice_34 : decode cX7_twice 34 = .ok (.aload_n 0, 1) := by decide +kernel
theorem dX7_twice_35 : decode cX7_twice 35 = .ok (.iload_n 2, 1) := by decide +kernel
theorem dX7_twice_36 : decode cX7_twice 36 = .ok (.invokevirtual 107, 3) := by decide +kernel
theorem dX7_twice_39 : decode cX7_twice 39 = .ok (.iaload, 1) := by decide +kernel
theorem dX7_twice_40 : decode cX7_twice 40 = .ok (.aload_n 0, 1) := by decide +kernel
theorem dX7_twice_41 : decode cX7_twice 41 = .ok (.getfield 32, 3) := by decide +kernel
theorem dX7_twice_44 : decode cX7_twice 44 = .ok (.iload_n 2, 1) := by decide +kernel
theorem dX7_twice_45 : decode cX7_twice 45 = .ok (.iaload, 1) := by decide +kernel
theorem dX7_twice_46 : decode cX7_twice 46 = .ok (.imul, 1) := by decide +kernel
theorem dX7_twice_47 : decode cX7_twice 47 = .ok (.isub, 1) := by decide +kernel
theorem dX7_twice_48 : decode cX7_twice 48 = .ok (.iadd, 1) := by decide +kernel
theorem dX7_twice_49 : decode cX7_twice 49 = .ok (.istore_n 1, 1) := by decide +kernel
theorem dX7_twice_50 : decode cX7_twice 50 = .ok (.iinc 2 1, 3) := by decide +kernel
theorem dX7_twice_53 : decode cX7_twice 53 = .ok (.goto (-49), 3) := by decide +kernel
theorem dX7_twice_56 : decode cX7_twice 56 = .ok (.iload_n 1, 1) := by decide +kernel
theorem dX7_twice_57 : decode cX7_twice 57 = .ok (.ireturn, 1) := by decide +kernel
set_option maxRecDepth 20000 in
theorem ggX7_postsOf_X7_liesNow : GoodIn wsX7_postsOf wsX7_liesNow := goodIn_r _ [5, 6, 7, 8, 9, 10, 4, 11, 12, 13, 14, 15, 16, 17, 18, 19, 20, 21, 22, 23, 24, 25, 26, 27, 28, 29, 30, 31, 32, 33, 34, 35, 36, 37, 38, 39, 40, 41, 42, 43, 44, 45, 46, 47, 48, 49, 50, 51, 52, 53, 54, 55, 56] (by decide +kernel) (by decide +kernel)
set_option maxRecDepth 20000 in
theorem gX7_postsOf_X7_liesNow : GoodIn wsX7_postsOf (wsV RX7 145 RX7 yX7_liesNow wsX7_liesNow) := goodIn_app (goodIn_of _ (by decide +kernel)) ggX7_postsOf_X7_liesNow
theorem dX7_postsOf_0 : decode cX7_postsOf 0 = .ok (.iconst 0, 1) := by decide +kernel
theorem dX7_postsOf_1 : decode cX7_postsOf 1 = .ok (.istore_n 2, 1) := by decide +kernel
theorem dX7_postsOf_2 : decode cX7_postsOf 2 = .ok (.iconst 0, 1) := by decide +kernel
theorem dX7_postsOf_3 : decode cX7_postsOf 3 = .ok (.istore_n 3, 1) := by decide +kernel
theorem dX7_postsOf_4 : decode cX7_postsOf 4 = .ok (.iload_n 3, 1) := by decide +kernel
theorem dX7_postsOf_5 : decode cX7_postsOf 5 = .ok (.sipush 1024, 3) := by decide +kernel
theorem dX7_postsOf_8 : decode cX7_postsOf 8 = .ok (.if_icmp .ge 33, 3) := by decide +kernel
theorem dX7_postsOf_11 : decode cX7_postsOf 11 = .ok (.iload_n 2, 1) := by decide +kernel
theorem dX7_postsOf_12 : decode cX7_postsOf 12 = .ok (.aload_n 0, 1) := by decide +kernel
theorem dX7_postsOf_13 : decode cX7_postsOf 13 = .ok (.iload_n 3, 1) := by decide +kernel
theorem dX7_postsOf_14 : decode cX7_postsOf 14 = .ok (.bipush 32, 2) := by decide +kernel
theorem dX7_postsOf_16 : decode cX7_postsOf 16 = .ok (.irem, 1) := by decide +kernel
theorem dX7_postsOf_17 : decode cX7_postsOf 17 = .ok (.iload_n 3, 1) := by decide +kernel
theorem dX7_postsOf_18 : decode cX7_postsOf 18 = .ok (.bipush 32, 2) := by decide +kernel
theorem dX7_postsOf_20 : decode cX7_postsOf 20 = .ok (.idiv, 1) := by decide +kernel
theorem dX7_postsOf_21 : decode cX7_postsOf 21 = .ok (.invokevirtual 145, 3) := by decide +kernel
theorem dX7_postsOf_24 : decode cX7_postsOf 24 = .ok (.iload_n 1, 1) := by decide +kernel
theorem dX7_postsOf_25 : decode cX7_postsOf 25 = .ok (.if_icmp .ne 7, 3) := by decide +kernel
theorem dX7_postsOf_28 : decode cX7_postsOf 28 = .ok (.iconst 1, 1) := by decide +kernel
theorem dX7_postsOf_29 : decode cX7_postsOf 29 = .ok (.goto 4, 3) := by decide +kernel
theorem dX7_postsOf_32 : decode cX7_postsOf 32 = .ok (.iconst 0, 1) := by decide +kernel
theorem dX7_postsOf_33 : decode cX7_postsOf 33 = .ok (.iadd, 1) := by decide +kernel
theorem dX7_postsOf_34 : decode cX7_postsOf 34 = .ok (.istore_n 2, 1) := by decide +kernel
theorem dX7_postsOf_35 : decode cX7_postsOf 35 = .ok (.iinc 3 1, 3) := by decide +kernel
theorem dX7_postsOf_38 : decode cX7_postsOf 38 = .ok (.goto (-34), 3) := by decide +kernel
theorem dX7_postsOf_41 : decode cX7_postsOf 41 = .ok (.iload_n 2, 1) := by decide +kernel
theorem dX7_postsOf_42 : decode cX7_postsOf 42 = .ok (.ireturn, 1) := by decide +kernel
set_option maxRecDepth 20000 in
theorem ggX7_layOwners_X7_look : GoodIn wsX7_layOwners wsX7_look := goodIn_r _ [7, 2, 8, 9, 10, 43, 44, 45, 46, 47, 48, 49, 50, 51, 52, 53, 54, 55, 56, 57, 58, 59, 60, 61, 62, 63, 64, 65, 66] (by decide +kernel) (by decide +kernel)
set_option maxRecDepth 20000 in
theorem gX7_layOwners_X7_look : GoodIn wsX7_layOwners (wsV RX7 149 RX7 yX7_look wsX7_look) := goodIn_app (goodIn_of _ (by decide +kernel)) ggX7_layOwners_X7_look
set_option maxRecDepth 20000 in
theorem ggX7_layOwners_X7_liesNow : GoodIn wsX7_layOwners wsX7_liesNow := goodIn_r _ [14, 8, 10, 15, 16, 17, 6, 18, 9, 19, 20, 21, 22, 23, 24, 25, 26, 27, 28, 29, 30, 31, 32, 33, 34, 35, 36, 37, 38, 43, 44, 45, 46, 47, 48, 49, 50, 51, 52, 53, 54, 55, 56, 57, 58, 59, 60, 61, 62, 63, 64, 65, 66] (by decide +kernel) (by decide +kernel)
set_option maxRecDepth 20000 in
theorem gX7_layOwners_X7_liesNow : GoodIn wsX7_layOwners (wsV RX7 145 RX7 yX7_liesNow wsX7_liesNow) := goodIn_app (goodIn_of _ (by decide +kernel)) ggX7_layOwners_X7_liesNow
set_option maxRecDepth 20000 in
theorem ggX7_layOwners_X7_isOlder : GoodIn wsX7_layOwners wsX7_isOlder := goodIn_r _ [42, 2, 43, 44, 45, 46, 47, 48, 49, 50, 51, 52, 53, 54, 55, 56, 57, 58, 59, 60, 61, 62, 63, 64, 65, 66] (by decide +kernel) (by decide +kernel)
set_option maxRecDepth 20000 in
theorem gX7_layOwners_X7_isOlder : GoodIn wsX7_layOwners (wsV RX7 142 RX7 yX7_isOlder wsX7_isOlder) := goodIn_app (goodIn_of _ (by decide +kernel)) ggX7_layOwners_X7_isOlder
theorem dX7_layOwners_0 : decode cX7_layOwners 0 = .ok (.iconst 0, 1) := by decide +kernel
theorem dX7_layOwners_1 : decode cX7_layOwners 1 = .ok (.istore_n 1, 1) := by decide +kernel
theorem dX7_layOwners_2 : decode cX7_layOwners 2 = .ok (.iload_n 1, 1) := by decide +kernel
theorem dX7_layOwners_3 : decode cX7_layOwners 3 = .ok (.sipush 1024, 3) := by decide +kernel
theorem dX7_layOwners_6 : decode cX7_layOwners 6 = .ok (.if_icmp .ge 17, 3) := by decide +kernel
theorem dX7_layOwners_9 : decode cX7_layOwners 9 = .ok (.aload_n 0, 1) := by decide +kernel
theorem dX7_layOwners_10 : decode cX7_layOwners 10 = .ok (.getfield 35, 3) := by decide +kernel
theorem dX7_layOwners_13 : decode cX7_layOwners 13 = .ok (.iload_n 1, 1) := by decide +kernel
theorem dX7_layOwners_14 : decode cX7_layOwners 14 = .ok (.bipush (-6), 2) := by decide +kernel
theorem dX7_layOwners_16 : decode cX7_layOwners 16 = .ok (.iastore, 1) := by decide +kernel
theorem dX7_layOwners_17 : decode cX7_layOwners 17 = .ok (.iinc 1 1, 3) := by decide +kernel
theorem dX7_layOwners_20 : decode cX7_layOwners 20 = .ok (.goto (-18), 3) := by decide +kernel
theorem dX7_layOwners_23 : decode cX7_layOwners 23 = .ok (.iconst 0, 1) := by decide +kernel
theorem dX7_layOwners_24 : decode cX7_layOwners 24 = .ok (.istore_n 1, 1) := by decide +kernel
theorem dX7_layOwners_25 : decode cX7_layOwners 25 = .ok (.iload_n 1, 1) := by decide +kernel
theorem dX7_layOwners_26 : decode cX7_layOwners 26 = .ok (.aload_n 0, 1) := by decide +kernel
theorem dX7_layOwners_27 : decode cX7_layOwners 27 = .ok (.getfield 7, 3) := by decide +kernel
theorem dX7_layOwners_30 : decode cX7_layOwners 30 = .ok (.bipush 108, 2) := by decide +kernel
theorem dX7_layOwners_32 : decode cX7_layOwners 32 = .ok (.iaload, 1) := by decide +kernel
theorem dX7_layOwners_33 : decode cX7_layOwners 33 = .ok (.if_icmp .ge 74, 3) := by decide +kernel
theorem dX7_layOwners_36 : decode cX7_layOwners 36 = .ok (.aload_n 0, 1) := by decide +kernel
theorem dX7_layOwners_37 : decode cX7_layOwners 37 = .ok (.iload_n 1, 1) := by decide +kernel
theorem dX7_layOwners_38 : decode cX7_layOwners 38 = .ok (.invokevirtual 149, 3) := by decide +kernel
theorem dX7_layOwners_41 : decode cX7_layOwners 41 = .ok (.iconst 0, 1) := by decide +kernel
theorem dX7_layOwners_42 : decode cX7_layOwners 42 = .ok (.istore_n 2, 1) := by decide +kernel
theorem dX7_layOwners_43 : decode cX7_layOwners 43 = .ok (.iload_n 2, 1) := by decide +kernel
theorem dX7_layOwners_44 : decode cX7_layOwners 44 = .ok (.sipush 1024, 3) := by decide +kernel
theorem dX7_layOwners_47 : decode cX7_layOwners 47 = .ok (.if_icmp .ge 54, 3) := by decide +kernel
theorem dX7_layOwners_50 : decode cX7_layOwners 50 = .ok (.aload_n 0, 1) := by decide +kernel
theorem dX7_layOwners_51 : decode cX7_layOwners 51 = .ok (.iload_n 2, 1) := by decide +kernel
theorem dX7_layOwners_52 : decode cX7_layOwners 52 = .ok (.bipush 32, 2) := by decide +kernel
theorem dX7_layOwners_54 : decode cX7_layOwners 54 = .ok (.irem, 1) := by decide +kernel
theorem dX7_layOwners_55 : decode cX7_layOwners 55 = .ok (.iload_n 2, 1) := by decide +kernel
theorem dX7_layOwners_56 : decode cX7_layOwners 56 = .ok (.bipush 32, 2) := by decide +kernel
theorem dX7_layOwners_58 : decode cX7_layOwners 58 = .ok (.idiv, 1) := by decide +kernel
theorem dX7_layOwners_59 : decode cX7_layOwners 59 = .ok (.invokevirtual 145, 3) := by decide +kernel
