theorem dX0_init_0 : decode cX0_init 0 = .ok (.aload_n 0, 1) := by decide +kernel
theorem dX0_init_1 : decode cX0_init 1 = .ok (.invokespecial 3, 3) := by decide +kernel
theorem dX0_init_4 : decode cX0_init 4 = .ok (.aload_n 0, 1) := by decide +kernel
theorem dX0_init_5 : decode cX0_init 5 = .ok (.bipush 6, 2) := by decide +kernel
theorem dX0_init_7 : decode cX0_init 7 = .ok (.anewarray 9, 3) := by decide +kernel
theorem dX0_init_10 : decode cX0_init 10 = .ok (.putfield 11, 3) := by decide +kernel
theorem dX0_init_13 : decode cX0_init 13 = .ok (.aload_n 0, 1) := by decide +kernel
theorem dX0_init_14 : decode cX0_init 14 = .ok (.bipush 6, 2) := by decide +kernel
theorem dX0_init_16 : decode cX0_init 16 = .ok (.newarray .int, 2) := by decide +kernel
theorem dX0_init_18 : decode cX0_init 18 = .ok (.putfield 17, 3) := by decide +kernel
theorem dX0_init_21 : decode cX0_init 21 = .ok (.return_, 1) := by decide +kernel
theorem dX0_has_0 : decode cX0_has 0 = .ok (.iload_n 1, 1) := by decide +kernel
theorem dX0_has_1 : decode cX0_has 1 = .ok (.ifCond .lt 21, 3) := by decide +kernel
theorem dX0_has_4 : decode cX0_has 4 = .ok (.iload_n 1, 1) := by decide +kernel
theorem dX0_has_5 : decode cX0_has 5 = .ok (.aload_n 0, 1) := by decide +kernel
theorem dX0_has_6 : decode cX0_has 6 = .ok (.getfield 21, 3) := by decide +kernel
theorem dX0_has_9 : decode cX0_has 9 = .ok (.if_icmp .ge 13, 3) := by decide +kernel
theorem dX0_has_12 : decode cX0_has 12 = .ok (.iload_n 1, 1) := by decide +kernel
theorem dX0_has_13 : decode cX0_has 13 = .ok (.bipush 6, 2) := by decide +kernel
theorem dX0_has_15 : decode cX0_has 15 = .ok (.if_icmp .ge 7, 3) := by decide +kernel
theorem dX0_has_18 : decode cX0_has 18 = .ok (.iconst 1, 1) := by decide +kernel
theorem dX0_has_19 : decode cX0_has 19 = .ok (.goto 4, 3) := by decide +kernel
theorem dX0_has_22 : decode cX0_has 22 = .ok (.iconst 0, 1) := by decide +kernel
theorem dX0_has_23 : decode cX0_has 23 = .ok (.ireturn, 1) := by decide +kernel
set_option maxRecDepth 20000 in
theorem ggX0_plotAt_X0_has : GoodIn wsX0_plotAt wsX0_has := goodIn_r _ [6, 7, 8, 9, 10, 11] (by decide +kernel) (by decide +kernel)
set_option maxRecDepth 20000 in
theorem gX0_plotAt_X0_has : GoodIn wsX0_plotAt (wsV RX0 25 RX0 yX0_has wsX0_has) := goodIn_app (goodIn_of _ (by decide +kernel)) ggX0_plotAt_X0_has
theorem dX0_plotAt_0 : decode cX0_plotAt 0 = .ok (.aload_n 0, 1) := by decide +kernel
theorem dX0_plotAt_1 : decode cX0_plotAt 1 = .ok (.iload_n 1, 1) := by decide +kernel
theorem dX0_plotAt_2 : decode cX0_plotAt 2 = .ok (.invokevirtual 25, 3) := by decide +kernel
theorem dX0_plotAt_5 : decode cX0_plotAt 5 = .ok (.ifCond .eq 12, 3) := by decide +kernel
theorem dX0_plotAt_8 : decode cX0_plotAt 8 = .ok (.aload_n 0, 1) := by decide +kernel
theorem dX0_plotAt_9 : decode cX0_plotAt 9 = .ok (.getfield 11, 3) := by decide +kernel
theorem dX0_plotAt_12 : decode cX0_plotAt 12 = .ok (.iload_n 1, 1) := by decide +kernel
theorem dX0_plotAt_13 : decode cX0_plotAt 13 = .ok (.aaload, 1) := by decide +kernel
theorem dX0_plotAt_14 : decode cX0_plotAt 14 = .ok (.goto 4, 3) := by decide +kernel
theorem dX0_plotAt_17 : decode cX0_plotAt 17 = .ok (.aconst_null, 1) := by decide +kernel
theorem dX0_plotAt_18 : decode cX0_plotAt 18 = .ok (.areturn, 1) := by decide +kernel
set_option maxRecDepth 20000 in
theorem ggX0_yearOf_X0_has : GoodIn wsX0_yearOf wsX0_has := goodIn_r _ [6, 7, 8, 9, 10, 11] (by decide +kernel) (by decide +kernel)
set_option maxRecDepth 20000 in
theorem gX0_yearOf_X0_has : GoodIn wsX0_yearOf (wsV RX0 25 RX0 yX0_has wsX0_has) := goodIn_app (goodIn_of _ (by decide +kernel)) ggX0_yearOf_X0_has
theorem dX0_yearOf_0 : decode cX0_yearOf 0 = .ok (.aload_n 0, 1) := by decide +kernel
theorem dX0_yearOf_1 : decode cX0_yearOf 1 = .ok (.iload_n 1, 1) := by decide +kernel
theorem dX0_yearOf_2 : decode cX0_yearOf 2 = .ok (.invokevirtual 25, 3) := by decide +kernel
theorem dX0_yearOf_5 : decode cX0_yearOf 5 = .ok (.ifCond .eq 12, 3) := by decide +kernel
theorem dX0_yearOf_8 : decode cX0_yearOf 8 = .ok (.aload_n 0, 1) := by decide +kernel
theorem dX0_yearOf_9 : decode cX0_yearOf 9 = .ok (.getfield 17, 3) := by decide +kernel
theorem dX0_yearOf_12 : decode cX0_yearOf 12 = .ok (.iload_n 1, 1) := by decide +kernel
theorem dX0_yearOf_13 : decode cX0_yearOf 13 = .ok (.iaload, 1) := by decide +kernel
theorem dX0_yearOf_14 : decode cX0_yearOf 14 = .ok (.goto 4, 3) := by decide +kernel
theorem dX0_yearOf_17 : decode cX0_yearOf 17 = .ok (.iconst 0, 1) := by decide +kernel
theorem dX0_yearOf_18 : decode cX0_yearOf 18 = .ok (.ireturn, 1) := by decide +kernel
set_option maxRecDepth 20000 in
theorem ggX0_setYear_X0_has : GoodIn wsX0_setYear wsX0_has := goodIn_r _ [6, 7, 8, 9, 10, 11] (by decide +kernel) (by decide +kernel)
set_option maxRecDepth 20000 in
theorem gX0_setYear_X0_has : GoodIn wsX0_setYear (wsV RX0 25 RX0 yX0_has wsX0_has) := goodIn_app (goodIn_of _ (by decide +kernel)) ggX0_setYear_X0_has
theorem dX0_setYear_0 : decode cX0_setYear 0 = .ok (.aload_n 0, 1) := by decide +kernel
theorem dX0_setYear_1 : decode cX0_setYear 1 = .ok (.iload_n 1, 1) := by decide +kernel
theorem dX0_setYear_2 : decode cX0_setYear 2 = .ok (.invokevirtual 25, 3) := by decide +kernel
theorem dX0_setYear_5 : decode cX0_setYear 5 = .ok (.ifCond .eq 10, 3) := by decide +kernel
theorem dX0_setYear_8 : decode cX0_setYear 8 = .ok (.aload_n 0, 1) := by decide +kernel
theorem dX0_setYear_9 : decode cX0_setYear 9 = .ok (.getfield 17, 3) := by decide +kernel
theorem dX0_setYear_12 : decode cX0_setYear 12 = .ok (.iload_n 1, 1) := by decide +kernel
theorem dX0_setYear_13 : decode cX0_setYear 13 = .ok (.iload_n 2, 1) := by decide +kernel
theorem dX0_setYear_14 : decode cX0_setYear 14 = .ok (.iastore, 1) := by decide +kernel
theorem dX0_setYear_15 : decode cX0_setYear 15 = .ok (.return_, 1) := by decide +kernel
theorem dX0_add_0 : decode cX0_add 0 = .ok (.aload_n 0, 1) := by decide +kernel
theorem dX0_add_1 : decode cX0_add 1 = .ok (.getfield 21, 3) := by decide +kernel
theorem dX0_add_4 : decode cX0_add 4 = .ok (.ifCond .lt 12, 3) := by decide +kernel
theorem dX0_add_7 : decode cX0_add 7 = .ok (.aload_n 0, 1) := by decide +kernel
theorem dX0_add_8 : decode cX0_add 8 = .ok (.getfield 21, 3) := by decide +kernel
theorem dX0_add_11 : decode cX0_add 11 = .ok (.bipush 6, 2) := by decide +kernel
theorem dX0_add_13 : decode cX0_add 13 = .ok (.if_icmp .lt 6, 3) := by decide +kernel
theorem dX0_add_16 : decode cX0_add 16 = .ok (.bipush (-4), 2) := by decide +kernel
theorem dX0_add_18 : decode cX0_add 18 = .ok (.ireturn, 1) := by decide +kernel
theorem dX0_add_19 : decode cX0_add 19 = .ok (.aload_n 0, 1) := by decide +kernel
theorem dX0_add_20 : decode cX0_add 20 = .ok (.getfield 11, 3) := by decide +kernel
theorem dX0_add_23 : decode cX0_add 23 = .ok (.aload_n 0, 1) := by decide +kernel
theorem dX0_add_24 : decode cX0_add 24 = .ok (.getfield 21, 3) := by decide +kernel
theorem dX0_add_27 : decode cX0_add 27 = .ok (.aload_n 1, 1) := by decide +kernel
theorem dX0_add_28 : decode cX0_add 28 = .ok (.aastore, 1) := by decide +kernel
theorem dX0_add_29 : decode cX0_add 29 = .ok (.aload_n 0, 1) := by decide +kernel
theorem dX0_add_30 : decode cX0_add 30 = .ok (.getfield 17, 3) := by decide +kernel
theorem dX0_add_33 : decode cX0_add 33 = .ok (.aload_n 0, 1) := by decide +kernel
theorem dX0_add_34 : decode cX0_add 34 = .ok (.getfield 21, 3) := by decide +kernel
theorem dX0_add_37 : decode cX0_add 37 = .ok (.iload_n 2, 1) := by decide +kernel
theorem dX0_add_38 : decode cX0_add 38 = .ok (.iastore, 1) := by decide +kernel
theorem dX0_add_39 : decode cX0_add 39 = .ok (.aload_n 0, 1) := by decide +kernel
theorem dX0_add_40 : decode cX0_add 40 = .ok (.dup, 1) := by decide +kernel
theorem dX0_add_41 : decode cX0_add 41 = .ok (.getfield 21, 3) := by decide +kernel
theorem dX0_add_44 : decode cX0_add 44 = .ok (.iconst 1, 1) := by decide +kernel
theorem dX0_add_45 : decode cX0_add 45 = .ok (.iadd, 1) := by decide +kernel
theorem dX0_add_46 : decode cX0_add 46 = .ok (.putfield 21, 3) := by decide +kernel
theorem dX0_add_49 : decode cX0_add 49 = .ok (.aload_n 0, 1) := by decide +kernel
theorem dX0_add_50 : decode cX0_add 50 = .ok (.getfield 21, 3) := by decide +kernel
theorem dX0_add_53 : decode cX0_add 53 = .ok (.iconst 1, 1) := by decide +kernel
theorem dX0_add_54 : decode cX0_add 54 = .ok (.isub, 1) := by decide +kernel
theorem dX0_add_55 : decode cX0_add 55 = .ok (.ireturn, 1) := by decide +kernel
set_option maxRecDepth 20000 in
theorem ggX0_remove_X0_has : GoodIn wsX0_remove wsX0_has := goodIn_r _ [8, 1, 9, 10, 11, 12] (by decide +kernel) (by decide +kernel)
set_option maxRecDepth 20000 in
theorem gX0_remove_X0_has : GoodIn wsX0_remove (wsV RX0 25 RX0 yX0_has wsX0_has) := goodIn_app (goodIn_of _ (by decide +kernel)) ggX0_remove_X0_has
theorem dX0_remove_0 : decode cX0_remove 0 = .ok (.aload_n 0, 1) := by decide +kernel
theorem dX0_remove_1 : decode cX0_remove 1 = .ok (.iload_n 1, 1) := by decide +kernel
theorem dX0_remove_2 : decode cX0_remove 2 = .ok (.invokevirtual 25, 3) := by decide +kernel
theorem dX0_remove_5 : decode cX0_remove 5 = .ok (.ifCond .ne 4, 3) := by decide +kernel
theorem dX0_remove_8 : decode cX0_remove 8 = .ok (.return_, 1) := by decide +kernel
theorem dX0_remove_9 : decode cX0_remove 9 = .ok (.iload_n 1, 1) := by decide +kernel
theorem dX0_remove_10 : decode cX0_remove 10 = .ok (.istore_n 2, 1) := by decide +kernel
theorem dX0_remove_11 : decode cX0_remove 11 = .ok (.iload_n 2, 1) := by decide +kernel
theorem dX0_remove_12 : decode cX0_remove 12 = .ok (.iconst 1, 1) := by decide +kernel
theorem dX0_remove_13 : decode cX0_remove 13 = .ok (.iadd, 1) := by decide +kernel
theorem dX0_remove_14 : decode cX0_remove 14 = .ok (.aload_n 0, 1) := by decide +kernel
theorem dX0_remove_15 : decode cX0_remove 15 = .ok (.getfield 21, 3) := by decide +kernel
theorem dX0_remove_18 : decode cX0_remove 18 = .ok (.if_icmp .ge 45, 3) := by decide +kernel
theorem dX0_remove_21 : decode cX0_remove 21 = .ok (.iload_n 2, 1) := by decide +kernel
theorem dX0_remove_22 : decode cX0_remove 22 = .ok (.iconst 1, 1) := by decide +kernel
theorem dX0_remove_23 : decode cX0_remove 23 = .ok (.iadd, 1) := by decide +kernel
theorem dX0_remove_24 : decode cX0_remove 24 = .ok (.bipush 6, 2) := by decide +kernel
theorem dX0_remove_26 : decode cX0_remove 26 = .ok (.if_icmp .ge 37, 3) := by decide +kernel
theorem dX0_remove_29 : decode cX0_remove 29 = .ok (.aload_n 0, 1) := by decide +kernel
theorem dX0_remove_30 : decode cX0_remove 30 = .ok (.getfield 11, 3) := by decide +kernel
theorem dX0_remove_33 : decode cX0_remove 33 = .ok (.iload_n 2, 1) := by decide +kernel
theorem dX0_remove_34 : decode cX0_remove 34 = .ok (.aload_n 0, 1) := by decide +kernel
theorem dX0_remove_35 : decode cX0_remove 35 = .ok (.getfield 11, 3) := by decide +kernel
theorem dX0_remove_38 : decode cX0_remove 38 = .ok (.iload_n 2, 1) := by decide +kernel
theorem dX0_remove_39 : decode cX0_remove 39 = .ok (.iconst 1, 1) := by decide +kernel
theorem dX0_remove_40 : decode cX0_remove 40 = .ok (.iadd, 1) := by decide +kernel
theorem dX0_remove_41 : decode cX0_remove 41 = .ok (.aaload, 1) := by decide +kernel
theorem dX0_remove_42 : decode cX0_remove 42 = .ok (.aastore, 1) := by decide +kernel
theorem dX0_remove_43 : decode cX0_remove 43 = .ok (.aload_n 0, 1) := by decide +kernel
theorem dX0_remove_44 : decode cX0_remove 44 = .ok (.getfield 17, 3) := by decide +kernel
theorem dX0_remove_47 : decode cX0_remove 47 = .ok (.iload_n 2, 1) := by decide +kernel
theorem dX0_remove_48 : decode cX0_remove 48 = .ok (.aload_n 0, 1) := by decide +kernel
theorem dX0_remove_49 : decode cX0_remove 49 = .ok (.getfield 17, 3) := by decide +kernel
theorem dX0_remove_52 : decode cX0_remove 52 = .ok (.iload_n 2, 1) := by decide +kernel
theorem dX0_remove_53 : decode cX0_remove 53 = .ok (.iconst 1, 1) := by decide +kernel
theorem dX0_remove_54 : decode cX0_remove 54 = .ok (.iadd, 1) := by decide +kernel
theorem dX0_remove_55 : decode cX0_remove 55 = .ok (.iaload, 1) := by decide +kernel
theorem dX0_remove_56 : decode cX0_remove 56 = .ok (.iastore, 1) := by decide +kernel
theorem dX0_remove_57 : decode cX0_remove 57 = .ok (.iinc 2 1, 3) := by decide +kernel
theorem dX0_remove_60 : decode cX0_remove 60 = .ok (.goto (-49), 3) := by decide +kernel
theorem dX0_remove_63 : decode cX0_remove 63 = .ok (.aload_n 0, 1) := by decide +kernel
theorem dX0_remove_64 : decode cX0_remove 64 = .ok (.dup, 1) := by decide +kernel
theorem dX0_remove_65 : decode cX0_remove 65 = .ok (.getfield 21, 3) := by decide +kernel
theorem dX0_remove_68 : decode cX0_remove 68 = .ok (.iconst 1, 1) := by decide +kernel
theorem dX0_remove_69 : decode cX0_remove 69 = .ok (.isub, 1) := by decide +kernel
theorem dX0_remove_70 : decode cX0_remove 70 = .ok (.putfield 21, 3) := by decide +kernel
theorem dX0_remove_73 : decode cX0_remove 73 = .ok (.return_, 1) := by decide +kernel
theorem dX0_become_0 : decode cX0_become 0 = .ok (.iconst 0, 1) := by decide +kernel
theorem dX0_become_1 : decode cX0_become 1 = .ok (.istore_n 2, 1) := by decide +kernel
theorem dX0_become_2 : decode cX0_become 2 = .ok (.iload_n 2, 1) := by decide +kernel
theorem dX0_become_3 : decode cX0_become 3 = .ok (.bipush 6, 2) := by decide +kernel
theorem dX0_become_5 : decode cX0_become 5 = .ok (.if_icmp .ge 33, 3) := by decide +kernel
theorem dX0_become_8 : decode cX0_become 8 = .ok (.aload_n 0, 1) := by decide +kernel
theorem dX0_become_9 : decode cX0_become 9 = .ok (.getfield 11, 3) := by decide +kernel
theorem dX0_become_12 : decode cX0_become 12 = .ok (.iload_n 2, 1) := by decide +kernel
theorem dX0_become_13 : decode cX0_become 13 = .ok (.aload_n 1, 1) := by decide +kernel
theorem dX0_become_14 : decode cX0_become 14 = .ok (.getfield 11, 3) := by decide +kernel
theorem dX0_become_17 : decode cX0_become 17 = .ok (.iload_n 2, 1) := by decide +kernel
theorem dX0_become_18 : decode cX0_become 18 = .ok (.aaload, 1) := by decide +kernel
theorem dX0_become_19 : decode cX0_become 19 = .ok (.aastore, 1) := by decide +kernel
theorem dX0_become_20 : decode cX0_become 20 = .ok (.aload_n 0, 1) := by decide +kernel
theorem dX0_become_21 : decode cX0_become 21 = .ok (.getfield 17, 3) := by decide +kernel
theorem dX0_become_24 : decode cX0_become 24 = .ok (.iload_n 2, 1) := by decide +kernel
theorem dX0_become_25 : decode cX0_become 25 = .ok (.aload_n 1, 1) := by decide +kernel
theorem dX0_become_26 : decode cX0_become 26 = .ok (.getfield 17, 3) := by decide +kernel
theorem dX0_become_29 : decode cX0_become 29 = .ok (.iload_n 2, 1) := by decide +kernel
theorem dX0_become_30 : decode cX0_become 30 = .ok (.iaload, 1) := by decide +kernel
theorem dX0_become_31 : decode cX0_become 31 = .ok (.iastore, 1) := by decide +kernel
theorem dX0_become_32 : decode cX0_become 32 = .ok (.iinc 2 1, 3) := by decide +kernel
theorem dX0_become_35 : decode cX0_become 35 = .ok (.goto (-33), 3) := by decide +kernel
theorem dX0_become_38 : decode cX0_become 38 = .ok (.aload_n 0, 1) := by decide +kernel
theorem dX0_become_39 : decode cX0_become 39 = .ok (.aload_n 1, 1) := by decide +kernel
theorem dX0_become_40 : decode cX0_become 40 = .ok (.getfield 21, 3) := by decide +kernel
theorem dX0_become_43 : decode cX0_become 43 = .ok (.putfield 21, 3) := by decide +kernel
theorem dX0_become_46 : decode cX0_become 46 = .ok (.aload_n 0, 1) := by decide +kernel
theorem dX0_become_47 : decode cX0_become 47 = .ok (.aload_n 1, 1) := by decide +kernel
theorem dX0_become_48 : decode cX0_become 48 = .ok (.getfield 29, 3) := by decide +kernel
theorem dX0_become_51 : decode cX0_become 51 = .ok (.putfield 29, 3) := by decide +kernel
theorem dX0_become_54 : decode cX0_become 54 = .ok (.return_, 1) := by decide +kernel
set_option maxRecDepth 20000 in
theorem ggX0_isOlder_X0_yearOf : GoodIn wsX0_isOlder wsX0_yearOf := goodIn_r _ [5, 6, 7, 8, 9, 4, 10, 11, 12, 13, 14, 15] (by decide +kernel) (by decide +kernel)
set_option maxRecDepth 20000 in
theorem gX0_isOlder_X0_yearOf : GoodIn wsX0_isOlder (wsV RX0 32 RX0 yX0_yearOf wsX0_yearOf) := goodIn_app (goodIn_of _ (by decide +kernel)) ggX0_isOlder_X0_yearOf
theorem dX0_isOlder_0 : decode cX0_isOlder 0 = .ok (.aload_n 0, 1) := by decide +kernel
theorem dX0_isOlder_1 : decode cX0_isOlder 1 = .ok (.iload_n 1, 1) := by decide +kernel
theorem dX0_isOlder_2 : decode cX0_isOlder 2 = .ok (.invokevirtual 32, 3) := by decide +kernel
theorem dX0_isOlder_5 : decode cX0_isOlder 5 = .ok (.aload_n 0, 1) := by decide +kernel
theorem dX0_isOlder_6 : decode cX0_isOlder 6 = .ok (.iload_n 2, 1) := by decide +kernel
theorem dX0_isOlder_7 : decode cX0_isOlder 7 = .ok (.invokevirtual 32, 3) := by decide +kernel
theorem dX0_isOlder_10 : decode cX0_isOlder 10 = .ok (.isub, 1) := by decide +kernel
theorem dX0_isOlder_11 : decode cX0_isOlder 11 = .ok (.istore_n 3, 1) := by decide +kernel
theorem dX0_isOlder_12 : decode cX0_isOlder 12 = .ok (.iload_n 3, 1) := by decide +kernel
theorem dX0_isOlder_13 : decode cX0_isOlder 13 = .ok (.ifCond .lt 12, 3) := by decide +kernel
theorem dX0_isOlder_16 : decode cX0_isOlder 16 = .ok (.iload_n 3, 1) := by decide +kernel
theorem dX0_isOlder_17 : decode cX0_isOlder 17 = .ok (.ifCond .ne 12, 3) := by decide +kernel
theorem dX0_isOlder_20 : decode cX0_isOlder 20 = .ok (.iload_n 1, 1) := by decide +kernel
theorem dX0_isOlder_21 : decode cX0_isOlder 21 = .ok (.iload_n 2, 1) := by decide +kernel
theorem dX0_isOlder_22 : decode cX0_isOlder 22 = .ok (.if_icmp .ge 7, 3) := by decide +kernel
theorem dX0_isOlder_25 : decode cX0_isOlder 25 = .ok (.iconst 1, 1) := by decide +kernel
theorem dX0_isOlder_26 : decode cX0_isOlder 26 = .ok (.goto 4, 3) := by decide +kernel
theorem dX0_isOlder_29 : decode cX0_isOlder 29 = .ok (.iconst 0, 1) := by decide +kernel
theorem dX0_isOlder_30 : decode cX0_isOlder 30 = .ok (.ireturn, 1) := by decide +kernel
set_option maxRecDepth 20000 in
theorem ggX0_howManyOlder_X0_isOlder : GoodIn wsX0_howManyOlder wsX0_isOlder := goodIn_r _ [6, 7, 8, 9, 5, 10, 11, 12, 13, 14, 15, 1, 16, 17, 18, 19] (by decide +kernel) (by decide +kernel)
set_option maxRecDepth 20000 in
theorem gX0_howManyOlder_X0_isOlder : GoodIn wsX0_howManyOlder (wsV RX0 36 RX0 yX0_isOlder wsX0_isOlder) := goodIn_app (goodIn_of _ (by decide +kernel)) ggX0_howManyOlder_X0_isOlder
theorem dX0_howManyOlder_0 : decode cX0_howManyOlder 0 = .ok (.iconst 0, 1) := by decide +kernel
theorem dX0_howManyOlder_1 : decode cX0_howManyOlder 1 = .ok (.istore_n 2, 1) := by decide +kernel
theorem dX0_howManyOlder_2 : decode cX0_howManyOlder 2 = .ok (.iconst 0, 1) := by decide +kernel
theorem dX0_howManyOlder_3 : decode cX0_howManyOlder 3 = .ok (.istore_n 3, 1) := by decide +kernel
theorem dX0_howManyOlder_4 : decode cX0_howManyOlder 4 = .ok (.iload_n 3, 1) := by decide +kernel
theorem dX0_howManyOlder_5 : decode cX0_howManyOlder 5 = .ok (.aload_n 0, 1) := by decide +kernel
theorem dX0_howManyOlder_6 : decode cX0_howManyOlder 6 = .ok (.getfield 21, 3) := by decide +kernel
theorem dX0_howManyOlder_9 : decode cX0_howManyOlder 9 = .ok (.if_icmp .ge 21, 3) := by decide +kernel
theorem dX0_howManyOlder_12 : decode cX0_howManyOlder 12 = .ok (.aload_n 0, 1) := by decide +kernel
theorem dX0_howManyOlder_13 : decode cX0_howManyOlder 13 = .ok (.iload_n 3, 1) := by decide +kernel
theorem dX0_howManyOlder_14 : decode cX0_howManyOlder 14 = .ok (.iload_n 1, 1) := by decide +kernel
theorem dX0_howManyOlder_15 : decode cX0_howManyOlder 15 = .ok (.invokevirtual 36, 3) := by decide +kernel
theorem dX0_howManyOlder_18 : decode cX0_howManyOlder 18 = .ok (.ifCond .eq 6, 3) := by decide +kernel
theorem dX0_howManyOlder_21 : decode cX0_howManyOlder 21 = .ok (.iinc 2 1, 3) := by decide +kernel
theorem dX0_howManyOlder_24 : decode cX0_howManyOlder 24 = .ok (.iinc 3 1, 3) := by decide +kernel
theorem dX0_howManyOlder_27 : decode cX0_howManyOlder 27 = .ok (.goto (-23), 3) := by decide +kernel
theorem dX0_howManyOlder_30 : decode cX0_howManyOlder 30 = .ok (.iload_n 2, 1) := by decide +kernel
theorem dX0_howManyOlder_31 : decode cX0_howManyOlder 31 = .ok (.ireturn, 1) := by decide +kernel
set_option maxRecDepth 20000 in
theorem ggX0_heldRow_X0_plotAt : GoodIn wsX0_heldRow wsX0_plotAt := goodIn_r _ [6, 7, 8, 9, 10, 5, 11, 12, 21, 22, 23, 24] (by decide +kernel) (by decide +kernel)
set_option maxRecDepth 20000 in
theorem gX0_heldRow_X0_plotAt : GoodIn wsX0_heldRow (wsV RX0 40 RX0 yX0_plotAt wsX0_plotAt) := goodIn_app (goodIn_of _ (by decide +kernel)) ggX0_heldRow_X0_plotAt
set_option maxRecDepth 20000 in
theorem ggX0_heldRow_X6_isPlace : GoodIn wsX0_heldRow wsX6_isPlace := goodIn_r _ [15] (by decide +kernel) (by decide +kernel)
set_option maxRecDepth 20000 in
theorem gX0_heldRow_X6_isPlace_n44 : GoodIn wsX0_heldRow (wsX6_isPlace) := ggX0_heldRow_X6_isPlace
theorem dX0_heldRow_0 : decode cX0_heldRow 0 = .ok (.aload_n 0, 1) := by decide +kernel
theorem dX0_heldRow_1 : decode cX0_heldRow 1 = .ok (.iload_n 1, 1) := by decide +kernel
theorem dX0_heldRow_2 : decode cX0_heldRow 2 = .ok (.invokevirtual 40, 3) := by decide +kernel
theorem dX0_heldRow_5 : decode cX0_heldRow 5 = .ok (.astore_n 3, 1) := by decide +kernel
theorem dX0_heldRow_6 : decode cX0_heldRow 6 = .ok (.aload_n 3, 1) := by decide +kernel
theorem dX0_heldRow_7 : decode cX0_heldRow 7 = .ok (.ifnull 19, 3) := by decide +kernel
theorem dX0_heldRow_10 : decode cX0_heldRow 10 = .ok (.iload_n 2, 1) := by decide +kernel
theorem dX0_heldRow_11 : decode cX0_heldRow 11 = .ok (.invokestatic 44, 3) := by decide +kernel
theorem dX0_heldRow_14 : decode cX0_heldRow 14 = .ok (.ifCond .eq 12, 3) := by decide +kernel
theorem dX0_heldRow_17 : decode cX0_heldRow 17 = .ok (.aload_n 3, 1) := by decide +kernel
theorem dX0_heldRow_18 : decode cX0_heldRow 18 = .ok (.getfield 47, 3) := by decide +kernel
theorem dX0_heldRow_21 : decode cX0_heldRow 21 = .ok (.iload_n 2, 1) := by decide +kernel
theorem dX0_heldRow_22 : decode cX0_heldRow 22 = .ok (.iaload, 1) := by decide +kernel
theorem dX0_heldRow_23 : decode cX0_heldRow 23 = .ok (.goto 4, 3) := by decide +kernel
theorem dX0_heldRow_26 : decode cX0_heldRow 26 = .ok (.iconst 0, 1) := by decide +kernel
theorem dX0_heldRow_27 : decode cX0_heldRow 27 = .ok (.ireturn, 1) := by decide +kernel
set_option maxRecDepth 20000 in
theorem ggX0_oldestThatHolds_X0_heldRow : GoodIn wsX0_oldestThatHolds wsX0_heldRow := goodIn_r _ [6, 7, 8, 9, 10, 5, 11, 12, 13, 14, 15, 16, 1, 17, 18, 19, 35, 36, 37, 38, 39, 31, 32, 33, 34] (by decide +kernel) (by decide +kernel)
set_option maxRecDepth 20000 in
theorem gX0_oldestThatHolds_X0_heldRow : GoodIn wsX0_oldestThatHolds (wsV RX0 50 RX0 yX0_heldRow wsX0_heldRow) := goodIn_app (goodIn_of _ (by decide +kernel)) ggX0_oldestThatHolds_X0_heldRow
set_option maxRecDepth 20000 in
theorem ggX0_oldestThatHolds_X6_isIn : GoodIn wsX0_oldestThatHolds wsX6_isIn := goodIn_r _ [21] (by decide +kernel) (by decide +kernel)
set_option maxRecDepth 20000 in
theorem gX0_oldestThatHolds_X6_isIn_n54 : GoodIn wsX0_oldestThatHolds (wsX6_isIn) := ggX0_oldestThatHolds_X6_isIn
set_option maxRecDepth 20000 in
theorem ggX0_oldestThatHolds_X0_isOlder : GoodIn wsX0_oldestThatHolds wsX0_isOlder := goodIn_r _ [25, 26, 27, 28, 5, 29, 30, 13, 14, 15, 16, 1, 31, 32, 33, 34] (by decide +kernel) (by decide +kernel)
set_option maxRecDepth 20000 in
theorem gX0_oldestThatHolds_X0_isOlder : GoodIn wsX0_oldestThatHolds (wsV RX0 36 RX0 yX0_isOlder wsX0_isOlder) := goodIn_app (goodIn_of _ (by decide +kernel)) ggX0_oldestThatHolds_X0_isOlder
theorem dX0_oldestThatHolds_0 : decode cX0_oldestThatHolds 0 = .ok (.bipush (-6), 2) := by decide +kernel
theorem dX0_oldestThatHolds_2 : decode cX0_oldestThatHolds 2 = .ok (.istore_n 3, 1) := by decide +kernel
theorem dX0_oldestThatHolds_3 : decode cX0_oldestThatHolds 3 = .ok (.iconst 0, 1) := by decide +kernel
theorem dX0_oldestThatHolds_4 : decode cX0_oldestThatHolds 4 = .ok (.istore 4, 2) := by decide +kernel
theorem dX0_oldestThatHolds_6 : decode cX0_oldestThatHolds 6 = .ok (.iload 4, 2) := by decide +kernel
theorem dX0_oldestThatHolds_8 : decode cX0_oldestThatHolds 8 = .ok (.aload_n 0, 1) := by decide +kernel
theorem dX0_oldestThatHolds_9 : decode cX0_oldestThatHolds 9 = .ok (.getfield 21, 3) := by decide +kernel
theorem dX0_oldestThatHolds_12 : decode cX0_oldestThatHolds 12 = .ok (.if_icmp .ge 42, 3) := by decide +kernel
theorem dX0_oldestThatHolds_15 : decode cX0_oldestThatHolds 15 = .ok (.aload_n 0, 1) := by decide +kernel
theorem dX0_oldestThatHolds_16 : decode cX0_oldestThatHolds 16 = .ok (.iload 4, 2) := by decide +kernel
theorem dX0_oldestThatHolds_18 : decode cX0_oldestThatHolds 18 = .ok (.iload_n 2, 1) := by decide +kernel
theorem dX0_oldestThatHolds_19 : decode cX0_oldestThatHolds 19 = .ok (.invokevirtual 50, 3) := by decide +kernel
theorem dX0_oldestThatHolds_22 : decode cX0_oldestThatHolds 22 = .ok (.iload_n 1, 1) := by decide +kernel
theorem dX0_oldestThatHolds_23 : decode cX0_oldestThatHolds 23 = .ok (.invokestatic 54, 3) := by decide +kernel
theorem dX0_oldestThatHolds_26 : decode cX0_oldestThatHolds 26 = .ok (.ifCond .eq 22, 3) := by decide +kernel
theorem dX0_oldestThatHolds_29 : decode cX0_oldestThatHolds 29 = .ok (.iload_n 3, 1) := by decide +kernel
theorem dX0_oldestThatHolds_30 : decode cX0_oldestThatHolds 30 = .ok (.bipush (-6), 2) := by decide +kernel
theorem dX0_oldestThatHolds_32 : decode cX0_oldestThatHolds 32 = .ok (.if_icmp .eq 13, 3) := by decide +kernel
theorem dX0_oldestThatHolds_35 : decode cX0_oldestThatHolds 35 = .ok (.aload_n 0, 1) := by decide +kernel
theorem dX0_oldestThatHolds_36 : decode cX0_oldestThatHolds 36 = .ok (.iload 4, 2) := by decide +kernel
theorem dX0_oldestThatHolds_38 : decode cX0_oldestThatHolds 38 = .ok (.iload_n 3, 1) := by decide +kernel
theorem dX0_oldestThatHolds_39 : decode cX0_oldestThatHolds 39 = .ok (.invokevirtual 36, 3) := by decide +kernel
theorem dX0_oldestThatHolds_42 : decode cX0_oldestThatHolds 42 = .ok (.ifCond .eq 6, 3) := by decide +kernel
theorem dX0_oldestThatHolds_45 : decode cX0_oldestThatHolds 45 = .ok (.iload 4, 2) := by decide +kernel
theorem dX0_oldestThatHolds_47 : decode cX0_oldestThatHolds 47 = .ok (.istore_n 3, 1) := by decide +kernel
theorem dX0_oldestThatHolds_48 : decode cX0_oldestThatHolds 48 = .ok (.iinc 4 1, 3) := by decide +kernel
theorem dX0_oldestThatHolds_51 : decode cX0_oldestThatHolds 51 = .ok (.goto (-45), 3) := by decide +kernel
theorem dX0_oldestThatHolds_54 : decode cX0_oldestThatHolds 54 = .ok (.iload_n 3, 1) := by decide +kernel
theorem dX0_oldestThatHolds_55 : decode cX0_oldestThatHolds 55 = .ok (.ireturn, 1) := by decide +kernel
set_option maxRecDepth 20000 in
theorem ggX0_howManyLost_X0_isOlder : GoodIn wsX0_howManyLost wsX0_isOlder := goodIn_r _ [6, 7, 8, 9, 5, 10, 11, 12, 13, 14, 15, 1, 36, 37, 38, 39] (by decide +kernel) (by decide +kernel)
set_option maxRecDepth 20000 in
theorem gX0_howManyLost_X0_isOlder : GoodIn wsX0_howManyLost (wsV RX0 36 RX0 yX0_isOlder wsX0_isOlder) := goodIn_app (goodIn_of _ (by decide +kernel)) ggX0_howManyLost_X0_isOlder
set_option maxRecDepth 20000 in
theorem ggX0_howManyLost_X0_heldRow : GoodIn wsX0_howManyLost wsX0_heldRow := goodIn_r _ [19, 20, 21, 22, 23, 5, 24, 25, 12, 13, 14, 15, 1, 26, 27, 28, 40, 41, 42, 43, 44, 36, 37, 38, 39] (by decide +kernel) (by decide +kernel)
set_option maxRecDepth 20000 in
theorem gX0_howManyLost_X0_heldRow : GoodIn wsX0_howManyLost (wsV RX0 50 RX0 yX0_heldRow wsX0_heldRow) := goodIn_app (goodIn_of _ (by decide +kernel)) ggX0_howManyLost_X0_heldRow
set_option maxRecDepth 20000 in
theorem ggX0_howManyLost_J6_bitCount_0f7a4 : GoodIn wsX0_howManyLost wsJ6_bitCount_0f7a4 := goodIn_r _ [32, 33, 34, 35] (by decide +kernel) (by decide +kernel)
set_option maxRecDepth 20000 in
theorem gX0_howManyLost_J6_bitCount_0f7a4 : GoodIn wsX0_howManyLost (va_wsS RX0 57 yJ6_bitCount_0f7a4 wsJ6_bitCount_0f7a4) := goodIn_app (goodIn_of _ (by decide +kernel)) ggX0_howManyLost_J6_bitCount_0f7a4
theorem dX0_howManyLost_0 : decode cX0_howManyLost 0 = .ok (.iconst 0, 1) := by decide +kernel
theorem dX0_howManyLost_1 : decode cX0_howManyLost 1 = .ok (.istore_n 2, 1) := by decide +kernel
theorem dX0_howManyLost_2 : decode cX0_howManyLost 2 = .ok (.iconst 0, 1) := by decide +kernel
theorem dX0_howManyLost_3 : decode cX0_howManyLost 3 = .ok (.istore_n 3, 1) := by decide +kernel
theorem dX0_howManyLost_4 : decode cX0_howManyLost 4 = .ok (.iload_n 3, 1) := by decide +kernel
theorem dX0_howManyLost_5 : decode cX0_howManyLost 5 = .ok (.bipush 32, 2) := by decide +kernel
theorem dX0_howManyLost_7 : decode cX0_howManyLost 7 = .ok (.if_icmp .ge 67, 3) := by decide +kernel
theorem dX0_howManyLost_10 : decode cX0_howManyLost 10 = .ok (.iconst 0, 1) := by decide +kernel
theorem dX0_howManyLost_11 : decode cX0_howManyLost 11 = .ok (.istore 4, 2) := by decide +kernel
theorem dX0_howManyLost_13 : decode cX0_howManyLost 13 = .ok (.iconst 0, 1) := by decide +kernel
theorem dX0_howManyLost_14 : decode cX0_howManyLost 14 = .ok (.istore 5, 2) := by decide +kernel
theorem dX0_howManyLost_16 : decode cX0_howManyLost 16 = .ok (.iload 5, 2) := by decide +kernel
theorem dX0_howManyLost_18 : decode cX0_howManyLost 18 = .ok (.aload_n 0, 1) := by decide +kernel
theorem dX0_howManyLost_19 : decode cX0_howManyLost 19 = .ok (.getfield 21, 3) := by decide +kernel
theorem dX0_howManyLost_22 : decode cX0_howManyLost 22 = .ok (.if_icmp .ge 31, 3) := by decide +kernel
theorem dX0_howManyLost_25 : decode cX0_howManyLost 25 = .ok (.aload_n 0, 1) := by decide +kernel
theorem dX0_howManyLost_26 : decode cX0_howManyLost 26 = .ok (.iload 5, 2) := by decide +kernel
theorem dX0_howManyLost_28 : decode cX0_howManyLost 28 = .ok (.iload_n 1, 1) := by decide +kernel
theorem dX0_howManyLost_29 : decode cX0_howManyLost 29 = .ok (.invokevirtual 36, 3) := by decide +kernel
theorem dX0_howManyLost_32 : decode cX0_howManyLost 32 = .ok (.ifCond .eq 15, 3) := by decide +kernel
theorem dX0_howManyLost_35 : decode cX0_howManyLost 35 = .ok (.iload 4, 2) := by decide +kernel
theorem dX0_howManyLost_37 : decode cX0_howManyLost 37 = .ok (.aload_n 0, 1) := by decide +kernel
theorem dX0_howManyLost_38 : decode cX0_howManyLost 38 = .ok (.iload 5, 2) := by decide +kernel
theorem dX0_howManyLost_40 : decode cX0_howManyLost 40 = .ok (.iload_n 3, 1) := by decide +kernel
theorem dX0_howManyLost_41 : decode cX0_howManyLost 41 = .ok (.invokevirtual 50, 3) := by decide +kernel
theorem dX0_howManyLost_44 : decode cX0_howManyLost 44 = .ok (.ior, 1) := by decide +kernel
theorem dX0_howManyLost_45 : decode cX0_howManyLost 45 = .ok (.istore 4, 2) := by decide +kernel
theorem dX0_howManyLost_47 : decode cX0_howManyLost 47 = .ok (.iinc 5 1, 3) := by decide +kernel
theorem dX0_howManyLost_50 : decode cX0_howManyLost 50 = .ok (.goto (-34), 3) := by decide +kernel
theorem dX0_howManyLost_53 : decode cX0_howManyLost 53 = .ok (.iload_n 2, 1) := by decide +kernel
theorem dX0_howManyLost_54 : decode cX0_howManyLost 54 = .ok (.aload_n 0, 1) := by decide +kernel
theorem dX0_howManyLost_55 : decode cX0_howManyLost 55 = .ok (.iload_n 1, 1) := by decide +kernel
theorem dX0_howManyLost_56 : decode cX0_howManyLost 56 = .ok (.iload_n 3, 1) := by decide +kernel
theorem dX0_howManyLost_57 : decode cX0_howManyLost 57 = .ok (.invokevirtual 50, 3) := by decide +kernel
theorem dX0_howManyLost_60 : decode cX0_howManyLost 60 = .ok (.iload 4, 2) := by decide +kernel
theorem dX0_howManyLost_62 : decode cX0_howManyLost 62 = .ok (.iand, 1) := by decide +kernel
theorem dX0_howManyLost_63 : decode cX0_howManyLost 63 = .ok (.invokestatic 57, 3) := by decide +kernel
theorem dX0_howManyLost_66 : decode cX0_howManyLost 66 = .ok (.iadd, 1) := by decide +kernel
theorem dX0_howManyLost_67 : decode cX0_howManyLost 67 = .ok (.istore_n 2, 1) := by decide +kernel
theorem dX0_howManyLost_68 : decode cX0_howManyLost 68 = .ok (.iinc 3 1, 3) := by decide +kernel
theorem dX0_howManyLost_71 : decode cX0_howManyLost 71 = .ok (.goto (-67), 3) := by decide +kernel
theorem dX0_howManyLost_74 : decode cX0_howManyLost 74 = .ok (.iload_n 2, 1) := by decide +kernel
theorem dX0_howManyLost_75 : decode cX0_howManyLost 75 = .ok (.ireturn, 1) := by decide +kernel
set_option maxRecDepth 20000 in
theorem ggX0_howManyDisputed_X0_heldRow : GoodIn wsX0_howManyDisputed wsX0_heldRow := goodIn_r _ [6, 7, 8, 9, 10, 5, 11, 12, 13, 14, 15, 16, 1, 17, 18, 19, 31, 32, 33, 34, 35, 27, 28, 29, 30] (by decide +kernel) (by decide +kernel)
set_option maxRecDepth 20000 in
theorem gX0_howManyDisputed_X0_heldRow : GoodIn wsX0_howManyDisputed (wsV RX0 50 RX0 yX0_heldRow wsX0_heldRow) := goodIn_app (goodIn_of _ (by decide +kernel)) ggX0_howManyDisputed_X0_heldRow
set_option maxRecDepth 20000 in
theorem ggX0_howManyDisputed_J6_bitCount_0f7a4 : GoodIn wsX0_howManyDisputed wsJ6_bitCount_0f7a4 := goodIn_r _ [23, 24, 25, 26] (by decide +kernel) (by decide +kernel)
set_option maxRecDepth 20000 in
theorem gX0_howManyDisputed_J6_bitCount_0f7a4 : GoodIn wsX0_howManyDisputed (va_wsS RX0 57 yJ6_bitCount_0f7a4 wsJ6_bitCount_0f7a4) := goodIn_app (goodIn_of _ (by decide +kernel)) ggX0_howManyDisputed_J6_bitCount_0f7a4
theorem dX0_howManyDisputed_0 : decode cX0_howManyDisputed 0 = .ok (.iconst 0, 1) := by decide +kernel
theorem dX0_howManyDisputed_1 : decode cX0_howManyDisputed 1 = .ok (.istore_n 1, 1) := by decide +kernel
theorem dX0_howManyDisputed_2 : decode cX0_howManyDisputed 2 = .ok (.iconst 0, 1) := by decide +kernel
theorem dX0_howManyDisputed_3 : decode cX0_howManyDisputed 3 = .ok (.istore_n 2, 1) := by decide +kernel
theorem dX0_howManyDisputed_4 : decode cX0_howManyDisputed 4 = .ok (.iload_n 2, 1) := by decide +kernel
theorem dX0_howManyDisputed_5 : decode cX0_howManyDisputed 5 = .ok (.bipush 32, 2) := by decide +kernel
theorem dX0_howManyDisputed_7 : decode cX0_howManyDisputed 7 = .ok (.if_icmp .ge 63, 3) := by decide +kernel
theorem dX0_howManyDisputed_10 : decode cX0_howManyDisputed 10 = .ok (.iconst 0, 1) := by decide +kernel
theorem dX0_howManyDisputed_11 : decode cX0_howManyDisputed 11 = .ok (.istore_n 3, 1) := by decide +kernel
theorem dX0_howManyDisputed_12 : decode cX0_howManyDisputed 12 = .ok (.iconst 0, 1) := by decide +kernel
theorem dX0_howManyDisputed_13 : decode cX0_howManyDisputed 13 = .ok (.istore 4, 2) := by decide +kernel
theorem dX0_howManyDisputed_15 : decode cX0_howManyDisputed 15 = .ok (.iconst 0, 1) := by decide +kernel
theorem dX0_howManyDisputed_16 : decode cX0_howManyDisputed 16 = .ok (.istore 5, 2) := by decide +kernel
theorem dX0_howManyDisputed_18 : decode cX0_howManyDisputed 18 = .ok (.iload 5, 2) := by decide +kernel
theorem dX0_howManyDisputed_20 : decode cX0_howManyDisputed 20 = .ok (.aload_n 0, 1) := by decide +kernel
theorem dX0_howManyDisputed_21 : decode cX0_howManyDisputed 21 = .ok (.getfield 21, 3) := by decide +kernel
theorem dX0_howManyDisputed_24 : decode cX0_howManyDisputed 24 = .ok (.if_icmp .ge 32, 3) := by decide +kernel
theorem dX0_howManyDisputed_27 : decode cX0_howManyDisputed 27 = .ok (.aload_n 0, 1) := by decide +kernel
theorem dX0_howManyDisputed_28 : decode cX0_howManyDisputed 28 = .ok (.iload 5, 2) := by decide +kernel
theorem dX0_howManyDisputed_30 : decode cX0_howManyDisputed 30 = .ok (.iload_n 2, 1) := by decide +kernel
theorem dX0_howManyDisputed_31 : decode cX0_howManyDisputed 31 = .ok (.invokevirtual 50, 3) := by decide +kernel
theorem dX0_howManyDisputed_34 : decode cX0_howManyDisputed 34 = .ok (.istore 6, 2) := by decide +kernel
theorem dX0_howManyDisputed_36 : decode cX0_howManyDisputed 36 = .ok (.iload 4, 2) := by decide +kernel
theorem dX0_howManyDisputed_38 : decode cX0_howManyDisputed 38 = .ok (.iload_n 3, 1) := by decide +kernel
theorem dX0_howManyDisputed_39 : decode cX0_howManyDisputed 39 = .ok (.iload 6, 2) := by decide +kernel
theorem dX0_howManyDisputed_41 : decode cX0_howManyDisputed 41 = .ok (.iand, 1) := by decide +kernel
theorem dX0_howManyDisputed_42 : decode cX0_howManyDisputed 42 = .ok (.ior, 1) := by decide +kernel
theorem dX0_howManyDisputed_43 : decode cX0_howManyDisputed 43 = .ok (.istore 4, 2) := by decide +kernel
theorem dX0_howManyDisputed_45 : decode cX0_howManyDisputed 45 = .ok (.iload_n 3, 1) := by decide +kernel
theorem dX0_howManyDisputed_46 : decode cX0_howManyDisputed 46 = .ok (.iload 6, 2) := by decide +kernel
theorem dX0_howManyDisputed_48 : decode cX0_howManyDisputed 48 = .ok (.ior, 1) := by decide +kernel
theorem dX0_howManyDisputed_49 : decode cX0_howManyDisputed 49 = .ok (.istore_n 3, 1) := by decide +kernel
theorem dX0_howManyDisputed_50 : decode cX0_howManyDisputed 50 = .ok (.iinc 5 1, 3) := by decide +kernel
theorem dX0_howManyDisputed_53 : decode cX0_howManyDisputed 53 = .ok (.goto (-35), 3) := by decide +kernel
theorem dX0_howManyDisputed_56 : decode cX0_howManyDisputed 56 = .ok (.iload_n 1, 1) := by decide +kernel
theorem dX0_howManyDisputed_57 : decode cX0_howManyDisputed 57 = .ok (.iload 4, 2) := by decide +kernel
theorem dX0_howManyDisputed_59 : decode cX0_howManyDisputed 59 = .ok (.invokestatic 57, 3) := by decide +kernel
theorem dX0_howManyDisputed_62 : decode cX0_howManyDisputed 62 = .ok (.iadd, 1) := by decide +kernel
theorem dX0_howManyDisputed_63 : decode cX0_howManyDisputed 63 = .ok (.istore_n 1, 1) := by decide +kernel
theorem dX0_howManyDisputed_64 : decode cX0_howManyDisputed 64 = .ok (.iinc 2 1, 3) := by decide +kernel
theorem dX0_howManyDisputed_67 : decode cX0_howManyDisputed 67 = .ok (.goto (-63), 3) := by decide +kernel
theorem dX0_howManyDisputed_70 : decode cX0_howManyDisputed 70 = .ok (.iload_n 1, 1) := by decide +kernel
theorem dX0_howManyDisputed_71 : decode cX0_howManyDisputed 71 = .ok (.ireturn, 1) := by decide +kernel
set_option maxRecDepth 20000 in
theorem ggX0_freeRow_X0_heldRow : GoodIn wsX0_freeRow wsX0_heldRow := goodIn_r _ [6, 7, 8, 9, 10, 5, 11, 12, 13, 14, 15, 16, 1, 17, 18, 19, 24, 25, 26, 27, 28, 20, 21, 22, 23] (by decide +kernel) (by decide +kernel)
set_option maxRecDepth 20000 in
theorem gX0_freeRow_X0_heldRow : GoodIn wsX0_freeRow (wsV RX0 50 RX0 yX0_heldRow wsX0_heldRow) := goodIn_app (goodIn_of _ (by decide +kernel)) ggX0_freeRow_X0_heldRow
theorem dX0_freeRow_0 : decode cX0_freeRow 0 = .ok (.iconst 0, 1) := by decide +kernel
theorem dX0_freeRow_1 : decode cX0_freeRow 1 = .ok (.istore_n 2, 1) := by decide +kernel
theorem dX0_freeRow_2 : decode cX0_freeRow 2 = .ok (.iconst 0, 1) := by decide +kernel
theorem dX0_freeRow_3 : decode cX0_freeRow 3 = .ok (.istore_n 3, 1) := by decide +kernel
theorem dX0_freeRow_4 : decode cX0_freeRow 4 = .ok (.iload_n 3, 1) := by decide +kernel
theorem dX0_freeRow_5 : decode cX0_freeRow 5 = .ok (.aload_n 0, 1) := by decide +kernel
theorem dX0_freeRow_6 : decode cX0_freeRow 6 = .ok (.getfield 21, 3) := by decide +kernel
theorem dX0_freeRow_9 : decode cX0_freeRow 9 = .ok (.if_icmp .ge 18, 3) := by decide +kernel
theorem dX0_freeRow_12 : decode cX0_freeRow 12 = .ok (.iload_n 2, 1) := by decide +kernel
theorem dX0_freeRow_13 : decode cX0_freeRow 13 = .ok (.aload_n 0, 1) := by decide +kernel
theorem dX0_freeRow_14 : decode cX0_freeRow 14 = .ok (.iload_n 3, 1) := by decide +kernel
theorem dX0_freeRow_15 : decode cX0_freeRow 15 = .ok (.iload_n 1, 1) := by decide +kernel
theorem dX0_freeRow_16 : decode cX0_freeRow 16 = .ok (.invokevirtual 50, 3) := by decide +kernel
theorem dX0_freeRow_19 : decode cX0_freeRow 19 = .ok (.ior, 1) := by decide +kernel
theorem dX0_freeRow_20 : decode cX0_freeRow 20 = .ok (.istore_n 2, 1) := by decide +kernel
theorem dX0_freeRow_21 : decode cX0_freeRow 21 = .ok (.iinc 3 1, 3) := by decide +kernel
theorem dX0_freeRow_24 : decode cX0_freeRow 24 = .ok (.goto (-20), 3) := by decide +kernel
theorem dX0_freeRow_27 : decode cX0_freeRow 27 = .ok (.iload_n 2, 1) := by decide +kernel
theorem dX0_freeRow_28 : decode cX0_freeRow 28 = .ok (.iconst (-1), 1) := by decide +kernel
theorem dX0_freeRow_29 : decode cX0_freeRow 29 = .ok (.ixor, 1) := by decide +kernel
theorem dX0_freeRow_30 : decode cX0_freeRow 30 = .ok (.ireturn, 1) := by decide +kernel
theorem dX1_init_0 : decode cX1_init 0 = .ok (.aload_n 0, 1) := by decide +kernel
theorem dX1_init_1 : decode cX1_init 1 = .ok (.invokespecial 1, 3) := by decide +kernel
theorem dX1_init_4 : decode cX1_init 4 = .ok (.aload_n 0, 1) := by decide +kernel
theorem dX1_init_5 : decode cX1_init 5 = .ok (.aload_n 1, 1) := by decide +kernel
theorem dX1_init_6 : decode cX1_init 6 = .ok (.putfield 7, 3) := by decide +kernel
theorem dX1_init_9 : decode cX1_init 9 = .ok (.aload_n 0, 1) := by decide +kernel
theorem dX1_init_10 : decode cX1_init 10 = .ok (.aload_n 2, 1) := by decide +kernel
theorem dX1_init_11 : decode cX1_init 11 = .ok (.putfield 13, 3) := by decide +kernel
theorem dX1_init_14 : decode cX1_init 14 = .ok (.aload_n 0, 1) := by decide +kernel
theorem dX1_init_15 : decode cX1_init 15 = .ok (.aload_n 1, 1) := by decide +kernel
theorem dX1_init_16 : decode cX1_init 16 = .ok (.arraylength, 1) := by decide +kernel
theorem dX1_init_17 : decode cX1_init 17 = .ok (.aload_n 2, 1) := by decide +kernel
theorem dX1_init_18 : decode cX1_init 18 = .ok (.arraylength, 1) := by decide +kernel
theorem dX1_init_19 : decode cX1_init 19 = .ok (.invokestatic 16, 3) := by decide +kernel
theorem dX1_init_22 : decode cX1_init 22 = .ok (.putfield 22, 3) := by decide +kernel
theorem dX1_init_25 : decode cX1_init 25 = .ok (.return_, 1) := by decide +kernel
theorem dX1_next_0 : decode cX1_next 0 = .ok (.iload_n 1, 1) := by decide +kernel
theorem dX1_next_1 : decode cX1_next 1 = .ok (.iconst 1, 1) := by decide +kernel
theorem dX1_next_2 : decode cX1_next 2 = .ok (.iadd, 1) := by decide +kernel
theorem dX1_next_3 : decode cX1_next 3 = .ok (.aload_n 0, 1) := by decide +kernel
theorem dX1_next_4 : decode cX1_next 4 = .ok (.getfield 22, 3) := by decide +kernel
theorem dX1_next_7 : decode cX1_next 7 = .ok (.if_icmp .ge 9, 3) := by decide +kernel
theorem dX1_next_10 : decode cX1_next 10 = .ok (.iload_n 1, 1) := by decide +kernel
theorem dX1_next_11 : decode cX1_next 11 = .ok (.iconst 1, 1) := by decide +kernel
theorem dX1_next_12 : decode cX1_next 12 = .ok (.iadd, 1) := by decide +kernel
theorem dX1_next_13 : decode cX1_next 13 = .ok (.goto 4, 3) := by decide +kernel
theorem dX1_next_16 : decode cX1_next 16 = .ok (.iconst 0, 1) := by decide +kernel
theorem dX1_next_17 : decode cX1_next 17 = .ok (.ireturn, 1) := by decide +kernel
set_option maxRecDepth 20000 in
theorem ggX1_stands_X6_isPost : GoodIn wsX1_stands wsX6_isPost := goodIn_r _ [6, 7, 8, 5, 9] (by decide +kernel) (by decide +kernel)
set_option maxRecDepth 20000 in
theorem gX1_stands_X6_isPost_n26 : GoodIn wsX1_stands (wsX6_isPost) := ggX1_stands_X6_isPost
set_option maxRecDepth 20000 in
theorem ggX1_stands_X1_isMerePoint : GoodIn wsX1_stands wsX1_isMerePoint := goodIn_r _ [14, 2, 3, 15, 16, 17, 13, 18, 1, 46, 47, 48] (by decide +kernel) (by decide +kernel)
set_option maxRecDepth 20000 in
theorem gX1_stands_X1_isMerePoint : GoodIn wsX1_stands (wsV RX1 32 RX1 yX1_isMerePoint wsX1_isMerePoint) := goodIn_app (goodIn_of _ (by decide +kernel)) ggX1_stands_X1_isMerePoint
set_option maxRecDepth 20000 in
theorem ggX1_stands_X1_clash : GoodIn wsX1_stands wsX1_clash := goodIn_r _ [22, 15, 16, 17, 13, 18, 1, 23, 24, 25, 26, 2, 3, 27, 28, 29, 30, 31, 32, 33, 34, 35, 36, 37, 38, 39, 40, 41, 42, 43, 44, 45, 46, 47, 48] (by decide +kernel) (by decide +kernel)
set_option maxRecDepth 20000 in
theorem gX1_stands_X1_clash : GoodIn wsX1_stands (wsV RX1 36 RX1 yX1_clash wsX1_clash) := goodIn_app (goodIn_of _ (by decide +kernel)) ggX1_stands_X1_clash
theorem dX1_stands_0 : decode cX1_stands 0 = .ok (.iconst 0, 1) := by decide +kernel
theorem dX1_stands_1 : decode cX1_stands 1 = .ok (.istore_n 1, 1) := by decide +kernel
theorem dX1_stands_2 : decode cX1_stands 2 = .ok (.iload_n 1, 1) := by decide +kernel
theorem dX1_stands_3 : decode cX1_stands 3 = .ok (.aload_n 0, 1) := by decide +kernel
theorem dX1_stands_4 : decode cX1_stands 4 = .ok (.getfield 22, 3) := by decide +kernel
theorem dX1_stands_7 : decode cX1_stands 7 = .ok (.if_icmp .ge 37, 3) := by decide +kernel
theorem dX1_stands_10 : decode cX1_stands 10 = .ok (.aload_n 0, 1) := by decide +kernel
theorem dX1_stands_11 : decode cX1_stands 11 = .ok (.getfield 7, 3) := by decide +kernel
theorem dX1_stands_14 : decode cX1_stands 14 = .ok (.iload_n 1, 1) := by decide +kernel
theorem dX1_stands_15 : decode cX1_stands 15 = .ok (.iaload, 1) := by decide +kernel
theorem dX1_stands_16 : decode cX1_stands 16 = .ok (.aload_n 0, 1) := by decide +kernel
theorem dX1_stands_17 : decode cX1_stands 17 = .ok (.getfield 13, 3) := by decide +kernel
theorem dX1_stands_20 : decode cX1_stands 20 = .ok (.iload_n 1, 1) := by decide +kernel
theorem dX1_stands_21 : decode cX1_stands 21 = .ok (.iaload, 1) := by decide +kernel
theorem dX1_stands_22 : decode cX1_stands 22 = .ok (.invokestatic 26, 3) := by decide +kernel
theorem dX1_stands_25 : decode cX1_stands 25 = .ok (.ifCond .eq 11, 3) := by decide +kernel
theorem dX1_stands_28 : decode cX1_stands 28 = .ok (.aload_n 0, 1) := by decide +kernel
theorem dX1_stands_29 : decode cX1_stands 29 = .ok (.iload_n 1, 1) := by decide +kernel
theorem dX1_stands_30 : decode cX1_stands 30 = .ok (.invokevirtual 32, 3) := by decide +kernel
theorem dX1_stands_33 : decode cX1_stands 33 = .ok (.ifCond .eq 5, 3) := by decide +kernel
theorem dX1_stands_36 : decode cX1_stands 36 = .ok (.iconst 0, 1) := by decide +kernel
theorem dX1_stands_37 : decode cX1_stands 37 = .ok (.ireturn, 1) := by decide +kernel
theorem dX1_stands_38 : decode cX1_stands 38 = .ok (.iinc 1 1, 3) := by decide +kernel
theorem dX1_stands_41 : decode cX1_stands 41 = .ok (.goto (-39), 3) := by decide +kernel
theorem dX1_stands_44 : decode cX1_stands 44 = .ok (.iconst 0, 1) := by decide +kernel
theorem dX1_stands_45 : decode cX1_stands 45 = .ok (.istore_n 1, 1) := by decide +kernel
theorem dX1_stands_46 : decode cX1_stands 46 = .ok (.iload_n 1, 1) := by decide +kernel
theorem dX1_stands_47 : decode cX1_stands 47 = .ok (.aload_n 0, 1) := by decide +kernel
theorem dX1_stands_48 : decode cX1_stands 48 = .ok (.getfield 22, 3) := by decide +kernel
theorem dX1_stands_51 : decode cX1_stands 51 = .ok (.if_icmp .ge 38, 3) := by decide +kernel
theorem dX1_stands_54 : decode cX1_stands 54 = .ok (.iload_n 1, 1) := by decide +kernel
theorem dX1_stands_55 : decode cX1_stands 55 = .ok (.iconst 1, 1) := by decide +kernel
theorem dX1_stands_56 : decode cX1_stands 56 = .ok (.iadd, 1) := by decide +kernel
theorem dX1_stands_57 : decode cX1_stands 57 = .ok (.istore_n 2, 1) := by decide +kernel
theorem dX1_stands_58 : decode cX1_stands 58 = .ok (.iload_n 2, 1) := by decide +kernel
theorem dX1_stands_59 : decode cX1_stands 59 = .ok (.aload_n 0, 1) := by decide +kernel
theorem dX1_stands_60 : decode cX1_stands 60 = .ok (.getfield 22, 3) := by decide +kernel
theorem dX1_stands_63 : decode cX1_stands 63 = .ok (.if_icmp .ge 20, 3) := by decide +kernel
theorem dX1_stands_66 : decode cX1_stands 66 = .ok (.aload_n 0, 1) := by decide +kernel
theorem dX1_stands_67 : decode cX1_stands 67 = .ok (.iload_n 1, 1) := by decide +kernel
theorem dX1_stands_68 : decode cX1_stands 68 = .ok (.iload_n 2, 1) := by decide +kernel
theorem dX1_stands_69 : decode cX1_stands 69 = .ok (.invokevirtual 36, 3) := by decide +kernel
theorem dX1_stands_72 : decode cX1_stands 72 = .ok (.ifCond .eq 5, 3) := by decide +kernel
theorem dX1_stands_75 : decode cX1_stands 75 = .ok (.iconst 0, 1) := by decide +kernel
theorem dX1_stands_76 : decode cX1_stands 76 = .ok (.ireturn, 1) := by decide +kernel
theorem dX1_stands_77 : decode cX1_stands 77 = .ok (.iinc 2 1, 3) := by decide +kernel
theorem dX1_stands_80 : decode cX1_stands 80 = .ok (.goto (-22), 3) := by decide +kernel
theorem dX1_stands_83 : decode cX1_stands 83 = .ok (.iinc 1 1, 3) := by decide +kernel
theorem dX1_stands_86 : decode cX1_stands 86 = .ok (.goto (-40), 3) := by decide +kernel
theorem dX1_stands_89 : decode cX1_stands 89 = .ok (.iconst 1, 1) := by decide +kernel
theorem dX1_stands_90 : decode cX1_stands 90 = .ok (.ireturn, 1) := by decide +kernel
set_option maxRecDepth 20000 in
theorem ggX1_isMerePoint_X1_next : GoodIn wsX1_isMerePoint wsX1_next := goodIn_r _ [7, 8, 9, 10, 11] (by decide +kernel) (by decide +kernel)
set_option maxRecDepth 20000 in
theorem gX1_isMerePoint_X1_next : GoodIn wsX1_isMerePoint (wsV RX1 39 RX1 yX1_next wsX1_next) := goodIn_app (goodIn_of _ (by decide +kernel)) ggX1_isMerePoint_X1_next
theorem dX1_isMerePoint_0 : decode cX1_isMerePoint 0 = .ok (.aload_n 0, 1) := by decide +kernel
theorem dX1_isMerePoint_1 : decode cX1_isMerePoint 1 = .ok (.iload_n 1, 1) := by decide +kernel
theorem dX1_isMerePoint_2 : decode cX1_isMerePoint 2 = .ok (.invokevirtual 39, 3) := by decide +kernel
theorem dX1_isMerePoint_5 : decode cX1_isMerePoint 5 = .ok (.istore_n 2, 1) := by decide +kernel
theorem dX1_isMerePoint_6 : decode cX1_isMerePoint 6 = .ok (.aload_n 0, 1) := by decide +kernel
theorem dX1_isMerePoint_7 : decode cX1_isMerePoint 7 = .ok (.getfield 7, 3) := by decide +kernel
theorem dX1_isMerePoint_10 : decode cX1_isMerePoint 10 = .ok (.iload_n 1, 1) := by decide +kernel
theorem dX1_isMerePoint_11 : decode cX1_isMerePoint 11 = .ok (.iaload, 1) := by decide +kernel
theorem dX1_isMerePoint_12 : decode cX1_isMerePoint 12 = .ok (.aload_n 0, 1) := by decide +kernel
theorem dX1_isMerePoint_13 : decode cX1_isMerePoint 13 = .ok (.getfield 7, 3) := by decide +kernel
theorem dX1_isMerePoint_16 : decode cX1_isMerePoint 16 = .ok (.iload_n 2, 1) := by decide +kernel
theorem dX1_isMerePoint_17 : decode cX1_isMerePoint 17 = .ok (.iaload, 1) := by decide +kernel
theorem dX1_isMerePoint_18 : decode cX1_isMerePoint 18 = .ok (.if_icmp .ne 22, 3) := by decide +kernel
theorem dX1_isMerePoint_21 : decode cX1_isMerePoint 21 = .ok (.aload_n 0, 1) := by decide +kernel
theorem dX1_isMerePoint_22 : decode cX1_isMerePoint 22 = .ok (.getfield 13, 3) := by decide +kernel
theorem dX1_isMerePoint_25 : decode cX1_isMerePoint 25 = .ok (.iload_n 1, 1) := by decide +kernel
theorem dX1_isMerePoint_26 : decode cX1_isMerePoint 26 = .ok (.iaload, 1) := by decide +kernel
theorem dX1_isMerePoint_27 : decode cX1_isMerePoint 27 = .ok (.aload_n 0, 1) := by decide +kernel
theorem dX1_isMerePoint_28 : decode cX1_isMerePoint 28 = .ok (.getfield 13, 3) := by decide +kernel
theorem dX1_isMerePoint_31 : decode cX1_isMerePoint 31 = .ok (.iload_n 2, 1) := by decide +kernel
theorem dX1_isMerePoint_32 : decode cX1_isMerePoint 32 = .ok (.iaload, 1) := by decide +kernel
theorem dX1_isMerePoint_33 : decode cX1_isMerePoint 33 = .ok (.if_icmp .ne 7, 3) := by decide +kernel
theorem dX1_isMerePoint_36 : decode cX1_isMerePoint 36 = .ok (.iconst 1, 1) := by decide +kernel
theorem dX1_isMerePoint_37 : decode cX1_isMerePoint 37 = .ok (.goto 4, 3) := by decide +kernel
theorem dX1_isMerePoint_40 : decode cX1_isMerePoint 40 = .ok (.iconst 0, 1) := by decide +kernel
theorem dX1_isMerePoint_41 : decode cX1_isMerePoint 41 = .ok (.ireturn, 1) := by decide +kernel
set_option maxRecDepth 20000 in
theorem ggX1_clash_X1_next : GoodIn wsX1_clash wsX1_next := goodIn_r _ [5, 6, 32, 33, 34] (by decide +kernel) (by decide +kernel)
set_option maxRecDepth 20000 in
theorem gX1_clash_X1_next : GoodIn wsX1_clash (wsV RX1 39 RX1 yX1_next wsX1_next) := goodIn_app (goodIn_of _ (by decide +kernel)) ggX1_clash_X1_next
set_option maxRecDepth 20000 in
theorem ggX1_clash_X1_foldsBack : GoodIn wsX1_clash wsX1_foldsBack := goodIn_r _ [10, 11, 12, 1, 2, 3, 4, 5, 6, 32, 33, 34] (by decide +kernel) (by decide +kernel)
set_option maxRecDepth 20000 in
theorem gX1_clash_X1_foldsBack : GoodIn wsX1_clash (wsV RX1 43 RX1 yX1_foldsBack wsX1_foldsBack) := goodIn_app (goodIn_of _ (by decide +kernel)) ggX1_clash_X1_foldsBack
set_option maxRecDepth 20000 in
theorem ggX1_clash_X1_touch : GoodIn wsX1_clash wsX1_touch := goodIn_r _ [16, 11, 12, 1, 2, 3, 4, 5, 6, 17, 18, 19, 20, 21, 22, 23, 24, 25, 26, 27, 28, 29, 30, 31, 32, 33, 34] (by decide +kernel) (by decide +kernel)
set_option maxRecDepth 20000 in
theorem gX1_clash_X1_touch : GoodIn wsX1_clash (wsV RX1 46 RX1 yX1_touch wsX1_touch) := goodIn_app (goodIn_of _ (by decide +kernel)) ggX1_clash_X1_touch
theorem dX1_clash_0 : decode cX1_clash 0 = .ok (.aload_n 0, 1) := by decide +kernel
theorem dX1_clash_1 : decode cX1_clash 1 = .ok (.iload_n 1, 1) := by decide +kernel
theorem dX1_clash_2 : decode cX1_clash 2 = .ok (.invokevirtual 39, 3) := by decide +kernel
theorem dX1_clash_5 : decode cX1_clash 5 = .ok (.iload_n 2, 1) := by decide +kernel
theorem dX1_clash_6 : decode cX1_clash 6 = .ok (.if_icmp .ne 10, 3) := by decide +kernel
theorem dX1_clash_9 : decode cX1_clash 9 = .ok (.aload_n 0, 1) := by decide +kernel
theorem dX1_clash_10 : decode cX1_clash 10 = .ok (.iload_n 1, 1) := by decide +kernel
theorem dX1_clash_11 : decode cX1_clash 11 = .ok (.iload_n 2, 1) := by decide +kernel
theorem dX1_clash_12 : decode cX1_clash 12 = .ok (.invokevirtual 43, 3) := by decide +kernel
theorem dX1_clash_15 : decode cX1_clash 15 = .ok (.ireturn, 1) := by decide +kernel
theorem dX1_clash_16 : decode cX1_clash 16 = .ok (.aload_n 0, 1) := by decide +kernel
theorem dX1_clash_17 : decode cX1_clash 17 = .ok (.iload_n 2, 1) := by decide +kernel
theorem dX1_clash_18 : decode cX1_clash 18 = .ok (.invokevirtual 39, 3) := by decide +kernel
theorem dX1_clash_21 : decode cX1_clash 21 = .ok (.iload_n 1, 1) := by decide +kernel
theorem dX1_clash_22 : decode cX1_clash 22 = .ok (.if_icmp .ne 10, 3) := by decide +kernel
theorem dX1_clash_25 : decode cX1_clash 25 = .ok (.aload_n 0, 1) := by decide +kernel
theorem dX1_clash_26 : decode cX1_clash 26 = .ok (.iload_n 2, 1) := by decide +kernel
theorem dX1_clash_27 : decode cX1_clash 27 = .ok (.iload_n 1, 1) := by decide +kernel
theorem dX1_clash_28 : decode cX1_clash 28 = .ok (.invokevirtual 43, 3) := by decide +kernel
theorem dX1_clash_31 : decode cX1_clash 31 = .ok (.ireturn, 1) := by decide +kernel
theorem dX1_clash_32 : decode cX1_clash 32 = .ok (.aload_n 0, 1) := by decide +kernel
theorem dX1_clash_33 : decode cX1_clash 33 = .ok (.iload_n 1, 1) := by decide +kernel
theorem dX1_clash_34 : decode cX1_clash 34 = .ok (.iload_n 2, 1) := by decide +kernel
theorem dX1_clash_35 : decode cX1_clash 35 = .ok (.invokevirtual 46, 3) := by decide +kernel
theorem dX1_clash_38 : decode cX1_clash 38 = .ok (.ireturn, 1) := by decide +kernel
set_option maxRecDepth 20000 in
theorem ggX1_foldsBack_X1_next : GoodIn wsX1_foldsBack wsX1_next := goodIn_r _ [7, 8, 9, 10, 11] (by decide +kernel) (by decide +kernel)
set_option maxRecDepth 20000 in
theorem gX1_foldsBack_X1_next : GoodIn wsX1_foldsBack (wsV RX1 39 RX1 yX1_next wsX1_next) := goodIn_app (goodIn_of _ (by decide +kernel)) ggX1_foldsBack_X1_next
theorem dX1_foldsBack_0 : decode cX1_foldsBack 0 = .ok (.aload_n 0, 1) := by decide +kernel
theorem dX1_foldsBack_1 : decode cX1_foldsBack 1 = .ok (.iload_n 2, 1) := by decide +kernel
theorem dX1_foldsBack_2 : decode cX1_foldsBack 2 = .ok (.invokevirtual 39, 3) := by decide +kernel
theorem dX1_foldsBack_5 : decode cX1_foldsBack 5 = .ok (.istore_n 3, 1) := by decide +kernel
theorem dX1_foldsBack_6 : decode cX1_foldsBack 6 = .ok (.aload_n 0, 1) := by decide +kernel
theorem dX1_foldsBack_7 : decode cX1_foldsBack 7 = .ok (.getfield 7, 3) := by decide +kernel
theorem dX1_foldsBack_10 : decode cX1_foldsBack 10 = .ok (.iload_n 1, 1) := by decide +kernel
theorem dX1_foldsBack_11 : decode cX1_foldsBack 11 = .ok (.iaload, 1) := by decide +kernel
theorem dX1_foldsBack_12 : decode cX1_foldsBack 12 = .ok (.aload_n 0, 1) := by decide +kernel
theorem dX1_foldsBack_13 : decode cX1_foldsBack 13 = .ok (.getfield 7, 3) := by decide +kernel
theorem dX1_foldsBack_16 : decode cX1_foldsBack 16 = .ok (.iload_n 2, 1) := by decide +kernel
theorem dX1_foldsBack_17 : decode cX1_foldsBack 17 = .ok (.iaload, 1) := by decide +kernel
theorem dX1_foldsBack_18 : decode cX1_foldsBack 18 = .ok (.isub, 1) := by decide +kernel
theorem dX1_foldsBack_19 : decode cX1_foldsBack 19 = .ok (.istore 4, 2) := by decide +kernel
theorem dX1_foldsBack_21 : decode cX1_foldsBack 21 = .ok (.aload_n 0, 1) := by decide +kernel
theorem dX1_foldsBack_22 : decode cX1_foldsBack 22 = .ok (.getfield 13, 3) := by decide +kernel
theorem dX1_foldsBack_25 : decode cX1_foldsBack 25 = .ok (.iload_n 1, 1) := by decide +kernel
theorem dX1_foldsBack_26 : decode cX1_foldsBack 26 = .ok (.iaload, 1) := by decide +kernel
theorem dX1_foldsBack_27 : decode cX1_foldsBack 27 = .ok (.aload_n 0, 1) := by decide +kernel
theorem dX1_foldsBack_28 : decode cX1_foldsBack 28 = .ok (.getfield 13, 3) := by decide +kernel
theorem dX1_foldsBack_31 : decode cX1_foldsBack 31 = .ok (.iload_n 2, 1) := by decide +kernel
theorem dX1_foldsBack_32 : decode cX1_foldsBack 32 = .ok (.iaload, 1) := by decide +kernel
theorem dX1_foldsBack_33 : decode cX1_foldsBack 33 = .ok (.isub, 1) := by decide +kernel
theorem dX1_foldsBack_34 : decode cX1_foldsBack 34 = .ok (.istore 5, 2) := by decide +kernel
theorem dX1_foldsBack_36 : decode cX1_foldsBack 36 = .ok (.aload_n 0, 1) := by decide +kernel
theorem dX1_foldsBack_37 : decode cX1_foldsBack 37 = .ok (.getfield 7, 3) := by decide +kernel
theorem dX1_foldsBack_40 : decode cX1_foldsBack 40 = .ok (.iload_n 3, 1) := by decide +kernel
theorem dX1_foldsBack_41 : decode cX1_foldsBack 41 = .ok (.iaload, 1) := by decide +kernel
theorem dX1_foldsBack_42 : decode cX1_foldsBack 42 = .ok (.aload_n 0, 1) := by decide +kernel
theorem dX1_foldsBack_43 : decode cX1_foldsBack 43 = .ok (.getfield 7, 3) := by decide +kernel
theorem dX1_foldsBack_46 : decode cX1_foldsBack 46 = .ok (.iload_n 2, 1) := by decide +kernel
theorem dX1_foldsBack_47 : decode cX1_foldsBack 47 = .ok (.iaload, 1) := by decide +kernel
theorem dX1_foldsBack_48 : decode cX1_foldsBack 48 = .ok (.isub, 1) := by decide +kernel
theorem dX1_foldsBack_49 : decode cX1_foldsBack 49 = .ok (.istore 6, 2) := by decide +kernel
theorem dX1_foldsBack_51 : decode cX1_foldsBack 51 = .ok (.aload_n 0, 1) := by decide +kernel
theorem dX1_foldsBack_52 : decode cX1_foldsBack 52 = .ok (.getfield 13, 3) := by decide +kernel
theorem dX1_foldsBack_55 : decode cX1_foldsBack 55 = .ok (.iload_n 3, 1) := by decide +kernel
theorem dX1_foldsBack_56 : decode cX1_foldsBack 56 = .ok (.iaload, 1) := by decide +kernel
theorem dX1_foldsBack_57 : decode cX1_foldsBack 57 = .ok (.aload_n 0, 1) := by decide +kernel
theorem dX1_foldsBack_58 : decode cX1_foldsBack 58 = .ok (.getfield 13, 3) := by decide +kernel
theorem dX1_foldsBack_61 : decode cX1_foldsBack 61 = .ok (.iload_n 2, 1) := by decide +kernel
theorem dX1_foldsBack_62 : decode cX1_foldsBack 62 = .ok (.iaload, 1) := by decide +kernel
theorem dX1_foldsBack_63 : decode cX1_foldsBack 63 = .ok (.isub, 1) := by decide +kernel
theorem dX1_foldsBack_64 : decode cX1_foldsBack 64 = .ok (.istore 7, 2) := by decide +kernel
theorem dX1_foldsBack_66 : decode cX1_foldsBack 66 = .ok (.iload 4, 2) := by decide +kernel
theorem dX1_foldsBack_68 : decode cX1_foldsBack 68 = .ok (.iload 7, 2) := by decide +kernel
theorem dX1_foldsBack_70 : decode cX1_foldsBack 70 = .ok (.imul, 1) := by decide +kernel
theorem dX1_foldsBack_71 : decode cX1_foldsBack 71 = .ok (.iload 5, 2) := by decide +kernel
theorem dX1_foldsBack_73 : decode cX1_foldsBack 73 = .ok (.iload 6, 2) := by decide +kernel
theorem dX1_foldsBack_75 : decode cX1_foldsBack 75 = .ok (.imul, 1) := by decide +kernel
theorem dX1_foldsBack_76 : decode cX1_foldsBack 76 = .ok (.if_icmp .ne 21, 3) := by decide +kernel
theorem dX1_foldsBack_79 : decode cX1_foldsBack 79 = .ok (.iload 4, 2) := by decide +kernel
theorem dX1_foldsBack_81 : decode cX1_foldsBack 81 = .ok (.iload 6, 2) := by decide +kernel
theorem dX1_foldsBack_83 : decode cX1_foldsBack 83 = .ok (.imul, 1) := by decide +kernel
theorem dX1_foldsBack_84 : decode cX1_foldsBack 84 = .ok (.iload 5, 2) := by decide +kernel
theorem dX1_foldsBack_86 : decode cX1_foldsBack 86 = .ok (.iload 7, 2) := by decide +kernel
theorem dX1_foldsBack_88 : decode cX1_foldsBack 88 = .ok (.imul, 1) := by decide +kernel
theorem dX1_foldsBack_89 : decode cX1_foldsBack 89 = .ok (.iadd, 1) := by decide +kernel
theorem dX1_foldsBack_90 : decode cX1_foldsBack 90 = .ok (.ifCond .le 7, 3) := by decide +kernel
theorem dX1_foldsBack_93 : decode cX1_foldsBack 93 = .ok (.iconst 1, 1) := by decide +kernel
theorem dX1_foldsBack_94 : decode cX1_foldsBack 94 = .ok (.goto 4, 3) := by decide +kernel
theorem dX1_foldsBack_97 : decode cX1_foldsBack 97 = .ok (.iconst 0, 1) := by decide +kernel
theorem dX1_foldsBack_98 : decode cX1_foldsBack 98 = .ok (.ireturn, 1) := by decide +kernel
set_option maxRecDepth 20000 in
theorem ggX1_touch_X1_next : GoodIn wsX1_touch wsX1_next := goodIn_r _ [7, 8, 24, 25, 26] (by decide +kernel) (by decide +kernel)
set_option maxRecDepth 20000 in
theorem gX1_touch_X1_next : GoodIn wsX1_touch (wsV RX1 39 RX1 yX1_next wsX1_next) := goodIn_app (goodIn_of _ (by decide +kernel)) ggX1_touch_X1_next
set_option maxRecDepth 20000 in
theorem ggX1_touch_X1_isOn : GoodIn wsX1_touch wsX1_isOn := goodIn_r _ [12, 1, 13, 14, 15, 16, 17, 18, 19, 2, 3, 4, 5, 6, 7, 8, 20, 21, 22, 23, 24, 25, 26] (by decide +kernel) (by decide +kernel)
set_option maxRecDepth 20000 in
theorem gX1_touch_X1_isOn : GoodIn wsX1_touch (wsV RX1 49 RX1 yX1_isOn wsX1_isOn) := goodIn_app (goodIn_of _ (by decide +kernel)) ggX1_touch_X1_isOn
set_option maxRecDepth 20000 in
theorem ggX1_touch_X1_turnAt : GoodIn wsX1_touch wsX1_turnAt := goodIn_r _ [23, 1, 2, 3, 4, 5, 6, 7, 8, 24, 25, 26] (by decide +kernel) (by decide +kernel)
set_option maxRecDepth 20000 in
theorem gX1_touch_X1_turnAt : GoodIn wsX1_touch (wsV RX1 53 RX1 yX1_turnAt wsX1_turnAt) := goodIn_app (goodIn_of _ (by decide +kernel)) ggX1_touch_X1_turnAt
theorem dX1_touch_0 : decode cX1_touch 0 = .ok (.aload_n 0, 1) := by decide +kernel
theorem dX1_touch_1 : decode cX1_touch 1 = .ok (.iload_n 1, 1) := by decide +kernel
theorem dX1_touch_2 : decode cX1_touch 2 = .ok (.invokevirtual 39, 3) := by decide +kernel
theorem dX1_touch_5 : decode cX1_touch 5 = .ok (.istore_n 3, 1) := by decide +kernel
theorem dX1_touch_6 : decode cX1_touch 6 = .ok (.aload_n 0, 1) := by decide +kernel
theorem dX1_touch_7 : decode cX1_touch 7 = .ok (.iload_n 2, 1) := by decide +kernel
theorem dX1_touch_8 : decode cX1_touch 8 = .ok (.invokevirtual 39, 3) := by decide +kernel
theorem dX1_touch_11 : decode cX1_touch 11 = .ok (.istore 4, 2) := by decide +kernel
theorem dX1_touch_13 : decode cX1_touch 13 = .ok (.aload_n 0, 1) := by decide +kernel
theorem dX1_touch_14 : decode cX1_touch 14 = .ok (.iload_n 1, 1) := by decide +kernel
theorem dX1_touch_15 : decode cX1_touch 15 = .ok (.aload_n 0, 1) := by decide +kernel
theorem dX1_touch_16 : decode cX1_touch 16 = .ok (.getfield 7, 3) := by decide +kernel
theorem dX1_touch_19 : decode cX1_touch 19 = .ok (.iload_n 2, 1) := by decide +kernel
theorem dX1_touch_20 : decode cX1_touch 20 = .ok (.iaload, 1) := by decide +kernel
theorem dX1_touch_21 : decode cX1_touch 21 = .ok (.aload_n 0, 1) := by decide +kernel
theorem dX1_touch_22 : decode cX1_touch 22 = .ok (.getfield 13, 3) := by decide +kernel
theorem dX1_touch_25 : decode cX1_touch 25 = .ok (.iload_n 2, 1) := by decide +kernel
theorem dX1_touch_26 : decode cX1_touch 26 = .ok (.iaload, 1) := by decide +kernel
theorem dX1_touch_27 : decode cX1_touch 27 = .ok (.invokevirtual 49, 3) := by decide +kernel
theorem dX1_touch_30 : decode cX1_touch 30 = .ok (.ifCond .ne 65, 3) := by decide +kernel
theorem dX1_touch_33 : decode cX1_touch 33 = .ok (.aload_n 0, 1) := by decide +kernel
theorem dX1_touch_34 : decode cX1_touch 34 = .ok (.iload_n 1, 1) := by decide +kernel
theorem dX1_touch_35 : decode cX1_touch 35 = .ok (.aload_n 0, 1) := by decide +kernel
theorem dX1_touch_36 : decode cX1_touch 36 = .ok (.getfield 7, 3) := by decide +kernel
theorem dX1_touch_39 : decode cX1_touch 39 = .ok (.iload 4, 2) := by decide +kernel
theorem dX1_touch_41 : decode cX1_touch 41 = .ok (.iaload, 1) := by decide +kernel
theorem dX1_touch_42 : decode cX1_touch 42 = .ok (.aload_n 0, 1) := by decide +kernel
theorem dX1_touch_43 : decode cX1_touch 43 = .ok (.getfield 13, 3) := by decide +kernel
theorem dX1_touch_46 : decode cX1_touch 46 = .ok (.iload 4, 2) := by decide +kernel
theorem dX1_touch_48 : decode cX1_touch 48 = .ok (.iaload, 1) := by decide +kernel
theorem dX1_touch_49 : decode cX1_touch 49 = .ok (.invokevirtual 49, 3) := by decide +kernel
theorem dX1_touch_52 : decode cX1_touch 52 = .ok (.ifCond .ne 43, 3) := by decide +kernel
theorem dX1_touch_55 : decode cX1_touch 55 = .ok (.aload_n 0, 1) := by decide +kernel
theorem dX1_touch_56 : decode cX1_touch 56 = .ok (.iload_n 2, 1) := by decide +kernel
theorem dX1_touch_57 : decode cX1_touch 57 = .ok (.aload_n 0, 1) := by decide +kernel
theorem dX1_touch_58 : decode cX1_touch 58 = .ok (.getfield 7, 3) := by decide +kernel
theorem dX1_touch_61 : decode cX1_touch 61 = .ok (.iload_n 1, 1) := by decide +kernel
theorem dX1_touch_62 : decode cX1_touch 62 = .ok (.iaload, 1) := by decide +kernel
theorem dX1_touch_63 : decode cX1_touch 63 = .ok (.aload_n 0, 1) := by decide +kernel
theorem dX1_touch_64 : decode cX1_touch 64 = .ok (.getfield 13, 3) := by decide +kernel
theorem dX1_touch_67 : decode cX1_touch 67 = .ok (.iload_n 1, 1) := by decide +kernel
theorem dX1_touch_68 : decode cX1_touch 68 = .ok (.iaload, 1) := by decide +kernel
theorem dX1_touch_69 : decode cX1_touch 69 = .ok (.invokevirtual 49, 3) := by decide +kernel
theorem dX1_touch_72 : decode cX1_touch 72 = .ok (.ifCond .ne 23, 3) := by decide +kernel
theorem dX1_touch_75 : decode cX1_touch 75 = .ok (.aload_n 0, 1) := by decide +kernel
theorem dX1_touch_76 : decode cX1_touch 76 = .ok (.iload_n 2, 1) := by decide +kernel
theorem dX1_touch_77 : decode cX1_touch 77 = .ok (.aload_n 0, 1) := by decide +kernel
theorem dX1_touch_78 : decode cX1_touch 78 = .ok (.getfield 7, 3) := by decide +kernel
theorem dX1_touch_81 : decode cX1_touch 81 = .ok (.iload_n 3, 1) := by decide +kernel
theorem dX1_touch_82 : decode cX1_touch 82 = .ok (.iaload, 1) := by decide +kernel
theorem dX1_touch_83 : decode cX1_touch 83 = .ok (.aload_n 0, 1) := by decide +kernel
theorem dX1_touch_84 : decode cX1_touch 84 = .ok (.getfield 13, 3) := by decide +kernel
theorem dX1_touch_87 : decode cX1_touch 87 = .ok (.iload_n 3, 1) := by decide +kernel
theorem dX1_touch_88 : decode cX1_touch 88 = .ok (.iaload, 1) := by decide +kernel
theorem dX1_touch_89 : decode cX1_touch 89 = .ok (.invokevirtual 49, 3) := by decide +kernel
theorem dX1_touch_92 : decode cX1_touch 92 = .ok (.ifCond .eq 5, 3) := by decide +kernel
theorem dX1_touch_95 : decode cX1_touch 95 = .ok (.iconst 1, 1) := by decide +kernel
theorem dX1_touch_96 : decode cX1_touch 96 = .ok (.ireturn, 1) := by decide +kernel
theorem dX1_touch_97 : decode cX1_touch 97 = .ok (.aload_n 0, 1) := by decide +kernel
theorem dX1_touch_98 : decode cX1_touch 98 = .ok (.iload_n 1, 1) := by decide +kernel
theorem dX1_touch_99 : decode cX1_touch 99 = .ok (.aload_n 0, 1) := by decide +kernel
theorem dX1_touch_100 : decode cX1_touch 100 = .ok (.getfield 7, 3) := by decide +kernel
theorem dX1_touch_103 : decode cX1_touch 103 = .ok (.iload_n 2, 1) := by decide +kernel
theorem dX1_touch_104 : decode cX1_touch 104 = .ok (.iaload, 1) := by decide +kernel
theorem dX1_touch_105 : decode cX1_touch 105 = .ok (.aload_n 0, 1) := by decide +kernel
theorem dX1_touch_106 : decode cX1_touch 106 = .ok (.getfield 13, 3) := by decide +kernel
theorem dX1_touch_109 : decode cX1_touch 109 = .ok (.iload_n 2, 1) := by decide +kernel
theorem dX1_touch_110 : decode cX1_touch 110 = .ok (.iaload, 1) := by decide +kernel
theorem dX1_touch_111 : decode cX1_touch 111 = .ok (.invokevirtual 53, 3) := by decide +kernel
theorem dX1_touch_114 : decode cX1_touch 114 = .ok (.istore 5, 2) := by decide +kernel
theorem dX1_touch_116 : decode cX1_touch 116 = .ok (.aload_n 0, 1) := by decide +kernel
theorem dX1_touch_117 : decode cX1_touch 117 = .ok (.iload_n 1, 1) := by decide +kernel
theorem dX1_touch_118 : decode cX1_touch 118 = .ok (.aload_n 0, 1) := by decide +kernel
theorem dX1_touch_119 : decode cX1_touch 119 = .ok (.getfield 7, 3) := by decide +kernel
theorem dX1_touch_122 : decode cX1_touch 122 = .ok (.iload 4, 2) := by decide +kernel
theorem dX1_touch_124 : decode cX1_touch 124 = .ok (.iaload, 1) := by decide +kernel
theorem dX1_touch_125 : decode cX1_touch 125 = .ok (.aload_n 0, 1) := by decide +kernel
theorem dX1_touch_126 : decode cX1_touch 126 = .ok (.getfield 13, 3) := by decide +kernel
theorem dX1_touch_129 : decode cX1_touch 129 = .ok (.iload 4, 2) := by decide +kernel
theorem dX1_touch_131 : decode cX1_touch 131 = .ok (.iaload, 1) := by decide +kernel
theorem dX1_touch_132 : decode cX1_touch 132 = .ok (.invokevirtual 53, 3) := by decide +kernel
theorem dX1_touch_135 : decode cX1_touch 135 = .ok (.istore 6, 2) := by decide +kernel
theorem dX1_touch_137 : decode cX1_touch 137 = .ok (.aload_n 0, 1) := by decide +kernel
theorem dX1_touch_138 : decode cX1_touch 138 = .ok (.iload_n 2, 1) := by decide +kernel
theorem dX1_touch_139 : decode cX1_touch 139 = .ok (.aload_n 0, 1) := by decide +kernel
theorem dX1_touch_140 : decode cX1_touch 140 = .ok (.getfield 7, 3) := by decide +kernel
theorem dX1_touch_143 : decode cX1_touch 143 = .ok (.iload_n 1, 1) := by decide +kernel
theorem dX1_touch_144 : decode cX1_touch 144 = .ok (.iaload, 1) := by decide +kernel
theorem dX1_touch_145 : decode cX1_touch 145 = .ok (.aload_n 0, 1) := by decide +kernel
theorem dX1_touch_146 : decode cX1_touch 146 = .ok (.getfield 13, 3) := by decide +kernel
theorem dX1_touch_149 : decode cX1_touch 149 = .ok (.iload_n 1, 1) := by decide +kernel
theorem dX1_touch_150 : decode cX1_touch 150 = .ok (.iaload, 1) := by decide +kernel
theorem dX1_touch_151 : decode cX1_touch 151 = .ok (.invokevirtual 53, 3) := by decide +kernel
theorem dX1_touch_154 : decode cX1_touch 154 = .ok (.istore 7, 2) := by decide +kernel
theorem dX1_touch_156 : decode cX1_touch 156 = .ok (.aload_n 0, 1) := by decide +kernel
theorem dX1_touch_157 : decode cX1_touch 157 = .ok (.iload_n 2, 1) := by decide +kernel
theorem dX1_touch_158 : decode cX1_touch 158 = .ok (.aload_n 0, 1) := by decide +kernel
theorem dX1_touch_159 : decode cX1_touch 159 = .ok (.getfield 7, 3) := by decide +kernel
theorem dX1_touch_162 : decode cX1_touch 162 = .ok (.iload_n 3, 1) := by decide +kernel
theorem dX1_touch_163 : decode cX1_touch 163 = .ok (.iaload, 1) := by decide +kernel
theorem dX1_touch_164 : decode cX1_touch 164 = .ok (.aload_n 0, 1) := by decide +kernel
theorem dX1_touch_165 : decode cX1_touch 165 = .ok (.getfield 13, 3) := by decide +kernel
theorem dX1_touch_168 : decode cX1_touch 168 = .ok (.iload_n 3, 1) := by decide +kernel
theorem dX1_touch_169 : decode cX1_touch 169 = .ok (.iaload, 1) := by decide +kernel
theorem dX1_touch_170 : decode cX1_touch 170 = .ok (.invokevirtual 53, 3) := by decide +kernel
theorem dX1_touch_173 : decode cX1_touch 173 = .ok (.istore 8, 2) := by decide +kernel
theorem dX1_touch_175 : decode cX1_touch 175 = .ok (.iload 5, 2) := by decide +kernel
theorem dX1_touch_177 : decode cX1_touch 177 = .ok (.iload 6, 2) := by decide +kernel
theorem dX1_touch_179 : decode cX1_touch 179 = .ok (.imul, 1) := by decide +kernel
theorem dX1_touch_180 : decode cX1_touch 180 = .ok (.ifCond .ge 15, 3) := by decide +kernel
theorem dX1_touch_183 : decode cX1_touch 183 = .ok (.iload 7, 2) := by decide +kernel
theorem dX1_touch_185 : decode cX1_touch 185 = .ok (.iload 8, 2) := by decide +kernel
theorem dX1_touch_187 : decode cX1_touch 187 = .ok (.imul, 1) := by decide +kernel
theorem dX1_touch_188 : decode cX1_touch 188 = .ok (.ifCond .ge 7, 3) := by decide +kernel
theorem dX1_touch_191 : decode cX1_touch 191 = .ok (.iconst 1, 1) := by decide +kernel
theorem dX1_touch_192 : decode cX1_touch 192 = .ok (.goto 4, 3) := by decide +kernel
theorem dX1_touch_195 : decode cX1_touch 195 = .ok (.iconst 0, 1) := by decide +kernel
theorem dX1_touch_196 : decode cX1_touch 196 = .ok (.ireturn, 1) := by decide +kernel
set_option maxRecDepth 20000 in
theorem ggX1_turnAt_X1_next : GoodIn wsX1_turnAt wsX1_next := goodIn_r _ [7, 8, 9, 10, 11] (by decide +kernel) (by decide +kernel)
set_option maxRecDepth 20000 in
theorem gX1_turnAt_X1_next : GoodIn wsX1_turnAt (wsV RX1 39 RX1 yX1_next wsX1_next) := goodIn_app (goodIn_of _ (by decide +kernel)) ggX1_turnAt_X1_next
theorem dX1_turnAt_0 : decode cX1_turnAt 0 = .ok (.aload_n 0, 1) := by decide +kernel
theorem dX1_turnAt_1 : decode cX1_turnAt 1 = .ok (.iload_n 1, 1) := by decide +kernel
theorem dX1_turnAt_2 : decode cX1_turnAt 2 = .ok (.invokevirtual 39, 3) := by decide +kernel
theorem dX1_turnAt_5 : decode cX1_turnAt 5 = .ok (.istore 4, 2) := by decide +kernel
theorem dX1_turnAt_7 : decode cX1_turnAt 7 = .ok (.aload_n 0, 1) := by decide +kernel
theorem dX1_turnAt_8 : decode cX1_turnAt 8 = .ok (.getfield 7, 3) := by decide +kernel
theorem dX1_turnAt_11 : decode cX1_turnAt 11 = .ok (.iload 4, 2) := by decide +kernel
theorem dX1_turnAt_13 : decode cX1_turnAt 13 = .ok (.iaload, 1) := by decide +kernel
theorem dX1_turnAt_14 : decode cX1_turnAt 14 = .ok (.aload_n 0, 1) := by decide +kernel
theorem dX1_turnAt_15 : decode cX1_turnAt 15 = .ok (.getfield 7, 3) := by decide +kernel
theorem dX1_turnAt_18 : decode cX1_turnAt 18 = .ok (.iload_n 1, 1) := by decide +kernel
theorem dX1_turnAt_19 : decode cX1_turnAt 19 = .ok (.iaload, 1) := by decide +kernel
theorem dX1_turnAt_20 : decode cX1_turnAt 20 = .ok (.isub, 1) := by decide +kernel
theorem dX1_turnAt_21 : decode cX1_turnAt 21 = .ok (.iload_n 3, 1) := by decide +kernel
theorem dX1_turnAt_22 : decode cX1_turnAt 22 = .ok (.aload_n 0, 1) := by decide +kernel
theorem dX1_turnAt_23 : decode cX1_turnAt 23 = .ok (.getfield 13, 3) := by decide +kernel
theorem dX1_turnAt_26 : decode cX1_turnAt 26 = .ok (.iload_n 1, 1) := by decide +kernel
theorem dX1_turnAt_27 : decode cX1_turnAt 27 = .ok (.iaload, 1) := by decide +kernel
theorem dX1_turnAt_28 : decode cX1_turnAt 28 = .ok (.isub, 1) := by decide +kernel
theorem dX1_turnAt_29 : decode cX1_turnAt 29 = .ok (.imul, 1) := by decide +kernel
theorem dX1_turnAt_30 : decode cX1_turnAt 30 = .ok (.aload_n 0, 1) := by decide +kernel
theorem dX1_turnAt_31 : decode cX1_turnAt 31 = .ok (.getfield 13, 3) := by decide +kernel
theorem dX1_turnAt_34 : decode cX1_turnAt 34 = .ok (.iload 4, 2) := by decide +kernel
theorem dX1_turnAt_36 : decode cX1_turnAt 36 = .ok (.iaload, 1) := by decide +kernel
theorem dX1_turnAt_37 : decode cX1_turnAt 37 = .ok (.aload_n 0, 1) := by decide +kernel
theorem dX1_turnAt_38 : decode cX1_turnAt 38 = .ok (.getfield 13, 3) := by decide +kernel
theorem dX1_turnAt_41 : decode cX1_turnAt 41 = .ok (.iload_n 1, 1) := by decide +kernel
theorem dX1_turnAt_42 : decode cX1_turnAt 42 = .ok (.iaload, 1) := by decide +kernel
theorem dX1_turnAt_43 : decode cX1_turnAt 43 = .ok (.isub, 1) := by decide +kernel
theorem dX1_turnAt_44 : decode cX1_turnAt 44 = .ok (.iload_n 2, 1) := by decide +kernel
theorem dX1_turnAt_45 : decode cX1_turnAt 45 = .ok (.aload_n 0, 1) := by decide +kernel
theorem dX1_turnAt_46 : decode cX1_turnAt 46 = .ok (.getfield 7, 3) := by decide +kernel
theorem dX1_turnAt_49 : decode cX1_turnAt 49 = .ok (.iload_n 1, 1) := by decide +kernel
theorem dX1_turnAt_50 : decode cX1_turnAt 50 = .ok (.iaload, 1) := by decide +kernel
theorem dX1_turnAt_51 : decode cX1_turnAt 51 = .ok (.isub, 1) := by decide +kernel
theorem dX1_turnAt_52 : decode cX1_turnAt 52 = .ok (.imul, 1) := by decide +kernel
theorem dX1_turnAt_53 : decode cX1_turnAt 53 = .ok (.isub, 1) := by decide +kernel
theorem dX1_turnAt_54 : decode cX1_turnAt 54 = .ok (.ireturn, 1) := by decide +kernel
set_option maxRecDepth 20000 in
theorem ggX1_isOn_X1_next : GoodIn wsX1_isOn wsX1_next := goodIn_r _ [14, 15, 20, 21, 22] (by decide +kernel) (by decide +kernel)
set_option maxRecDepth 20000 in
theorem gX1_isOn_X1_next : GoodIn wsX1_isOn (wsV RX1 39 RX1 yX1_next wsX1_next) := goodIn_app (goodIn_of _ (by decide +kernel)) ggX1_isOn_X1_next
set_option maxRecDepth 20000 in
theorem ggX1_isOn_X1_turnAt : GoodIn wsX1_isOn wsX1_turnAt := goodIn_r _ [19, 1, 9, 10, 11, 12, 13, 14, 15, 20, 21, 22] (by decide +kernel) (by decide +kernel)
set_option maxRecDepth 20000 in
theorem gX1_isOn_X1_turnAt : GoodIn wsX1_isOn (wsV RX1 53 RX1 yX1_turnAt wsX1_turnAt) := goodIn_app (goodIn_of _ (by decide +kernel)) ggX1_isOn_X1_turnAt
theorem dX1_isOn_0 : decode cX1_isOn 0 = .ok (.aload_n 0, 1) := by decide +kernel
theorem dX1_isOn_1 : decode cX1_isOn 1 = .ok (.iload_n 1, 1) := by decide +kernel
theorem dX1_isOn_2 : decode cX1_isOn 2 = .ok (.invokevirtual 39, 3) := by decide +kernel
theorem dX1_isOn_5 : decode cX1_isOn 5 = .ok (.istore 4, 2) := by decide +kernel
theorem dX1_isOn_7 : decode cX1_isOn 7 = .ok (.aload_n 0, 1) := by decide +kernel
theorem dX1_isOn_8 : decode cX1_isOn 8 = .ok (.iload_n 1, 1) := by decide +kernel
theorem dX1_isOn_9 : decode cX1_isOn 9 = .ok (.iload_n 2, 1) := by decide +kernel
theorem dX1_isOn_10 : decode cX1_isOn 10 = .ok (.iload_n 3, 1) := by decide +kernel
theorem dX1_isOn_11 : decode cX1_isOn 11 = .ok (.invokevirtual 53, 3) := by decide +kernel
theorem dX1_isOn_14 : decode cX1_isOn 14 = .ok (.ifCond .ne 87, 3) := by decide +kernel
theorem dX1_isOn_17 : decode cX1_isOn 17 = .ok (.iload_n 2, 1) := by decide +kernel
theorem dX1_isOn_18 : decode cX1_isOn 18 = .ok (.aload_n 0, 1) := by decide +kernel
theorem dX1_isOn_19 : decode cX1_isOn 19 = .ok (.getfield 7, 3) := by decide +kernel
theorem dX1_isOn_22 : decode cX1_isOn 22 = .ok (.iload_n 1, 1) := by decide +kernel
theorem dX1_isOn_23 : decode cX1_isOn 23 = .ok (.iaload, 1) := by decide +kernel
theorem dX1_isOn_24 : decode cX1_isOn 24 = .ok (.aload_n 0, 1) := by decide +kernel
theorem dX1_isOn_25 : decode cX1_isOn 25 = .ok (.getfield 7, 3) := by decide +kernel
theorem dX1_isOn_28 : decode cX1_isOn 28 = .ok (.iload 4, 2) := by decide +kernel
theorem dX1_isOn_30 : decode cX1_isOn 30 = .ok (.iaload, 1) := by decide +kernel
theorem dX1_isOn_31 : decode cX1_isOn 31 = .ok (.invokestatic 16, 3) := by decide +kernel
theorem dX1_isOn_34 : decode cX1_isOn 34 = .ok (.if_icmp .lt 67, 3) := by decide +kernel
theorem dX1_isOn_37 : decode cX1_isOn 37 = .ok (.iload_n 2, 1) := by decide +kernel
theorem dX1_isOn_38 : decode cX1_isOn 38 = .ok (.aload_n 0, 1) := by decide +kernel
theorem dX1_isOn_39 : decode cX1_isOn 39 = .ok (.getfield 7, 3) := by decide +kernel
theorem dX1_isOn_42 : decode cX1_isOn 42 = .ok (.iload_n 1, 1) := by decide +kernel
theorem dX1_isOn_43 : decode cX1_isOn 43 = .ok (.iaload, 1) := by decide +kernel
theorem dX1_isOn_44 : decode cX1_isOn 44 = .ok (.aload_n 0, 1) := by decide +kernel
theorem dX1_isOn_45 : decode cX1_isOn 45 = .ok (.getfield 7, 3) := by decide +kernel
theorem dX1_isOn_48 : decode cX1_isOn 48 = .ok (.iload 4, 2) := by decide +kernel
theorem dX1_isOn_50 : decode cX1_isOn 50 = .ok (.iaload, 1) := by decide +kernel
theorem dX1_isOn_51 : decode cX1_isOn 51 = .ok (.invokestatic 57, 3) := by decide +kernel
theorem dX1_isOn_54 : decode cX1_isOn 54 = .ok (.if_icmp .gt 47, 3) := by decide +kernel
theorem dX1_isOn_57 : decode cX1_isOn 57 = .ok (.iload_n 3, 1) := by decide +kernel
theorem dX1_isOn_58 : decode cX1_isOn 58 = .ok (.aload_n 0, 1) := by decide +kernel
theorem dX1_isOn_59 : decode cX1_isOn 59 = .ok (.getfield 13, 3) := by decide +kernel
theorem dX1_isOn_62 : decode cX1_isOn 62 = .ok (.iload_n 1, 1) := by decide +kernel
theorem dX1_isOn_63 : decode cX1_isOn 63 = .ok (.iaload, 1) := by decide +kernel
theorem dX1_isOn_64 : decode cX1_isOn 64 = .ok (.aload_n 0, 1) := by decide +kernel
theorem dX1_isOn_65 : decode cX1_isOn 65 = .ok (.getfield 13, 3) := by decide +kernel
theorem dX1_isOn_68 : decode cX1_isOn 68 = .ok (.iload 4, 2) := by decide +kernel
theorem dX1_isOn_70 : decode cX1_isOn 70 = .ok (.iaload, 1) := by decide +kernel
theorem dX1_isOn_71 : decode cX1_isOn 71 = .ok (.invokestatic 16, 3) := by decide +kernel
theorem dX1_isOn_74 : decode cX1_isOn 74 = .ok (.if_icmp .lt 27, 3) := by decide +kernel
theorem dX1_isOn_77 : decode cX1_isOn 77 = .ok (.iload_n 3, 1) := by decide +kernel
theorem dX1_isOn_78 : decode cX1_isOn 78 = .ok (.aload_n 0, 1) := by decide +kernel
theorem dX1_isOn_79 : decode cX1_isOn 79 = .ok (.getfield 13, 3) := by decide +kernel
theorem dX1_isOn_82 : decode cX1_isOn 82 = .ok (.iload_n 1, 1) := by decide +kernel
theorem dX1_isOn_83 : decode cX1_isOn 83 = .ok (.iaload, 1) := by decide +kernel
theorem dX1_isOn_84 : decode cX1_isOn 84 = .ok (.aload_n 0, 1) := by decide +kernel
theorem dX1_isOn_85 : decode cX1_isOn 85 = .ok (.getfield 13, 3) := by decide +kernel
theorem dX1_isOn_88 : decode cX1_isOn 88 = .ok (.iload 4, 2) := by decide +kernel
theorem dX1_isOn_90 : decode cX1_isOn 90 = .ok (.iaload, 1) := by decide +kernel
theorem dX1_isOn_91 : decode cX1_isOn 91 = .ok (.invokestatic 57, 3) := by decide +kernel
theorem dX1_isOn_94 : decode cX1_isOn 94 = .ok (.if_icmp .gt 7, 3) := by decide +kernel
theorem dX1_isOn_97 : decode cX1_isOn 97 = .ok (.iconst 1, 1) := by decide +kernel
theorem dX1_isOn_98 : decode cX1_isOn 98 = .ok (.goto 4, 3) := by decide +kernel
theorem dX1_isOn_101 : decode cX1_isOn 101 = .ok (.iconst 0, 1) := by decide +kernel
theorem dX1_isOn_102 : decode cX1_isOn 102 = .ok (.ireturn, 1) := by decide +kernel
set_option maxRecDepth 20000 in
theorem ggX1_markPostsOn_X1_next : GoodIn wsX1_markPostsOn wsX1_next := goodIn_r _ [11, 12, 21, 22, 23] (by decide +kernel) (by decide +kernel)
set_option maxRecDepth 20000 in
theorem gX1_markPostsOn_X1_next : GoodIn wsX1_markPostsOn (wsV RX1 39 RX1 yX1_next wsX1_next) := goodIn_app (goodIn_of _ (by decide +kernel)) ggX1_markPostsOn_X1_next
set_option maxRecDepth 20000 in
theorem ggX1_markPostsOn_X6_greatestDivisor : GoodIn wsX1_markPostsOn wsX6_greatestDivisor := goodIn_r _ [15] (by decide +kernel) (by decide +kernel)
set_option maxRecDepth 20000 in
theorem gX1_markPostsOn_X6_greatestDivisor_n63 : GoodIn wsX1_markPostsOn (wsX6_greatestDivisor) := ggX1_markPostsOn_X6_greatestDivisor
set_option maxRecDepth 20000 in
theorem ggX1_markPostsOn_X6_isPost : GoodIn wsX1_markPostsOn wsX6_isPost := goodIn_r _ [17, 18, 19, 14, 20] (by decide +kernel) (by decide +kernel)
set_option maxRecDepth 20000 in
theorem gX1_markPostsOn_X6_isPost_n26 : GoodIn wsX1_markPostsOn (wsX6_isPost) := ggX1_markPostsOn_X6_isPost
theorem dX1_markPostsOn_0 : decode cX1_markPostsOn 0 = .ok (.aload_n 0, 1) := by decide +kernel
theorem dX1_markPostsOn_1 : decode cX1_markPostsOn 1 = .ok (.iload_n 1, 1) := by decide +kernel
theorem dX1_markPostsOn_2 : decode cX1_markPostsOn 2 = .ok (.invokevirtual 39, 3) := by decide +kernel
theorem dX1_markPostsOn_5 : decode cX1_markPostsOn 5 = .ok (.istore_n 3, 1) := by decide +kernel
theorem dX1_markPostsOn_6 : decode cX1_markPostsOn 6 = .ok (.aload_n 0, 1) := by decide +kernel
theorem dX1_markPostsOn_7 : decode cX1_markPostsOn 7 = .ok (.getfield 7, 3) := by decide +kernel
theorem dX1_markPostsOn_10 : decode cX1_markPostsOn 10 = .ok (.iload_n 3, 1) := by decide +kernel
theorem dX1_markPostsOn_11 : decode cX1_markPostsOn 11 = .ok (.iaload, 1) := by decide +kernel
theorem dX1_markPostsOn_12 : decode cX1_markPostsOn 12 = .ok (.aload_n 0, 1) := by decide +kernel
theorem dX1_markPostsOn_13 : decode cX1_markPostsOn 13 = .ok (.getfield 7, 3) := by decide +kernel
theorem dX1_markPostsOn_16 : decode cX1_markPostsOn 16 = .ok (.iload_n 1, 1) := by decide +kernel
theorem dX1_markPostsOn_17 : decode cX1_markPostsOn 17 = .ok (.iaload, 1) := by decide +kernel
theorem dX1_markPostsOn_18 : decode cX1_markPostsOn 18 = .ok (.isub, 1) := by decide +kernel
theorem dX1_markPostsOn_19 : decode cX1_markPostsOn 19 = .ok (.istore 4, 2) := by decide +kernel
theorem dX1_markPostsOn_21 : decode cX1_markPostsOn 21 = .ok (.aload_n 0, 1) := by decide +kernel
theorem dX1_markPostsOn_22 : decode cX1_markPostsOn 22 = .ok (.getfield 13, 3) := by decide +kernel
theorem dX1_markPostsOn_25 : decode cX1_markPostsOn 25 = .ok (.iload_n 3, 1) := by decide +kernel
theorem dX1_markPostsOn_26 : decode cX1_markPostsOn 26 = .ok (.iaload, 1) := by decide +kernel
theorem dX1_markPostsOn_27 : decode cX1_markPostsOn 27 = .ok (.aload_n 0, 1) := by decide +kernel
theorem dX1_markPostsOn_28 : decode cX1_markPostsOn 28 = .ok (.getfield 13, 3) := by decide +kernel
theorem dX1_markPostsOn_31 : decode cX1_markPostsOn 31 = .ok (.iload_n 1, 1) := by decide +kernel
theorem dX1_markPostsOn_32 : decode cX1_markPostsOn 32 = .ok (.iaload, 1) := by decide +kernel
theorem dX1_markPostsOn_33 : decode cX1_markPostsOn 33 = .ok (.isub, 1) := by decide +kernel
theorem dX1_markPostsOn_34 : decode cX1_markPostsOn 34 = .ok (.istore 5, 2) := by decide +kernel
theorem dX1_markPostsOn_36 : decode cX1_markPostsOn 36 = .ok (.iload 4, 2) := by decide +kernel
theorem dX1_markPostsOn_38 : decode cX1_markPostsOn 38 = .ok (.invokestatic 60, 3) := by decide +kernel
theorem dX1_markPostsOn_41 : decode cX1_markPostsOn 41 = .ok (.i2l, 1) := by decide +kernel
theorem dX1_markPostsOn_42 : decode cX1_markPostsOn 42 = .ok (.iload 5, 2) := by decide +kernel
theorem dX1_markPostsOn_44 : decode cX1_markPostsOn 44 = .ok (.invokestatic 60, 3) := by decide +kernel
theorem dX1_markPostsOn_47 : decode cX1_markPostsOn 47 = .ok (.i2l, 1) := by decide +kernel
theorem dX1_markPostsOn_48 : decode cX1_markPostsOn 48 = .ok (.invokestatic 63, 3) := by decide +kernel
theorem dX1_markPostsOn_51 : decode cX1_markPostsOn 51 = .ok (.l2i, 1) := by decide +kernel
theorem dX1_markPostsOn_52 : decode cX1_markPostsOn 52 = .ok (.istore 6, 2) := by decide +kernel
theorem dX1_markPostsOn_54 : decode cX1_markPostsOn 54 = .ok (.iconst 0, 1) := by decide +kernel
theorem dX1_markPostsOn_55 : decode cX1_markPostsOn 55 = .ok (.istore 7, 2) := by decide +kernel
theorem dX1_markPostsOn_57 : decode cX1_markPostsOn 57 = .ok (.iload 7, 2) := by decide +kernel
theorem dX1_markPostsOn_59 : decode cX1_markPostsOn 59 = .ok (.iload 6, 2) := by decide +kernel
theorem dX1_markPostsOn_61 : decode cX1_markPostsOn 61 = .ok (.if_icmp .ge 71, 3) := by decide +kernel
theorem dX1_markPostsOn_64 : decode cX1_markPostsOn 64 = .ok (.aload_n 0, 1) := by decide +kernel
theorem dX1_markPostsOn_65 : decode cX1_markPostsOn 65 = .ok (.getfield 7, 3) := by decide +kernel
theorem dX1_markPostsOn_68 : decode cX1_markPostsOn 68 = .ok (.iload_n 1, 1) := by decide +kernel
theorem dX1_markPostsOn_69 : decode cX1_markPostsOn 69 = .ok (.iaload, 1) := by decide +kernel
theorem dX1_markPostsOn_70 : decode cX1_markPostsOn 70 = .ok (.iload 4, 2) := by decide +kernel
theorem dX1_markPostsOn_72 : decode cX1_markPostsOn 72 = .ok (.iload 6, 2) := by decide +kernel
theorem dX1_markPostsOn_74 : decode cX1_markPostsOn 74 = .ok (.idiv, 1) := by decide +kernel
theorem dX1_markPostsOn_75 : decode cX1_markPostsOn 75 = .ok (.iload 7, 2) := by decide +kernel
theorem dX1_markPostsOn_77 : decode cX1_markPostsOn 77 = .ok (.imul, 1) := by decide +kernel
theorem dX1_markPostsOn_78 : decode cX1_markPostsOn 78 = .ok (.iadd, 1) := by decide +kernel
theorem dX1_markPostsOn_79 : decode cX1_markPostsOn 79 = .ok (.istore 8, 2) := by decide +kernel
theorem dX1_markPostsOn_81 : decode cX1_markPostsOn 81 = .ok (.aload_n 0, 1) := by decide +kernel
theorem dX1_markPostsOn_82 : decode cX1_markPostsOn 82 = .ok (.getfield 13, 3) := by decide +kernel
theorem dX1_markPostsOn_85 : decode cX1_markPostsOn 85 = .ok (.iload_n 1, 1) := by decide +kernel
theorem dX1_markPostsOn_86 : decode cX1_markPostsOn 86 = .ok (.iaload, 1) := by decide +kernel
theorem dX1_markPostsOn_87 : decode cX1_markPostsOn 87 = .ok (.iload 5, 2) := by decide +kernel
theorem dX1_markPostsOn_89 : decode cX1_markPostsOn 89 = .ok (.iload 6, 2) := by decide +kernel
theorem dX1_markPostsOn_91 : decode cX1_markPostsOn 91 = .ok (.idiv, 1) := by decide +kernel
theorem dX1_markPostsOn_92 : decode cX1_markPostsOn 92 = .ok (.iload 7, 2) := by decide +kernel
theorem dX1_markPostsOn_94 : decode cX1_markPostsOn 94 = .ok (.imul, 1) := by decide +kernel
theorem dX1_markPostsOn_95 : decode cX1_markPostsOn 95 = .ok (.iadd, 1) := by decide +kernel
theorem dX1_markPostsOn_96 : decode cX1_markPostsOn 96 = .ok (.istore 9, 2) := by decide +kernel
theorem dX1_markPostsOn_98 : decode cX1_markPostsOn 98 = .ok (.iload 8, 2) := by decide +kernel
theorem dX1_markPostsOn_100 : decode cX1_markPostsOn 100 = .ok (.iload 9, 2) := by decide +kernel
theorem dX1_markPostsOn_102 : decode cX1_markPostsOn 102 = .ok (.invokestatic 26, 3) := by decide +kernel
theorem dX1_markPostsOn_105 : decode cX1_markPostsOn 105 = .ok (.ifCond .eq 21, 3) := by decide +kernel
theorem dX1_markPostsOn_108 : decode cX1_markPostsOn 108 = .ok (.iload 9, 2) := by decide +kernel
theorem dX1_markPostsOn_110 : decode cX1_markPostsOn 110 = .ok (.aload_n 2, 1) := by decide +kernel
theorem dX1_markPostsOn_111 : decode cX1_markPostsOn 111 = .ok (.arraylength, 1) := by decide +kernel
theorem dX1_markPostsOn_112 : decode cX1_markPostsOn 112 = .ok (.if_icmp .ge 14, 3) := by decide +kernel
theorem dX1_markPostsOn_115 : decode cX1_markPostsOn 115 = .ok (.aload_n 2, 1) := by decide +kernel
theorem dX1_markPostsOn_116 : decode cX1_markPostsOn 116 = .ok (.iload 9, 2) := by decide +kernel
theorem dX1_markPostsOn_118 : decode cX1_markPostsOn 118 = .ok (.dup2, 1) := by decide +kernel
theorem dX1_markPostsOn_119 : decode cX1_markPostsOn 119 = .ok (.iaload, 1) := by decide +kernel
theorem dX1_markPostsOn_120 : decode cX1_markPostsOn 120 = .ok (.iconst 1, 1) := by decide +kernel
theorem dX1_markPostsOn_121 : decode cX1_markPostsOn 121 = .ok (.iload 8, 2) := by decide +kernel
theorem dX1_markPostsOn_123 : decode cX1_markPostsOn 123 = .ok (.ishl, 1) := by decide +kernel
theorem dX1_markPostsOn_124 : decode cX1_markPostsOn 124 = .ok (.ior, 1) := by decide +kernel
theorem dX1_markPostsOn_125 : decode cX1_markPostsOn 125 = .ok (.iastore, 1) := by decide +kernel
theorem dX1_markPostsOn_126 : decode cX1_markPostsOn 126 = .ok (.iinc 7 1, 3) := by decide +kernel
theorem dX1_markPostsOn_129 : decode cX1_markPostsOn 129 = .ok (.goto (-72), 3) := by decide +kernel
theorem dX1_markPostsOn_132 : decode cX1_markPostsOn 132 = .ok (.return_, 1) := by decide +kernel
set_option maxRecDepth 20000 in
theorem ggX1_flipPostsWestOf_X1_next : GoodIn wsX1_flipPostsWestOf wsX1_next := goodIn_r _ [7, 8, 19, 20, 21] (by decide +kernel) (by decide +kernel)
set_option maxRecDepth 20000 in
theorem gX1_flipPostsWestOf_X1_next : GoodIn wsX1_flipPostsWestOf (wsV RX1 39 RX1 yX1_next wsX1_next) := goodIn_app (goodIn_of _ (by decide +kernel)) ggX1_flipPostsWestOf_X1_next
set_option maxRecDepth 20000 in
theorem ggX1_flipPostsWestOf_J9_floorDiv_7cf53 : GoodIn wsX1_flipPostsWestOf wsJ9_floorDiv_7cf53 := goodIn_r _ [12] (by decide +kernel) (by decide +kernel)
set_option maxRecDepth 20000 in
theorem gX1_flipPostsWestOf_J9_floorDiv_7cf53 : GoodIn wsX1_flipPostsWestOf (va_wsS RX1 67 yJ9_floorDiv_7cf53 wsJ9_floorDiv_7cf53) := goodIn_app (goodIn_of _ (by decide +kernel)) ggX1_flipPostsWestOf_J9_floorDiv_7cf53
set_option maxRecDepth 20000 in
theorem ggX1_flipPostsWestOf_X6_isPost : GoodIn wsX1_flipPostsWestOf wsX6_isPost := goodIn_r _ [15, 16, 17, 14, 18] (by decide +kernel) (by decide +kernel)
set_option maxRecDepth 20000 in
theorem gX1_flipPostsWestOf_X6_isPost_n26 : GoodIn wsX1_flipPostsWestOf (wsX6_isPost) := ggX1_flipPostsWestOf_X6_isPost
theorem dX1_flipPostsWestOf_0 : decode cX1_flipPostsWestOf 0 = .ok (.aload_n 0, 1) := by decide +kernel
theorem dX1_flipPostsWestOf_1 : decode cX1_flipPostsWestOf 1 = .ok (.iload_n 1, 1) := by decide +kernel
theorem dX1_flipPostsWestOf_2 : decode cX1_flipPostsWestOf 2 = .ok (.invokevirtual 39, 3) := by decide +kernel
theorem dX1_flipPostsWestOf_5 : decode cX1_flipPostsWestOf 5 = .ok (.istore_n 3, 1) := by decide +kernel
theorem dX1_flipPostsWestOf_6 : decode cX1_flipPostsWestOf 6 = .ok (.aload_n 0, 1) := by decide +kernel
theorem dX1_flipPostsWestOf_7 : decode cX1_flipPostsWestOf 7 = .ok (.getfield 13, 3) := by decide +kernel
theorem dX1_flipPostsWestOf_10 : decode cX1_flipPostsWestOf 10 = .ok (.iload_n 1, 1) := by decide +kernel
theorem dX1_flipPostsWestOf_11 : decode cX1_flipPostsWestOf 11 = .ok (.iaload, 1) := by decide +kernel
theorem dX1_flipPostsWestOf_12 : decode cX1_flipPostsWestOf 12 = .ok (.aload_n 0, 1) := by decide +kernel
theorem dX1_flipPostsWestOf_13 : decode cX1_flipPostsWestOf 13 = .ok (.getfield 13, 3) := by decide +kernel
theorem dX1_flipPostsWestOf_16 : decode cX1_flipPostsWestOf 16 = .ok (.iload_n 3, 1) := by decide +kernel
theorem dX1_flipPostsWestOf_17 : decode cX1_flipPostsWestOf 17 = .ok (.iaload, 1) := by decide +kernel
theorem dX1_flipPostsWestOf_18 : decode cX1_flipPostsWestOf 18 = .ok (.if_icmp .ge 7, 3) := by decide +kernel
theorem dX1_flipPostsWestOf_21 : decode cX1_flipPostsWestOf 21 = .ok (.iload_n 1, 1) := by decide +kernel
theorem dX1_flipPostsWestOf_22 : decode cX1_flipPostsWestOf 22 = .ok (.goto 4, 3) := by decide +kernel
theorem dX1_flipPostsWestOf_25 : decode cX1_flipPostsWestOf 25 = .ok (.iload_n 3, 1) := by decide +kernel
theorem dX1_flipPostsWestOf_26 : decode cX1_flipPostsWestOf 26 = .ok (.istore 4, 2) := by decide +kernel
theorem dX1_flipPostsWestOf_28 : decode cX1_flipPostsWestOf 28 = .ok (.iload 4, 2) := by decide +kernel
theorem dX1_flipPostsWestOf_30 : decode cX1_flipPostsWestOf 30 = .ok (.iload_n 1, 1) := by decide +kernel
theorem dX1_flipPostsWestOf_31 : decode cX1_flipPostsWestOf 31 = .ok (.if_icmp .ne 7, 3) := by decide +kernel
theorem dX1_flipPostsWestOf_34 : decode cX1_flipPostsWestOf 34 = .ok (.iload_n 3, 1) := by decide +kernel
theorem dX1_flipPostsWestOf_35 : decode cX1_flipPostsWestOf 35 = .ok (.goto 4, 3) := by decide +kernel
theorem dX1_flipPostsWestOf_38 : decode cX1_flipPostsWestOf 38 = .ok (.iload_n 1, 1) := by decide +kernel
theorem dX1_flipPostsWestOf_39 : decode cX1_flipPostsWestOf 39 = .ok (.istore 5, 2) := by decide +kernel
theorem dX1_flipPostsWestOf_41 : decode cX1_flipPostsWestOf 41 = .ok (.aload_n 0, 1) := by decide +kernel
theorem dX1_flipPostsWestOf_42 : decode cX1_flipPostsWestOf 42 = .ok (.getfield 13, 3) := by decide +kernel
theorem dX1_flipPostsWestOf_45 : decode cX1_flipPostsWestOf 45 = .ok (.iload 5, 2) := by decide +kernel
theorem dX1_flipPostsWestOf_47 : decode cX1_flipPostsWestOf 47 = .ok (.iaload, 1) := by decide +kernel
theorem dX1_flipPostsWestOf_48 : decode cX1_flipPostsWestOf 48 = .ok (.aload_n 0, 1) := by decide +kernel
theorem dX1_flipPostsWestOf_49 : decode cX1_flipPostsWestOf 49 = .ok (.getfield 13, 3) := by decide +kernel
theorem dX1_flipPostsWestOf_52 : decode cX1_flipPostsWestOf 52 = .ok (.iload 4, 2) := by decide +kernel
theorem dX1_flipPostsWestOf_54 : decode cX1_flipPostsWestOf 54 = .ok (.iaload, 1) := by decide +kernel
theorem dX1_flipPostsWestOf_55 : decode cX1_flipPostsWestOf 55 = .ok (.isub, 1) := by decide +kernel
theorem dX1_flipPostsWestOf_56 : decode cX1_flipPostsWestOf 56 = .ok (.istore 6, 2) := by decide +kernel
theorem dX1_flipPostsWestOf_58 : decode cX1_flipPostsWestOf 58 = .ok (.iconst 0, 1) := by decide +kernel
theorem dX1_flipPostsWestOf_59 : decode cX1_flipPostsWestOf 59 = .ok (.istore 7, 2) := by decide +kernel
theorem dX1_flipPostsWestOf_61 : decode cX1_flipPostsWestOf 61 = .ok (.iload 7, 2) := by decide +kernel
theorem dX1_flipPostsWestOf_63 : decode cX1_flipPostsWestOf 63 = .ok (.iload 6, 2) := by decide +kernel
theorem dX1_flipPostsWestOf_65 : decode cX1_flipPostsWestOf 65 = .ok (.if_icmp .ge 84, 3) := by decide +kernel
theorem dX1_flipPostsWestOf_68 : decode cX1_flipPostsWestOf 68 = .ok (.aload_n 0, 1) := by decide +kernel
theorem dX1_flipPostsWestOf_69 : decode cX1_flipPostsWestOf 69 = .ok (.getfield 13, 3) := by decide +kernel
theorem dX1_flipPostsWestOf_72 : decode cX1_flipPostsWestOf 72 = .ok (.iload 4, 2) := by decide +kernel
theorem dX1_flipPostsWestOf_74 : decode cX1_flipPostsWestOf 74 = .ok (.iaload, 1) := by decide +kernel
theorem dX1_flipPostsWestOf_75 : decode cX1_flipPostsWestOf 75 = .ok (.iload 7, 2) := by decide +kernel
theorem dX1_flipPostsWestOf_77 : decode cX1_flipPostsWestOf 77 = .ok (.iadd, 1) := by decide +kernel
theorem dX1_flipPostsWestOf_78 : decode cX1_flipPostsWestOf 78 = .ok (.istore 8, 2) := by decide +kernel
theorem dX1_flipPostsWestOf_80 : decode cX1_flipPostsWestOf 80 = .ok (.aload_n 0, 1) := by decide +kernel
theorem dX1_flipPostsWestOf_81 : decode cX1_flipPostsWestOf 81 = .ok (.getfield 7, 3) := by decide +kernel
theorem dX1_flipPostsWestOf_84 : decode cX1_flipPostsWestOf 84 = .ok (.iload 4, 2) := by decide +kernel
theorem dX1_flipPostsWestOf_86 : decode cX1_flipPostsWestOf 86 = .ok (.iaload, 1) := by decide +kernel
theorem dX1_flipPostsWestOf_87 : decode cX1_flipPostsWestOf 87 = .ok (.aload_n 0, 1) := by decide +kernel
theorem dX1_flipPostsWestOf_88 : decode cX1_flipPostsWestOf 88 = .ok (.getfield 7, 3) := by decide +kernel
theorem dX1_flipPostsWestOf_91 : decode cX1_flipPostsWestOf 91 = .ok (.iload 4, 2) := by decide +kernel
theorem dX1_flipPostsWestOf_93 : decode cX1_flipPostsWestOf 93 = .ok (.iaload, 1) := by decide +kernel
theorem dX1_flipPostsWestOf_94 : decode cX1_flipPostsWestOf 94 = .ok (.aload_n 0, 1) := by decide +kernel
theorem dX1_flipPostsWestOf_95 : decode cX1_flipPostsWestOf 95 = .ok (.getfield 7, 3) := by decide +kernel
theorem dX1_flipPostsWestOf_98 : decode cX1_flipPostsWestOf 98 = .ok (.iload 5, 2) := by decide +kernel
theorem dX1_flipPostsWestOf_100 : decode cX1_flipPostsWestOf 100 = .ok (.iaload, 1) := by decide +kernel
theorem dX1_flipPostsWestOf_101 : decode cX1_flipPostsWestOf 101 = .ok (.isub, 1) := by decide +kernel
theorem dX1_flipPostsWestOf_102 : decode cX1_flipPostsWestOf 102 = .ok (.iload 7, 2) := by decide +kernel
theorem dX1_flipPostsWestOf_104 : decode cX1_flipPostsWestOf 104 = .ok (.imul, 1) := by decide +kernel
theorem dX1_flipPostsWestOf_105 : decode cX1_flipPostsWestOf 105 = .ok (.iload 6, 2) := by decide +kernel
theorem dX1_flipPostsWestOf_107 : decode cX1_flipPostsWestOf 107 = .ok (.invokestatic 67, 3) := by decide +kernel
theorem dX1_flipPostsWestOf_110 : decode cX1_flipPostsWestOf 110 = .ok (.isub, 1) := by decide +kernel
theorem dX1_flipPostsWestOf_111 : decode cX1_flipPostsWestOf 111 = .ok (.istore 9, 2) := by decide +kernel
theorem dX1_flipPostsWestOf_113 : decode cX1_flipPostsWestOf 113 = .ok (.iload 9, 2) := by decide +kernel
theorem dX1_flipPostsWestOf_115 : decode cX1_flipPostsWestOf 115 = .ok (.iload 8, 2) := by decide +kernel
theorem dX1_flipPostsWestOf_117 : decode cX1_flipPostsWestOf 117 = .ok (.invokestatic 26, 3) := by decide +kernel
theorem dX1_flipPostsWestOf_120 : decode cX1_flipPostsWestOf 120 = .ok (.ifCond .eq 23, 3) := by decide +kernel
theorem dX1_flipPostsWestOf_123 : decode cX1_flipPostsWestOf 123 = .ok (.iload 8, 2) := by decide +kernel
theorem dX1_flipPostsWestOf_125 : decode cX1_flipPostsWestOf 125 = .ok (.aload_n 2, 1) := by decide +kernel
theorem dX1_flipPostsWestOf_126 : decode cX1_flipPostsWestOf 126 = .ok (.arraylength, 1) := by decide +kernel
theorem dX1_flipPostsWestOf_127 : decode cX1_flipPostsWestOf 127 = .ok (.if_icmp .ge 16, 3) := by decide +kernel
theorem dX1_flipPostsWestOf_130 : decode cX1_flipPostsWestOf 130 = .ok (.aload_n 2, 1) := by decide +kernel
theorem dX1_flipPostsWestOf_131 : decode cX1_flipPostsWestOf 131 = .ok (.iload 8, 2) := by decide +kernel
theorem dX1_flipPostsWestOf_133 : decode cX1_flipPostsWestOf 133 = .ok (.dup2, 1) := by decide +kernel
theorem dX1_flipPostsWestOf_134 : decode cX1_flipPostsWestOf 134 = .ok (.iaload, 1) := by decide +kernel
theorem dX1_flipPostsWestOf_135 : decode cX1_flipPostsWestOf 135 = .ok (.iconst 1, 1) := by decide +kernel
theorem dX1_flipPostsWestOf_136 : decode cX1_flipPostsWestOf 136 = .ok (.iload 9, 2) := by decide +kernel
theorem dX1_flipPostsWestOf_138 : decode cX1_flipPostsWestOf 138 = .ok (.ishl, 1) := by decide +kernel
theorem dX1_flipPostsWestOf_139 : decode cX1_flipPostsWestOf 139 = .ok (.iconst 1, 1) := by decide +kernel
theorem dX1_flipPostsWestOf_140 : decode cX1_flipPostsWestOf 140 = .ok (.isub, 1) := by decide +kernel
theorem dX1_flipPostsWestOf_141 : decode cX1_flipPostsWestOf 141 = .ok (.ixor, 1) := by decide +kernel
theorem dX1_flipPostsWestOf_142 : decode cX1_flipPostsWestOf 142 = .ok (.iastore, 1) := by decide +kernel
theorem dX1_flipPostsWestOf_143 : decode cX1_flipPostsWestOf 143 = .ok (.iinc 7 1, 3) := by decide +kernel
theorem dX1_flipPostsWestOf_146 : decode cX1_flipPostsWestOf 146 = .ok (.goto (-85), 3) := by decide +kernel
theorem dX1_flipPostsWestOf_149 : decode cX1_flipPostsWestOf 149 = .ok (.return_, 1) := by decide +kernel
set_option maxRecDepth 20000 in
theorem ggX1_twiceSignedArea_X1_next : GoodIn wsX1_twiceSignedArea wsX1_next := goodIn_r _ [8, 1, 9, 10, 11] (by decide +kernel) (by decide +kernel)
set_option maxRecDepth 20000 in
theorem gX1_twiceSignedArea_X1_next : GoodIn wsX1_twiceSignedArea (wsV RX1 39 RX1 yX1_next wsX1_next) := goodIn_app (goodIn_of _ (by decide +kernel)) ggX1_twiceSignedArea_X1_next
theorem dX1_twiceSignedArea_0 : decode cX1_twiceSignedArea 0 = .ok (.iconst 0, 1) := by decide +kernel
theorem dX1_twiceSignedArea_1 : decode cX1_twiceSignedArea 1 = .ok (.istore_n 1, 1) := by decide +kernel
theorem dX1_twiceSignedArea_2 : decode cX1_twiceSignedArea 2 = .ok (.iconst 0, 1) := by decide +kernel
theorem dX1_twiceSignedArea_3 : decode cX1_twiceSignedArea 3 = .ok (.istore_n 2, 1) := by decide +kernel
theorem dX1_twiceSignedArea_4 : decode cX1_twiceSignedArea 4 = .ok (.iload_n 2, 1) := by decide +kernel
theorem dX1_twiceSignedArea_5 : decode cX1_twiceSignedArea 5 = .ok (.aload_n 0, 1) := by decide +kernel
theorem dX1_twiceSignedArea_6 : decode cX1_twiceSignedArea 6 = .ok (.getfield 22, 3) := by decide +kernel
theorem dX1_twiceSignedArea_9 : decode cX1_twiceSignedArea 9 = .ok (.if_icmp .ge 45, 3) := by decide +kernel
theorem dX1_twiceSignedArea_12 : decode cX1_twiceSignedArea 12 = .ok (.aload_n 0, 1) := by decide +kernel
theorem dX1_twiceSignedArea_13 : decode cX1_twiceSignedArea 13 = .ok (.iload_n 2, 1) := by decide +kernel
theorem dX1_twiceSignedArea_14 : decode cX1_twiceSignedArea 14 = .ok (.invokevirtual 39, 3) := by decide +kernel
theorem dX1_twiceSignedArea_17 : decode cX1_twiceSignedArea 17 = .ok (.istore_n 3, 1) := by decide +kernel
theorem dX1_twiceSignedArea_18 : decode cX1_twiceSignedArea 18 = .ok (.iload_n 1, 1) := by decide +kernel
theorem dX1_twiceSignedArea_19 : decode cX1_twiceSignedArea 19 = .ok (.aload_n 0, 1) := by decide +kernel
theorem dX1_twiceSignedArea_20 : decode cX1_twiceSignedArea 20 = .ok (.getfield 7, 3) := by decide +kernel
theorem dX1_twiceSignedArea_23 : decode cX1_twiceSignedArea 23 = .ok (.iload_n 2, 1) := by decide +kernel
theorem dX1_twiceSignedArea_24 : decode cX1_twiceSignedArea 24 = .ok (.iaload, 1) := by decide +kernel
theorem dX1_twiceSignedArea_25 : decode cX1_twiceSignedArea 25 = .ok (.aload_n 0, 1) := by decide +kernel
theorem dX1_twiceSignedArea_26 : decode cX1_twiceSignedArea 26 = .ok (.getfield 13, 3) := by decide +kernel
theorem dX1_twiceSignedArea_29 : decode cX1_twiceSignedArea 29 = .ok (.iload_n 3, 1) := by decide +kernel
theorem dX1_twiceSignedArea_30 : decode cX1_twiceSignedArea 30 = .ok (.iaload, 1) := by decide +kernel
theorem dX1_twiceSignedArea_31 : decode cX1_twiceSignedArea 31 = .ok (.imul, 1) := by decide +kernel
theorem dX1_twiceSignedArea_32 : decode cX1_twiceSignedArea 32 = .ok (.aload_n 0, 1) := by decide +kernel
theorem dX1_twiceSignedArea_33 : decode cX1_twiceSignedArea 33 = .ok (.getfield 7, 3) := by decide +kernel
theorem dX1_twiceSignedArea_36 : decode cX1_twiceSignedArea 36 = .ok (.iload_n 3, 1) := by decide +kernel
theorem dX1_twiceSignedArea_37 : decode cX1_twiceSignedArea 37 = .ok (.iaload, 1) := by decide +kernel
theorem dX1_twiceSignedArea_38 : decode cX1_twiceSignedArea 38 = .ok (.aload_n 0, 1) := by decide +kernel
theorem dX1_twiceSignedArea_39 : decode cX1_twiceSignedArea 39 = .ok (.getfield 13, 3) := by decide +kernel
theorem dX1_twiceSignedArea_42 : decode cX1_twiceSignedArea 42 = .ok (.iload_n 2, 1) := by decide +kernel
theorem dX1_twiceSignedArea_43 : decode cX1_twiceSignedArea 43 = .ok (.iaload, 1) := by decide +kernel
theorem dX1_twiceSignedArea_44 : decode cX1_twiceSignedArea 44 = .ok (.imul, 1) := by decide +kernel
theorem dX1_twiceSignedArea_45 : decode cX1_twiceSignedArea 45 = .ok (.isub, 1) := by decide +kernel
theorem dX1_twiceSignedArea_46 : decode cX1_twiceSignedArea 46 = .ok (.iadd, 1) := by decide +kernel
theorem dX1_twiceSignedArea_47 : decode cX1_twiceSignedArea 47 = .ok (.istore_n 1, 1) := by decide +kernel
theorem dX1_twiceSignedArea_48 : decode cX1_twiceSignedArea 48 = .ok (.iinc 2 1, 3) := by decide +kernel
theorem dX1_twiceSignedArea_51 : decode cX1_twiceSignedArea 51 = .ok (.goto (-47), 3) := by decide +kernel
theorem dX1_twiceSignedArea_54 : decode cX1_twiceSignedArea 54 = .ok (.iload_n 1, 1) := by decide +kernel
theorem dX1_twiceSignedArea_55 : decode cX1_twiceSignedArea 55 = .ok (.ireturn, 1) := by decide +kernel
set_option maxRecDepth 20000 in
theorem ggX1_measureWest_X3_clear : GoodIn wsX1_measureWest wsX3_clear := goodIn_r _ [7, 8, 9, 41, 42] (by decide +kernel) (by decide +kernel)
set_option maxRecDepth 20000 in
theorem gX1_measureWest_X3_clear : GoodIn wsX1_measureWest (wsV RX1 70 RX3 yX3_clear wsX3_clear) := goodIn_app (goodIn_of _ (by decide +kernel)) ggX1_measureWest_X3_clear
set_option maxRecDepth 20000 in
theorem ggX1_measureWest_X1_next : GoodIn wsX1_measureWest wsX1_next := goodIn_r _ [14, 1, 38, 39, 40] (by decide +kernel) (by decide +kernel)
set_option maxRecDepth 20000 in
theorem gX1_measureWest_X1_next : GoodIn wsX1_measureWest (wsV RX1 39 RX1 yX1_next wsX1_next) := goodIn_app (goodIn_of _ (by decide +kernel)) ggX1_measureWest_X1_next
set_option maxRecDepth 20000 in
theorem ggX1_measureWest_X1_addBelow : GoodIn wsX1_measureWest wsX1_addBelow := goodIn_r _ [18, 2, 19, 20, 21, 22, 23, 24, 25, 26, 6, 27, 8, 9, 28, 29, 30, 31, 32, 33, 38, 39, 40, 41, 42] (by decide +kernel) (by decide +kernel)
set_option maxRecDepth 20000 in
theorem gX1_measureWest_X1_addBelow : GoodIn wsX1_measureWest (wsV RX1 75 RX1 yX1_addBelow wsX1_addBelow) := goodIn_app (goodIn_of _ (by decide +kernel)) ggX1_measureWest_X1_addBelow
set_option maxRecDepth 20000 in
theorem ggX1_measureWest_X3_dropSign : GoodIn wsX1_measureWest wsX3_dropSign := goodIn_r _ [37, 8, 28, 29, 21, 30, 41, 42] (by decide +kernel) (by decide +kernel)
set_option maxRecDepth 20000 in
theorem gX1_measureWest_X3_dropSign : GoodIn wsX1_measureWest (wsV RX1 79 RX3 yX3_dropSign wsX3_dropSign) := goodIn_app (goodIn_of _ (by decide +kernel)) ggX1_measureWest_X3_dropSign
theorem dX1_measureWest_0 : decode cX1_measureWest 0 = .ok (.aload_n 2, 1) := by decide +kernel
theorem dX1_measureWest_1 : decode cX1_measureWest 1 = .ok (.invokevirtual 70, 3) := by decide +kernel
theorem dX1_measureWest_4 : decode cX1_measureWest 4 = .ok (.iconst 0, 1) := by decide +kernel
theorem dX1_measureWest_5 : decode cX1_measureWest 5 = .ok (.istore_n 3, 1) := by decide +kernel
theorem dX1_measureWest_6 : decode cX1_measureWest 6 = .ok (.iload_n 3, 1) := by decide +kernel
theorem dX1_measureWest_7 : decode cX1_measureWest 7 = .ok (.aload_n 0, 1) := by decide +kernel
theorem dX1_measureWest_8 : decode cX1_measureWest 8 = .ok (.getfield 22, 3) := by decide +kernel
theorem dX1_measureWest_11 : decode cX1_measureWest 11 = .ok (.if_icmp .ge 55, 3) := by decide +kernel
theorem dX1_measureWest_14 : decode cX1_measureWest 14 = .ok (.aload_n 0, 1) := by decide +kernel
theorem dX1_measureWest_15 : decode cX1_measureWest 15 = .ok (.iload_n 3, 1) := by decide +kernel
theorem dX1_measureWest_16 : decode cX1_measureWest 16 = .ok (.invokevirtual 39, 3) := by decide +kernel
theorem dX1_measureWest_19 : decode cX1_measureWest 19 = .ok (.istore 4, 2) := by decide +kernel
theorem dX1_measureWest_21 : decode cX1_measureWest 21 = .ok (.aload_n 0, 1) := by decide +kernel
theorem dX1_measureWest_22 : decode cX1_measureWest 22 = .ok (.getfield 7, 3) := by decide +kernel
theorem dX1_measureWest_25 : decode cX1_measureWest 25 = .ok (.iload_n 3, 1) := by decide +kernel
theorem dX1_measureWest_26 : decode cX1_measureWest 26 = .ok (.iaload, 1) := by decide +kernel
theorem dX1_measureWest_27 : decode cX1_measureWest 27 = .ok (.aload_n 0, 1) := by decide +kernel
theorem dX1_measureWest_28 : decode cX1_measureWest 28 = .ok (.getfield 7, 3) := by decide +kernel
theorem dX1_measureWest_31 : decode cX1_measureWest 31 = .ok (.iload 4, 2) := by decide +kernel
theorem dX1_measureWest_33 : decode cX1_measureWest 33 = .ok (.iaload, 1) := by decide +kernel
theorem dX1_measureWest_34 : decode cX1_measureWest 34 = .ok (.if_icmp .ge 16, 3) := by decide +kernel
theorem dX1_measureWest_37 : decode cX1_measureWest 37 = .ok (.aload_n 0, 1) := by decide +kernel
theorem dX1_measureWest_38 : decode cX1_measureWest 38 = .ok (.iload_n 3, 1) := by decide +kernel
theorem dX1_measureWest_39 : decode cX1_measureWest 39 = .ok (.iload 4, 2) := by decide +kernel
theorem dX1_measureWest_41 : decode cX1_measureWest 41 = .ok (.iload_n 1, 1) := by decide +kernel
theorem dX1_measureWest_42 : decode cX1_measureWest 42 = .ok (.aload_n 2, 1) := by decide +kernel
theorem dX1_measureWest_43 : decode cX1_measureWest 43 = .ok (.iconst 1, 1) := by decide +kernel
theorem dX1_measureWest_44 : decode cX1_measureWest 44 = .ok (.invokevirtual 75, 3) := by decide +kernel
theorem dX1_measureWest_47 : decode cX1_measureWest 47 = .ok (.goto 13, 3) := by decide +kernel
theorem dX1_measureWest_50 : decode cX1_measureWest 50 = .ok (.aload_n 0, 1) := by decide +kernel
theorem dX1_measureWest_51 : decode cX1_measureWest 51 = .ok (.iload 4, 2) := by decide +kernel
theorem dX1_measureWest_53 : decode cX1_measureWest 53 = .ok (.iload_n 3, 1) := by decide +kernel
theorem dX1_measureWest_54 : decode cX1_measureWest 54 = .ok (.iload_n 1, 1) := by decide +kernel
theorem dX1_measureWest_55 : decode cX1_measureWest 55 = .ok (.aload_n 2, 1) := by decide +kernel
theorem dX1_measureWest_56 : decode cX1_measureWest 56 = .ok (.iconst (-1), 1) := by decide +kernel
theorem dX1_measureWest_57 : decode cX1_measureWest 57 = .ok (.invokevirtual 75, 3) := by decide +kernel
theorem dX1_measureWest_60 : decode cX1_measureWest 60 = .ok (.iinc 3 1, 3) := by decide +kernel
theorem dX1_measureWest_63 : decode cX1_measureWest 63 = .ok (.goto (-57), 3) := by decide +kernel
theorem dX1_measureWest_66 : decode cX1_measureWest 66 = .ok (.aload_n 2, 1) := by decide +kernel
theorem dX1_measureWest_67 : decode cX1_measureWest 67 = .ok (.invokevirtual 79, 3) := by decide +kernel
theorem dX1_measureWest_70 : decode cX1_measureWest 70 = .ok (.return_, 1) := by decide +kernel
set_option maxRecDepth 20000 in
theorem ggX1_addBelow_X3_add : GoodIn wsX1_addBelow wsX3_add := goodIn_r _ [11, 12, 13, 14, 15, 4, 16, 17, 18, 19, 23, 24] (by decide +kernel) (by decide +kernel)
set_option maxRecDepth 20000 in
theorem gX1_addBelow_X3_add : GoodIn wsX1_addBelow (wsV RX1 82 RX3 yX3_add wsX3_add) := goodIn_app (goodIn_of _ (by decide +kernel)) ggX1_addBelow_X3_add
theorem dX1_addBelow_0 : decode cX1_addBelow 0 = .ok (.aload_n 0, 1) := by decide +kernel
theorem dX1_addBelow_1 : decode cX1_addBelow 1 = .ok (.getfield 7, 3) := by decide +kernel
theorem dX1_addBelow_4 : decode cX1_addBelow 4 = .ok (.iload_n 2, 1) := by decide +kernel
theorem dX1_addBelow_5 : decode cX1_addBelow 5 = .ok (.iaload, 1) := by decide +kernel
theorem dX1_addBelow_6 : decode cX1_addBelow 6 = .ok (.aload_n 0, 1) := by decide +kernel
