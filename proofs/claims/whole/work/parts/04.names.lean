theorem dX1_addBelow_7 : decode cX1_addBelow 7 = .ok (.getfield 7, 3) := by decide +kernel
theorem dX1_addBelow_10 : decode cX1_addBelow 10 = .ok (.iload_n 1, 1) := by decide +kernel
theorem dX1_addBelow_11 : decode cX1_addBelow 11 = .ok (.iaload, 1) := by decide +kernel
theorem dX1_addBelow_12 : decode cX1_addBelow 12 = .ok (.isub, 1) := by decide +kernel
theorem dX1_addBelow_13 : decode cX1_addBelow 13 = .ok (.istore 6, 2) := by decide +kernel
theorem dX1_addBelow_15 : decode cX1_addBelow 15 = .ok (.iload_n 3, 1) := by decide +kernel
theorem dX1_addBelow_16 : decode cX1_addBelow 16 = .ok (.aload_n 0, 1) := by decide +kernel
theorem dX1_addBelow_17 : decode cX1_addBelow 17 = .ok (.getfield 7, 3) := by decide +kernel
theorem dX1_addBelow_20 : decode cX1_addBelow 20 = .ok (.iload_n 2, 1) := by decide +kernel
theorem dX1_addBelow_21 : decode cX1_addBelow 21 = .ok (.iaload, 1) := by decide +kernel
theorem dX1_addBelow_22 : decode cX1_addBelow 22 = .ok (.invokestatic 16, 3) := by decide +kernel
theorem dX1_addBelow_25 : decode cX1_addBelow 25 = .ok (.aload_n 0, 1) := by decide +kernel
theorem dX1_addBelow_26 : decode cX1_addBelow 26 = .ok (.getfield 7, 3) := by decide +kernel
theorem dX1_addBelow_29 : decode cX1_addBelow 29 = .ok (.iload_n 1, 1) := by decide +kernel
theorem dX1_addBelow_30 : decode cX1_addBelow 30 = .ok (.iaload, 1) := by decide +kernel
theorem dX1_addBelow_31 : decode cX1_addBelow 31 = .ok (.isub, 1) := by decide +kernel
theorem dX1_addBelow_32 : decode cX1_addBelow 32 = .ok (.istore 7, 2) := by decide +kernel
theorem dX1_addBelow_34 : decode cX1_addBelow 34 = .ok (.iload 6, 2) := by decide +kernel
theorem dX1_addBelow_36 : decode cX1_addBelow 36 = .ok (.ifCond .le 55, 3) := by decide +kernel
theorem dX1_addBelow_39 : decode cX1_addBelow 39 = .ok (.iload 7, 2) := by decide +kernel
theorem dX1_addBelow_41 : decode cX1_addBelow 41 = .ok (.ifCond .le 50, 3) := by decide +kernel
theorem dX1_addBelow_44 : decode cX1_addBelow 44 = .ok (.aload_n 0, 1) := by decide +kernel
theorem dX1_addBelow_45 : decode cX1_addBelow 45 = .ok (.getfield 13, 3) := by decide +kernel
theorem dX1_addBelow_48 : decode cX1_addBelow 48 = .ok (.iload_n 2, 1) := by decide +kernel
theorem dX1_addBelow_49 : decode cX1_addBelow 49 = .ok (.iaload, 1) := by decide +kernel
theorem dX1_addBelow_50 : decode cX1_addBelow 50 = .ok (.aload_n 0, 1) := by decide +kernel
theorem dX1_addBelow_51 : decode cX1_addBelow 51 = .ok (.getfield 13, 3) := by decide +kernel
theorem dX1_addBelow_54 : decode cX1_addBelow 54 = .ok (.iload_n 1, 1) := by decide +kernel
theorem dX1_addBelow_55 : decode cX1_addBelow 55 = .ok (.iaload, 1) := by decide +kernel
theorem dX1_addBelow_56 : decode cX1_addBelow 56 = .ok (.isub, 1) := by decide +kernel
theorem dX1_addBelow_57 : decode cX1_addBelow 57 = .ok (.istore 8, 2) := by decide +kernel
theorem dX1_addBelow_59 : decode cX1_addBelow 59 = .ok (.aload 4, 2) := by decide +kernel
theorem dX1_addBelow_61 : decode cX1_addBelow 61 = .ok (.iload 5, 2) := by decide +kernel
theorem dX1_addBelow_63 : decode cX1_addBelow 63 = .ok (.iload 7, 2) := by decide +kernel
theorem dX1_addBelow_65 : decode cX1_addBelow 65 = .ok (.imul, 1) := by decide +kernel
theorem dX1_addBelow_66 : decode cX1_addBelow 66 = .ok (.iconst 2, 1) := by decide +kernel
theorem dX1_addBelow_67 : decode cX1_addBelow 67 = .ok (.aload_n 0, 1) := by decide +kernel
theorem dX1_addBelow_68 : decode cX1_addBelow 68 = .ok (.getfield 13, 3) := by decide +kernel
theorem dX1_addBelow_71 : decode cX1_addBelow 71 = .ok (.iload_n 1, 1) := by decide +kernel
theorem dX1_addBelow_72 : decode cX1_addBelow 72 = .ok (.iaload, 1) := by decide +kernel
theorem dX1_addBelow_73 : decode cX1_addBelow 73 = .ok (.imul, 1) := by decide +kernel
theorem dX1_addBelow_74 : decode cX1_addBelow 74 = .ok (.iload 6, 2) := by decide +kernel
theorem dX1_addBelow_76 : decode cX1_addBelow 76 = .ok (.imul, 1) := by decide +kernel
theorem dX1_addBelow_77 : decode cX1_addBelow 77 = .ok (.iload 8, 2) := by decide +kernel
theorem dX1_addBelow_79 : decode cX1_addBelow 79 = .ok (.iload 7, 2) := by decide +kernel
theorem dX1_addBelow_81 : decode cX1_addBelow 81 = .ok (.imul, 1) := by decide +kernel
theorem dX1_addBelow_82 : decode cX1_addBelow 82 = .ok (.iadd, 1) := by decide +kernel
theorem dX1_addBelow_83 : decode cX1_addBelow 83 = .ok (.imul, 1) := by decide +kernel
theorem dX1_addBelow_84 : decode cX1_addBelow 84 = .ok (.i2l, 1) := by decide +kernel
theorem dX1_addBelow_85 : decode cX1_addBelow 85 = .ok (.iload 6, 2) := by decide +kernel
theorem dX1_addBelow_87 : decode cX1_addBelow 87 = .ok (.i2l, 1) := by decide +kernel
theorem dX1_addBelow_88 : decode cX1_addBelow 88 = .ok (.invokevirtual 82, 3) := by decide +kernel
theorem dX1_addBelow_91 : decode cX1_addBelow 91 = .ok (.return_, 1) := by decide +kernel
set_option maxRecDepth 20000 in
theorem ggX1_write_J4_init_da8c8 : GoodIn wsX1_write wsJ4_init_da8c8 := goodIn_r _ [9, 10, 11, 12, 13, 14, 15, 16, 17, 18, 19, 20, 21, 22, 23, 24, 25, 26, 27, 28, 231, 232, 233, 234] (by decide +kernel) (by decide +kernel)
set_option maxRecDepth 20000 in
theorem gX1_write_J4_init_da8c8 : GoodIn wsX1_write (wsJ4_init_da8c8) := ggX1_write_J4_init_da8c8
set_option maxRecDepth 20000 in
theorem ggX1_write_X1_next : GoodIn wsX1_write wsX1_next := goodIn_r _ [33, 4, 235, 236, 237] (by decide +kernel) (by decide +kernel)
set_option maxRecDepth 20000 in
theorem gX1_write_X1_next : GoodIn wsX1_write (wsV RX1 39 RX1 yX1_next wsX1_next) := goodIn_app (goodIn_of _ (by decide +kernel)) ggX1_write_X1_next
set_option maxRecDepth 20000 in
theorem ggX1_write_J4_append_cf468 : GoodIn wsX1_write wsJ4_append_cf468 := goodIn_r _ [37, 38, 39, 40, 41, 12, 42, 43, 19, 44, 45, 46, 47, 48, 20, 49, 50, 51, 52, 53, 54, 55, 56, 57, 58, 59, 60, 61, 62, 63, 64, 65, 66, 67, 68, 69, 70, 71, 72, 73, 74, 75, 76, 18, 77, 78, 79, 80, 81, 82, 83, 84, 85, 86, 87, 88, 17, 89, 90, 91, 92, 93, 94, 95, 96, 97, 21, 22, 23, 24, 25, 26, 27, 28, 98, 99, 100, 101, 102, 103, 104, 105, 106, 107, 108, 109, 110, 111, 112, 113, 114, 115, 116, 117, 118, 119, 120, 121, 122, 123, 124, 125, 126, 127, 128, 129, 130, 131, 132, 133, 134, 135, 136, 231, 232, 233, 234] (by decide +kernel) (by decide +kernel)
set_option maxRecDepth 20000 in
theorem gX1_write_J4_append_cf468 : GoodIn wsX1_write (wsV RX1 89 RJ4 yJ4_append_cf468 wsJ4_append_cf468) := goodIn_app (goodIn_of _ (by decide +kernel)) ggX1_write_J4_append_cf468
set_option maxRecDepth 20000 in
theorem ggX1_write_X1_writeLeg : GoodIn wsX1_write wsX1_writeLeg := goodIn_r _ [139, 140, 141, 61, 142, 34, 35, 36, 3, 37, 38, 39, 40, 41, 12, 42, 43, 19, 44, 45, 46, 47, 48, 20, 49, 50, 51, 52, 53, 54, 55, 56, 57, 58, 59, 60, 62, 63, 64, 65, 66, 67, 68, 69, 70, 71, 72, 73, 74, 75, 76, 18, 77, 78, 79, 80, 81, 82, 83, 84, 85, 86, 87, 88, 17, 89, 90, 91, 92, 93, 94, 95, 96, 97, 21, 22, 23, 24, 25, 26, 27, 28, 98, 99, 100, 101, 102, 103, 104, 105, 106, 107, 108, 109, 110, 111, 112, 113, 114, 115, 116, 117, 118, 119, 120, 121, 122, 123, 124, 125, 126, 127, 128, 129, 130, 131, 132, 133, 134, 135, 136, 143, 144, 145, 146, 147, 148, 149, 150, 151, 152, 153, 154, 155, 156, 157, 158, 159, 160, 161, 162, 163, 164, 165, 166, 167, 168, 169, 170, 171, 172, 173, 174, 175, 176, 231, 232, 233, 234] (by decide +kernel) (by decide +kernel)
set_option maxRecDepth 20000 in
theorem gX1_write_X1_writeLeg : GoodIn wsX1_write (va_wsS RX1 93 yX1_writeLeg wsX1_writeLeg) := goodIn_app (goodIn_of _ (by decide +kernel)) ggX1_write_X1_writeLeg
set_option maxRecDepth 20000 in
theorem ggX1_write_J4_toString_0e30d : GoodIn wsX1_write wsJ4_toString_0e30d := goodIn_r _ [180, 181, 182, 112, 183, 184, 185, 186, 187, 188, 189, 15, 16, 190, 191, 192, 193, 194, 195, 196, 197, 12, 198, 19, 199, 200, 201, 202, 203, 3, 204, 205, 40, 206, 207, 43, 208, 85, 86, 87, 88, 17, 20, 209, 210, 69, 211, 71, 72, 73, 74, 75, 76, 212, 213, 214, 18, 77, 78, 61, 79, 80, 81, 82, 83, 215, 216, 217, 218, 219, 23, 220, 221, 222, 223, 104, 105, 106, 107, 108, 109, 110, 111, 113, 114, 115, 116, 117, 118, 224, 225, 226, 122, 123, 124, 25, 26, 27, 28, 227, 228, 229, 230, 238, 239, 240, 241, 231, 232, 233, 234] (by decide +kernel) (by decide +kernel)
set_option maxRecDepth 20000 in
theorem gX1_write_J4_toString_0e30d : GoodIn wsX1_write (wsV RX1 97 RJ4 yJ4_toString_0e30d wsJ4_toString_0e30d) := goodIn_app (goodIn_of _ (by decide +kernel)) ggX1_write_J4_toString_0e30d
theorem dX1_write_0 : decode cX1_write 0 = .ok (.new 86, 3) := by decide +kernel
theorem dX1_write_3 : decode cX1_write 3 = .ok (.dup, 1) := by decide +kernel
theorem dX1_write_4 : decode cX1_write 4 = .ok (.invokespecial 88, 3) := by decide +kernel
theorem dX1_write_7 : decode cX1_write 7 = .ok (.astore_n 1, 1) := by decide +kernel
theorem dX1_write_8 : decode cX1_write 8 = .ok (.iconst 0, 1) := by decide +kernel
theorem dX1_write_9 : decode cX1_write 9 = .ok (.istore_n 2, 1) := by decide +kernel
theorem dX1_write_10 : decode cX1_write 10 = .ok (.iload_n 2, 1) := by decide +kernel
theorem dX1_write_11 : decode cX1_write 11 = .ok (.aload_n 0, 1) := by decide +kernel
theorem dX1_write_12 : decode cX1_write 12 = .ok (.getfield 22, 3) := by decide +kernel
theorem dX1_write_15 : decode cX1_write 15 = .ok (.if_icmp .ge 68, 3) := by decide +kernel
theorem dX1_write_18 : decode cX1_write 18 = .ok (.aload_n 0, 1) := by decide +kernel
theorem dX1_write_19 : decode cX1_write 19 = .ok (.iload_n 2, 1) := by decide +kernel
theorem dX1_write_20 : decode cX1_write 20 = .ok (.invokevirtual 39, 3) := by decide +kernel
theorem dX1_write_23 : decode cX1_write 23 = .ok (.istore_n 3, 1) := by decide +kernel
theorem dX1_write_24 : decode cX1_write 24 = .ok (.iload_n 2, 1) := by decide +kernel
theorem dX1_write_25 : decode cX1_write 25 = .ok (.ifCond .le 10, 3) := by decide +kernel
theorem dX1_write_28 : decode cX1_write 28 = .ok (.aload_n 1, 1) := by decide +kernel
theorem dX1_write_29 : decode cX1_write 29 = .ok (.bipush 59, 2) := by decide +kernel
theorem dX1_write_31 : decode cX1_write 31 = .ok (.invokevirtual 89, 3) := by decide +kernel
theorem dX1_write_34 : decode cX1_write 34 = .ok (.pop, 1) := by decide +kernel
theorem dX1_write_35 : decode cX1_write 35 = .ok (.aload_n 1, 1) := by decide +kernel
theorem dX1_write_36 : decode cX1_write 36 = .ok (.aload_n 0, 1) := by decide +kernel
theorem dX1_write_37 : decode cX1_write 37 = .ok (.getfield 13, 3) := by decide +kernel
theorem dX1_write_40 : decode cX1_write 40 = .ok (.iload_n 3, 1) := by decide +kernel
theorem dX1_write_41 : decode cX1_write 41 = .ok (.iaload, 1) := by decide +kernel
theorem dX1_write_42 : decode cX1_write 42 = .ok (.aload_n 0, 1) := by decide +kernel
theorem dX1_write_43 : decode cX1_write 43 = .ok (.getfield 13, 3) := by decide +kernel
theorem dX1_write_46 : decode cX1_write 46 = .ok (.iload_n 2, 1) := by decide +kernel
theorem dX1_write_47 : decode cX1_write 47 = .ok (.iaload, 1) := by decide +kernel
theorem dX1_write_48 : decode cX1_write 48 = .ok (.isub, 1) := by decide +kernel
theorem dX1_write_49 : decode cX1_write 49 = .ok (.bipush 110, 2) := by decide +kernel
theorem dX1_write_51 : decode cX1_write 51 = .ok (.bipush 115, 2) := by decide +kernel
theorem dX1_write_53 : decode cX1_write 53 = .ok (.invokestatic 93, 3) := by decide +kernel
theorem dX1_write_56 : decode cX1_write 56 = .ok (.aload_n 1, 1) := by decide +kernel
theorem dX1_write_57 : decode cX1_write 57 = .ok (.aload_n 0, 1) := by decide +kernel
theorem dX1_write_58 : decode cX1_write 58 = .ok (.getfield 7, 3) := by decide +kernel
theorem dX1_write_61 : decode cX1_write 61 = .ok (.iload_n 3, 1) := by decide +kernel
theorem dX1_write_62 : decode cX1_write 62 = .ok (.iaload, 1) := by decide +kernel
theorem dX1_write_63 : decode cX1_write 63 = .ok (.aload_n 0, 1) := by decide +kernel
theorem dX1_write_64 : decode cX1_write 64 = .ok (.getfield 7, 3) := by decide +kernel
theorem dX1_write_67 : decode cX1_write 67 = .ok (.iload_n 2, 1) := by decide +kernel
theorem dX1_write_68 : decode cX1_write 68 = .ok (.iaload, 1) := by decide +kernel
theorem dX1_write_69 : decode cX1_write 69 = .ok (.isub, 1) := by decide +kernel
theorem dX1_write_70 : decode cX1_write 70 = .ok (.bipush 101, 2) := by decide +kernel
theorem dX1_write_72 : decode cX1_write 72 = .ok (.bipush 119, 2) := by decide +kernel
theorem dX1_write_74 : decode cX1_write 74 = .ok (.invokestatic 93, 3) := by decide +kernel
theorem dX1_write_77 : decode cX1_write 77 = .ok (.iinc 2 1, 3) := by decide +kernel
theorem dX1_write_80 : decode cX1_write 80 = .ok (.goto (-70), 3) := by decide +kernel
theorem dX1_write_83 : decode cX1_write 83 = .ok (.aload_n 1, 1) := by decide +kernel
theorem dX1_write_84 : decode cX1_write 84 = .ok (.invokevirtual 97, 3) := by decide +kernel
theorem dX1_write_87 : decode cX1_write 87 = .ok (.areturn, 1) := by decide +kernel
set_option maxRecDepth 20000 in
theorem ggX1_writeLeg_J4_append_cf468 : GoodIn wsX1_writeLeg wsJ4_append_cf468 := goodIn_r _ [9, 10, 11, 12, 13, 14, 15, 16, 17, 18, 19, 20, 21, 22, 23, 24, 25, 26, 27, 28, 29, 30, 31, 32, 33, 34, 35, 3, 36, 37, 38, 39, 40, 41, 42, 43, 44, 45, 46, 47, 48, 49, 50, 51, 52, 53, 54, 55, 56, 57, 58, 59, 60, 61, 62, 63, 64, 65, 66, 67, 68, 69, 70, 71, 72, 73, 74, 75, 76, 77, 78, 79, 80, 81, 82, 83, 84, 85, 86, 87, 88, 89, 90, 91, 92, 93, 94, 95, 96, 97, 98, 99, 100, 101, 102, 103, 104, 105, 106, 107, 108, 109, 110, 111, 112, 113, 114, 115, 116, 117, 118, 119, 120, 155, 156, 157, 158] (by decide +kernel) (by decide +kernel)
set_option maxRecDepth 20000 in
theorem gX1_writeLeg_J4_append_cf468 : GoodIn wsX1_writeLeg (wsV RX1 89 RJ4 yJ4_append_cf468 wsJ4_append_cf468) := goodIn_app (goodIn_of _ (by decide +kernel)) ggX1_writeLeg_J4_append_cf468
set_option maxRecDepth 20000 in
theorem ggX1_writeLeg_J4_append_bf812 : GoodIn wsX1_writeLeg wsJ4_append_bf812 := goodIn_r _ [124, 125, 126, 12, 127, 14, 128, 16, 17, 129, 130, 131, 132, 18, 19, 20, 21, 22, 23, 24, 25, 26, 27, 28, 29, 30, 31, 32, 33, 34, 35, 3, 36, 37, 38, 39, 40, 41, 42, 43, 44, 45, 46, 47, 48, 49, 50, 51, 52, 53, 54, 55, 56, 57, 58, 59, 60, 61, 62, 63, 64, 133, 134, 135, 136, 137, 138, 139, 76, 140, 106, 141, 142, 143, 91, 92, 93, 144, 145, 96, 146, 98, 147, 148, 101, 149, 150, 151, 152, 153, 154, 103, 104, 105, 107, 108, 155, 156, 157, 158] (by decide +kernel) (by decide +kernel)
set_option maxRecDepth 20000 in
theorem gX1_writeLeg_J4_append_bf812 : GoodIn wsX1_writeLeg (wsV RX1 101 RJ4 yJ4_append_bf812 wsJ4_append_bf812) := goodIn_app (goodIn_of _ (by decide +kernel)) ggX1_writeLeg_J4_append_bf812
theorem dX1_writeLeg_0 : decode cX1_writeLeg 0 = .ok (.iload_n 1, 1) := by decide +kernel
theorem dX1_writeLeg_1 : decode cX1_writeLeg 1 = .ok (.ifCond .eq 26, 3) := by decide +kernel
theorem dX1_writeLeg_4 : decode cX1_writeLeg 4 = .ok (.aload_n 0, 1) := by decide +kernel
theorem dX1_writeLeg_5 : decode cX1_writeLeg 5 = .ok (.iload_n 1, 1) := by decide +kernel
theorem dX1_writeLeg_6 : decode cX1_writeLeg 6 = .ok (.ifCond .le 7, 3) := by decide +kernel
theorem dX1_writeLeg_9 : decode cX1_writeLeg 9 = .ok (.iload_n 2, 1) := by decide +kernel
theorem dX1_writeLeg_10 : decode cX1_writeLeg 10 = .ok (.goto 4, 3) := by decide +kernel
theorem dX1_writeLeg_13 : decode cX1_writeLeg 13 = .ok (.iload_n 3, 1) := by decide +kernel
theorem dX1_writeLeg_14 : decode cX1_writeLeg 14 = .ok (.invokevirtual 89, 3) := by decide +kernel
theorem dX1_writeLeg_17 : decode cX1_writeLeg 17 = .ok (.pop, 1) := by decide +kernel
theorem dX1_writeLeg_18 : decode cX1_writeLeg 18 = .ok (.aload_n 0, 1) := by decide +kernel
theorem dX1_writeLeg_19 : decode cX1_writeLeg 19 = .ok (.iload_n 1, 1) := by decide +kernel
theorem dX1_writeLeg_20 : decode cX1_writeLeg 20 = .ok (.invokestatic 60, 3) := by decide +kernel
theorem dX1_writeLeg_23 : decode cX1_writeLeg 23 = .ok (.invokevirtual 101, 3) := by decide +kernel
theorem dX1_writeLeg_26 : decode cX1_writeLeg 26 = .ok (.pop, 1) := by decide +kernel
theorem dX1_writeLeg_27 : decode cX1_writeLeg 27 = .ok (.return_, 1) := by decide +kernel
set_option maxRecDepth 20000 in
theorem ggX2_init_X1_write : GoodIn wsX2_init wsX1_write := goodIn_r _ [14, 15, 16, 17, 18, 19, 20, 21, 22, 23, 24, 25, 26, 27, 28, 2, 3, 29, 30, 31, 32, 33, 34, 35, 36, 37, 38, 39, 40, 41, 42, 43, 13, 44, 45, 46, 47, 48, 49, 50, 51, 52, 53, 54, 55, 56, 57, 58, 59, 60, 61, 62, 63, 64, 65, 66, 67, 68, 69, 70, 71, 72, 73, 74, 75, 76, 77, 78, 79, 80, 81, 82, 83, 84, 85, 86, 87, 88, 89, 90, 91, 92, 93, 94, 95, 96, 97, 98, 99, 100, 101, 102, 103, 104, 105, 106, 107, 108, 109, 110, 111, 112, 113, 114, 115, 116, 117, 118, 119, 120, 121, 122, 123, 124, 125, 126, 127, 128, 129, 130, 131, 132, 133, 134, 135, 136, 137, 138, 139, 140, 141, 142, 143, 144, 145, 146, 147, 148, 149, 150, 151, 152, 153, 154, 155, 156, 157, 158, 159, 160, 161, 162, 163, 164, 165, 166, 167, 168, 169, 170, 171, 172, 173, 174, 175, 176, 177, 178, 179, 180, 181, 182, 183, 184, 185, 186, 187, 188, 189, 190, 191, 192, 193, 194, 195, 196, 197, 198, 199, 200, 201, 202, 203, 204, 205, 206, 207, 208, 209, 210, 211, 212, 213, 214, 215, 216, 217, 218, 219, 220, 221, 222, 223, 224, 225, 226, 227, 228, 229, 230, 231, 232, 233, 234, 235, 236, 237, 238, 239, 240, 241, 247, 248, 249, 250, 251, 252, 253, 254, 255, 256, 257] (by decide +kernel) (by decide +kernel)
set_option maxRecDepth 20000 in
theorem gX2_init_X1_write : GoodIn wsX2_init (wsV RX2 25 RX1 yX1_write wsX1_write) := goodIn_app (goodIn_of _ (by decide +kernel)) ggX2_init_X1_write
theorem dX2_init_0 : decode cX2_init 0 = .ok (.aload_n 0, 1) := by decide +kernel
theorem dX2_init_1 : decode cX2_init 1 = .ok (.invokespecial 3, 3) := by decide +kernel
theorem dX2_init_4 : decode cX2_init 4 = .ok (.aload_n 0, 1) := by decide +kernel
theorem dX2_init_5 : decode cX2_init 5 = .ok (.bipush 32, 2) := by decide +kernel
theorem dX2_init_7 : decode cX2_init 7 = .ok (.newarray .int, 2) := by decide +kernel
theorem dX2_init_9 : decode cX2_init 9 = .ok (.putfield 9, 3) := by decide +kernel
theorem dX2_init_12 : decode cX2_init 12 = .ok (.aload_n 0, 1) := by decide +kernel
theorem dX2_init_13 : decode cX2_init 13 = .ok (.bipush 32, 2) := by decide +kernel
theorem dX2_init_15 : decode cX2_init 15 = .ok (.newarray .int, 2) := by decide +kernel
theorem dX2_init_17 : decode cX2_init 17 = .ok (.putfield 15, 3) := by decide +kernel
theorem dX2_init_20 : decode cX2_init 20 = .ok (.aload_n 0, 1) := by decide +kernel
theorem dX2_init_21 : decode cX2_init 21 = .ok (.bipush 32, 2) := by decide +kernel
theorem dX2_init_23 : decode cX2_init 23 = .ok (.newarray .int, 2) := by decide +kernel
theorem dX2_init_25 : decode cX2_init 25 = .ok (.putfield 18, 3) := by decide +kernel
theorem dX2_init_28 : decode cX2_init 28 = .ok (.aload_n 0, 1) := by decide +kernel
theorem dX2_init_29 : decode cX2_init 29 = .ok (.aload_n 1, 1) := by decide +kernel
theorem dX2_init_30 : decode cX2_init 30 = .ok (.putfield 21, 3) := by decide +kernel
theorem dX2_init_33 : decode cX2_init 33 = .ok (.aload_n 0, 1) := by decide +kernel
theorem dX2_init_34 : decode cX2_init 34 = .ok (.aload_n 1, 1) := by decide +kernel
theorem dX2_init_35 : decode cX2_init 35 = .ok (.invokevirtual 25, 3) := by decide +kernel
theorem dX2_init_38 : decode cX2_init 38 = .ok (.putfield 31, 3) := by decide +kernel
theorem dX2_init_41 : decode cX2_init 41 = .ok (.return_, 1) := by decide +kernel
set_option maxRecDepth 20000 in
theorem ggX2_of_X2_init : GoodIn wsX2_of wsX2_init := goodIn_r _ [6, 7, 8, 9, 10, 11, 12, 13, 14, 15, 16, 17, 18, 19, 20, 21, 22, 23, 24, 25, 26, 27, 28, 29, 30, 31, 32, 33, 34, 35, 36, 37, 38, 39, 40, 41, 42, 43, 44, 45, 46, 47, 48, 49, 50, 51, 52, 53, 54, 55, 56, 57, 58, 59, 60, 61, 62, 63, 64, 65, 66, 67, 68, 69, 70, 71, 72, 73, 74, 75, 76, 77, 78, 79, 80, 81, 82, 83, 84, 85, 86, 87, 88, 89, 90, 91, 92, 93, 94, 95, 96, 97, 98, 99, 100, 101, 102, 103, 104, 105, 106, 107, 108, 109, 110, 111, 112, 113, 114, 115, 116, 117, 118, 119, 120, 121, 122, 123, 124, 125, 126, 127, 128, 129, 130, 131, 132, 133, 134, 135, 136, 137, 138, 139, 140, 141, 142, 143, 144, 145, 146, 147, 148, 149, 150, 151, 152, 153, 154, 155, 156, 157, 158, 159, 160, 161, 162, 163, 164, 165, 166, 167, 168, 169, 170, 171, 172, 173, 174, 175, 176, 177, 178, 179, 180, 181, 182, 183, 184, 185, 186, 187, 188, 189, 190, 191, 192, 193, 194, 195, 196, 197, 198, 199, 200, 201, 202, 203, 204, 205, 206, 207, 208, 209, 210, 211, 212, 213, 214, 215, 216, 217, 218, 219, 220, 221, 222, 223, 224, 225, 226, 227, 228, 229, 230, 231, 232, 233, 234, 235, 236, 237, 238, 239, 240, 241, 242, 243, 244, 245, 246, 247, 273, 274, 275, 276, 277, 278, 279, 280, 281, 282, 283, 284, 285, 286, 287, 288] (by decide +kernel) (by decide +kernel)
set_option maxRecDepth 20000 in
theorem gX2_of_X2_init : GoodIn wsX2_of (wsX2_init) := ggX2_of_X2_init
set_option maxRecDepth 20000 in
theorem ggX2_of_X2_markPosts : GoodIn wsX2_of wsX2_markPosts := goodIn_r _ [251, 14, 252, 12, 11, 13, 253, 254, 255, 19, 256, 26, 25, 157, 158, 78, 159, 47, 48, 49, 50, 24, 257, 258, 259, 260, 261, 262, 263, 264, 265, 266, 267, 268, 269, 270, 271, 272, 273, 274, 275, 276, 277, 282, 283, 284] (by decide +kernel) (by decide +kernel)
set_option maxRecDepth 20000 in
theorem gX2_of_X2_markPosts : GoodIn wsX2_of (wsV RX2 38 RX2 yX2_markPosts wsX2_markPosts) := goodIn_app (goodIn_of _ (by decide +kernel)) ggX2_of_X2_markPosts
theorem dX2_of_0 : decode cX2_of 0 = .ok (.new 10, 3) := by decide +kernel
theorem dX2_of_3 : decode cX2_of 3 = .ok (.dup, 1) := by decide +kernel
theorem dX2_of_4 : decode cX2_of 4 = .ok (.aload_n 0, 1) := by decide +kernel
theorem dX2_of_5 : decode cX2_of 5 = .ok (.invokespecial 35, 3) := by decide +kernel
theorem dX2_of_8 : decode cX2_of 8 = .ok (.astore_n 1, 1) := by decide +kernel
theorem dX2_of_9 : decode cX2_of 9 = .ok (.aload_n 1, 1) := by decide +kernel
theorem dX2_of_10 : decode cX2_of 10 = .ok (.invokevirtual 38, 3) := by decide +kernel
theorem dX2_of_13 : decode cX2_of 13 = .ok (.aload_n 1, 1) := by decide +kernel
theorem dX2_of_14 : decode cX2_of 14 = .ok (.areturn, 1) := by decide +kernel
set_option maxRecDepth 20000 in
theorem ggX2_markPosts_X1_markPostsOn : GoodIn wsX2_markPosts wsX1_markPostsOn := goodIn_r _ [10, 11, 12, 13, 14, 15, 16, 17, 18, 19, 9, 20, 21, 22, 23, 24, 25, 26, 27, 28, 29, 43, 44, 45] (by decide +kernel) (by decide +kernel)
set_option maxRecDepth 20000 in
theorem gX2_markPosts_X1_markPostsOn : GoodIn wsX2_markPosts (wsV RX2 45 RX1 yX1_markPostsOn wsX1_markPostsOn) := goodIn_app (goodIn_of _ (by decide +kernel)) ggX2_markPosts_X1_markPostsOn
set_option maxRecDepth 20000 in
theorem ggX2_markPosts_X1_flipPostsWestOf : GoodIn wsX2_markPosts wsX1_flipPostsWestOf := goodIn_r _ [33, 12, 11, 17, 18, 19, 9, 20, 21, 34, 35, 36, 37, 25, 23, 26, 27, 28, 29, 43, 44, 45] (by decide +kernel) (by decide +kernel)
set_option maxRecDepth 20000 in
theorem gX2_markPosts_X1_flipPostsWestOf : GoodIn wsX2_markPosts (wsV RX2 49 RX1 yX1_flipPostsWestOf wsX1_flipPostsWestOf) := goodIn_app (goodIn_of _ (by decide +kernel)) ggX2_markPosts_X1_flipPostsWestOf
theorem dX2_markPosts_0 : decode cX2_markPosts 0 = .ok (.iconst 0, 1) := by decide +kernel
theorem dX2_markPosts_1 : decode cX2_markPosts 1 = .ok (.istore_n 1, 1) := by decide +kernel
theorem dX2_markPosts_2 : decode cX2_markPosts 2 = .ok (.iload_n 1, 1) := by decide +kernel
theorem dX2_markPosts_3 : decode cX2_markPosts 3 = .ok (.aload_n 0, 1) := by decide +kernel
theorem dX2_markPosts_4 : decode cX2_markPosts 4 = .ok (.getfield 21, 3) := by decide +kernel
theorem dX2_markPosts_7 : decode cX2_markPosts 7 = .ok (.getfield 41, 3) := by decide +kernel
theorem dX2_markPosts_10 : decode cX2_markPosts 10 = .ok (.if_icmp .ge 33, 3) := by decide +kernel
theorem dX2_markPosts_13 : decode cX2_markPosts 13 = .ok (.aload_n 0, 1) := by decide +kernel
theorem dX2_markPosts_14 : decode cX2_markPosts 14 = .ok (.getfield 21, 3) := by decide +kernel
theorem dX2_markPosts_17 : decode cX2_markPosts 17 = .ok (.iload_n 1, 1) := by decide +kernel
theorem dX2_markPosts_18 : decode cX2_markPosts 18 = .ok (.aload_n 0, 1) := by decide +kernel
theorem dX2_markPosts_19 : decode cX2_markPosts 19 = .ok (.getfield 15, 3) := by decide +kernel
theorem dX2_markPosts_22 : decode cX2_markPosts 22 = .ok (.invokevirtual 45, 3) := by decide +kernel
theorem dX2_markPosts_25 : decode cX2_markPosts 25 = .ok (.aload_n 0, 1) := by decide +kernel
theorem dX2_markPosts_26 : decode cX2_markPosts 26 = .ok (.getfield 21, 3) := by decide +kernel
theorem dX2_markPosts_29 : decode cX2_markPosts 29 = .ok (.iload_n 1, 1) := by decide +kernel
theorem dX2_markPosts_30 : decode cX2_markPosts 30 = .ok (.aload_n 0, 1) := by decide +kernel
theorem dX2_markPosts_31 : decode cX2_markPosts 31 = .ok (.getfield 9, 3) := by decide +kernel
theorem dX2_markPosts_34 : decode cX2_markPosts 34 = .ok (.invokevirtual 49, 3) := by decide +kernel
theorem dX2_markPosts_37 : decode cX2_markPosts 37 = .ok (.iinc 1 1, 3) := by decide +kernel
theorem dX2_markPosts_40 : decode cX2_markPosts 40 = .ok (.goto (-38), 3) := by decide +kernel
theorem dX2_markPosts_43 : decode cX2_markPosts 43 = .ok (.iconst 0, 1) := by decide +kernel
theorem dX2_markPosts_44 : decode cX2_markPosts 44 = .ok (.istore_n 1, 1) := by decide +kernel
theorem dX2_markPosts_45 : decode cX2_markPosts 45 = .ok (.iload_n 1, 1) := by decide +kernel
theorem dX2_markPosts_46 : decode cX2_markPosts 46 = .ok (.bipush 32, 2) := by decide +kernel
theorem dX2_markPosts_48 : decode cX2_markPosts 48 = .ok (.if_icmp .ge 45, 3) := by decide +kernel
theorem dX2_markPosts_51 : decode cX2_markPosts 51 = .ok (.aload_n 0, 1) := by decide +kernel
theorem dX2_markPosts_52 : decode cX2_markPosts 52 = .ok (.getfield 9, 3) := by decide +kernel
theorem dX2_markPosts_55 : decode cX2_markPosts 55 = .ok (.iload_n 1, 1) := by decide +kernel
theorem dX2_markPosts_56 : decode cX2_markPosts 56 = .ok (.dup2, 1) := by decide +kernel
theorem dX2_markPosts_57 : decode cX2_markPosts 57 = .ok (.iaload, 1) := by decide +kernel
theorem dX2_markPosts_58 : decode cX2_markPosts 58 = .ok (.aload_n 0, 1) := by decide +kernel
theorem dX2_markPosts_59 : decode cX2_markPosts 59 = .ok (.getfield 15, 3) := by decide +kernel
theorem dX2_markPosts_62 : decode cX2_markPosts 62 = .ok (.iload_n 1, 1) := by decide +kernel
theorem dX2_markPosts_63 : decode cX2_markPosts 63 = .ok (.iaload, 1) := by decide +kernel
theorem dX2_markPosts_64 : decode cX2_markPosts 64 = .ok (.iconst (-1), 1) := by decide +kernel
theorem dX2_markPosts_65 : decode cX2_markPosts 65 = .ok (.ixor, 1) := by decide +kernel
theorem dX2_markPosts_66 : decode cX2_markPosts 66 = .ok (.iand, 1) := by decide +kernel
theorem dX2_markPosts_67 : decode cX2_markPosts 67 = .ok (.iastore, 1) := by decide +kernel
theorem dX2_markPosts_68 : decode cX2_markPosts 68 = .ok (.aload_n 0, 1) := by decide +kernel
theorem dX2_markPosts_69 : decode cX2_markPosts 69 = .ok (.getfield 18, 3) := by decide +kernel
theorem dX2_markPosts_72 : decode cX2_markPosts 72 = .ok (.iload_n 1, 1) := by decide +kernel
theorem dX2_markPosts_73 : decode cX2_markPosts 73 = .ok (.aload_n 0, 1) := by decide +kernel
theorem dX2_markPosts_74 : decode cX2_markPosts 74 = .ok (.getfield 9, 3) := by decide +kernel
theorem dX2_markPosts_77 : decode cX2_markPosts 77 = .ok (.iload_n 1, 1) := by decide +kernel
theorem dX2_markPosts_78 : decode cX2_markPosts 78 = .ok (.iaload, 1) := by decide +kernel
theorem dX2_markPosts_79 : decode cX2_markPosts 79 = .ok (.aload_n 0, 1) := by decide +kernel
theorem dX2_markPosts_80 : decode cX2_markPosts 80 = .ok (.getfield 15, 3) := by decide +kernel
theorem dX2_markPosts_83 : decode cX2_markPosts 83 = .ok (.iload_n 1, 1) := by decide +kernel
theorem dX2_markPosts_84 : decode cX2_markPosts 84 = .ok (.iaload, 1) := by decide +kernel
theorem dX2_markPosts_85 : decode cX2_markPosts 85 = .ok (.ior, 1) := by decide +kernel
theorem dX2_markPosts_86 : decode cX2_markPosts 86 = .ok (.iastore, 1) := by decide +kernel
theorem dX2_markPosts_87 : decode cX2_markPosts 87 = .ok (.iinc 1 1, 3) := by decide +kernel
theorem dX2_markPosts_90 : decode cX2_markPosts 90 = .ok (.goto (-45), 3) := by decide +kernel
theorem dX2_markPosts_93 : decode cX2_markPosts 93 = .ok (.return_, 1) := by decide +kernel
set_option maxRecDepth 20000 in
theorem ggX2_howManyInside_X6_howManyInBoth : GoodIn wsX2_howManyInside wsX6_howManyInBoth := goodIn_r _ [4, 5, 6, 7, 8, 9, 10, 11] (by decide +kernel) (by decide +kernel)
set_option maxRecDepth 20000 in
theorem gX2_howManyInside_X6_howManyInBoth_n52 : GoodIn wsX2_howManyInside (wsX6_howManyInBoth) := ggX2_howManyInside_X6_howManyInBoth
theorem dX2_howManyInside_0 : decode cX2_howManyInside 0 = .ok (.aload_n 0, 1) := by decide +kernel
theorem dX2_howManyInside_1 : decode cX2_howManyInside 1 = .ok (.getfield 9, 3) := by decide +kernel
theorem dX2_howManyInside_4 : decode cX2_howManyInside 4 = .ok (.aload_n 0, 1) := by decide +kernel
theorem dX2_howManyInside_5 : decode cX2_howManyInside 5 = .ok (.getfield 9, 3) := by decide +kernel
theorem dX2_howManyInside_8 : decode cX2_howManyInside 8 = .ok (.invokestatic 52, 3) := by decide +kernel
theorem dX2_howManyInside_11 : decode cX2_howManyInside 11 = .ok (.ireturn, 1) := by decide +kernel
set_option maxRecDepth 20000 in
theorem ggX2_howManyOnSides_X6_howManyInBoth : GoodIn wsX2_howManyOnSides wsX6_howManyInBoth := goodIn_r _ [4, 5, 6, 7, 8, 9, 10, 11] (by decide +kernel) (by decide +kernel)
set_option maxRecDepth 20000 in
theorem gX2_howManyOnSides_X6_howManyInBoth_n52 : GoodIn wsX2_howManyOnSides (wsX6_howManyInBoth) := ggX2_howManyOnSides_X6_howManyInBoth
theorem dX2_howManyOnSides_0 : decode cX2_howManyOnSides 0 = .ok (.aload_n 0, 1) := by decide +kernel
theorem dX2_howManyOnSides_1 : decode cX2_howManyOnSides 1 = .ok (.getfield 15, 3) := by decide +kernel
theorem dX2_howManyOnSides_4 : decode cX2_howManyOnSides 4 = .ok (.aload_n 0, 1) := by decide +kernel
theorem dX2_howManyOnSides_5 : decode cX2_howManyOnSides 5 = .ok (.getfield 15, 3) := by decide +kernel
theorem dX2_howManyOnSides_8 : decode cX2_howManyOnSides 8 = .ok (.invokestatic 52, 3) := by decide +kernel
theorem dX2_howManyOnSides_11 : decode cX2_howManyOnSides 11 = .ok (.ireturn, 1) := by decide +kernel
theorem dX3_init_0 : decode cX3_init 0 = .ok (.aload_n 0, 1) := by decide +kernel
theorem dX3_init_1 : decode cX3_init 1 = .ok (.invokespecial 1, 3) := by decide +kernel
theorem dX3_init_4 : decode cX3_init 4 = .ok (.aload_n 0, 1) := by decide +kernel
theorem dX3_init_5 : decode cX3_init 5 = .ok (.lconst 1, 1) := by decide +kernel
theorem dX3_init_6 : decode cX3_init 6 = .ok (.putfield 7, 3) := by decide +kernel
theorem dX3_init_9 : decode cX3_init 9 = .ok (.return_, 1) := by decide +kernel
theorem dX3_clear_0 : decode cX3_clear 0 = .ok (.aload_n 0, 1) := by decide +kernel
theorem dX3_clear_1 : decode cX3_clear 1 = .ok (.lconst 0, 1) := by decide +kernel
theorem dX3_clear_2 : decode cX3_clear 2 = .ok (.putfield 13, 3) := by decide +kernel
theorem dX3_clear_5 : decode cX3_clear 5 = .ok (.aload_n 0, 1) := by decide +kernel
theorem dX3_clear_6 : decode cX3_clear 6 = .ok (.lconst 1, 1) := by decide +kernel
theorem dX3_clear_7 : decode cX3_clear 7 = .ok (.putfield 7, 3) := by decide +kernel
theorem dX3_clear_10 : decode cX3_clear 10 = .ok (.return_, 1) := by decide +kernel
set_option maxRecDepth 20000 in
theorem ggX3_add_X6_greatestDivisor : GoodIn wsX3_add wsX6_greatestDivisor := goodIn_r _ [9] (by decide +kernel) (by decide +kernel)
set_option maxRecDepth 20000 in
theorem gX3_add_X6_greatestDivisor_n22 : GoodIn wsX3_add (wsX6_greatestDivisor) := ggX3_add_X6_greatestDivisor
theorem dX3_add_0 : decode cX3_add 0 = .ok (.aload_n 0, 1) := by decide +kernel
theorem dX3_add_1 : decode cX3_add 1 = .ok (.aload_n 0, 1) := by decide +kernel
theorem dX3_add_2 : decode cX3_add 2 = .ok (.getfield 13, 3) := by decide +kernel
theorem dX3_add_5 : decode cX3_add 5 = .ok (.lload_n 3, 1) := by decide +kernel
theorem dX3_add_6 : decode cX3_add 6 = .ok (.lmul, 1) := by decide +kernel
theorem dX3_add_7 : decode cX3_add 7 = .ok (.lload_n 1, 1) := by decide +kernel
theorem dX3_add_8 : decode cX3_add 8 = .ok (.aload_n 0, 1) := by decide +kernel
theorem dX3_add_9 : decode cX3_add 9 = .ok (.getfield 7, 3) := by decide +kernel
theorem dX3_add_12 : decode cX3_add 12 = .ok (.lmul, 1) := by decide +kernel
theorem dX3_add_13 : decode cX3_add 13 = .ok (.ladd, 1) := by decide +kernel
theorem dX3_add_14 : decode cX3_add 14 = .ok (.putfield 13, 3) := by decide +kernel
theorem dX3_add_17 : decode cX3_add 17 = .ok (.aload_n 0, 1) := by decide +kernel
theorem dX3_add_18 : decode cX3_add 18 = .ok (.aload_n 0, 1) := by decide +kernel
theorem dX3_add_19 : decode cX3_add 19 = .ok (.getfield 7, 3) := by decide +kernel
theorem dX3_add_22 : decode cX3_add 22 = .ok (.lload_n 3, 1) := by decide +kernel
theorem dX3_add_23 : decode cX3_add 23 = .ok (.lmul, 1) := by decide +kernel
theorem dX3_add_24 : decode cX3_add 24 = .ok (.putfield 7, 3) := by decide +kernel
theorem dX3_add_27 : decode cX3_add 27 = .ok (.aload_n 0, 1) := by decide +kernel
theorem dX3_add_28 : decode cX3_add 28 = .ok (.getfield 13, 3) := by decide +kernel
theorem dX3_add_31 : decode cX3_add 31 = .ok (.invokestatic 16, 3) := by decide +kernel
theorem dX3_add_34 : decode cX3_add 34 = .ok (.aload_n 0, 1) := by decide +kernel
theorem dX3_add_35 : decode cX3_add 35 = .ok (.getfield 7, 3) := by decide +kernel
theorem dX3_add_38 : decode cX3_add 38 = .ok (.invokestatic 22, 3) := by decide +kernel
theorem dX3_add_41 : decode cX3_add 41 = .ok (.lstore 5, 2) := by decide +kernel
theorem dX3_add_43 : decode cX3_add 43 = .ok (.lload 5, 2) := by decide +kernel
theorem dX3_add_45 : decode cX3_add 45 = .ok (.lconst 1, 1) := by decide +kernel
theorem dX3_add_46 : decode cX3_add 46 = .ok (.lcmp, 1) := by decide +kernel
theorem dX3_add_47 : decode cX3_add 47 = .ok (.ifCond .le 25, 3) := by decide +kernel
theorem dX3_add_50 : decode cX3_add 50 = .ok (.aload_n 0, 1) := by decide +kernel
theorem dX3_add_51 : decode cX3_add 51 = .ok (.dup, 1) := by decide +kernel
theorem dX3_add_52 : decode cX3_add 52 = .ok (.getfield 13, 3) := by decide +kernel
theorem dX3_add_55 : decode cX3_add 55 = .ok (.lload 5, 2) := by decide +kernel
theorem dX3_add_57 : decode cX3_add 57 = .ok (.ldiv, 1) := by decide +kernel
theorem dX3_add_58 : decode cX3_add 58 = .ok (.putfield 13, 3) := by decide +kernel
theorem dX3_add_61 : decode cX3_add 61 = .ok (.aload_n 0, 1) := by decide +kernel
theorem dX3_add_62 : decode cX3_add 62 = .ok (.dup, 1) := by decide +kernel
theorem dX3_add_63 : decode cX3_add 63 = .ok (.getfield 7, 3) := by decide +kernel
theorem dX3_add_66 : decode cX3_add 66 = .ok (.lload 5, 2) := by decide +kernel
theorem dX3_add_68 : decode cX3_add 68 = .ok (.ldiv, 1) := by decide +kernel
theorem dX3_add_69 : decode cX3_add 69 = .ok (.putfield 7, 3) := by decide +kernel
theorem dX3_add_72 : decode cX3_add 72 = .ok (.return_, 1) := by decide +kernel
theorem dX3_dropSign_0 : decode cX3_dropSign 0 = .ok (.aload_n 0, 1) := by decide +kernel
theorem dX3_dropSign_1 : decode cX3_dropSign 1 = .ok (.aload_n 0, 1) := by decide +kernel
theorem dX3_dropSign_2 : decode cX3_dropSign 2 = .ok (.getfield 13, 3) := by decide +kernel
theorem dX3_dropSign_5 : decode cX3_dropSign 5 = .ok (.invokestatic 16, 3) := by decide +kernel
theorem dX3_dropSign_8 : decode cX3_dropSign 8 = .ok (.putfield 13, 3) := by decide +kernel
theorem dX3_dropSign_11 : decode cX3_dropSign 11 = .ok (.return_, 1) := by decide +kernel
theorem dX4_init_0 : decode cX4_init 0 = .ok (.aload_n 0, 1) := by decide +kernel
theorem dX4_init_1 : decode cX4_init 1 = .ok (.invokespecial 3, 3) := by decide +kernel
theorem dX4_init_4 : decode cX4_init 4 = .ok (.aload_n 0, 1) := by decide +kernel
theorem dX4_init_5 : decode cX4_init 5 = .ok (.bipush 48, 2) := by decide +kernel
theorem dX4_init_7 : decode cX4_init 7 = .ok (.newarray .int, 2) := by decide +kernel
theorem dX4_init_9 : decode cX4_init 9 = .ok (.putfield 9, 3) := by decide +kernel
theorem dX4_init_12 : decode cX4_init 12 = .ok (.aload_n 0, 1) := by decide +kernel
theorem dX4_init_13 : decode cX4_init 13 = .ok (.bipush 8, 2) := by decide +kernel
theorem dX4_init_15 : decode cX4_init 15 = .ok (.newarray .int, 2) := by decide +kernel
theorem dX4_init_17 : decode cX4_init 17 = .ok (.putfield 15, 3) := by decide +kernel
theorem dX4_init_20 : decode cX4_init 20 = .ok (.aload_n 0, 1) := by decide +kernel
theorem dX4_init_21 : decode cX4_init 21 = .ok (.bipush 8, 2) := by decide +kernel
theorem dX4_init_23 : decode cX4_init 23 = .ok (.newarray .int, 2) := by decide +kernel
theorem dX4_init_25 : decode cX4_init 25 = .ok (.putfield 18, 3) := by decide +kernel
theorem dX4_init_28 : decode cX4_init 28 = .ok (.return_, 1) := by decide +kernel
theorem dX4_append_0 : decode cX4_append 0 = .ok (.aload_n 0, 1) := by decide +kernel
theorem dX4_append_1 : decode cX4_append 1 = .ok (.getfield 21, 3) := by decide +kernel
theorem dX4_append_4 : decode cX4_append 4 = .ok (.ifCond .lt 15, 3) := by decide +kernel
theorem dX4_append_7 : decode cX4_append 7 = .ok (.aload_n 0, 1) := by decide +kernel
theorem dX4_append_8 : decode cX4_append 8 = .ok (.getfield 21, 3) := by decide +kernel
theorem dX4_append_11 : decode cX4_append 11 = .ok (.aload_n 0, 1) := by decide +kernel
theorem dX4_append_12 : decode cX4_append 12 = .ok (.getfield 9, 3) := by decide +kernel
theorem dX4_append_15 : decode cX4_append 15 = .ok (.arraylength, 1) := by decide +kernel
theorem dX4_append_16 : decode cX4_append 16 = .ok (.if_icmp .lt 5, 3) := by decide +kernel
theorem dX4_append_19 : decode cX4_append 19 = .ok (.iconst 0, 1) := by decide +kernel
theorem dX4_append_20 : decode cX4_append 20 = .ok (.ireturn, 1) := by decide +kernel
theorem dX4_append_21 : decode cX4_append 21 = .ok (.aload_n 0, 1) := by decide +kernel
theorem dX4_append_22 : decode cX4_append 22 = .ok (.getfield 9, 3) := by decide +kernel
theorem dX4_append_25 : decode cX4_append 25 = .ok (.aload_n 0, 1) := by decide +kernel
theorem dX4_append_26 : decode cX4_append 26 = .ok (.getfield 21, 3) := by decide +kernel
theorem dX4_append_29 : decode cX4_append 29 = .ok (.iload_n 1, 1) := by decide +kernel
theorem dX4_append_30 : decode cX4_append 30 = .ok (.iastore, 1) := by decide +kernel
theorem dX4_append_31 : decode cX4_append 31 = .ok (.aload_n 0, 1) := by decide +kernel
theorem dX4_append_32 : decode cX4_append 32 = .ok (.dup, 1) := by decide +kernel
theorem dX4_append_33 : decode cX4_append 33 = .ok (.getfield 21, 3) := by decide +kernel
theorem dX4_append_36 : decode cX4_append 36 = .ok (.iconst 1, 1) := by decide +kernel
theorem dX4_append_37 : decode cX4_append 37 = .ok (.iadd, 1) := by decide +kernel
theorem dX4_append_38 : decode cX4_append 38 = .ok (.putfield 21, 3) := by decide +kernel
theorem dX4_append_41 : decode cX4_append 41 = .ok (.iconst 1, 1) := by decide +kernel
theorem dX4_append_42 : decode cX4_append 42 = .ok (.ireturn, 1) := by decide +kernel
theorem dX4_clear_0 : decode cX4_clear 0 = .ok (.aload_n 0, 1) := by decide +kernel
theorem dX4_clear_1 : decode cX4_clear 1 = .ok (.getfield 21, 3) := by decide +kernel
theorem dX4_clear_4 : decode cX4_clear 4 = .ok (.istore_n 1, 1) := by decide +kernel
theorem dX4_clear_5 : decode cX4_clear 5 = .ok (.aload_n 0, 1) := by decide +kernel
theorem dX4_clear_6 : decode cX4_clear 6 = .ok (.iconst 0, 1) := by decide +kernel
theorem dX4_clear_7 : decode cX4_clear 7 = .ok (.putfield 21, 3) := by decide +kernel
theorem dX4_clear_10 : decode cX4_clear 10 = .ok (.iload_n 1, 1) := by decide +kernel
theorem dX4_clear_11 : decode cX4_clear 11 = .ok (.ireturn, 1) := by decide +kernel
set_option maxRecDepth 20000 in
theorem ggX4_read_X4_takes : GoodIn wsX4_read wsX4_takes := goodIn_r _ [10, 2, 5, 1, 11, 12, 13, 9, 14, 15, 16, 17, 18, 19, 20, 21, 22, 23, 24, 25, 26, 27, 28, 29, 30, 31, 32, 33, 34, 35, 36] (by decide +kernel) (by decide +kernel)
set_option maxRecDepth 20000 in
theorem gX4_read_X4_takes : GoodIn wsX4_read (wsV RX4 31 RX4 yX4_takes wsX4_takes) := goodIn_app (goodIn_of _ (by decide +kernel)) ggX4_read_X4_takes
theorem dX4_read_0 : decode cX4_read 0 = .ok (.aload_n 0, 1) := by decide +kernel
theorem dX4_read_1 : decode cX4_read 1 = .ok (.iconst 0, 1) := by decide +kernel
theorem dX4_read_2 : decode cX4_read 2 = .ok (.putfield 25, 3) := by decide +kernel
theorem dX4_read_5 : decode cX4_read 5 = .ok (.aload_n 0, 1) := by decide +kernel
theorem dX4_read_6 : decode cX4_read 6 = .ok (.iconst 0, 1) := by decide +kernel
theorem dX4_read_7 : decode cX4_read 7 = .ok (.putfield 28, 3) := by decide +kernel
theorem dX4_read_10 : decode cX4_read 10 = .ok (.iconst 0, 1) := by decide +kernel
theorem dX4_read_11 : decode cX4_read 11 = .ok (.istore_n 1, 1) := by decide +kernel
theorem dX4_read_12 : decode cX4_read 12 = .ok (.iload_n 1, 1) := by decide +kernel
theorem dX4_read_13 : decode cX4_read 13 = .ok (.aload_n 0, 1) := by decide +kernel
theorem dX4_read_14 : decode cX4_read 14 = .ok (.getfield 21, 3) := by decide +kernel
theorem dX4_read_17 : decode cX4_read 17 = .ok (.if_icmp .ge 33, 3) := by decide +kernel
theorem dX4_read_20 : decode cX4_read 20 = .ok (.iload_n 1, 1) := by decide +kernel
theorem dX4_read_21 : decode cX4_read 21 = .ok (.aload_n 0, 1) := by decide +kernel
theorem dX4_read_22 : decode cX4_read 22 = .ok (.getfield 9, 3) := by decide +kernel
theorem dX4_read_25 : decode cX4_read 25 = .ok (.arraylength, 1) := by decide +kernel
theorem dX4_read_26 : decode cX4_read 26 = .ok (.if_icmp .ge 24, 3) := by decide +kernel
theorem dX4_read_29 : decode cX4_read 29 = .ok (.aload_n 0, 1) := by decide +kernel
theorem dX4_read_30 : decode cX4_read 30 = .ok (.aload_n 0, 1) := by decide +kernel
theorem dX4_read_31 : decode cX4_read 31 = .ok (.getfield 9, 3) := by decide +kernel
theorem dX4_read_34 : decode cX4_read 34 = .ok (.iload_n 1, 1) := by decide +kernel
theorem dX4_read_35 : decode cX4_read 35 = .ok (.iaload, 1) := by decide +kernel
theorem dX4_read_36 : decode cX4_read 36 = .ok (.invokevirtual 31, 3) := by decide +kernel
theorem dX4_read_39 : decode cX4_read 39 = .ok (.ifCond .ne 5, 3) := by decide +kernel
theorem dX4_read_42 : decode cX4_read 42 = .ok (.iload_n 1, 1) := by decide +kernel
theorem dX4_read_43 : decode cX4_read 43 = .ok (.ireturn, 1) := by decide +kernel
theorem dX4_read_44 : decode cX4_read 44 = .ok (.iinc 1 1, 3) := by decide +kernel
theorem dX4_read_47 : decode cX4_read 47 = .ok (.goto (-35), 3) := by decide +kernel
theorem dX4_read_50 : decode cX4_read 50 = .ok (.aload_n 0, 1) := by decide +kernel
theorem dX4_read_51 : decode cX4_read 51 = .ok (.getfield 28, 3) := by decide +kernel
theorem dX4_read_54 : decode cX4_read 54 = .ok (.ifCond .eq 22, 3) := by decide +kernel
theorem dX4_read_57 : decode cX4_read 57 = .ok (.aload_n 0, 1) := by decide +kernel
theorem dX4_read_58 : decode cX4_read 58 = .ok (.getfield 35, 3) := by decide +kernel
theorem dX4_read_61 : decode cX4_read 61 = .ok (.ifCond .le 15, 3) := by decide +kernel
theorem dX4_read_64 : decode cX4_read 64 = .ok (.aload_n 0, 1) := by decide +kernel
theorem dX4_read_65 : decode cX4_read 65 = .ok (.getfield 25, 3) := by decide +kernel
theorem dX4_read_68 : decode cX4_read 68 = .ok (.iconst 3, 1) := by decide +kernel
theorem dX4_read_69 : decode cX4_read 69 = .ok (.if_icmp .lt 7, 3) := by decide +kernel
theorem dX4_read_72 : decode cX4_read 72 = .ok (.iconst 1, 1) := by decide +kernel
theorem dX4_read_73 : decode cX4_read 73 = .ok (.goto 4, 3) := by decide +kernel
theorem dX4_read_76 : decode cX4_read 76 = .ok (.iconst 0, 1) := by decide +kernel
theorem dX4_read_77 : decode cX4_read 77 = .ok (.istore_n 1, 1) := by decide +kernel
theorem dX4_read_78 : decode cX4_read 78 = .ok (.iload_n 1, 1) := by decide +kernel
theorem dX4_read_79 : decode cX4_read 79 = .ok (.ifCond .eq 8, 3) := by decide +kernel
theorem dX4_read_82 : decode cX4_read 82 = .ok (.bipush (-6), 2) := by decide +kernel
theorem dX4_read_84 : decode cX4_read 84 = .ok (.goto 7, 3) := by decide +kernel
theorem dX4_read_87 : decode cX4_read 87 = .ok (.aload_n 0, 1) := by decide +kernel
theorem dX4_read_88 : decode cX4_read 88 = .ok (.getfield 21, 3) := by decide +kernel
theorem dX4_read_91 : decode cX4_read 91 = .ok (.ireturn, 1) := by decide +kernel
set_option maxRecDepth 20000 in
theorem ggX4_takes_X4_opensCall : GoodIn wsX4_takes wsX4_opensCall := goodIn_r _ [8, 3, 9, 10, 11, 12, 7, 13, 14, 15, 16, 17, 1, 18, 2, 23, 24, 25, 26, 27, 28, 29, 30] (by decide +kernel) (by decide +kernel)
set_option maxRecDepth 20000 in
theorem gX4_takes_X4_opensCall : GoodIn wsX4_takes (wsV RX4 38 RX4 yX4_opensCall wsX4_opensCall) := goodIn_app (goodIn_of _ (by decide +kernel)) ggX4_takes_X4_opensCall
set_option maxRecDepth 20000 in
theorem ggX4_takes_X4_takesDigit : GoodIn wsX4_takes wsX4_takesDigit := goodIn_r _ [22, 2, 3, 1, 9, 18, 10, 23, 24, 25, 26, 27, 28, 29, 30] (by decide +kernel) (by decide +kernel)
set_option maxRecDepth 20000 in
theorem gX4_takes_X4_takesDigit : GoodIn wsX4_takes (wsV RX4 41 RX4 yX4_takesDigit wsX4_takesDigit) := goodIn_app (goodIn_of _ (by decide +kernel)) ggX4_takes_X4_takesDigit
set_option maxRecDepth 20000 in
theorem ggX4_takes_X4_isEastOrWest : GoodIn wsX4_takes wsX4_isEastOrWest := goodIn_r _ [13] (by decide +kernel) (by decide +kernel)
set_option maxRecDepth 20000 in
theorem gX4_takes_X4_isEastOrWest : GoodIn wsX4_takes (va_wsS RX4 44 yX4_isEastOrWest wsX4_isEastOrWest) := goodIn_app (goodIn_of _ (by decide +kernel)) ggX4_takes_X4_isEastOrWest
set_option maxRecDepth 20000 in
theorem ggX4_takes_X4_openLeg : GoodIn wsX4_takes wsX4_openLeg := goodIn_r _ [17, 1, 18, 2, 23, 24, 25, 26, 27, 28, 29, 30] (by decide +kernel) (by decide +kernel)
set_option maxRecDepth 20000 in
theorem gX4_takes_X4_openLeg : GoodIn wsX4_takes (wsV RX4 47 RX4 yX4_openLeg wsX4_openLeg) := goodIn_app (goodIn_of _ (by decide +kernel)) ggX4_takes_X4_openLeg
theorem dX4_takes_0 : decode cX4_takes 0 = .ok (.aload_n 0, 1) := by decide +kernel
theorem dX4_takes_1 : decode cX4_takes 1 = .ok (.getfield 28, 3) := by decide +kernel
theorem dX4_takes_4 : decode cX4_takes 4 = .ok (.ifCond .ne 9, 3) := by decide +kernel
theorem dX4_takes_7 : decode cX4_takes 7 = .ok (.aload_n 0, 1) := by decide +kernel
theorem dX4_takes_8 : decode cX4_takes 8 = .ok (.iload_n 1, 1) := by decide +kernel
theorem dX4_takes_9 : decode cX4_takes 9 = .ok (.invokevirtual 38, 3) := by decide +kernel
theorem dX4_takes_12 : decode cX4_takes 12 = .ok (.ireturn, 1) := by decide +kernel
theorem dX4_takes_13 : decode cX4_takes 13 = .ok (.iload_n 1, 1) := by decide +kernel
theorem dX4_takes_14 : decode cX4_takes 14 = .ok (.bipush 48, 2) := by decide +kernel
theorem dX4_takes_16 : decode cX4_takes 16 = .ok (.if_icmp .lt 18, 3) := by decide +kernel
theorem dX4_takes_19 : decode cX4_takes 19 = .ok (.iload_n 1, 1) := by decide +kernel
theorem dX4_takes_20 : decode cX4_takes 20 = .ok (.bipush 57, 2) := by decide +kernel
theorem dX4_takes_22 : decode cX4_takes 22 = .ok (.if_icmp .gt 12, 3) := by decide +kernel
theorem dX4_takes_25 : decode cX4_takes 25 = .ok (.aload_n 0, 1) := by decide +kernel
theorem dX4_takes_26 : decode cX4_takes 26 = .ok (.iload_n 1, 1) := by decide +kernel
theorem dX4_takes_27 : decode cX4_takes 27 = .ok (.bipush 48, 2) := by decide +kernel
theorem dX4_takes_29 : decode cX4_takes 29 = .ok (.isub, 1) := by decide +kernel
theorem dX4_takes_30 : decode cX4_takes 30 = .ok (.invokevirtual 41, 3) := by decide +kernel
theorem dX4_takes_33 : decode cX4_takes 33 = .ok (.ireturn, 1) := by decide +kernel
theorem dX4_takes_34 : decode cX4_takes 34 = .ok (.aload_n 0, 1) := by decide +kernel
theorem dX4_takes_35 : decode cX4_takes 35 = .ok (.getfield 35, 3) := by decide +kernel
theorem dX4_takes_38 : decode cX4_takes 38 = .ok (.ifCond .ne 5, 3) := by decide +kernel
theorem dX4_takes_41 : decode cX4_takes 41 = .ok (.iconst 0, 1) := by decide +kernel
theorem dX4_takes_42 : decode cX4_takes 42 = .ok (.ireturn, 1) := by decide +kernel
theorem dX4_takes_43 : decode cX4_takes 43 = .ok (.aload_n 0, 1) := by decide +kernel
theorem dX4_takes_44 : decode cX4_takes 44 = .ok (.getfield 28, 3) := by decide +kernel
theorem dX4_takes_47 : decode cX4_takes 47 = .ok (.iconst 1, 1) := by decide +kernel
theorem dX4_takes_48 : decode cX4_takes 48 = .ok (.if_icmp .ne 18, 3) := by decide +kernel
theorem dX4_takes_51 : decode cX4_takes 51 = .ok (.iload_n 1, 1) := by decide +kernel
theorem dX4_takes_52 : decode cX4_takes 52 = .ok (.invokestatic 44, 3) := by decide +kernel
theorem dX4_takes_55 : decode cX4_takes 55 = .ok (.ifCond .eq 11, 3) := by decide +kernel
theorem dX4_takes_58 : decode cX4_takes 58 = .ok (.aload_n 0, 1) := by decide +kernel
theorem dX4_takes_59 : decode cX4_takes 59 = .ok (.iconst 2, 1) := by decide +kernel
theorem dX4_takes_60 : decode cX4_takes 60 = .ok (.iload_n 1, 1) := by decide +kernel
theorem dX4_takes_61 : decode cX4_takes 61 = .ok (.invokevirtual 47, 3) := by decide +kernel
theorem dX4_takes_64 : decode cX4_takes 64 = .ok (.iconst 1, 1) := by decide +kernel
theorem dX4_takes_65 : decode cX4_takes 65 = .ok (.ireturn, 1) := by decide +kernel
theorem dX4_takes_66 : decode cX4_takes 66 = .ok (.iload_n 1, 1) := by decide +kernel
theorem dX4_takes_67 : decode cX4_takes 67 = .ok (.bipush 59, 2) := by decide +kernel
theorem dX4_takes_69 : decode cX4_takes 69 = .ok (.if_icmp .ne 19, 3) := by decide +kernel
theorem dX4_takes_72 : decode cX4_takes 72 = .ok (.aload_n 0, 1) := by decide +kernel
theorem dX4_takes_73 : decode cX4_takes 73 = .ok (.getfield 25, 3) := by decide +kernel
theorem dX4_takes_76 : decode cX4_takes 76 = .ok (.bipush 8, 2) := by decide +kernel
theorem dX4_takes_78 : decode cX4_takes 78 = .ok (.if_icmp .ge 10, 3) := by decide +kernel
theorem dX4_takes_81 : decode cX4_takes 81 = .ok (.aload_n 0, 1) := by decide +kernel
theorem dX4_takes_82 : decode cX4_takes 82 = .ok (.iconst 0, 1) := by decide +kernel
theorem dX4_takes_83 : decode cX4_takes 83 = .ok (.putfield 28, 3) := by decide +kernel
theorem dX4_takes_86 : decode cX4_takes 86 = .ok (.iconst 1, 1) := by decide +kernel
theorem dX4_takes_87 : decode cX4_takes 87 = .ok (.ireturn, 1) := by decide +kernel
theorem dX4_takes_88 : decode cX4_takes 88 = .ok (.iconst 0, 1) := by decide +kernel
theorem dX4_takes_89 : decode cX4_takes 89 = .ok (.ireturn, 1) := by decide +kernel
set_option maxRecDepth 20000 in
theorem ggX4_opensCall_X4_isEastOrWest : GoodIn wsX4_opensCall wsX4_isEastOrWest := goodIn_r _ [7] (by decide +kernel) (by decide +kernel)
set_option maxRecDepth 20000 in
theorem gX4_opensCall_X4_isEastOrWest : GoodIn wsX4_opensCall (va_wsS RX4 44 yX4_isEastOrWest wsX4_isEastOrWest) := goodIn_app (goodIn_of _ (by decide +kernel)) ggX4_opensCall_X4_isEastOrWest
set_option maxRecDepth 20000 in
theorem ggX4_opensCall_X4_openLeg : GoodIn wsX4_opensCall wsX4_openLeg := goodIn_r _ [11, 12, 13, 14, 15, 16, 17, 18, 19, 20, 21, 22] (by decide +kernel) (by decide +kernel)
set_option maxRecDepth 20000 in
theorem gX4_opensCall_X4_openLeg : GoodIn wsX4_opensCall (wsV RX4 47 RX4 yX4_openLeg wsX4_openLeg) := goodIn_app (goodIn_of _ (by decide +kernel)) ggX4_opensCall_X4_openLeg
theorem dX4_opensCall_0 : decode cX4_opensCall 0 = .ok (.iload_n 1, 1) := by decide +kernel
theorem dX4_opensCall_1 : decode cX4_opensCall 1 = .ok (.bipush 110, 2) := by decide +kernel
theorem dX4_opensCall_3 : decode cX4_opensCall 3 = .ok (.if_icmp .eq 9, 3) := by decide +kernel
theorem dX4_opensCall_6 : decode cX4_opensCall 6 = .ok (.iload_n 1, 1) := by decide +kernel
theorem dX4_opensCall_7 : decode cX4_opensCall 7 = .ok (.bipush 115, 2) := by decide +kernel
theorem dX4_opensCall_9 : decode cX4_opensCall 9 = .ok (.if_icmp .ne 7, 3) := by decide +kernel
theorem dX4_opensCall_12 : decode cX4_opensCall 12 = .ok (.iconst 1, 1) := by decide +kernel
theorem dX4_opensCall_13 : decode cX4_opensCall 13 = .ok (.goto 4, 3) := by decide +kernel
theorem dX4_opensCall_16 : decode cX4_opensCall 16 = .ok (.iconst 0, 1) := by decide +kernel
theorem dX4_opensCall_17 : decode cX4_opensCall 17 = .ok (.istore_n 2, 1) := by decide +kernel
theorem dX4_opensCall_18 : decode cX4_opensCall 18 = .ok (.iload_n 2, 1) := by decide +kernel
theorem dX4_opensCall_19 : decode cX4_opensCall 19 = .ok (.ifCond .ne 10, 3) := by decide +kernel
theorem dX4_opensCall_22 : decode cX4_opensCall 22 = .ok (.iload_n 1, 1) := by decide +kernel
theorem dX4_opensCall_23 : decode cX4_opensCall 23 = .ok (.invokestatic 44, 3) := by decide +kernel
theorem dX4_opensCall_26 : decode cX4_opensCall 26 = .ok (.ifCond .eq 19, 3) := by decide +kernel
theorem dX4_opensCall_29 : decode cX4_opensCall 29 = .ok (.aload_n 0, 1) := by decide +kernel
theorem dX4_opensCall_30 : decode cX4_opensCall 30 = .ok (.getfield 25, 3) := by decide +kernel
theorem dX4_opensCall_33 : decode cX4_opensCall 33 = .ok (.ifCond .lt 12, 3) := by decide +kernel
theorem dX4_opensCall_36 : decode cX4_opensCall 36 = .ok (.aload_n 0, 1) := by decide +kernel
theorem dX4_opensCall_37 : decode cX4_opensCall 37 = .ok (.getfield 25, 3) := by decide +kernel
theorem dX4_opensCall_40 : decode cX4_opensCall 40 = .ok (.bipush 8, 2) := by decide +kernel
theorem dX4_opensCall_42 : decode cX4_opensCall 42 = .ok (.if_icmp .lt 5, 3) := by decide +kernel
theorem dX4_opensCall_45 : decode cX4_opensCall 45 = .ok (.iconst 0, 1) := by decide +kernel
theorem dX4_opensCall_46 : decode cX4_opensCall 46 = .ok (.ireturn, 1) := by decide +kernel
theorem dX4_opensCall_47 : decode cX4_opensCall 47 = .ok (.aload_n 0, 1) := by decide +kernel
theorem dX4_opensCall_48 : decode cX4_opensCall 48 = .ok (.getfield 18, 3) := by decide +kernel
theorem dX4_opensCall_51 : decode cX4_opensCall 51 = .ok (.aload_n 0, 1) := by decide +kernel
theorem dX4_opensCall_52 : decode cX4_opensCall 52 = .ok (.getfield 25, 3) := by decide +kernel
theorem dX4_opensCall_55 : decode cX4_opensCall 55 = .ok (.iconst 0, 1) := by decide +kernel
theorem dX4_opensCall_56 : decode cX4_opensCall 56 = .ok (.iastore, 1) := by decide +kernel
theorem dX4_opensCall_57 : decode cX4_opensCall 57 = .ok (.aload_n 0, 1) := by decide +kernel
theorem dX4_opensCall_58 : decode cX4_opensCall 58 = .ok (.getfield 15, 3) := by decide +kernel
theorem dX4_opensCall_61 : decode cX4_opensCall 61 = .ok (.aload_n 0, 1) := by decide +kernel
theorem dX4_opensCall_62 : decode cX4_opensCall 62 = .ok (.getfield 25, 3) := by decide +kernel
theorem dX4_opensCall_65 : decode cX4_opensCall 65 = .ok (.iconst 0, 1) := by decide +kernel
theorem dX4_opensCall_66 : decode cX4_opensCall 66 = .ok (.iastore, 1) := by decide +kernel
theorem dX4_opensCall_67 : decode cX4_opensCall 67 = .ok (.aload_n 0, 1) := by decide +kernel
theorem dX4_opensCall_68 : decode cX4_opensCall 68 = .ok (.dup, 1) := by decide +kernel
theorem dX4_opensCall_69 : decode cX4_opensCall 69 = .ok (.getfield 25, 3) := by decide +kernel
theorem dX4_opensCall_72 : decode cX4_opensCall 72 = .ok (.iconst 1, 1) := by decide +kernel
theorem dX4_opensCall_73 : decode cX4_opensCall 73 = .ok (.iadd, 1) := by decide +kernel
theorem dX4_opensCall_74 : decode cX4_opensCall 74 = .ok (.putfield 25, 3) := by decide +kernel
theorem dX4_opensCall_77 : decode cX4_opensCall 77 = .ok (.aload_n 0, 1) := by decide +kernel
theorem dX4_opensCall_78 : decode cX4_opensCall 78 = .ok (.iload_n 2, 1) := by decide +kernel
theorem dX4_opensCall_79 : decode cX4_opensCall 79 = .ok (.ifCond .eq 7, 3) := by decide +kernel
theorem dX4_opensCall_82 : decode cX4_opensCall 82 = .ok (.iconst 1, 1) := by decide +kernel
theorem dX4_opensCall_83 : decode cX4_opensCall 83 = .ok (.goto 4, 3) := by decide +kernel
theorem dX4_opensCall_86 : decode cX4_opensCall 86 = .ok (.iconst 2, 1) := by decide +kernel
theorem dX4_opensCall_87 : decode cX4_opensCall 87 = .ok (.iload_n 1, 1) := by decide +kernel
theorem dX4_opensCall_88 : decode cX4_opensCall 88 = .ok (.invokevirtual 47, 3) := by decide +kernel
theorem dX4_opensCall_91 : decode cX4_opensCall 91 = .ok (.iconst 1, 1) := by decide +kernel
theorem dX4_opensCall_92 : decode cX4_opensCall 92 = .ok (.ireturn, 1) := by decide +kernel
theorem dX4_isEastOrWest_0 : decode cX4_isEastOrWest 0 = .ok (.iload_n 0, 1) := by decide +kernel
theorem dX4_isEastOrWest_1 : decode cX4_isEastOrWest 1 = .ok (.bipush 101, 2) := by decide +kernel
theorem dX4_isEastOrWest_3 : decode cX4_isEastOrWest 3 = .ok (.if_icmp .eq 9, 3) := by decide +kernel
theorem dX4_isEastOrWest_6 : decode cX4_isEastOrWest 6 = .ok (.iload_n 0, 1) := by decide +kernel
theorem dX4_isEastOrWest_7 : decode cX4_isEastOrWest 7 = .ok (.bipush 119, 2) := by decide +kernel
theorem dX4_isEastOrWest_9 : decode cX4_isEastOrWest 9 = .ok (.if_icmp .ne 7, 3) := by decide +kernel
theorem dX4_isEastOrWest_12 : decode cX4_isEastOrWest 12 = .ok (.iconst 1, 1) := by decide +kernel
theorem dX4_isEastOrWest_13 : decode cX4_isEastOrWest 13 = .ok (.goto 4, 3) := by decide +kernel
theorem dX4_isEastOrWest_16 : decode cX4_isEastOrWest 16 = .ok (.iconst 0, 1) := by decide +kernel
theorem dX4_isEastOrWest_17 : decode cX4_isEastOrWest 17 = .ok (.ireturn, 1) := by decide +kernel
theorem dX4_openLeg_0 : decode cX4_openLeg 0 = .ok (.aload_n 0, 1) := by decide +kernel
theorem dX4_openLeg_1 : decode cX4_openLeg 1 = .ok (.iload_n 1, 1) := by decide +kernel
theorem dX4_openLeg_2 : decode cX4_openLeg 2 = .ok (.putfield 28, 3) := by decide +kernel
theorem dX4_openLeg_5 : decode cX4_openLeg 5 = .ok (.aload_n 0, 1) := by decide +kernel
theorem dX4_openLeg_6 : decode cX4_openLeg 6 = .ok (.iload_n 2, 1) := by decide +kernel
theorem dX4_openLeg_7 : decode cX4_openLeg 7 = .ok (.bipush 110, 2) := by decide +kernel
theorem dX4_openLeg_9 : decode cX4_openLeg 9 = .ok (.if_icmp .eq 9, 3) := by decide +kernel
theorem dX4_openLeg_12 : decode cX4_openLeg 12 = .ok (.iload_n 2, 1) := by decide +kernel
theorem dX4_openLeg_13 : decode cX4_openLeg 13 = .ok (.bipush 101, 2) := by decide +kernel
theorem dX4_openLeg_15 : decode cX4_openLeg 15 = .ok (.if_icmp .ne 7, 3) := by decide +kernel
theorem dX4_openLeg_18 : decode cX4_openLeg 18 = .ok (.iconst 1, 1) := by decide +kernel
theorem dX4_openLeg_19 : decode cX4_openLeg 19 = .ok (.goto 4, 3) := by decide +kernel
theorem dX4_openLeg_22 : decode cX4_openLeg 22 = .ok (.iconst (-1), 1) := by decide +kernel
theorem dX4_openLeg_23 : decode cX4_openLeg 23 = .ok (.putfield 51, 3) := by decide +kernel
theorem dX4_openLeg_26 : decode cX4_openLeg 26 = .ok (.aload_n 0, 1) := by decide +kernel
theorem dX4_openLeg_27 : decode cX4_openLeg 27 = .ok (.iconst 0, 1) := by decide +kernel
theorem dX4_openLeg_28 : decode cX4_openLeg 28 = .ok (.putfield 35, 3) := by decide +kernel
theorem dX4_openLeg_31 : decode cX4_openLeg 31 = .ok (.return_, 1) := by decide +kernel
theorem dX4_takesDigit_0 : decode cX4_takesDigit 0 = .ok (.aload_n 0, 1) := by decide +kernel
theorem dX4_takesDigit_1 : decode cX4_takesDigit 1 = .ok (.getfield 35, 3) := by decide +kernel
theorem dX4_takesDigit_4 : decode cX4_takesDigit 4 = .ok (.bipush 10, 2) := by decide +kernel
theorem dX4_takesDigit_6 : decode cX4_takesDigit 6 = .ok (.imul, 1) := by decide +kernel
theorem dX4_takesDigit_7 : decode cX4_takesDigit 7 = .ok (.iload_n 1, 1) := by decide +kernel
theorem dX4_takesDigit_8 : decode cX4_takesDigit 8 = .ok (.iadd, 1) := by decide +kernel
theorem dX4_takesDigit_9 : decode cX4_takesDigit 9 = .ok (.istore_n 2, 1) := by decide +kernel
theorem dX4_takesDigit_10 : decode cX4_takesDigit 10 = .ok (.iload_n 2, 1) := by decide +kernel
theorem dX4_takesDigit_11 : decode cX4_takesDigit 11 = .ok (.iconst 1, 1) := by decide +kernel
theorem dX4_takesDigit_12 : decode cX4_takesDigit 12 = .ok (.if_icmp .lt 26, 3) := by decide +kernel
theorem dX4_takesDigit_15 : decode cX4_takesDigit 15 = .ok (.iload_n 2, 1) := by decide +kernel
theorem dX4_takesDigit_16 : decode cX4_takesDigit 16 = .ok (.bipush 31, 2) := by decide +kernel
theorem dX4_takesDigit_18 : decode cX4_takesDigit 18 = .ok (.if_icmp .gt 20, 3) := by decide +kernel
theorem dX4_takesDigit_21 : decode cX4_takesDigit 21 = .ok (.aload_n 0, 1) := by decide +kernel
theorem dX4_takesDigit_22 : decode cX4_takesDigit 22 = .ok (.getfield 25, 3) := by decide +kernel
theorem dX4_takesDigit_25 : decode cX4_takesDigit 25 = .ok (.iconst 1, 1) := by decide +kernel
theorem dX4_takesDigit_26 : decode cX4_takesDigit 26 = .ok (.if_icmp .lt 12, 3) := by decide +kernel
theorem dX4_takesDigit_29 : decode cX4_takesDigit 29 = .ok (.aload_n 0, 1) := by decide +kernel
theorem dX4_takesDigit_30 : decode cX4_takesDigit 30 = .ok (.getfield 25, 3) := by decide +kernel
theorem dX4_takesDigit_33 : decode cX4_takesDigit 33 = .ok (.bipush 8, 2) := by decide +kernel
theorem dX4_takesDigit_35 : decode cX4_takesDigit 35 = .ok (.if_icmp .le 5, 3) := by decide +kernel
theorem dX4_takesDigit_38 : decode cX4_takesDigit 38 = .ok (.iconst 0, 1) := by decide +kernel
theorem dX4_takesDigit_39 : decode cX4_takesDigit 39 = .ok (.ireturn, 1) := by decide +kernel
theorem dX4_takesDigit_40 : decode cX4_takesDigit 40 = .ok (.aload_n 0, 1) := by decide +kernel
theorem dX4_takesDigit_41 : decode cX4_takesDigit 41 = .ok (.iload_n 2, 1) := by decide +kernel
theorem dX4_takesDigit_42 : decode cX4_takesDigit 42 = .ok (.putfield 35, 3) := by decide +kernel
theorem dX4_takesDigit_45 : decode cX4_takesDigit 45 = .ok (.aload_n 0, 1) := by decide +kernel
theorem dX4_takesDigit_46 : decode cX4_takesDigit 46 = .ok (.getfield 28, 3) := by decide +kernel
theorem dX4_takesDigit_49 : decode cX4_takesDigit 49 = .ok (.iconst 1, 1) := by decide +kernel
theorem dX4_takesDigit_50 : decode cX4_takesDigit 50 = .ok (.if_icmp .ne 26, 3) := by decide +kernel
theorem dX4_takesDigit_53 : decode cX4_takesDigit 53 = .ok (.aload_n 0, 1) := by decide +kernel
theorem dX4_takesDigit_54 : decode cX4_takesDigit 54 = .ok (.getfield 18, 3) := by decide +kernel
theorem dX4_takesDigit_57 : decode cX4_takesDigit 57 = .ok (.aload_n 0, 1) := by decide +kernel
theorem dX4_takesDigit_58 : decode cX4_takesDigit 58 = .ok (.getfield 25, 3) := by decide +kernel
theorem dX4_takesDigit_61 : decode cX4_takesDigit 61 = .ok (.iconst 1, 1) := by decide +kernel
theorem dX4_takesDigit_62 : decode cX4_takesDigit 62 = .ok (.isub, 1) := by decide +kernel
theorem dX4_takesDigit_63 : decode cX4_takesDigit 63 = .ok (.aload_n 0, 1) := by decide +kernel
theorem dX4_takesDigit_64 : decode cX4_takesDigit 64 = .ok (.getfield 51, 3) := by decide +kernel
theorem dX4_takesDigit_67 : decode cX4_takesDigit 67 = .ok (.aload_n 0, 1) := by decide +kernel
theorem dX4_takesDigit_68 : decode cX4_takesDigit 68 = .ok (.getfield 35, 3) := by decide +kernel
theorem dX4_takesDigit_71 : decode cX4_takesDigit 71 = .ok (.imul, 1) := by decide +kernel
theorem dX4_takesDigit_72 : decode cX4_takesDigit 72 = .ok (.iastore, 1) := by decide +kernel
theorem dX4_takesDigit_73 : decode cX4_takesDigit 73 = .ok (.goto 23, 3) := by decide +kernel
theorem dX4_takesDigit_76 : decode cX4_takesDigit 76 = .ok (.aload_n 0, 1) := by decide +kernel
theorem dX4_takesDigit_77 : decode cX4_takesDigit 77 = .ok (.getfield 15, 3) := by decide +kernel
theorem dX4_takesDigit_80 : decode cX4_takesDigit 80 = .ok (.aload_n 0, 1) := by decide +kernel
theorem dX4_takesDigit_81 : decode cX4_takesDigit 81 = .ok (.getfield 25, 3) := by decide +kernel
theorem dX4_takesDigit_84 : decode cX4_takesDigit 84 = .ok (.iconst 1, 1) := by decide +kernel
theorem dX4_takesDigit_85 : decode cX4_takesDigit 85 = .ok (.isub, 1) := by decide +kernel
theorem dX4_takesDigit_86 : decode cX4_takesDigit 86 = .ok (.aload_n 0, 1) := by decide +kernel
theorem dX4_takesDigit_87 : decode cX4_takesDigit 87 = .ok (.getfield 51, 3) := by decide +kernel
theorem dX4_takesDigit_90 : decode cX4_takesDigit 90 = .ok (.aload_n 0, 1) := by decide +kernel
theorem dX4_takesDigit_91 : decode cX4_takesDigit 91 = .ok (.getfield 35, 3) := by decide +kernel
theorem dX4_takesDigit_94 : decode cX4_takesDigit 94 = .ok (.imul, 1) := by decide +kernel
theorem dX4_takesDigit_95 : decode cX4_takesDigit 95 = .ok (.iastore, 1) := by decide +kernel
theorem dX4_takesDigit_96 : decode cX4_takesDigit 96 = .ok (.iconst 1, 1) := by decide +kernel
theorem dX4_takesDigit_97 : decode cX4_takesDigit 97 = .ok (.ireturn, 1) := by decide +kernel
theorem dX4_missed_0 : decode cX4_missed 0 = .ok (.iconst 0, 1) := by decide +kernel
theorem dX4_missed_1 : decode cX4_missed 1 = .ok (.istore_n 2, 1) := by decide +kernel
theorem dX4_missed_2 : decode cX4_missed 2 = .ok (.iconst 0, 1) := by decide +kernel
theorem dX4_missed_3 : decode cX4_missed 3 = .ok (.istore_n 3, 1) := by decide +kernel
theorem dX4_missed_4 : decode cX4_missed 4 = .ok (.iload_n 3, 1) := by decide +kernel
theorem dX4_missed_5 : decode cX4_missed 5 = .ok (.aload_n 0, 1) := by decide +kernel
theorem dX4_missed_6 : decode cX4_missed 6 = .ok (.getfield 25, 3) := by decide +kernel
theorem dX4_missed_9 : decode cX4_missed 9 = .ok (.if_icmp .ge 21, 3) := by decide +kernel
theorem dX4_missed_12 : decode cX4_missed 12 = .ok (.iload_n 3, 1) := by decide +kernel
theorem dX4_missed_13 : decode cX4_missed 13 = .ok (.aload_n 1, 1) := by decide +kernel
theorem dX4_missed_14 : decode cX4_missed 14 = .ok (.arraylength, 1) := by decide +kernel
theorem dX4_missed_15 : decode cX4_missed 15 = .ok (.if_icmp .ge 15, 3) := by decide +kernel
theorem dX4_missed_18 : decode cX4_missed 18 = .ok (.iload_n 2, 1) := by decide +kernel
theorem dX4_missed_19 : decode cX4_missed 19 = .ok (.aload_n 1, 1) := by decide +kernel
theorem dX4_missed_20 : decode cX4_missed 20 = .ok (.iload_n 3, 1) := by decide +kernel
theorem dX4_missed_21 : decode cX4_missed 21 = .ok (.iaload, 1) := by decide +kernel
theorem dX4_missed_22 : decode cX4_missed 22 = .ok (.iadd, 1) := by decide +kernel
theorem dX4_missed_23 : decode cX4_missed 23 = .ok (.istore_n 2, 1) := by decide +kernel
theorem dX4_missed_24 : decode cX4_missed 24 = .ok (.iinc 3 1, 3) := by decide +kernel
theorem dX4_missed_27 : decode cX4_missed 27 = .ok (.goto (-23), 3) := by decide +kernel
theorem dX4_missed_30 : decode cX4_missed 30 = .ok (.iload_n 2, 1) := by decide +kernel
theorem dX4_missed_31 : decode cX4_missed 31 = .ok (.ireturn, 1) := by decide +kernel
set_option maxRecDepth 20000 in
theorem ggX4_far_X4_stepsOfCall : GoodIn wsX4_far wsX4_stepsOfCall := goodIn_r _ [6, 7, 8, 9, 10, 11, 12, 13, 14, 15, 16, 17, 18, 19, 20] (by decide +kernel) (by decide +kernel)
set_option maxRecDepth 20000 in
theorem gX4_far_X4_stepsOfCall : GoodIn wsX4_far (wsV RX4 54 RX4 yX4_stepsOfCall wsX4_stepsOfCall) := goodIn_app (goodIn_of _ (by decide +kernel)) ggX4_far_X4_stepsOfCall
theorem dX4_far_0 : decode cX4_far 0 = .ok (.iconst 0, 1) := by decide +kernel
theorem dX4_far_1 : decode cX4_far 1 = .ok (.istore_n 1, 1) := by decide +kernel
theorem dX4_far_2 : decode cX4_far 2 = .ok (.iconst 0, 1) := by decide +kernel
theorem dX4_far_3 : decode cX4_far 3 = .ok (.istore_n 2, 1) := by decide +kernel
theorem dX4_far_4 : decode cX4_far 4 = .ok (.iload_n 2, 1) := by decide +kernel
theorem dX4_far_5 : decode cX4_far 5 = .ok (.aload_n 0, 1) := by decide +kernel
theorem dX4_far_6 : decode cX4_far 6 = .ok (.getfield 25, 3) := by decide +kernel
theorem dX4_far_9 : decode cX4_far 9 = .ok (.if_icmp .ge 23, 3) := by decide +kernel
theorem dX4_far_12 : decode cX4_far 12 = .ok (.iload_n 2, 1) := by decide +kernel
theorem dX4_far_13 : decode cX4_far 13 = .ok (.bipush 8, 2) := by decide +kernel
theorem dX4_far_15 : decode cX4_far 15 = .ok (.if_icmp .ge 17, 3) := by decide +kernel
theorem dX4_far_18 : decode cX4_far 18 = .ok (.iload_n 1, 1) := by decide +kernel
theorem dX4_far_19 : decode cX4_far 19 = .ok (.aload_n 0, 1) := by decide +kernel
theorem dX4_far_20 : decode cX4_far 20 = .ok (.iload_n 2, 1) := by decide +kernel
theorem dX4_far_21 : decode cX4_far 21 = .ok (.invokevirtual 54, 3) := by decide +kernel
theorem dX4_far_24 : decode cX4_far 24 = .ok (.iadd, 1) := by decide +kernel
theorem dX4_far_25 : decode cX4_far 25 = .ok (.istore_n 1, 1) := by decide +kernel
theorem dX4_far_26 : decode cX4_far 26 = .ok (.iinc 2 1, 3) := by decide +kernel
theorem dX4_far_29 : decode cX4_far 29 = .ok (.goto (-25), 3) := by decide +kernel
theorem dX4_far_32 : decode cX4_far 32 = .ok (.iload_n 1, 1) := by decide +kernel
theorem dX4_far_33 : decode cX4_far 33 = .ok (.ireturn, 1) := by decide +kernel
theorem dX4_stepsOfCall_0 : decode cX4_stepsOfCall 0 = .ok (.iload_n 1, 1) := by decide +kernel
theorem dX4_stepsOfCall_1 : decode cX4_stepsOfCall 1 = .ok (.ifCond .lt 31, 3) := by decide +kernel
theorem dX4_stepsOfCall_4 : decode cX4_stepsOfCall 4 = .ok (.iload_n 1, 1) := by decide +kernel
theorem dX4_stepsOfCall_5 : decode cX4_stepsOfCall 5 = .ok (.bipush 8, 2) := by decide +kernel
theorem dX4_stepsOfCall_7 : decode cX4_stepsOfCall 7 = .ok (.if_icmp .ge 25, 3) := by decide +kernel
theorem dX4_stepsOfCall_10 : decode cX4_stepsOfCall 10 = .ok (.aload_n 0, 1) := by decide +kernel
theorem dX4_stepsOfCall_11 : decode cX4_stepsOfCall 11 = .ok (.getfield 15, 3) := by decide +kernel
theorem dX4_stepsOfCall_14 : decode cX4_stepsOfCall 14 = .ok (.iload_n 1, 1) := by decide +kernel
theorem dX4_stepsOfCall_15 : decode cX4_stepsOfCall 15 = .ok (.iaload, 1) := by decide +kernel
theorem dX4_stepsOfCall_16 : decode cX4_stepsOfCall 16 = .ok (.invokestatic 58, 3) := by decide +kernel
theorem dX4_stepsOfCall_19 : decode cX4_stepsOfCall 19 = .ok (.aload_n 0, 1) := by decide +kernel
theorem dX4_stepsOfCall_20 : decode cX4_stepsOfCall 20 = .ok (.getfield 18, 3) := by decide +kernel
theorem dX4_stepsOfCall_23 : decode cX4_stepsOfCall 23 = .ok (.iload_n 1, 1) := by decide +kernel
theorem dX4_stepsOfCall_24 : decode cX4_stepsOfCall 24 = .ok (.iaload, 1) := by decide +kernel
theorem dX4_stepsOfCall_25 : decode cX4_stepsOfCall 25 = .ok (.invokestatic 58, 3) := by decide +kernel
theorem dX4_stepsOfCall_28 : decode cX4_stepsOfCall 28 = .ok (.iadd, 1) := by decide +kernel
theorem dX4_stepsOfCall_29 : decode cX4_stepsOfCall 29 = .ok (.goto 4, 3) := by decide +kernel
theorem dX4_stepsOfCall_32 : decode cX4_stepsOfCall 32 = .ok (.iconst 0, 1) := by decide +kernel
theorem dX4_stepsOfCall_33 : decode cX4_stepsOfCall 33 = .ok (.ireturn, 1) := by decide +kernel
set_option maxRecDepth 20000 in
theorem ggX4_cornersFrom_X4_missed : GoodIn wsX4_cornersFrom wsX4_missed := goodIn_r _ [11, 1, 25, 26, 27, 28, 29, 30, 31, 32] (by decide +kernel) (by decide +kernel)
set_option maxRecDepth 20000 in
theorem gX4_cornersFrom_X4_missed : GoodIn wsX4_cornersFrom (wsV RX4 67 RX4 yX4_missed wsX4_missed) := goodIn_app (goodIn_of _ (by decide +kernel)) ggX4_cornersFrom_X4_missed
set_option maxRecDepth 20000 in
theorem ggX4_cornersFrom_X4_far : GoodIn wsX4_cornersFrom wsX4_far := goodIn_r _ [15, 1, 16, 17, 18, 10, 19, 20, 21, 22, 4, 23, 24, 25, 26, 27, 28, 29, 30, 31, 32] (by decide +kernel) (by decide +kernel)
set_option maxRecDepth 20000 in
theorem gX4_cornersFrom_X4_far : GoodIn wsX4_cornersFrom (wsV RX4 71 RX4 yX4_far wsX4_far) := goodIn_app (goodIn_of _ (by decide +kernel)) ggX4_cornersFrom_X4_far
set_option maxRecDepth 20000 in
theorem ggX4_cornersFrom_X4_stepsOfCall : GoodIn wsX4_cornersFrom wsX4_stepsOfCall := goodIn_r _ [19, 20, 21, 22, 4, 23, 24, 25, 26, 27, 28, 29, 30, 31, 32] (by decide +kernel) (by decide +kernel)
set_option maxRecDepth 20000 in
theorem gX4_cornersFrom_X4_stepsOfCall : GoodIn wsX4_cornersFrom (wsV RX4 54 RX4 yX4_stepsOfCall wsX4_stepsOfCall) := goodIn_app (goodIn_of _ (by decide +kernel)) ggX4_cornersFrom_X4_stepsOfCall
theorem dX4_cornersFrom_0 : decode cX4_cornersFrom 0 = .ok (.iconst 0, 1) := by decide +kernel
theorem dX4_cornersFrom_1 : decode cX4_cornersFrom 1 = .ok (.aload_n 0, 1) := by decide +kernel
theorem dX4_cornersFrom_2 : decode cX4_cornersFrom 2 = .ok (.getfield 25, 3) := by decide +kernel
theorem dX4_cornersFrom_5 : decode cX4_cornersFrom 5 = .ok (.invokestatic 63, 3) := by decide +kernel
theorem dX4_cornersFrom_8 : decode cX4_cornersFrom 8 = .ok (.newarray .int, 2) := by decide +kernel
theorem dX4_cornersFrom_10 : decode cX4_cornersFrom 10 = .ok (.astore_n 3, 1) := by decide +kernel
theorem dX4_cornersFrom_11 : decode cX4_cornersFrom 11 = .ok (.aload_n 0, 1) := by decide +kernel
theorem dX4_cornersFrom_12 : decode cX4_cornersFrom 12 = .ok (.aload_n 2, 1) := by decide +kernel
theorem dX4_cornersFrom_13 : decode cX4_cornersFrom 13 = .ok (.invokevirtual 67, 3) := by decide +kernel
theorem dX4_cornersFrom_16 : decode cX4_cornersFrom 16 = .ok (.istore 4, 2) := by decide +kernel
theorem dX4_cornersFrom_18 : decode cX4_cornersFrom 18 = .ok (.aload_n 0, 1) := by decide +kernel
theorem dX4_cornersFrom_19 : decode cX4_cornersFrom 19 = .ok (.invokevirtual 71, 3) := by decide +kernel
theorem dX4_cornersFrom_22 : decode cX4_cornersFrom 22 = .ok (.istore 5, 2) := by decide +kernel
theorem dX4_cornersFrom_24 : decode cX4_cornersFrom 24 = .ok (.iload_n 1, 1) := by decide +kernel
theorem dX4_cornersFrom_25 : decode cX4_cornersFrom 25 = .ok (.istore 6, 2) := by decide +kernel
theorem dX4_cornersFrom_27 : decode cX4_cornersFrom 27 = .ok (.iconst 0, 1) := by decide +kernel
theorem dX4_cornersFrom_28 : decode cX4_cornersFrom 28 = .ok (.istore 7, 2) := by decide +kernel
theorem dX4_cornersFrom_30 : decode cX4_cornersFrom 30 = .ok (.iconst 0, 1) := by decide +kernel
theorem dX4_cornersFrom_31 : decode cX4_cornersFrom 31 = .ok (.istore 8, 2) := by decide +kernel
theorem dX4_cornersFrom_33 : decode cX4_cornersFrom 33 = .ok (.iload 8, 2) := by decide +kernel
theorem dX4_cornersFrom_35 : decode cX4_cornersFrom 35 = .ok (.aload_n 3, 1) := by decide +kernel
theorem dX4_cornersFrom_36 : decode cX4_cornersFrom 36 = .ok (.arraylength, 1) := by decide +kernel
theorem dX4_cornersFrom_37 : decode cX4_cornersFrom 37 = .ok (.if_icmp .ge 61, 3) := by decide +kernel
theorem dX4_cornersFrom_40 : decode cX4_cornersFrom 40 = .ok (.iload 8, 2) := by decide +kernel
theorem dX4_cornersFrom_42 : decode cX4_cornersFrom 42 = .ok (.aload_n 2, 1) := by decide +kernel
theorem dX4_cornersFrom_43 : decode cX4_cornersFrom 43 = .ok (.arraylength, 1) := by decide +kernel
theorem dX4_cornersFrom_44 : decode cX4_cornersFrom 44 = .ok (.if_icmp .ge 54, 3) := by decide +kernel
theorem dX4_cornersFrom_47 : decode cX4_cornersFrom 47 = .ok (.aload_n 3, 1) := by decide +kernel
theorem dX4_cornersFrom_48 : decode cX4_cornersFrom 48 = .ok (.iload 8, 2) := by decide +kernel
theorem dX4_cornersFrom_50 : decode cX4_cornersFrom 50 = .ok (.iload 5, 2) := by decide +kernel
theorem dX4_cornersFrom_52 : decode cX4_cornersFrom 52 = .ok (.ifCond .ne 8, 3) := by decide +kernel
theorem dX4_cornersFrom_55 : decode cX4_cornersFrom 55 = .ok (.iload 6, 2) := by decide +kernel
theorem dX4_cornersFrom_57 : decode cX4_cornersFrom 57 = .ok (.goto 14, 3) := by decide +kernel
theorem dX4_cornersFrom_60 : decode cX4_cornersFrom 60 = .ok (.iload 6, 2) := by decide +kernel
theorem dX4_cornersFrom_62 : decode cX4_cornersFrom 62 = .ok (.iload 4, 2) := by decide +kernel
theorem dX4_cornersFrom_64 : decode cX4_cornersFrom 64 = .ok (.iload 7, 2) := by decide +kernel
theorem dX4_cornersFrom_66 : decode cX4_cornersFrom 66 = .ok (.imul, 1) := by decide +kernel
theorem dX4_cornersFrom_67 : decode cX4_cornersFrom 67 = .ok (.iload 5, 2) := by decide +kernel
theorem dX4_cornersFrom_69 : decode cX4_cornersFrom 69 = .ok (.idiv, 1) := by decide +kernel
theorem dX4_cornersFrom_70 : decode cX4_cornersFrom 70 = .ok (.isub, 1) := by decide +kernel
theorem dX4_cornersFrom_71 : decode cX4_cornersFrom 71 = .ok (.iastore, 1) := by decide +kernel
theorem dX4_cornersFrom_72 : decode cX4_cornersFrom 72 = .ok (.iload 6, 2) := by decide +kernel
theorem dX4_cornersFrom_74 : decode cX4_cornersFrom 74 = .ok (.aload_n 2, 1) := by decide +kernel
theorem dX4_cornersFrom_75 : decode cX4_cornersFrom 75 = .ok (.iload 8, 2) := by decide +kernel
theorem dX4_cornersFrom_77 : decode cX4_cornersFrom 77 = .ok (.iaload, 1) := by decide +kernel
theorem dX4_cornersFrom_78 : decode cX4_cornersFrom 78 = .ok (.iadd, 1) := by decide +kernel
theorem dX4_cornersFrom_79 : decode cX4_cornersFrom 79 = .ok (.istore 6, 2) := by decide +kernel
theorem dX4_cornersFrom_81 : decode cX4_cornersFrom 81 = .ok (.iload 7, 2) := by decide +kernel
theorem dX4_cornersFrom_83 : decode cX4_cornersFrom 83 = .ok (.aload_n 0, 1) := by decide +kernel
theorem dX4_cornersFrom_84 : decode cX4_cornersFrom 84 = .ok (.iload 8, 2) := by decide +kernel
theorem dX4_cornersFrom_86 : decode cX4_cornersFrom 86 = .ok (.invokevirtual 54, 3) := by decide +kernel
theorem dX4_cornersFrom_89 : decode cX4_cornersFrom 89 = .ok (.iadd, 1) := by decide +kernel
theorem dX4_cornersFrom_90 : decode cX4_cornersFrom 90 = .ok (.istore 7, 2) := by decide +kernel
theorem dX4_cornersFrom_92 : decode cX4_cornersFrom 92 = .ok (.iinc 8 1, 3) := by decide +kernel
theorem dX4_cornersFrom_95 : decode cX4_cornersFrom 95 = .ok (.goto (-62), 3) := by decide +kernel
theorem dX4_cornersFrom_98 : decode cX4_cornersFrom 98 = .ok (.aload_n 3, 1) := by decide +kernel
theorem dX4_cornersFrom_99 : decode cX4_cornersFrom 99 = .ok (.areturn, 1) := by decide +kernel
theorem dX5_init_0 : decode cX5_init 0 = .ok (.aload_n 0, 1) := by decide +kernel
theorem dX5_init_1 : decode cX5_init 1 = .ok (.invokespecial 3, 3) := by decide +kernel
theorem dX5_init_4 : decode cX5_init 4 = .ok (.aload_n 0, 1) := by decide +kernel
theorem dX5_init_5 : decode cX5_init 5 = .ok (.bipush 32, 2) := by decide +kernel
theorem dX5_init_7 : decode cX5_init 7 = .ok (.newarray .int, 2) := by decide +kernel
theorem dX5_init_9 : decode cX5_init 9 = .ok (.putfield 9, 3) := by decide +kernel
theorem dX5_init_12 : decode cX5_init 12 = .ok (.aload_n 0, 1) := by decide +kernel
theorem dX5_init_13 : decode cX5_init 13 = .ok (.sipush 1024, 3) := by decide +kernel
theorem dX5_init_16 : decode cX5_init 16 = .ok (.newarray .int, 2) := by decide +kernel
theorem dX5_init_18 : decode cX5_init 18 = .ok (.putfield 15, 3) := by decide +kernel
theorem dX5_init_21 : decode cX5_init 21 = .ok (.return_, 1) := by decide +kernel
set_option maxRecDepth 20000 in
theorem ggX5_survey_X0_freeRow : GoodIn wsX5_survey wsX0_freeRow := goodIn_r _ [11, 12, 13, 14, 15, 10, 16, 17, 18, 19, 20, 21, 22, 23, 24, 25, 26, 27, 28, 29, 65, 66, 67, 68, 69, 70, 71, 72, 73] (by decide +kernel) (by decide +kernel)
set_option maxRecDepth 20000 in
theorem gX5_survey_X0_freeRow : GoodIn wsX5_survey (wsV RX5 22 RX0 yX0_freeRow wsX0_freeRow) := goodIn_app (goodIn_of _ (by decide +kernel)) ggX5_survey_X0_freeRow
set_option maxRecDepth 20000 in
theorem ggX5_survey_J6_bitCount_0f7a4 : GoodIn wsX5_survey wsJ6_bitCount_0f7a4 := goodIn_r _ [33, 34, 35, 36] (by decide +kernel) (by decide +kernel)
set_option maxRecDepth 20000 in
theorem gX5_survey_J6_bitCount_0f7a4 : GoodIn wsX5_survey (va_wsS RX5 28 yJ6_bitCount_0f7a4 wsJ6_bitCount_0f7a4) := goodIn_app (goodIn_of _ (by decide +kernel)) ggX5_survey_J6_bitCount_0f7a4
set_option maxRecDepth 20000 in
theorem ggX5_survey_X6_isIn : GoodIn wsX5_survey wsX6_isIn := goodIn_r _ [38] (by decide +kernel) (by decide +kernel)
set_option maxRecDepth 20000 in
theorem gX5_survey_X6_isIn_n45 : GoodIn wsX5_survey (wsX6_isIn) := ggX5_survey_X6_isIn
set_option maxRecDepth 20000 in
theorem ggX5_survey_X5_enterGap : GoodIn wsX5_survey wsX5_enterGap := goodIn_r _ [43, 3, 4, 5, 6, 44, 45, 46, 42, 47, 48, 49, 50, 51, 52, 53, 2, 54, 28, 55, 56, 27, 29, 37, 38, 57, 58, 59, 60, 61, 62, 63, 64] (by decide +kernel) (by decide +kernel)
set_option maxRecDepth 20000 in
theorem gX5_survey_X5_enterGap : GoodIn wsX5_survey (wsV RX5 49 RX5 yX5_enterGap wsX5_enterGap) := goodIn_app (goodIn_of _ (by decide +kernel)) ggX5_survey_X5_enterGap
theorem dX5_survey_0 : decode cX5_survey 0 = .ok (.aload_n 0, 1) := by decide +kernel
theorem dX5_survey_1 : decode cX5_survey 1 = .ok (.iconst 0, 1) := by decide +kernel
theorem dX5_survey_2 : decode cX5_survey 2 = .ok (.putfield 18, 3) := by decide +kernel
theorem dX5_survey_5 : decode cX5_survey 5 = .ok (.iconst 0, 1) := by decide +kernel
theorem dX5_survey_6 : decode cX5_survey 6 = .ok (.istore_n 2, 1) := by decide +kernel
theorem dX5_survey_7 : decode cX5_survey 7 = .ok (.iload_n 2, 1) := by decide +kernel
theorem dX5_survey_8 : decode cX5_survey 8 = .ok (.bipush 32, 2) := by decide +kernel
theorem dX5_survey_10 : decode cX5_survey 10 = .ok (.if_icmp .ge 38, 3) := by decide +kernel
theorem dX5_survey_13 : decode cX5_survey 13 = .ok (.aload_n 0, 1) := by decide +kernel
theorem dX5_survey_14 : decode cX5_survey 14 = .ok (.getfield 9, 3) := by decide +kernel
theorem dX5_survey_17 : decode cX5_survey 17 = .ok (.iload_n 2, 1) := by decide +kernel
theorem dX5_survey_18 : decode cX5_survey 18 = .ok (.aload_n 1, 1) := by decide +kernel
theorem dX5_survey_19 : decode cX5_survey 19 = .ok (.iload_n 2, 1) := by decide +kernel
theorem dX5_survey_20 : decode cX5_survey 20 = .ok (.invokevirtual 22, 3) := by decide +kernel
theorem dX5_survey_23 : decode cX5_survey 23 = .ok (.iastore, 1) := by decide +kernel
theorem dX5_survey_24 : decode cX5_survey 24 = .ok (.aload_n 0, 1) := by decide +kernel
theorem dX5_survey_25 : decode cX5_survey 25 = .ok (.dup, 1) := by decide +kernel
theorem dX5_survey_26 : decode cX5_survey 26 = .ok (.getfield 18, 3) := by decide +kernel
theorem dX5_survey_29 : decode cX5_survey 29 = .ok (.aload_n 0, 1) := by decide +kernel
theorem dX5_survey_30 : decode cX5_survey 30 = .ok (.getfield 9, 3) := by decide +kernel
theorem dX5_survey_33 : decode cX5_survey 33 = .ok (.iload_n 2, 1) := by decide +kernel
theorem dX5_survey_34 : decode cX5_survey 34 = .ok (.iaload, 1) := by decide +kernel
theorem dX5_survey_35 : decode cX5_survey 35 = .ok (.invokestatic 28, 3) := by decide +kernel
theorem dX5_survey_38 : decode cX5_survey 38 = .ok (.iadd, 1) := by decide +kernel
theorem dX5_survey_39 : decode cX5_survey 39 = .ok (.putfield 18, 3) := by decide +kernel
theorem dX5_survey_42 : decode cX5_survey 42 = .ok (.iinc 2 1, 3) := by decide +kernel
theorem dX5_survey_45 : decode cX5_survey 45 = .ok (.goto (-38), 3) := by decide +kernel
theorem dX5_survey_48 : decode cX5_survey 48 = .ok (.aload_n 0, 1) := by decide +kernel
theorem dX5_survey_49 : decode cX5_survey 49 = .ok (.iconst 0, 1) := by decide +kernel
theorem dX5_survey_50 : decode cX5_survey 50 = .ok (.putfield 33, 3) := by decide +kernel
theorem dX5_survey_53 : decode cX5_survey 53 = .ok (.aload_n 0, 1) := by decide +kernel
theorem dX5_survey_54 : decode cX5_survey 54 = .ok (.iconst 0, 1) := by decide +kernel
theorem dX5_survey_55 : decode cX5_survey 55 = .ok (.putfield 36, 3) := by decide +kernel
theorem dX5_survey_58 : decode cX5_survey 58 = .ok (.aload_n 0, 1) := by decide +kernel
theorem dX5_survey_59 : decode cX5_survey 59 = .ok (.bipush (-6), 2) := by decide +kernel
theorem dX5_survey_61 : decode cX5_survey 61 = .ok (.putfield 39, 3) := by decide +kernel
theorem dX5_survey_64 : decode cX5_survey 64 = .ok (.aload_n 0, 1) := by decide +kernel
theorem dX5_survey_65 : decode cX5_survey 65 = .ok (.bipush (-6), 2) := by decide +kernel
theorem dX5_survey_67 : decode cX5_survey 67 = .ok (.putfield 42, 3) := by decide +kernel
theorem dX5_survey_70 : decode cX5_survey 70 = .ok (.iconst 0, 1) := by decide +kernel
theorem dX5_survey_71 : decode cX5_survey 71 = .ok (.istore_n 2, 1) := by decide +kernel
theorem dX5_survey_72 : decode cX5_survey 72 = .ok (.iload_n 2, 1) := by decide +kernel
theorem dX5_survey_73 : decode cX5_survey 73 = .ok (.bipush 32, 2) := by decide +kernel
theorem dX5_survey_75 : decode cX5_survey 75 = .ok (.if_icmp .ge 42, 3) := by decide +kernel
theorem dX5_survey_78 : decode cX5_survey 78 = .ok (.iconst 0, 1) := by decide +kernel
theorem dX5_survey_79 : decode cX5_survey 79 = .ok (.istore_n 3, 1) := by decide +kernel
theorem dX5_survey_80 : decode cX5_survey 80 = .ok (.iload_n 3, 1) := by decide +kernel
theorem dX5_survey_81 : decode cX5_survey 81 = .ok (.bipush 32, 2) := by decide +kernel
theorem dX5_survey_83 : decode cX5_survey 83 = .ok (.if_icmp .ge 28, 3) := by decide +kernel
theorem dX5_survey_86 : decode cX5_survey 86 = .ok (.aload_n 0, 1) := by decide +kernel
theorem dX5_survey_87 : decode cX5_survey 87 = .ok (.getfield 9, 3) := by decide +kernel
theorem dX5_survey_90 : decode cX5_survey 90 = .ok (.iload_n 2, 1) := by decide +kernel
theorem dX5_survey_91 : decode cX5_survey 91 = .ok (.iaload, 1) := by decide +kernel
theorem dX5_survey_92 : decode cX5_survey 92 = .ok (.iload_n 3, 1) := by decide +kernel
theorem dX5_survey_93 : decode cX5_survey 93 = .ok (.invokestatic 45, 3) := by decide +kernel
theorem dX5_survey_96 : decode cX5_survey 96 = .ok (.ifCond .eq 9, 3) := by decide +kernel
theorem dX5_survey_99 : decode cX5_survey 99 = .ok (.aload_n 0, 1) := by decide +kernel
theorem dX5_survey_100 : decode cX5_survey 100 = .ok (.iload_n 3, 1) := by decide +kernel
theorem dX5_survey_101 : decode cX5_survey 101 = .ok (.iload_n 2, 1) := by decide +kernel
theorem dX5_survey_102 : decode cX5_survey 102 = .ok (.invokevirtual 49, 3) := by decide +kernel
theorem dX5_survey_105 : decode cX5_survey 105 = .ok (.iinc 3 1, 3) := by decide +kernel
theorem dX5_survey_108 : decode cX5_survey 108 = .ok (.goto (-28), 3) := by decide +kernel
theorem dX5_survey_111 : decode cX5_survey 111 = .ok (.iinc 2 1, 3) := by decide +kernel
theorem dX5_survey_114 : decode cX5_survey 114 = .ok (.goto (-42), 3) := by decide +kernel
theorem dX5_survey_117 : decode cX5_survey 117 = .ok (.return_, 1) := by decide +kernel
set_option maxRecDepth 20000 in
theorem ggX5_enterGap_X5_walkGap : GoodIn wsX5_enterGap wsX5_walkGap := goodIn_r _ [9, 10, 11, 12, 13, 14, 8, 15, 16, 17, 18, 19, 20, 21, 22, 23, 24, 25, 26, 27, 28, 29, 30, 31, 32] (by decide +kernel) (by decide +kernel)
set_option maxRecDepth 20000 in
theorem gX5_enterGap_X5_walkGap : GoodIn wsX5_enterGap (wsV RX5 53 RX5 yX5_walkGap wsX5_walkGap) := goodIn_app (goodIn_of _ (by decide +kernel)) ggX5_enterGap_X5_walkGap
theorem dX5_enterGap_0 : decode cX5_enterGap 0 = .ok (.aload_n 0, 1) := by decide +kernel
theorem dX5_enterGap_1 : decode cX5_enterGap 1 = .ok (.iload_n 1, 1) := by decide +kernel
theorem dX5_enterGap_2 : decode cX5_enterGap 2 = .ok (.iload_n 2, 1) := by decide +kernel
theorem dX5_enterGap_3 : decode cX5_enterGap 3 = .ok (.invokevirtual 53, 3) := by decide +kernel
theorem dX5_enterGap_6 : decode cX5_enterGap 6 = .ok (.istore_n 3, 1) := by decide +kernel
theorem dX5_enterGap_7 : decode cX5_enterGap 7 = .ok (.aload_n 0, 1) := by decide +kernel
theorem dX5_enterGap_8 : decode cX5_enterGap 8 = .ok (.dup, 1) := by decide +kernel
theorem dX5_enterGap_9 : decode cX5_enterGap 9 = .ok (.getfield 33, 3) := by decide +kernel
theorem dX5_enterGap_12 : decode cX5_enterGap 12 = .ok (.iconst 1, 1) := by decide +kernel
theorem dX5_enterGap_13 : decode cX5_enterGap 13 = .ok (.iadd, 1) := by decide +kernel
theorem dX5_enterGap_14 : decode cX5_enterGap 14 = .ok (.putfield 33, 3) := by decide +kernel
theorem dX5_enterGap_17 : decode cX5_enterGap 17 = .ok (.iload_n 3, 1) := by decide +kernel
theorem dX5_enterGap_18 : decode cX5_enterGap 18 = .ok (.aload_n 0, 1) := by decide +kernel
theorem dX5_enterGap_19 : decode cX5_enterGap 19 = .ok (.getfield 36, 3) := by decide +kernel
theorem dX5_enterGap_22 : decode cX5_enterGap 22 = .ok (.if_icmp .le 18, 3) := by decide +kernel
theorem dX5_enterGap_25 : decode cX5_enterGap 25 = .ok (.aload_n 0, 1) := by decide +kernel
theorem dX5_enterGap_26 : decode cX5_enterGap 26 = .ok (.iload_n 3, 1) := by decide +kernel
theorem dX5_enterGap_27 : decode cX5_enterGap 27 = .ok (.putfield 36, 3) := by decide +kernel
theorem dX5_enterGap_30 : decode cX5_enterGap 30 = .ok (.aload_n 0, 1) := by decide +kernel
theorem dX5_enterGap_31 : decode cX5_enterGap 31 = .ok (.iload_n 1, 1) := by decide +kernel
theorem dX5_enterGap_32 : decode cX5_enterGap 32 = .ok (.putfield 39, 3) := by decide +kernel
theorem dX5_enterGap_35 : decode cX5_enterGap 35 = .ok (.aload_n 0, 1) := by decide +kernel
theorem dX5_enterGap_36 : decode cX5_enterGap 36 = .ok (.iload_n 2, 1) := by decide +kernel
theorem dX5_enterGap_37 : decode cX5_enterGap 37 = .ok (.putfield 42, 3) := by decide +kernel
theorem dX5_enterGap_40 : decode cX5_enterGap 40 = .ok (.return_, 1) := by decide +kernel
set_option maxRecDepth 20000 in
theorem ggX5_walkGap_X5_find : GoodIn wsX5_walkGap wsX5_find := goodIn_r _ [7, 8, 1, 2, 9, 10, 11, 12, 13, 14, 15, 16, 17, 18, 19, 20, 21, 22, 23, 24] (by decide +kernel) (by decide +kernel)
set_option maxRecDepth 20000 in
theorem gX5_walkGap_X5_find : GoodIn wsX5_walkGap (wsV RX5 60 RX5 yX5_find wsX5_find) := goodIn_app (goodIn_of _ (by decide +kernel)) ggX5_walkGap_X5_find
theorem dX5_walkGap_0 : decode cX5_walkGap 0 = .ok (.aload_n 0, 1) := by decide +kernel
theorem dX5_walkGap_1 : decode cX5_walkGap 1 = .ok (.iconst 0, 1) := by decide +kernel
theorem dX5_walkGap_2 : decode cX5_walkGap 2 = .ok (.putfield 57, 3) := by decide +kernel
theorem dX5_walkGap_5 : decode cX5_walkGap 5 = .ok (.aload_n 0, 1) := by decide +kernel
theorem dX5_walkGap_6 : decode cX5_walkGap 6 = .ok (.iload_n 1, 1) := by decide +kernel
theorem dX5_walkGap_7 : decode cX5_walkGap 7 = .ok (.iload_n 2, 1) := by decide +kernel
theorem dX5_walkGap_8 : decode cX5_walkGap 8 = .ok (.invokevirtual 60, 3) := by decide +kernel
theorem dX5_walkGap_11 : decode cX5_walkGap 11 = .ok (.iconst 0, 1) := by decide +kernel
theorem dX5_walkGap_12 : decode cX5_walkGap 12 = .ok (.istore_n 3, 1) := by decide +kernel
theorem dX5_walkGap_13 : decode cX5_walkGap 13 = .ok (.iload_n 3, 1) := by decide +kernel
theorem dX5_walkGap_14 : decode cX5_walkGap 14 = .ok (.aload_n 0, 1) := by decide +kernel
theorem dX5_walkGap_15 : decode cX5_walkGap 15 = .ok (.getfield 57, 3) := by decide +kernel
theorem dX5_walkGap_18 : decode cX5_walkGap 18 = .ok (.if_icmp .ge 80, 3) := by decide +kernel
theorem dX5_walkGap_21 : decode cX5_walkGap 21 = .ok (.iload_n 3, 1) := by decide +kernel
theorem dX5_walkGap_22 : decode cX5_walkGap 22 = .ok (.aload_n 0, 1) := by decide +kernel
theorem dX5_walkGap_23 : decode cX5_walkGap 23 = .ok (.getfield 15, 3) := by decide +kernel
theorem dX5_walkGap_26 : decode cX5_walkGap 26 = .ok (.arraylength, 1) := by decide +kernel
theorem dX5_walkGap_27 : decode cX5_walkGap 27 = .ok (.if_icmp .ge 71, 3) := by decide +kernel
theorem dX5_walkGap_30 : decode cX5_walkGap 30 = .ok (.aload_n 0, 1) := by decide +kernel
theorem dX5_walkGap_31 : decode cX5_walkGap 31 = .ok (.getfield 15, 3) := by decide +kernel
theorem dX5_walkGap_34 : decode cX5_walkGap 34 = .ok (.iload_n 3, 1) := by decide +kernel
theorem dX5_walkGap_35 : decode cX5_walkGap 35 = .ok (.iaload, 1) := by decide +kernel
theorem dX5_walkGap_36 : decode cX5_walkGap 36 = .ok (.bipush 32, 2) := by decide +kernel
theorem dX5_walkGap_38 : decode cX5_walkGap 38 = .ok (.irem, 1) := by decide +kernel
theorem dX5_walkGap_39 : decode cX5_walkGap 39 = .ok (.istore 4, 2) := by decide +kernel
theorem dX5_walkGap_41 : decode cX5_walkGap 41 = .ok (.aload_n 0, 1) := by decide +kernel
theorem dX5_walkGap_42 : decode cX5_walkGap 42 = .ok (.getfield 15, 3) := by decide +kernel
theorem dX5_walkGap_45 : decode cX5_walkGap 45 = .ok (.iload_n 3, 1) := by decide +kernel
theorem dX5_walkGap_46 : decode cX5_walkGap 46 = .ok (.iaload, 1) := by decide +kernel
theorem dX5_walkGap_47 : decode cX5_walkGap 47 = .ok (.bipush 32, 2) := by decide +kernel
theorem dX5_walkGap_49 : decode cX5_walkGap 49 = .ok (.idiv, 1) := by decide +kernel
theorem dX5_walkGap_50 : decode cX5_walkGap 50 = .ok (.istore 5, 2) := by decide +kernel
theorem dX5_walkGap_52 : decode cX5_walkGap 52 = .ok (.aload_n 0, 1) := by decide +kernel
theorem dX5_walkGap_53 : decode cX5_walkGap 53 = .ok (.iload 4, 2) := by decide +kernel
theorem dX5_walkGap_55 : decode cX5_walkGap 55 = .ok (.iload 5, 2) := by decide +kernel
theorem dX5_walkGap_57 : decode cX5_walkGap 57 = .ok (.iconst 1, 1) := by decide +kernel
theorem dX5_walkGap_58 : decode cX5_walkGap 58 = .ok (.iadd, 1) := by decide +kernel
theorem dX5_walkGap_59 : decode cX5_walkGap 59 = .ok (.invokevirtual 60, 3) := by decide +kernel
theorem dX5_walkGap_62 : decode cX5_walkGap 62 = .ok (.aload_n 0, 1) := by decide +kernel
theorem dX5_walkGap_63 : decode cX5_walkGap 63 = .ok (.iload 4, 2) := by decide +kernel
theorem dX5_walkGap_65 : decode cX5_walkGap 65 = .ok (.iload 5, 2) := by decide +kernel
theorem dX5_walkGap_67 : decode cX5_walkGap 67 = .ok (.iconst 1, 1) := by decide +kernel
theorem dX5_walkGap_68 : decode cX5_walkGap 68 = .ok (.isub, 1) := by decide +kernel
theorem dX5_walkGap_69 : decode cX5_walkGap 69 = .ok (.invokevirtual 60, 3) := by decide +kernel
theorem dX5_walkGap_72 : decode cX5_walkGap 72 = .ok (.aload_n 0, 1) := by decide +kernel
theorem dX5_walkGap_73 : decode cX5_walkGap 73 = .ok (.iload 4, 2) := by decide +kernel
theorem dX5_walkGap_75 : decode cX5_walkGap 75 = .ok (.iconst 1, 1) := by decide +kernel
theorem dX5_walkGap_76 : decode cX5_walkGap 76 = .ok (.iadd, 1) := by decide +kernel
theorem dX5_walkGap_77 : decode cX5_walkGap 77 = .ok (.iload 5, 2) := by decide +kernel
theorem dX5_walkGap_79 : decode cX5_walkGap 79 = .ok (.invokevirtual 60, 3) := by decide +kernel
theorem dX5_walkGap_82 : decode cX5_walkGap 82 = .ok (.aload_n 0, 1) := by decide +kernel
theorem dX5_walkGap_83 : decode cX5_walkGap 83 = .ok (.iload 4, 2) := by decide +kernel
theorem dX5_walkGap_85 : decode cX5_walkGap 85 = .ok (.iconst 1, 1) := by decide +kernel
theorem dX5_walkGap_86 : decode cX5_walkGap 86 = .ok (.isub, 1) := by decide +kernel
theorem dX5_walkGap_87 : decode cX5_walkGap 87 = .ok (.iload 5, 2) := by decide +kernel
theorem dX5_walkGap_89 : decode cX5_walkGap 89 = .ok (.invokevirtual 60, 3) := by decide +kernel
theorem dX5_walkGap_92 : decode cX5_walkGap 92 = .ok (.iinc 3 1, 3) := by decide +kernel
theorem dX5_walkGap_95 : decode cX5_walkGap 95 = .ok (.goto (-82), 3) := by decide +kernel
theorem dX5_walkGap_98 : decode cX5_walkGap 98 = .ok (.aload_n 0, 1) := by decide +kernel
theorem dX5_walkGap_99 : decode cX5_walkGap 99 = .ok (.getfield 57, 3) := by decide +kernel
theorem dX5_walkGap_102 : decode cX5_walkGap 102 = .ok (.ireturn, 1) := by decide +kernel
set_option maxRecDepth 20000 in
theorem ggX5_find_X6_isPost : GoodIn wsX5_find wsX6_isPost := goodIn_r _ [6, 7, 8, 5, 9] (by decide +kernel) (by decide +kernel)
set_option maxRecDepth 20000 in
theorem gX5_find_X6_isPost_n63 : GoodIn wsX5_find (wsX6_isPost) := ggX5_find_X6_isPost
set_option maxRecDepth 20000 in
theorem ggX5_find_X6_isIn : GoodIn wsX5_find wsX6_isIn := goodIn_r _ [11] (by decide +kernel) (by decide +kernel)
set_option maxRecDepth 20000 in
theorem gX5_find_X6_isIn_n45 : GoodIn wsX5_find (wsX6_isIn) := ggX5_find_X6_isIn
theorem dX5_find_0 : decode cX5_find 0 = .ok (.iload_n 1, 1) := by decide +kernel
theorem dX5_find_1 : decode cX5_find 1 = .ok (.iload_n 2, 1) := by decide +kernel
theorem dX5_find_2 : decode cX5_find 2 = .ok (.invokestatic 63, 3) := by decide +kernel
theorem dX5_find_5 : decode cX5_find 5 = .ok (.ifCond .eq 74, 3) := by decide +kernel
theorem dX5_find_8 : decode cX5_find 8 = .ok (.aload_n 0, 1) := by decide +kernel
theorem dX5_find_9 : decode cX5_find 9 = .ok (.getfield 9, 3) := by decide +kernel
theorem dX5_find_12 : decode cX5_find 12 = .ok (.iload_n 2, 1) := by decide +kernel
theorem dX5_find_13 : decode cX5_find 13 = .ok (.iaload, 1) := by decide +kernel
theorem dX5_find_14 : decode cX5_find 14 = .ok (.iload_n 1, 1) := by decide +kernel
theorem dX5_find_15 : decode cX5_find 15 = .ok (.invokestatic 45, 3) := by decide +kernel
theorem dX5_find_18 : decode cX5_find 18 = .ok (.ifCond .eq 61, 3) := by decide +kernel
theorem dX5_find_21 : decode cX5_find 21 = .ok (.aload_n 0, 1) := by decide +kernel
theorem dX5_find_22 : decode cX5_find 22 = .ok (.getfield 57, 3) := by decide +kernel
theorem dX5_find_25 : decode cX5_find 25 = .ok (.ifCond .lt 54, 3) := by decide +kernel
theorem dX5_find_28 : decode cX5_find 28 = .ok (.aload_n 0, 1) := by decide +kernel
theorem dX5_find_29 : decode cX5_find 29 = .ok (.getfield 57, 3) := by decide +kernel
theorem dX5_find_32 : decode cX5_find 32 = .ok (.aload_n 0, 1) := by decide +kernel
theorem dX5_find_33 : decode cX5_find 33 = .ok (.getfield 15, 3) := by decide +kernel
theorem dX5_find_36 : decode cX5_find 36 = .ok (.arraylength, 1) := by decide +kernel
theorem dX5_find_37 : decode cX5_find 37 = .ok (.if_icmp .ge 42, 3) := by decide +kernel
theorem dX5_find_40 : decode cX5_find 40 = .ok (.aload_n 0, 1) := by decide +kernel
theorem dX5_find_41 : decode cX5_find 41 = .ok (.getfield 9, 3) := by decide +kernel
theorem dX5_find_44 : decode cX5_find 44 = .ok (.iload_n 2, 1) := by decide +kernel
theorem dX5_find_45 : decode cX5_find 45 = .ok (.dup2, 1) := by decide +kernel
theorem dX5_find_46 : decode cX5_find 46 = .ok (.iaload, 1) := by decide +kernel
theorem dX5_find_47 : decode cX5_find 47 = .ok (.iconst 1, 1) := by decide +kernel
theorem dX5_find_48 : decode cX5_find 48 = .ok (.iload_n 1, 1) := by decide +kernel
theorem dX5_find_49 : decode cX5_find 49 = .ok (.ishl, 1) := by decide +kernel
theorem dX5_find_50 : decode cX5_find 50 = .ok (.iconst (-1), 1) := by decide +kernel
theorem dX5_find_51 : decode cX5_find 51 = .ok (.ixor, 1) := by decide +kernel
theorem dX5_find_52 : decode cX5_find 52 = .ok (.iand, 1) := by decide +kernel
theorem dX5_find_53 : decode cX5_find 53 = .ok (.iastore, 1) := by decide +kernel
theorem dX5_find_54 : decode cX5_find 54 = .ok (.aload_n 0, 1) := by decide +kernel
theorem dX5_find_55 : decode cX5_find 55 = .ok (.getfield 15, 3) := by decide +kernel
theorem dX5_find_58 : decode cX5_find 58 = .ok (.aload_n 0, 1) := by decide +kernel
theorem dX5_find_59 : decode cX5_find 59 = .ok (.getfield 57, 3) := by decide +kernel
theorem dX5_find_62 : decode cX5_find 62 = .ok (.iload_n 2, 1) := by decide +kernel
theorem dX5_find_63 : decode cX5_find 63 = .ok (.bipush 32, 2) := by decide +kernel
theorem dX5_find_65 : decode cX5_find 65 = .ok (.imul, 1) := by decide +kernel
theorem dX5_find_66 : decode cX5_find 66 = .ok (.iload_n 1, 1) := by decide +kernel
theorem dX5_find_67 : decode cX5_find 67 = .ok (.iadd, 1) := by decide +kernel
theorem dX5_find_68 : decode cX5_find 68 = .ok (.iastore, 1) := by decide +kernel
theorem dX5_find_69 : decode cX5_find 69 = .ok (.aload_n 0, 1) := by decide +kernel
theorem dX5_find_70 : decode cX5_find 70 = .ok (.dup, 1) := by decide +kernel
theorem dX5_find_71 : decode cX5_find 71 = .ok (.getfield 57, 3) := by decide +kernel
theorem dX5_find_74 : decode cX5_find 74 = .ok (.iconst 1, 1) := by decide +kernel
theorem dX5_find_75 : decode cX5_find 75 = .ok (.iadd, 1) := by decide +kernel
theorem dX5_find_76 : decode cX5_find 76 = .ok (.putfield 57, 3) := by decide +kernel
theorem dX5_find_79 : decode cX5_find 79 = .ok (.return_, 1) := by decide +kernel
set_option maxRecDepth 20000 in
theorem ggX6_init_X4_init : GoodIn wsX6_init wsX4_init := goodIn_r _ [24, 25, 2, 3, 26, 27, 28, 29, 45, 46, 47, 48, 49, 50, 51, 52] (by decide +kernel) (by decide +kernel)
set_option maxRecDepth 20000 in
theorem gX6_init_X4_init_n9 : GoodIn wsX6_init (wsX4_init) := ggX6_init_X4_init
set_option maxRecDepth 20000 in
theorem ggX6_init_X0_init : GoodIn wsX6_init wsX0_init := goodIn_r _ [31, 32, 2, 3, 33, 34, 26, 35, 60, 61, 62, 63] (by decide +kernel) (by decide +kernel)
set_option maxRecDepth 20000 in
theorem gX6_init_X0_init_n18 : GoodIn wsX6_init (wsX0_init) := ggX6_init_X0_init
set_option maxRecDepth 20000 in
theorem ggX6_init_X5_init : GoodIn wsX6_init wsX5_init := goodIn_r _ [37, 38, 2, 3, 26, 39, 40, 64, 65, 66, 67, 68, 69, 70, 71] (by decide +kernel) (by decide +kernel)
set_option maxRecDepth 20000 in
theorem gX6_init_X5_init_n31 : GoodIn wsX6_init (wsX5_init) := ggX6_init_X5_init
set_option maxRecDepth 20000 in
theorem ggX6_init_X3_init : GoodIn wsX6_init wsX3_init := goodIn_r _ [42, 43, 2, 3, 44, 72, 73] (by decide +kernel) (by decide +kernel)
set_option maxRecDepth 20000 in
theorem gX6_init_X3_init_n38 : GoodIn wsX6_init (wsX3_init) := ggX6_init_X3_init
theorem dX6_init_0 : decode cX6_init 0 = .ok (.aload_n 0, 1) := by decide +kernel
theorem dX6_init_1 : decode cX6_init 1 = .ok (.invokespecial 1, 3) := by decide +kernel
theorem dX6_init_4 : decode cX6_init 4 = .ok (.aload_n 0, 1) := by decide +kernel
theorem dX6_init_5 : decode cX6_init 5 = .ok (.new 7, 3) := by decide +kernel
theorem dX6_init_8 : decode cX6_init 8 = .ok (.dup, 1) := by decide +kernel
theorem dX6_init_9 : decode cX6_init 9 = .ok (.invokespecial 9, 3) := by decide +kernel
theorem dX6_init_12 : decode cX6_init 12 = .ok (.putfield 10, 3) := by decide +kernel
theorem dX6_init_15 : decode cX6_init 15 = .ok (.aload_n 0, 1) := by decide +kernel
theorem dX6_init_16 : decode cX6_init 16 = .ok (.new 16, 3) := by decide +kernel
theorem dX6_init_19 : decode cX6_init 19 = .ok (.dup, 1) := by decide +kernel
theorem dX6_init_20 : decode cX6_init 20 = .ok (.invokespecial 18, 3) := by decide +kernel
theorem dX6_init_23 : decode cX6_init 23 = .ok (.putfield 19, 3) := by decide +kernel
theorem dX6_init_26 : decode cX6_init 26 = .ok (.aload_n 0, 1) := by decide +kernel
theorem dX6_init_27 : decode cX6_init 27 = .ok (.new 16, 3) := by decide +kernel
theorem dX6_init_30 : decode cX6_init 30 = .ok (.dup, 1) := by decide +kernel
theorem dX6_init_31 : decode cX6_init 31 = .ok (.invokespecial 18, 3) := by decide +kernel
theorem dX6_init_34 : decode cX6_init 34 = .ok (.putfield 23, 3) := by decide +kernel
theorem dX6_init_37 : decode cX6_init 37 = .ok (.aload_n 0, 1) := by decide +kernel
theorem dX6_init_38 : decode cX6_init 38 = .ok (.new 16, 3) := by decide +kernel
theorem dX6_init_41 : decode cX6_init 41 = .ok (.dup, 1) := by decide +kernel
theorem dX6_init_42 : decode cX6_init 42 = .ok (.invokespecial 18, 3) := by decide +kernel
theorem dX6_init_45 : decode cX6_init 45 = .ok (.putfield 26, 3) := by decide +kernel
theorem dX6_init_48 : decode cX6_init 48 = .ok (.aload_n 0, 1) := by decide +kernel
theorem dX6_init_49 : decode cX6_init 49 = .ok (.new 29, 3) := by decide +kernel
theorem dX6_init_52 : decode cX6_init 52 = .ok (.dup, 1) := by decide +kernel
theorem dX6_init_53 : decode cX6_init 53 = .ok (.invokespecial 31, 3) := by decide +kernel
theorem dX6_init_56 : decode cX6_init 56 = .ok (.putfield 32, 3) := by decide +kernel
theorem dX6_init_59 : decode cX6_init 59 = .ok (.aload_n 0, 1) := by decide +kernel
theorem dX6_init_60 : decode cX6_init 60 = .ok (.new 36, 3) := by decide +kernel
theorem dX6_init_63 : decode cX6_init 63 = .ok (.dup, 1) := by decide +kernel
theorem dX6_init_64 : decode cX6_init 64 = .ok (.invokespecial 38, 3) := by decide +kernel
theorem dX6_init_67 : decode cX6_init 67 = .ok (.putfield 39, 3) := by decide +kernel
theorem dX6_init_70 : decode cX6_init 70 = .ok (.aload_n 0, 1) := by decide +kernel
theorem dX6_init_71 : decode cX6_init 71 = .ok (.getfield 19, 3) := by decide +kernel
theorem dX6_init_74 : decode cX6_init 74 = .ok (.iconst 4, 1) := by decide +kernel
theorem dX6_init_75 : decode cX6_init 75 = .ok (.putfield 43, 3) := by decide +kernel
theorem dX6_init_78 : decode cX6_init 78 = .ok (.return_, 1) := by decide +kernel
set_option maxRecDepth 20000 in
theorem ggX6_say_X4_append : GoodIn wsX6_say wsX4_append := goodIn_r _ [7, 8, 9, 17, 18, 19, 20, 21, 22, 23, 24] (by decide +kernel) (by decide +kernel)
set_option maxRecDepth 20000 in
theorem gX6_say_X4_append : GoodIn wsX6_say (wsV RX6 47 RX4 yX4_append wsX4_append) := goodIn_app (goodIn_of _ (by decide +kernel)) ggX6_say_X4_append
theorem dX6_say_0 : decode cX6_say 0 = .ok (.iload_n 1, 1) := by decide +kernel
theorem dX6_say_1 : decode cX6_say 1 = .ok (.bipush 33, 2) := by decide +kernel
theorem dX6_say_3 : decode cX6_say 3 = .ok (.if_icmp .lt 9, 3) := by decide +kernel
theorem dX6_say_6 : decode cX6_say 6 = .ok (.iload_n 1, 1) := by decide +kernel
theorem dX6_say_7 : decode cX6_say 7 = .ok (.bipush 126, 2) := by decide +kernel
theorem dX6_say_9 : decode cX6_say 9 = .ok (.if_icmp .le 6, 3) := by decide +kernel
theorem dX6_say_12 : decode cX6_say 12 = .ok (.bipush (-2), 2) := by decide +kernel
theorem dX6_say_14 : decode cX6_say 14 = .ok (.ireturn, 1) := by decide +kernel
theorem dX6_say_15 : decode cX6_say 15 = .ok (.aload_n 0, 1) := by decide +kernel
theorem dX6_say_16 : decode cX6_say 16 = .ok (.getfield 10, 3) := by decide +kernel
theorem dX6_say_19 : decode cX6_say 19 = .ok (.iload_n 1, 1) := by decide +kernel
theorem dX6_say_20 : decode cX6_say 20 = .ok (.invokevirtual 47, 3) := by decide +kernel
theorem dX6_say_23 : decode cX6_say 23 = .ok (.ifCond .eq 13, 3) := by decide +kernel
theorem dX6_say_26 : decode cX6_say 26 = .ok (.aload_n 0, 1) := by decide +kernel
theorem dX6_say_27 : decode cX6_say 27 = .ok (.getfield 10, 3) := by decide +kernel
theorem dX6_say_30 : decode cX6_say 30 = .ok (.getfield 51, 3) := by decide +kernel
theorem dX6_say_33 : decode cX6_say 33 = .ok (.goto 5, 3) := by decide +kernel
theorem dX6_say_36 : decode cX6_say 36 = .ok (.bipush (-4), 2) := by decide +kernel
theorem dX6_say_38 : decode cX6_say 38 = .ok (.ireturn, 1) := by decide +kernel
set_option maxRecDepth 20000 in
theorem ggX6_wipe_X4_clear : GoodIn wsX6_wipe wsX4_clear := goodIn_r _ [6, 7, 15, 16, 17, 18, 19, 20, 21, 22] (by decide +kernel) (by decide +kernel)
set_option maxRecDepth 20000 in
theorem gX6_wipe_X4_clear : GoodIn wsX6_wipe (wsV RX6 54 RX4 yX4_clear wsX4_clear) := goodIn_app (goodIn_of _ (by decide +kernel)) ggX6_wipe_X4_clear
theorem dX6_wipe_0 : decode cX6_wipe 0 = .ok (.aload_n 0, 1) := by decide +kernel
theorem dX6_wipe_1 : decode cX6_wipe 1 = .ok (.getfield 10, 3) := by decide +kernel
theorem dX6_wipe_4 : decode cX6_wipe 4 = .ok (.invokevirtual 54, 3) := by decide +kernel
theorem dX6_wipe_7 : decode cX6_wipe 7 = .ok (.ireturn, 1) := by decide +kernel
set_option maxRecDepth 20000 in
theorem ggX6_fault_X4_read : GoodIn wsX6_fault wsX4_read := goodIn_r _ [6, 7, 8, 9, 10, 11, 12, 13, 14, 5, 15, 16, 17, 18, 19, 20, 21, 22, 23, 24, 25, 26, 27, 28, 29, 30, 31, 32, 33, 41, 42, 43, 44, 45, 46, 47, 48] (by decide +kernel) (by decide +kernel)
set_option maxRecDepth 20000 in
theorem gX6_fault_X4_read : GoodIn wsX6_fault (wsV RX6 58 RX4 yX4_read wsX4_read) := goodIn_app (goodIn_of _ (by decide +kernel)) ggX6_fault_X4_read
theorem dX6_fault_0 : decode cX6_fault 0 = .ok (.aload_n 0, 1) := by decide +kernel
theorem dX6_fault_1 : decode cX6_fault 1 = .ok (.getfield 10, 3) := by decide +kernel
theorem dX6_fault_4 : decode cX6_fault 4 = .ok (.invokevirtual 58, 3) := by decide +kernel
theorem dX6_fault_7 : decode cX6_fault 7 = .ok (.ireturn, 1) := by decide +kernel
set_option maxRecDepth 20000 in
theorem ggX6_deed_X6_isPost : GoodIn wsX6_deed wsX6_isPost := goodIn_r _ [17, 18, 19, 16, 20] (by decide +kernel) (by decide +kernel)
set_option maxRecDepth 20000 in
theorem gX6_deed_X6_isPost : GoodIn wsX6_deed (va_wsS RX6 61 yX6_isPost wsX6_isPost) := goodIn_app (goodIn_of _ (by decide +kernel)) ggX6_deed_X6_isPost
set_option maxRecDepth 20000 in
theorem ggX6_deed_X6_isYear : GoodIn wsX6_deed wsX6_isYear := goodIn_r _ [23] (by decide +kernel) (by decide +kernel)
set_option maxRecDepth 20000 in
theorem gX6_deed_X6_isYear : GoodIn wsX6_deed (va_wsS RX6 65 yX6_isYear wsX6_isYear) := goodIn_app (goodIn_of _ (by decide +kernel)) ggX6_deed_X6_isYear
set_option maxRecDepth 20000 in
theorem ggX6_deed_X4_read : GoodIn wsX6_deed wsX4_read := goodIn_r _ [28, 29, 30, 31, 32, 33, 34, 35, 36, 27, 37, 38, 39, 40, 41, 42, 43, 44, 45, 46, 47, 48, 49, 50, 51, 52, 53, 54, 55, 393, 394, 395, 396, 397, 398, 399, 400] (by decide +kernel) (by decide +kernel)
set_option maxRecDepth 20000 in
theorem gX6_deed_X4_read : GoodIn wsX6_deed (wsV RX6 58 RX4 yX4_read wsX4_read) := goodIn_app (goodIn_of _ (by decide +kernel)) ggX6_deed_X4_read
set_option maxRecDepth 20000 in
theorem ggX6_deed_X4_missed : GoodIn wsX6_deed wsX4_missed := goodIn_r _ [59, 29, 393, 394, 395, 396, 397, 398, 399, 400] (by decide +kernel) (by decide +kernel)
set_option maxRecDepth 20000 in
theorem gX6_deed_X4_missed : GoodIn wsX6_deed (wsV RX6 72 RX4 yX4_missed wsX4_missed) := goodIn_app (goodIn_of _ (by decide +kernel)) ggX6_deed_X4_missed
set_option maxRecDepth 20000 in
theorem ggX6_deed_X4_cornersFrom : GoodIn wsX6_deed wsX4_cornersFrom := goodIn_r _ [63, 29, 64, 65, 5, 66, 67, 68, 57, 58, 27, 59, 69, 70, 71, 72, 73, 74, 75, 76, 43, 77, 4, 6, 42, 393, 394, 395, 396, 397, 398, 399, 400] (by decide +kernel) (by decide +kernel)
set_option maxRecDepth 20000 in
theorem gX6_deed_X4_cornersFrom : GoodIn wsX6_deed (wsV RX6 87 RX4 yX4_cornersFrom wsX4_cornersFrom) := goodIn_app (goodIn_of _ (by decide +kernel)) ggX6_deed_X4_cornersFrom
set_option maxRecDepth 20000 in
theorem ggX6_deed_X1_init : GoodIn wsX6_deed wsX1_init := goodIn_r _ [80, 81, 82, 83, 84, 85, 86, 87, 5, 88, 89, 405, 406, 407] (by decide +kernel) (by decide +kernel)
set_option maxRecDepth 20000 in
theorem gX6_deed_X1_init : GoodIn wsX6_deed (wsX1_init) := ggX6_deed_X1_init
set_option maxRecDepth 20000 in
theorem ggX6_deed_X1_stands : GoodIn wsX6_deed wsX1_stands := goodIn_r _ [93, 89, 84, 85, 15, 16, 17, 18, 19, 20, 94, 95, 96, 12, 97, 98, 99, 100, 101, 102, 103, 104, 105, 106, 107, 108, 109, 110, 111, 112, 113, 114, 115, 116, 117, 86, 87, 5, 88, 118, 65, 66, 119, 120, 121, 122, 405, 406, 407] (by decide +kernel) (by decide +kernel)
set_option maxRecDepth 20000 in
theorem gX6_deed_X1_stands : GoodIn wsX6_deed (wsV RX6 94 RX1 yX1_stands wsX1_stands) := goodIn_app (goodIn_of _ (by decide +kernel)) ggX6_deed_X1_stands
set_option maxRecDepth 20000 in
theorem ggX6_deed_X4_clear : GoodIn wsX6_deed wsX4_clear := goodIn_r _ [126, 31, 393, 394, 395, 396, 397, 398, 399, 400] (by decide +kernel) (by decide +kernel)
set_option maxRecDepth 20000 in
theorem gX6_deed_X4_clear : GoodIn wsX6_deed (wsV RX6 54 RX4 yX4_clear wsX4_clear) := goodIn_app (goodIn_of _ (by decide +kernel)) ggX6_deed_X4_clear
set_option maxRecDepth 20000 in
theorem ggX6_deed_X2_of : GoodIn wsX6_deed wsX2_of := goodIn_r _ [130, 131, 132, 129, 133, 134, 135, 136, 82, 83, 67, 137, 138, 139, 140, 141, 142, 143, 144, 12, 145, 146, 147, 148, 89, 85, 84, 149, 150, 151, 152, 153, 154, 155, 156, 157, 158, 159, 160, 161, 162, 163, 164, 165, 166, 167, 168, 98, 99, 100, 101, 169, 170, 171, 172, 173, 174, 175, 176, 177, 178, 179, 180, 181, 182, 183, 184, 185, 186, 187, 188, 189, 190, 191, 192, 193, 194, 65, 5, 66, 195, 196, 197, 198, 199, 200, 201, 202, 203, 204, 205, 206, 207, 208, 209, 87, 88, 210, 211, 212, 213, 214, 215, 216, 217, 218, 219, 220, 221, 222, 223, 224, 225, 226, 227, 228, 229, 230, 231, 232, 233, 234, 235, 236, 237, 238, 239, 240, 241, 242, 243, 244, 245, 246, 247, 248, 249, 250, 251, 252, 253, 254, 255, 256, 257, 258, 259, 260, 261, 262, 263, 264, 265, 266, 267, 268, 269, 270, 4, 6, 271, 272, 273, 274, 275, 276, 277, 278, 279, 280, 281, 282, 283, 284, 285, 286, 287, 288, 289, 290, 291, 292, 293, 294, 295, 296, 297, 298, 299, 300, 301, 302, 303, 304, 305, 306, 307, 308, 309, 310, 311, 312, 313, 314, 315, 316, 317, 318, 319, 320, 321, 322, 323, 324, 325, 326, 327, 328, 329, 330, 331, 332, 333, 334, 335, 336, 337, 338, 339, 340, 341, 342, 343, 344, 345, 346, 347, 348, 349, 350, 351, 352, 353, 354, 355, 356, 357, 358, 359, 360, 361, 362, 363, 364, 365, 366, 367, 368, 16, 369, 15, 17, 18, 19, 20, 370, 371, 372, 373, 374, 375, 376, 377, 408, 409, 410, 411, 412, 413, 414, 415, 416, 405, 406, 407, 417, 418, 419, 420] (by decide +kernel) (by decide +kernel)
set_option maxRecDepth 20000 in
theorem gX6_deed_X2_of : GoodIn wsX6_deed (va_wsS RX6 101 yX2_of wsX2_of) := goodIn_app (goodIn_of _ (by decide +kernel)) ggX6_deed_X2_of
set_option maxRecDepth 20000 in
theorem ggX6_deed_X0_add : GoodIn wsX6_deed wsX0_add := goodIn_r _ [382, 383, 384, 385, 401, 402, 403, 404] (by decide +kernel) (by decide +kernel)
set_option maxRecDepth 20000 in
theorem gX6_deed_X0_add : GoodIn wsX6_deed (wsV RX6 107 RX0 yX0_add wsX0_add) := goodIn_app (goodIn_of _ (by decide +kernel)) ggX6_deed_X0_add
theorem dX6_deed_0 : decode cX6_deed 0 = .ok (.iload_n 1, 1) := by decide +kernel
theorem dX6_deed_1 : decode cX6_deed 1 = .ok (.iload_n 2, 1) := by decide +kernel
theorem dX6_deed_2 : decode cX6_deed 2 = .ok (.invokestatic 61, 3) := by decide +kernel
theorem dX6_deed_5 : decode cX6_deed 5 = .ok (.ifCond .eq 10, 3) := by decide +kernel
theorem dX6_deed_8 : decode cX6_deed 8 = .ok (.iload_n 3, 1) := by decide +kernel
theorem dX6_deed_9 : decode cX6_deed 9 = .ok (.invokestatic 65, 3) := by decide +kernel
theorem dX6_deed_12 : decode cX6_deed 12 = .ok (.ifCond .ne 6, 3) := by decide +kernel
theorem dX6_deed_15 : decode cX6_deed 15 = .ok (.bipush (-2), 2) := by decide +kernel
theorem dX6_deed_17 : decode cX6_deed 17 = .ok (.ireturn, 1) := by decide +kernel
theorem dX6_deed_18 : decode cX6_deed 18 = .ok (.aload_n 0, 1) := by decide +kernel
theorem dX6_deed_19 : decode cX6_deed 19 = .ok (.getfield 10, 3) := by decide +kernel
theorem dX6_deed_22 : decode cX6_deed 22 = .ok (.invokevirtual 58, 3) := by decide +kernel
theorem dX6_deed_25 : decode cX6_deed 25 = .ok (.bipush (-6), 2) := by decide +kernel
theorem dX6_deed_27 : decode cX6_deed 27 = .ok (.if_icmp .eq 6, 3) := by decide +kernel
theorem dX6_deed_30 : decode cX6_deed 30 = .ok (.bipush (-7), 2) := by decide +kernel
theorem dX6_deed_32 : decode cX6_deed 32 = .ok (.ireturn, 1) := by decide +kernel
theorem dX6_deed_33 : decode cX6_deed 33 = .ok (.aload_n 0, 1) := by decide +kernel
theorem dX6_deed_34 : decode cX6_deed 34 = .ok (.getfield 10, 3) := by decide +kernel
theorem dX6_deed_37 : decode cX6_deed 37 = .ok (.aload_n 0, 1) := by decide +kernel
theorem dX6_deed_38 : decode cX6_deed 38 = .ok (.getfield 10, 3) := by decide +kernel
theorem dX6_deed_41 : decode cX6_deed 41 = .ok (.getfield 68, 3) := by decide +kernel
theorem dX6_deed_44 : decode cX6_deed 44 = .ok (.invokevirtual 72, 3) := by decide +kernel
theorem dX6_deed_47 : decode cX6_deed 47 = .ok (.invokestatic 76, 3) := by decide +kernel
theorem dX6_deed_50 : decode cX6_deed 50 = .ok (.aload_n 0, 1) := by decide +kernel
theorem dX6_deed_51 : decode cX6_deed 51 = .ok (.getfield 10, 3) := by decide +kernel
theorem dX6_deed_54 : decode cX6_deed 54 = .ok (.aload_n 0, 1) := by decide +kernel
theorem dX6_deed_55 : decode cX6_deed 55 = .ok (.getfield 10, 3) := by decide +kernel
theorem dX6_deed_58 : decode cX6_deed 58 = .ok (.getfield 82, 3) := by decide +kernel
theorem dX6_deed_61 : decode cX6_deed 61 = .ok (.invokevirtual 72, 3) := by decide +kernel
theorem dX6_deed_64 : decode cX6_deed 64 = .ok (.invokestatic 76, 3) := by decide +kernel
theorem dX6_deed_67 : decode cX6_deed 67 = .ok (.iadd, 1) := by decide +kernel
theorem dX6_deed_68 : decode cX6_deed 68 = .ok (.aload_n 0, 1) := by decide +kernel
theorem dX6_deed_69 : decode cX6_deed 69 = .ok (.getfield 19, 3) := by decide +kernel
theorem dX6_deed_72 : decode cX6_deed 72 = .ok (.getfield 43, 3) := by decide +kernel
theorem dX6_deed_75 : decode cX6_deed 75 = .ok (.if_icmp .le 6, 3) := by decide +kernel
theorem dX6_deed_78 : decode cX6_deed 78 = .ok (.bipush (-5), 2) := by decide +kernel
theorem dX6_deed_80 : decode cX6_deed 80 = .ok (.ireturn, 1) := by decide +kernel
theorem dX6_deed_81 : decode cX6_deed 81 = .ok (.new 85, 3) := by decide +kernel
theorem dX6_deed_84 : decode cX6_deed 84 = .ok (.dup, 1) := by decide +kernel
theorem dX6_deed_85 : decode cX6_deed 85 = .ok (.aload_n 0, 1) := by decide +kernel
theorem dX6_deed_86 : decode cX6_deed 86 = .ok (.getfield 10, 3) := by decide +kernel
