theorem dX7_image_48 : decode cX7_image 48 = .ok (.iconst 1, 1) := by decide +kernel
theorem dX7_image_49 : decode cX7_image 49 = .ok (.bastore, 1) := by decide +kernel
theorem dX7_image_50 : decode cX7_image 50 = .ok (.iconst 1, 1) := by decide +kernel
theorem dX7_image_51 : decode cX7_image 51 = .ok (.ireturn, 1) := by decide +kernel
set_option maxRecDepth 20000 in
theorem ggX7_restore_X7_in : GoodIn wsX7_restore wsX7_in := goodIn_r _ [7] (by decide +kernel) (by decide +kernel)
set_option maxRecDepth 20000 in
theorem gX7_restore_X7_in : GoodIn wsX7_restore (va_wsS RX7 47 yX7_in wsX7_in) := goodIn_app (goodIn_of _ (by decide +kernel)) ggX7_restore_X7_in
theorem dX7_restore_0 : decode cX7_restore 0 = .ok (.iload_n 1, 1) := by decide +kernel
theorem dX7_restore_1 : decode cX7_restore 1 = .ok (.iconst 0, 1) := by decide +kernel
theorem dX7_restore_2 : decode cX7_restore 2 = .ok (.iconst 1, 1) := by decide +kernel
theorem dX7_restore_3 : decode cX7_restore 3 = .ok (.invokestatic 47, 3) := by decide +kernel
theorem dX7_restore_6 : decode cX7_restore 6 = .ok (.ifCond .ne 6, 3) := by decide +kernel
theorem dX7_restore_9 : decode cX7_restore 9 = .ok (.bipush (-2), 2) := by decide +kernel
theorem dX7_restore_11 : decode cX7_restore 11 = .ok (.ireturn, 1) := by decide +kernel
theorem dX7_restore_12 : decode cX7_restore 12 = .ok (.aload_n 0, 1) := by decide +kernel
theorem dX7_restore_13 : decode cX7_restore 13 = .ok (.getfield 16, 3) := by decide +kernel
theorem dX7_restore_16 : decode cX7_restore 16 = .ok (.iload_n 1, 1) := by decide +kernel
theorem dX7_restore_17 : decode cX7_restore 17 = .ok (.baload, 1) := by decide +kernel
theorem dX7_restore_18 : decode cX7_restore 18 = .ok (.ifCond .ne 6, 3) := by decide +kernel
theorem dX7_restore_21 : decode cX7_restore 21 = .ok (.bipush (-3), 2) := by decide +kernel
theorem dX7_restore_23 : decode cX7_restore 23 = .ok (.ireturn, 1) := by decide +kernel
theorem dX7_restore_24 : decode cX7_restore 24 = .ok (.iconst 0, 1) := by decide +kernel
theorem dX7_restore_25 : decode cX7_restore 25 = .ok (.istore_n 2, 1) := by decide +kernel
theorem dX7_restore_26 : decode cX7_restore 26 = .ok (.iload_n 2, 1) := by decide +kernel
theorem dX7_restore_27 : decode cX7_restore 27 = .ok (.bipush 110, 2) := by decide +kernel
theorem dX7_restore_29 : decode cX7_restore 29 = .ok (.if_icmp .ge 26, 3) := by decide +kernel
theorem dX7_restore_32 : decode cX7_restore 32 = .ok (.aload_n 0, 1) := by decide +kernel
theorem dX7_restore_33 : decode cX7_restore 33 = .ok (.getfield 7, 3) := by decide +kernel
theorem dX7_restore_36 : decode cX7_restore 36 = .ok (.iload_n 2, 1) := by decide +kernel
theorem dX7_restore_37 : decode cX7_restore 37 = .ok (.aload_n 0, 1) := by decide +kernel
theorem dX7_restore_38 : decode cX7_restore 38 = .ok (.getfield 13, 3) := by decide +kernel
theorem dX7_restore_41 : decode cX7_restore 41 = .ok (.bipush 110, 2) := by decide +kernel
theorem dX7_restore_43 : decode cX7_restore 43 = .ok (.iload_n 1, 1) := by decide +kernel
theorem dX7_restore_44 : decode cX7_restore 44 = .ok (.imul, 1) := by decide +kernel
theorem dX7_restore_45 : decode cX7_restore 45 = .ok (.iload_n 2, 1) := by decide +kernel
theorem dX7_restore_46 : decode cX7_restore 46 = .ok (.iadd, 1) := by decide +kernel
theorem dX7_restore_47 : decode cX7_restore 47 = .ok (.iaload, 1) := by decide +kernel
theorem dX7_restore_48 : decode cX7_restore 48 = .ok (.iastore, 1) := by decide +kernel
theorem dX7_restore_49 : decode cX7_restore 49 = .ok (.iinc 2 1, 3) := by decide +kernel
theorem dX7_restore_52 : decode cX7_restore 52 = .ok (.goto (-26), 3) := by decide +kernel
theorem dX7_restore_55 : decode cX7_restore 55 = .ok (.iconst 1, 1) := by decide +kernel
theorem dX7_restore_56 : decode cX7_restore 56 = .ok (.ireturn, 1) := by decide +kernel
set_option maxRecDepth 20000 in
theorem ggJ5_init_d00df_J2_newBytesFor_77867 : GoodIn wsJ5_init_d00df wsJ2_newBytesFor_77867 := goodIn_r _ [11, 5, 12, 13, 10, 14, 15] (by decide +kernel) (by decide +kernel)
set_option maxRecDepth 20000 in
theorem gJ5_init_d00df_J2_newBytesFor_77867 : GoodIn wsJ5_init_d00df (va_wsS RJ5 26 yJ2_newBytesFor_77867 wsJ2_newBytesFor_77867) := goodIn_app (goodIn_of _ (by decide +kernel)) ggJ5_init_d00df_J2_newBytesFor_77867
theorem dJ5_init_d00df_0 : decode cJ5_init_d00df 0 = .ok (.aload_n 0, 1) := by decide +kernel
theorem dJ5_init_d00df_1 : decode cJ5_init_d00df 1 = .ok (.invokespecial 3, 3) := by decide +kernel
theorem dJ5_init_d00df_4 : decode cJ5_init_d00df 4 = .ok (.getstatic 18, 3) := by decide +kernel
theorem dJ5_init_d00df_7 : decode cJ5_init_d00df 7 = .ok (.ifCond .eq 18, 3) := by decide +kernel
theorem dJ5_init_d00df_10 : decode cJ5_init_d00df 10 = .ok (.aload_n 0, 1) := by decide +kernel
theorem dJ5_init_d00df_11 : decode cJ5_init_d00df 11 = .ok (.iload_n 1, 1) := by decide +kernel
theorem dJ5_init_d00df_12 : decode cJ5_init_d00df 12 = .ok (.newarray .byte, 2) := by decide +kernel
theorem dJ5_init_d00df_14 : decode cJ5_init_d00df 14 = .ok (.putfield 15, 3) := by decide +kernel
theorem dJ5_init_d00df_17 : decode cJ5_init_d00df 17 = .ok (.aload_n 0, 1) := by decide +kernel
theorem dJ5_init_d00df_18 : decode cJ5_init_d00df 18 = .ok (.iconst 0, 1) := by decide +kernel
theorem dJ5_init_d00df_19 : decode cJ5_init_d00df 19 = .ok (.putfield 22, 3) := by decide +kernel
theorem dJ5_init_d00df_22 : decode cJ5_init_d00df 22 = .ok (.goto 16, 3) := by decide +kernel
theorem dJ5_init_d00df_25 : decode cJ5_init_d00df 25 = .ok (.aload_n 0, 1) := by decide +kernel
theorem dJ5_init_d00df_26 : decode cJ5_init_d00df 26 = .ok (.iload_n 1, 1) := by decide +kernel
theorem dJ5_init_d00df_27 : decode cJ5_init_d00df 27 = .ok (.invokestatic 26, 3) := by decide +kernel
theorem dJ5_init_d00df_30 : decode cJ5_init_d00df 30 = .ok (.putfield 15, 3) := by decide +kernel
theorem dJ5_init_d00df_33 : decode cJ5_init_d00df 33 = .ok (.aload_n 0, 1) := by decide +kernel
theorem dJ5_init_d00df_34 : decode cJ5_init_d00df 34 = .ok (.iconst 1, 1) := by decide +kernel
theorem dJ5_init_d00df_35 : decode cJ5_init_d00df 35 = .ok (.putfield 22, 3) := by decide +kernel
theorem dJ5_init_d00df_38 : decode cJ5_init_d00df 38 = .ok (.return_, 1) := by decide +kernel
theorem dJ5_length_8abf5_0 : decode cJ5_length_8abf5 0 = .ok (.aload_n 0, 1) := by decide +kernel
theorem dJ5_length_8abf5_1 : decode cJ5_length_8abf5 1 = .ok (.getfield 79, 3) := by decide +kernel
theorem dJ5_length_8abf5_4 : decode cJ5_length_8abf5 4 = .ok (.ireturn, 1) := by decide +kernel
set_option maxRecDepth 20000 in
theorem ggJ5_ensureCapacityInternal_d00df_J5_newCapacity_0f7a4 : GoodIn wsJ5_ensureCapacityInternal_d00df wsJ5_newCapacity_0f7a4 := goodIn_r _ [8, 1, 2, 9, 10, 11, 12, 13, 14, 15, 16, 17, 18, 19, 20, 21, 40, 41, 42, 43] (by decide +kernel) (by decide +kernel)
set_option maxRecDepth 20000 in
theorem gJ5_ensureCapacityInternal_d00df_J5_newCapacity_0f7a4_u104J4 : GoodIn wsJ5_ensureCapacityInternal_d00df (va_wsU RJ5 104 RJ4 "java/lang/AbstractStringBuilder" ⟨"java/lang/AbstractStringBuilder", "newCapacity", "(I)I"⟩ yJ5_newCapacity_0f7a4 wsJ5_newCapacity_0f7a4) := goodIn_app (goodIn_of _ (by decide +kernel)) ggJ5_ensureCapacityInternal_d00df_J5_newCapacity_0f7a4
set_option maxRecDepth 20000 in
theorem ggJ5_ensureCapacityInternal_d00df_J7_copyOf_9075b : GoodIn wsJ5_ensureCapacityInternal_d00df wsJ7_copyOf_9075b := goodIn_r _ [25, 26, 27, 28, 29, 30, 31, 32, 33, 34, 16, 35, 36, 37, 38, 39] (by decide +kernel) (by decide +kernel)
set_option maxRecDepth 20000 in
theorem gJ5_ensureCapacityInternal_d00df_J7_copyOf_9075b : GoodIn wsJ5_ensureCapacityInternal_d00df (va_wsS RJ5 108 yJ7_copyOf_9075b wsJ7_copyOf_9075b) := goodIn_app (goodIn_of _ (by decide +kernel)) ggJ5_ensureCapacityInternal_d00df_J7_copyOf_9075b
theorem dJ5_ensureCapacityInternal_d00df_0 : decode cJ5_ensureCapacityInternal_d00df 0 = .ok (.aload_n 0, 1) := by decide +kernel
theorem dJ5_ensureCapacityInternal_d00df_1 : decode cJ5_ensureCapacityInternal_d00df 1 = .ok (.getfield 15, 3) := by decide +kernel
theorem dJ5_ensureCapacityInternal_d00df_4 : decode cJ5_ensureCapacityInternal_d00df 4 = .ok (.arraylength, 1) := by decide +kernel
theorem dJ5_ensureCapacityInternal_d00df_5 : decode cJ5_ensureCapacityInternal_d00df 5 = .ok (.aload_n 0, 1) := by decide +kernel
theorem dJ5_ensureCapacityInternal_d00df_6 : decode cJ5_ensureCapacityInternal_d00df 6 = .ok (.getfield 22, 3) := by decide +kernel
theorem dJ5_ensureCapacityInternal_d00df_9 : decode cJ5_ensureCapacityInternal_d00df 9 = .ok (.ishr, 1) := by decide +kernel
theorem dJ5_ensureCapacityInternal_d00df_10 : decode cJ5_ensureCapacityInternal_d00df 10 = .ok (.istore_n 2, 1) := by decide +kernel
theorem dJ5_ensureCapacityInternal_d00df_11 : decode cJ5_ensureCapacityInternal_d00df 11 = .ok (.iload_n 1, 1) := by decide +kernel
theorem dJ5_ensureCapacityInternal_d00df_12 : decode cJ5_ensureCapacityInternal_d00df 12 = .ok (.iload_n 2, 1) := by decide +kernel
theorem dJ5_ensureCapacityInternal_d00df_13 : decode cJ5_ensureCapacityInternal_d00df 13 = .ok (.isub, 1) := by decide +kernel
theorem dJ5_ensureCapacityInternal_d00df_14 : decode cJ5_ensureCapacityInternal_d00df 14 = .ok (.ifCond .le 24, 3) := by decide +kernel
theorem dJ5_ensureCapacityInternal_d00df_17 : decode cJ5_ensureCapacityInternal_d00df 17 = .ok (.aload_n 0, 1) := by decide +kernel
theorem dJ5_ensureCapacityInternal_d00df_18 : decode cJ5_ensureCapacityInternal_d00df 18 = .ok (.aload_n 0, 1) := by decide +kernel
theorem dJ5_ensureCapacityInternal_d00df_19 : decode cJ5_ensureCapacityInternal_d00df 19 = .ok (.getfield 15, 3) := by decide +kernel
theorem dJ5_ensureCapacityInternal_d00df_22 : decode cJ5_ensureCapacityInternal_d00df 22 = .ok (.aload_n 0, 1) := by decide +kernel
theorem dJ5_ensureCapacityInternal_d00df_23 : decode cJ5_ensureCapacityInternal_d00df 23 = .ok (.iload_n 1, 1) := by decide +kernel
theorem dJ5_ensureCapacityInternal_d00df_24 : decode cJ5_ensureCapacityInternal_d00df 24 = .ok (.invokevirtual 104, 3) := by decide +kernel
theorem dJ5_ensureCapacityInternal_d00df_27 : decode cJ5_ensureCapacityInternal_d00df 27 = .ok (.aload_n 0, 1) := by decide +kernel
theorem dJ5_ensureCapacityInternal_d00df_28 : decode cJ5_ensureCapacityInternal_d00df 28 = .ok (.getfield 22, 3) := by decide +kernel
theorem dJ5_ensureCapacityInternal_d00df_31 : decode cJ5_ensureCapacityInternal_d00df 31 = .ok (.ishl, 1) := by decide +kernel
theorem dJ5_ensureCapacityInternal_d00df_32 : decode cJ5_ensureCapacityInternal_d00df 32 = .ok (.invokestatic 108, 3) := by decide +kernel
theorem dJ5_ensureCapacityInternal_d00df_35 : decode cJ5_ensureCapacityInternal_d00df 35 = .ok (.putfield 15, 3) := by decide +kernel
theorem dJ5_ensureCapacityInternal_d00df_38 : decode cJ5_ensureCapacityInternal_d00df 38 = .ok (.return_, 1) := by decide +kernel
set_option maxRecDepth 20000 in
theorem ggJ5_newCapacity_0f7a4_J8_newLength_cabcc : GoodIn wsJ5_newCapacity_0f7a4 wsJ8_newLength_cabcc := goodIn_r _ [7, 8, 9, 10, 11, 12, 13, 14, 6, 15] (by decide +kernel) (by decide +kernel)
set_option maxRecDepth 20000 in
theorem gJ5_newCapacity_0f7a4_J8_newLength_cabcc : GoodIn wsJ5_newCapacity_0f7a4 (va_wsS RJ5 114 yJ8_newLength_cabcc wsJ8_newLength_cabcc) := goodIn_app (goodIn_of _ (by decide +kernel)) ggJ5_newCapacity_0f7a4_J8_newLength_cabcc
theorem dJ5_newCapacity_0f7a4_0 : decode cJ5_newCapacity_0f7a4 0 = .ok (.aload_n 0, 1) := by decide +kernel
theorem dJ5_newCapacity_0f7a4_1 : decode cJ5_newCapacity_0f7a4 1 = .ok (.getfield 15, 3) := by decide +kernel
theorem dJ5_newCapacity_0f7a4_4 : decode cJ5_newCapacity_0f7a4 4 = .ok (.arraylength, 1) := by decide +kernel
theorem dJ5_newCapacity_0f7a4_5 : decode cJ5_newCapacity_0f7a4 5 = .ok (.istore_n 2, 1) := by decide +kernel
theorem dJ5_newCapacity_0f7a4_6 : decode cJ5_newCapacity_0f7a4 6 = .ok (.iload_n 1, 1) := by decide +kernel
theorem dJ5_newCapacity_0f7a4_7 : decode cJ5_newCapacity_0f7a4 7 = .ok (.aload_n 0, 1) := by decide +kernel
theorem dJ5_newCapacity_0f7a4_8 : decode cJ5_newCapacity_0f7a4 8 = .ok (.getfield 22, 3) := by decide +kernel
theorem dJ5_newCapacity_0f7a4_11 : decode cJ5_newCapacity_0f7a4 11 = .ok (.ishl, 1) := by decide +kernel
theorem dJ5_newCapacity_0f7a4_12 : decode cJ5_newCapacity_0f7a4 12 = .ok (.istore_n 3, 1) := by decide +kernel
theorem dJ5_newCapacity_0f7a4_13 : decode cJ5_newCapacity_0f7a4 13 = .ok (.iload_n 3, 1) := by decide +kernel
theorem dJ5_newCapacity_0f7a4_14 : decode cJ5_newCapacity_0f7a4 14 = .ok (.iload_n 2, 1) := by decide +kernel
theorem dJ5_newCapacity_0f7a4_15 : decode cJ5_newCapacity_0f7a4 15 = .ok (.isub, 1) := by decide +kernel
theorem dJ5_newCapacity_0f7a4_16 : decode cJ5_newCapacity_0f7a4 16 = .ok (.istore 4, 2) := by decide +kernel
theorem dJ5_newCapacity_0f7a4_18 : decode cJ5_newCapacity_0f7a4 18 = .ok (.iload_n 2, 1) := by decide +kernel
theorem dJ5_newCapacity_0f7a4_19 : decode cJ5_newCapacity_0f7a4 19 = .ok (.iload 4, 2) := by decide +kernel
theorem dJ5_newCapacity_0f7a4_21 : decode cJ5_newCapacity_0f7a4 21 = .ok (.iload_n 2, 1) := by decide +kernel
theorem dJ5_newCapacity_0f7a4_22 : decode cJ5_newCapacity_0f7a4 22 = .ok (.iconst 2, 1) := by decide +kernel
theorem dJ5_newCapacity_0f7a4_23 : decode cJ5_newCapacity_0f7a4 23 = .ok (.aload_n 0, 1) := by decide +kernel
theorem dJ5_newCapacity_0f7a4_24 : decode cJ5_newCapacity_0f7a4 24 = .ok (.getfield 22, 3) := by decide +kernel
theorem dJ5_newCapacity_0f7a4_27 : decode cJ5_newCapacity_0f7a4 27 = .ok (.ishl, 1) := by decide +kernel
theorem dJ5_newCapacity_0f7a4_28 : decode cJ5_newCapacity_0f7a4 28 = .ok (.iadd, 1) := by decide +kernel
theorem dJ5_newCapacity_0f7a4_29 : decode cJ5_newCapacity_0f7a4 29 = .ok (.invokestatic 114, 3) := by decide +kernel
theorem dJ5_newCapacity_0f7a4_32 : decode cJ5_newCapacity_0f7a4 32 = .ok (.istore 5, 2) := by decide +kernel
theorem dJ5_newCapacity_0f7a4_34 : decode cJ5_newCapacity_0f7a4 34 = .ok (.iload 5, 2) := by decide +kernel
theorem dJ5_newCapacity_0f7a4_36 : decode cJ5_newCapacity_0f7a4 36 = .ok (.ldc 39, 2) := by decide +kernel
theorem dJ5_newCapacity_0f7a4_38 : decode cJ5_newCapacity_0f7a4 38 = .ok (.if_icmp .ne 13, 3) := by decide +kernel
theorem dJ5_newCapacity_0f7a4_41 : decode cJ5_newCapacity_0f7a4 41 = .ok (.new 120, 3) := by decide +kernel
theorem dJ5_newCapacity_0f7a4_44 : decode cJ5_newCapacity_0f7a4 44 = .ok (.dup, 1) := by decide +kernel
theorem dJ5_newCapacity_0f7a4_45 : decode cJ5_newCapacity_0f7a4 45 = .ok (.ldc 122, 2) := by decide +kernel
theorem dJ5_newCapacity_0f7a4_47 : decode cJ5_newCapacity_0f7a4 47 = .ok (.invokespecial 124, 3) := by decide +kernel
theorem dJ5_newCapacity_0f7a4_50 : decode cJ5_newCapacity_0f7a4 50 = .ok (.athrow, 1) := by decide +kernel
theorem dJ5_newCapacity_0f7a4_51 : decode cJ5_newCapacity_0f7a4 51 = .ok (.iload 5, 2) := by decide +kernel
theorem dJ5_newCapacity_0f7a4_53 : decode cJ5_newCapacity_0f7a4 53 = .ok (.aload_n 0, 1) := by decide +kernel
theorem dJ5_newCapacity_0f7a4_54 : decode cJ5_newCapacity_0f7a4 54 = .ok (.getfield 22, 3) := by decide +kernel
theorem dJ5_newCapacity_0f7a4_57 : decode cJ5_newCapacity_0f7a4 57 = .ok (.ishr, 1) := by decide +kernel
theorem dJ5_newCapacity_0f7a4_58 : decode cJ5_newCapacity_0f7a4 58 = .ok (.ireturn, 1) := by decide +kernel
set_option maxRecDepth 20000 in
theorem ggJ5_inflate_da8c8_J5_isLatin1_aae02 : GoodIn wsJ5_inflate_da8c8 wsJ5_isLatin1_aae02 := goodIn_r _ [9, 10, 3, 48, 49, 50, 51] (by decide +kernel) (by decide +kernel)
set_option maxRecDepth 20000 in
theorem gJ5_inflate_da8c8_J5_isLatin1_aae02_u83J4 : GoodIn wsJ5_inflate_da8c8 (va_wsU RJ5 83 RJ4 "java/lang/AbstractStringBuilder" ⟨"java/lang/AbstractStringBuilder", "isLatin1", "()Z"⟩ yJ5_isLatin1_aae02 wsJ5_isLatin1_aae02) := goodIn_app (goodIn_of _ (by decide +kernel)) ggJ5_inflate_da8c8_J5_isLatin1_aae02
set_option maxRecDepth 20000 in
theorem ggJ5_inflate_da8c8_J2_newBytesFor_77867 : GoodIn wsJ5_inflate_da8c8 wsJ2_newBytesFor_77867 := goodIn_r _ [14, 15, 16, 17, 13, 18, 19] (by decide +kernel) (by decide +kernel)
set_option maxRecDepth 20000 in
theorem gJ5_inflate_da8c8_J2_newBytesFor_77867 : GoodIn wsJ5_inflate_da8c8 (va_wsS RJ5 26 yJ2_newBytesFor_77867 wsJ2_newBytesFor_77867) := goodIn_app (goodIn_of _ (by decide +kernel)) ggJ5_inflate_da8c8_J2_newBytesFor_77867
set_option maxRecDepth 20000 in
theorem ggJ5_inflate_da8c8_J1_inflate_0e8fd : GoodIn wsJ5_inflate_da8c8 wsJ1_inflate_0e8fd := goodIn_r _ [23, 24, 25, 13, 26, 27, 28, 29, 30, 31, 32, 33, 34, 35, 36, 37, 38, 39, 40, 41, 42, 43, 44, 45, 46, 47] (by decide +kernel) (by decide +kernel)
set_option maxRecDepth 20000 in
theorem gJ5_inflate_da8c8_J1_inflate_0e8fd : GoodIn wsJ5_inflate_da8c8 (va_wsS RJ5 125 yJ1_inflate_0e8fd wsJ1_inflate_0e8fd) := goodIn_app (goodIn_of _ (by decide +kernel)) ggJ5_inflate_da8c8_J1_inflate_0e8fd
theorem dJ5_inflate_da8c8_0 : decode cJ5_inflate_da8c8 0 = .ok (.aload_n 0, 1) := by decide +kernel
theorem dJ5_inflate_da8c8_1 : decode cJ5_inflate_da8c8 1 = .ok (.invokevirtual 83, 3) := by decide +kernel
theorem dJ5_inflate_da8c8_4 : decode cJ5_inflate_da8c8 4 = .ok (.ifCond .ne 4, 3) := by decide +kernel
theorem dJ5_inflate_da8c8_7 : decode cJ5_inflate_da8c8 7 = .ok (.return_, 1) := by decide +kernel
theorem dJ5_inflate_da8c8_8 : decode cJ5_inflate_da8c8 8 = .ok (.aload_n 0, 1) := by decide +kernel
theorem dJ5_inflate_da8c8_9 : decode cJ5_inflate_da8c8 9 = .ok (.getfield 15, 3) := by decide +kernel
theorem dJ5_inflate_da8c8_12 : decode cJ5_inflate_da8c8 12 = .ok (.arraylength, 1) := by decide +kernel
theorem dJ5_inflate_da8c8_13 : decode cJ5_inflate_da8c8 13 = .ok (.invokestatic 26, 3) := by decide +kernel
theorem dJ5_inflate_da8c8_16 : decode cJ5_inflate_da8c8 16 = .ok (.astore_n 1, 1) := by decide +kernel
theorem dJ5_inflate_da8c8_17 : decode cJ5_inflate_da8c8 17 = .ok (.aload_n 0, 1) := by decide +kernel
theorem dJ5_inflate_da8c8_18 : decode cJ5_inflate_da8c8 18 = .ok (.getfield 15, 3) := by decide +kernel
theorem dJ5_inflate_da8c8_21 : decode cJ5_inflate_da8c8 21 = .ok (.iconst 0, 1) := by decide +kernel
theorem dJ5_inflate_da8c8_22 : decode cJ5_inflate_da8c8 22 = .ok (.aload_n 1, 1) := by decide +kernel
theorem dJ5_inflate_da8c8_23 : decode cJ5_inflate_da8c8 23 = .ok (.iconst 0, 1) := by decide +kernel
theorem dJ5_inflate_da8c8_24 : decode cJ5_inflate_da8c8 24 = .ok (.aload_n 0, 1) := by decide +kernel
theorem dJ5_inflate_da8c8_25 : decode cJ5_inflate_da8c8 25 = .ok (.getfield 79, 3) := by decide +kernel
theorem dJ5_inflate_da8c8_28 : decode cJ5_inflate_da8c8 28 = .ok (.invokestatic 125, 3) := by decide +kernel
theorem dJ5_inflate_da8c8_31 : decode cJ5_inflate_da8c8 31 = .ok (.aload_n 0, 1) := by decide +kernel
theorem dJ5_inflate_da8c8_32 : decode cJ5_inflate_da8c8 32 = .ok (.aload_n 1, 1) := by decide +kernel
theorem dJ5_inflate_da8c8_33 : decode cJ5_inflate_da8c8 33 = .ok (.putfield 15, 3) := by decide +kernel
theorem dJ5_inflate_da8c8_36 : decode cJ5_inflate_da8c8 36 = .ok (.aload_n 0, 1) := by decide +kernel
theorem dJ5_inflate_da8c8_37 : decode cJ5_inflate_da8c8 37 = .ok (.iconst 1, 1) := by decide +kernel
theorem dJ5_inflate_da8c8_38 : decode cJ5_inflate_da8c8 38 = .ok (.putfield 22, 3) := by decide +kernel
theorem dJ5_inflate_da8c8_41 : decode cJ5_inflate_da8c8 41 = .ok (.return_, 1) := by decide +kernel
set_option maxRecDepth 20000 in
theorem ggJ5_append_3fe6f_J5_ensureCapacityInternal_d00df : GoodIn wsJ5_append_3fe6f wsJ5_ensureCapacityInternal_d00df := goodIn_r _ [8, 2, 9, 10, 11, 12, 13, 7, 14, 15, 16, 17, 18, 19, 20, 21, 22, 23, 24, 25, 26, 27, 28, 29, 30, 31, 32, 33, 34, 35, 36, 37, 38, 39, 40, 41, 42, 43, 44, 45, 108, 109, 110, 111] (by decide +kernel) (by decide +kernel)
set_option maxRecDepth 20000 in
theorem gJ5_append_3fe6f_J5_ensureCapacityInternal_d00df_u100J4 : GoodIn wsJ5_append_3fe6f (va_wsU RJ5 100 RJ4 "java/lang/AbstractStringBuilder" ⟨"java/lang/AbstractStringBuilder", "ensureCapacityInternal", "(I)V"⟩ yJ5_ensureCapacityInternal_d00df wsJ5_ensureCapacityInternal_d00df) := goodIn_app (goodIn_of _ (by decide +kernel)) ggJ5_append_3fe6f_J5_ensureCapacityInternal_d00df
set_option maxRecDepth 20000 in
theorem ggJ5_append_3fe6f_J5_isLatin1_aae02 : GoodIn wsJ5_append_3fe6f wsJ5_isLatin1_aae02 := goodIn_r _ [50, 51, 9, 108, 109, 110, 111] (by decide +kernel) (by decide +kernel)
set_option maxRecDepth 20000 in
theorem gJ5_append_3fe6f_J5_isLatin1_aae02_u83J4 : GoodIn wsJ5_append_3fe6f (va_wsU RJ5 83 RJ4 "java/lang/AbstractStringBuilder" ⟨"java/lang/AbstractStringBuilder", "isLatin1", "()Z"⟩ yJ5_isLatin1_aae02 wsJ5_isLatin1_aae02) := goodIn_app (goodIn_of _ (by decide +kernel)) ggJ5_append_3fe6f_J5_isLatin1_aae02
set_option maxRecDepth 20000 in
theorem ggJ5_append_3fe6f_J1_canEncode_fc78d : GoodIn wsJ5_append_3fe6f wsJ1_canEncode_fc78d := goodIn_r _ [55] (by decide +kernel) (by decide +kernel)
set_option maxRecDepth 20000 in
theorem gJ5_append_3fe6f_J1_canEncode_fc78d : GoodIn wsJ5_append_3fe6f (va_wsS RJ5 191 yJ1_canEncode_fc78d wsJ1_canEncode_fc78d) := goodIn_app (goodIn_of _ (by decide +kernel)) ggJ5_append_3fe6f_J1_canEncode_fc78d
set_option maxRecDepth 20000 in
theorem ggJ5_append_3fe6f_J5_inflate_da8c8 : GoodIn wsJ5_append_3fe6f wsJ5_inflate_da8c8 := goodIn_r _ [60, 2, 1, 9, 46, 47, 48, 49, 7, 50, 51, 61, 62, 63, 64, 38, 65, 66, 67, 68, 69, 70, 54, 71, 72, 73, 74, 75, 76, 77, 78, 79, 80, 81, 82, 83, 84, 85, 86, 87, 88, 89, 90, 91, 92, 93, 94, 95, 108, 109, 110, 111] (by decide +kernel) (by decide +kernel)
set_option maxRecDepth 20000 in
theorem gJ5_append_3fe6f_J5_inflate_da8c8_u195J4 : GoodIn wsJ5_append_3fe6f (va_wsU RJ5 195 RJ4 "java/lang/AbstractStringBuilder" ⟨"java/lang/AbstractStringBuilder", "inflate", "()V"⟩ yJ5_inflate_da8c8 wsJ5_inflate_da8c8) := goodIn_app (goodIn_of _ (by decide +kernel)) ggJ5_append_3fe6f_J5_inflate_da8c8
set_option maxRecDepth 20000 in
theorem ggJ5_append_3fe6f_J2_putCharSB_b72d1 : GoodIn wsJ5_append_3fe6f wsJ2_putCharSB_b72d1 := goodIn_r _ [98, 99, 100, 63, 101, 78, 79, 80, 102, 103, 83, 104, 85, 105, 106, 88, 107, 90, 91, 92, 93, 94, 95] (by decide +kernel) (by decide +kernel)
set_option maxRecDepth 20000 in
theorem gJ5_append_3fe6f_J2_putCharSB_b72d1 : GoodIn wsJ5_append_3fe6f (va_wsS RJ5 197 yJ2_putCharSB_b72d1 wsJ2_putCharSB_b72d1) := goodIn_app (goodIn_of _ (by decide +kernel)) ggJ5_append_3fe6f_J2_putCharSB_b72d1
theorem dJ5_append_3fe6f_0 : decode cJ5_append_3fe6f 0 = .ok (.aload_n 0, 1) := by decide +kernel
theorem dJ5_append_3fe6f_1 : decode cJ5_append_3fe6f 1 = .ok (.aload_n 0, 1) := by decide +kernel
theorem dJ5_append_3fe6f_2 : decode cJ5_append_3fe6f 2 = .ok (.getfield 79, 3) := by decide +kernel
theorem dJ5_append_3fe6f_5 : decode cJ5_append_3fe6f 5 = .ok (.iconst 1, 1) := by decide +kernel
theorem dJ5_append_3fe6f_6 : decode cJ5_append_3fe6f 6 = .ok (.iadd, 1) := by decide +kernel
theorem dJ5_append_3fe6f_7 : decode cJ5_append_3fe6f 7 = .ok (.invokevirtual 100, 3) := by decide +kernel
theorem dJ5_append_3fe6f_10 : decode cJ5_append_3fe6f 10 = .ok (.aload_n 0, 1) := by decide +kernel
theorem dJ5_append_3fe6f_11 : decode cJ5_append_3fe6f 11 = .ok (.invokevirtual 83, 3) := by decide +kernel
theorem dJ5_append_3fe6f_14 : decode cJ5_append_3fe6f 14 = .ok (.ifCond .eq 31, 3) := by decide +kernel
theorem dJ5_append_3fe6f_17 : decode cJ5_append_3fe6f 17 = .ok (.iload_n 1, 1) := by decide +kernel
theorem dJ5_append_3fe6f_18 : decode cJ5_append_3fe6f 18 = .ok (.invokestatic 191, 3) := by decide +kernel
theorem dJ5_append_3fe6f_21 : decode cJ5_append_3fe6f 21 = .ok (.ifCond .eq 24, 3) := by decide +kernel
theorem dJ5_append_3fe6f_24 : decode cJ5_append_3fe6f 24 = .ok (.aload_n 0, 1) := by decide +kernel
theorem dJ5_append_3fe6f_25 : decode cJ5_append_3fe6f 25 = .ok (.getfield 15, 3) := by decide +kernel
theorem dJ5_append_3fe6f_28 : decode cJ5_append_3fe6f 28 = .ok (.aload_n 0, 1) := by decide +kernel
theorem dJ5_append_3fe6f_29 : decode cJ5_append_3fe6f 29 = .ok (.dup, 1) := by decide +kernel
theorem dJ5_append_3fe6f_30 : decode cJ5_append_3fe6f 30 = .ok (.getfield 79, 3) := by decide +kernel
theorem dJ5_append_3fe6f_33 : decode cJ5_append_3fe6f 33 = .ok (.dup_x1, 1) := by decide +kernel
theorem dJ5_append_3fe6f_34 : decode cJ5_append_3fe6f 34 = .ok (.iconst 1, 1) := by decide +kernel
theorem dJ5_append_3fe6f_35 : decode cJ5_append_3fe6f 35 = .ok (.iadd, 1) := by decide +kernel
theorem dJ5_append_3fe6f_36 : decode cJ5_append_3fe6f 36 = .ok (.putfield 79, 3) := by decide +kernel
theorem dJ5_append_3fe6f_39 : decode cJ5_append_3fe6f 39 = .ok (.iload_n 1, 1) := by decide +kernel
theorem dJ5_append_3fe6f_40 : decode cJ5_append_3fe6f 40 = .ok (.i2b, 1) := by decide +kernel
theorem dJ5_append_3fe6f_41 : decode cJ5_append_3fe6f 41 = .ok (.bastore, 1) := by decide +kernel
theorem dJ5_append_3fe6f_42 : decode cJ5_append_3fe6f 42 = .ok (.goto 33, 3) := by decide +kernel
theorem dJ5_append_3fe6f_45 : decode cJ5_append_3fe6f 45 = .ok (.aload_n 0, 1) := by decide +kernel
theorem dJ5_append_3fe6f_46 : decode cJ5_append_3fe6f 46 = .ok (.invokevirtual 83, 3) := by decide +kernel
theorem dJ5_append_3fe6f_49 : decode cJ5_append_3fe6f 49 = .ok (.ifCond .eq 7, 3) := by decide +kernel
theorem dJ5_append_3fe6f_52 : decode cJ5_append_3fe6f 52 = .ok (.aload_n 0, 1) := by decide +kernel
theorem dJ5_append_3fe6f_53 : decode cJ5_append_3fe6f 53 = .ok (.invokevirtual 195, 3) := by decide +kernel
theorem dJ5_append_3fe6f_56 : decode cJ5_append_3fe6f 56 = .ok (.aload_n 0, 1) := by decide +kernel
theorem dJ5_append_3fe6f_57 : decode cJ5_append_3fe6f 57 = .ok (.getfield 15, 3) := by decide +kernel
theorem dJ5_append_3fe6f_60 : decode cJ5_append_3fe6f 60 = .ok (.aload_n 0, 1) := by decide +kernel
theorem dJ5_append_3fe6f_61 : decode cJ5_append_3fe6f 61 = .ok (.dup, 1) := by decide +kernel
theorem dJ5_append_3fe6f_62 : decode cJ5_append_3fe6f 62 = .ok (.getfield 79, 3) := by decide +kernel
theorem dJ5_append_3fe6f_65 : decode cJ5_append_3fe6f 65 = .ok (.dup_x1, 1) := by decide +kernel
theorem dJ5_append_3fe6f_66 : decode cJ5_append_3fe6f 66 = .ok (.iconst 1, 1) := by decide +kernel
theorem dJ5_append_3fe6f_67 : decode cJ5_append_3fe6f 67 = .ok (.iadd, 1) := by decide +kernel
theorem dJ5_append_3fe6f_68 : decode cJ5_append_3fe6f 68 = .ok (.putfield 79, 3) := by decide +kernel
theorem dJ5_append_3fe6f_71 : decode cJ5_append_3fe6f 71 = .ok (.iload_n 1, 1) := by decide +kernel
theorem dJ5_append_3fe6f_72 : decode cJ5_append_3fe6f 72 = .ok (.invokestatic 197, 3) := by decide +kernel
theorem dJ5_append_3fe6f_75 : decode cJ5_append_3fe6f 75 = .ok (.aload_n 0, 1) := by decide +kernel
theorem dJ5_append_3fe6f_76 : decode cJ5_append_3fe6f 76 = .ok (.areturn, 1) := by decide +kernel
set_option maxRecDepth 20000 in
theorem ggJ5_append_c97b9_J6_stringSize_0f7a4 : GoodIn wsJ5_append_c97b9 wsJ6_stringSize_0f7a4 := goodIn_r _ [6] (by decide +kernel) (by decide +kernel)
set_option maxRecDepth 20000 in
theorem gJ5_append_c97b9_J6_stringSize_0f7a4 : GoodIn wsJ5_append_c97b9 (va_wsS RJ5 245 yJ6_stringSize_0f7a4 wsJ6_stringSize_0f7a4) := goodIn_app (goodIn_of _ (by decide +kernel)) ggJ5_append_c97b9_J6_stringSize_0f7a4
set_option maxRecDepth 20000 in
theorem ggJ5_append_c97b9_J5_ensureCapacityInternal_d00df : GoodIn wsJ5_append_c97b9 wsJ5_ensureCapacityInternal_d00df := goodIn_r _ [12, 2, 13, 14, 15, 16, 17, 11, 18, 19, 20, 21, 22, 23, 24, 25, 26, 27, 28, 29, 30, 31, 32, 33, 34, 35, 36, 37, 38, 39, 40, 41, 42, 43, 44, 45, 46, 47, 48, 49, 91, 92, 93, 94] (by decide +kernel) (by decide +kernel)
set_option maxRecDepth 20000 in
theorem gJ5_append_c97b9_J5_ensureCapacityInternal_d00df_u100J4 : GoodIn wsJ5_append_c97b9 (va_wsU RJ5 100 RJ4 "java/lang/AbstractStringBuilder" ⟨"java/lang/AbstractStringBuilder", "ensureCapacityInternal", "(I)V"⟩ yJ5_ensureCapacityInternal_d00df wsJ5_ensureCapacityInternal_d00df) := goodIn_app (goodIn_of _ (by decide +kernel)) ggJ5_append_c97b9_J5_ensureCapacityInternal_d00df
set_option maxRecDepth 20000 in
theorem ggJ5_append_c97b9_J5_isLatin1_aae02 : GoodIn wsJ5_append_c97b9 wsJ5_isLatin1_aae02 := goodIn_r _ [54, 55, 13, 91, 92, 93, 94] (by decide +kernel) (by decide +kernel)
set_option maxRecDepth 20000 in
theorem gJ5_append_c97b9_J5_isLatin1_aae02_u83J4 : GoodIn wsJ5_append_c97b9 (va_wsU RJ5 83 RJ4 "java/lang/AbstractStringBuilder" ⟨"java/lang/AbstractStringBuilder", "isLatin1", "()Z"⟩ yJ5_isLatin1_aae02 wsJ5_isLatin1_aae02) := goodIn_app (goodIn_of _ (by decide +kernel)) ggJ5_append_c97b9_J5_isLatin1_aae02
set_option maxRecDepth 20000 in
theorem ggJ5_append_c97b9_J6_getChars_ba4f3 : GoodIn wsJ5_append_c97b9 wsJ6_getChars_ba4f3 := goodIn_r _ [58, 59, 60] (by decide +kernel) (by decide +kernel)
set_option maxRecDepth 20000 in
theorem gJ5_append_c97b9_J6_getChars_ba4f3 : GoodIn wsJ5_append_c97b9 (va_wsS RJ5 248 yJ6_getChars_ba4f3 wsJ6_getChars_ba4f3) := goodIn_app (goodIn_of _ (by decide +kernel)) ggJ5_append_c97b9_J6_getChars_ba4f3
set_option maxRecDepth 20000 in
theorem ggJ5_append_c97b9_J2_getChars_46870 : GoodIn wsJ5_append_c97b9 wsJ2_getChars_46870 := goodIn_r _ [64, 65, 66, 67, 63, 68, 69, 70, 71, 72, 73, 74, 75, 76, 77, 78, 79, 80, 81, 82, 83, 84, 85, 86, 87, 88, 89, 90] (by decide +kernel) (by decide +kernel)
set_option maxRecDepth 20000 in
theorem gJ5_append_c97b9_J2_getChars_46870 : GoodIn wsJ5_append_c97b9 (va_wsS RJ5 251 yJ2_getChars_46870 wsJ2_getChars_46870) := goodIn_app (goodIn_of _ (by decide +kernel)) ggJ5_append_c97b9_J2_getChars_46870
theorem dJ5_append_c97b9_0 : decode cJ5_append_c97b9 0 = .ok (.aload_n 0, 1) := by decide +kernel
theorem dJ5_append_c97b9_1 : decode cJ5_append_c97b9 1 = .ok (.getfield 79, 3) := by decide +kernel
theorem dJ5_append_c97b9_4 : decode cJ5_append_c97b9 4 = .ok (.istore_n 2, 1) := by decide +kernel
theorem dJ5_append_c97b9_5 : decode cJ5_append_c97b9 5 = .ok (.iload_n 2, 1) := by decide +kernel
theorem dJ5_append_c97b9_6 : decode cJ5_append_c97b9 6 = .ok (.iload_n 1, 1) := by decide +kernel
theorem dJ5_append_c97b9_7 : decode cJ5_append_c97b9 7 = .ok (.invokestatic 245, 3) := by decide +kernel
theorem dJ5_append_c97b9_10 : decode cJ5_append_c97b9 10 = .ok (.iadd, 1) := by decide +kernel
theorem dJ5_append_c97b9_11 : decode cJ5_append_c97b9 11 = .ok (.istore_n 3, 1) := by decide +kernel
theorem dJ5_append_c97b9_12 : decode cJ5_append_c97b9 12 = .ok (.aload_n 0, 1) := by decide +kernel
theorem dJ5_append_c97b9_13 : decode cJ5_append_c97b9 13 = .ok (.iload_n 3, 1) := by decide +kernel
theorem dJ5_append_c97b9_14 : decode cJ5_append_c97b9 14 = .ok (.invokevirtual 100, 3) := by decide +kernel
theorem dJ5_append_c97b9_17 : decode cJ5_append_c97b9 17 = .ok (.aload_n 0, 1) := by decide +kernel
theorem dJ5_append_c97b9_18 : decode cJ5_append_c97b9 18 = .ok (.invokevirtual 83, 3) := by decide +kernel
theorem dJ5_append_c97b9_21 : decode cJ5_append_c97b9 21 = .ok (.ifCond .eq 16, 3) := by decide +kernel
theorem dJ5_append_c97b9_24 : decode cJ5_append_c97b9 24 = .ok (.iload_n 1, 1) := by decide +kernel
theorem dJ5_append_c97b9_25 : decode cJ5_append_c97b9 25 = .ok (.iload_n 3, 1) := by decide +kernel
theorem dJ5_append_c97b9_26 : decode cJ5_append_c97b9 26 = .ok (.aload_n 0, 1) := by decide +kernel
theorem dJ5_append_c97b9_27 : decode cJ5_append_c97b9 27 = .ok (.getfield 15, 3) := by decide +kernel
theorem dJ5_append_c97b9_30 : decode cJ5_append_c97b9 30 = .ok (.invokestatic 248, 3) := by decide +kernel
theorem dJ5_append_c97b9_33 : decode cJ5_append_c97b9 33 = .ok (.pop, 1) := by decide +kernel
theorem dJ5_append_c97b9_34 : decode cJ5_append_c97b9 34 = .ok (.goto 14, 3) := by decide +kernel
theorem dJ5_append_c97b9_37 : decode cJ5_append_c97b9 37 = .ok (.iload_n 1, 1) := by decide +kernel
theorem dJ5_append_c97b9_38 : decode cJ5_append_c97b9 38 = .ok (.iload_n 2, 1) := by decide +kernel
theorem dJ5_append_c97b9_39 : decode cJ5_append_c97b9 39 = .ok (.iload_n 3, 1) := by decide +kernel
theorem dJ5_append_c97b9_40 : decode cJ5_append_c97b9 40 = .ok (.aload_n 0, 1) := by decide +kernel
theorem dJ5_append_c97b9_41 : decode cJ5_append_c97b9 41 = .ok (.getfield 15, 3) := by decide +kernel
theorem dJ5_append_c97b9_44 : decode cJ5_append_c97b9 44 = .ok (.invokestatic 251, 3) := by decide +kernel
theorem dJ5_append_c97b9_47 : decode cJ5_append_c97b9 47 = .ok (.pop, 1) := by decide +kernel
theorem dJ5_append_c97b9_48 : decode cJ5_append_c97b9 48 = .ok (.aload_n 0, 1) := by decide +kernel
theorem dJ5_append_c97b9_49 : decode cJ5_append_c97b9 49 = .ok (.iload_n 3, 1) := by decide +kernel
theorem dJ5_append_c97b9_50 : decode cJ5_append_c97b9 50 = .ok (.putfield 79, 3) := by decide +kernel
theorem dJ5_append_c97b9_53 : decode cJ5_append_c97b9 53 = .ok (.aload_n 0, 1) := by decide +kernel
theorem dJ5_append_c97b9_54 : decode cJ5_append_c97b9 54 = .ok (.areturn, 1) := by decide +kernel
theorem dJ5_getValue_6d5f1_0 : decode cJ5_getValue_6d5f1 0 = .ok (.aload_n 0, 1) := by decide +kernel
theorem dJ5_getValue_6d5f1_1 : decode cJ5_getValue_6d5f1 1 = .ok (.getfield 15, 3) := by decide +kernel
theorem dJ5_getValue_6d5f1_4 : decode cJ5_getValue_6d5f1 4 = .ok (.areturn, 1) := by decide +kernel
theorem dJ5_isLatin1_aae02_0 : decode cJ5_isLatin1_aae02 0 = .ok (.getstatic 18, 3) := by decide +kernel
theorem dJ5_isLatin1_aae02_3 : decode cJ5_isLatin1_aae02 3 = .ok (.ifCond .eq 14, 3) := by decide +kernel
theorem dJ5_isLatin1_aae02_6 : decode cJ5_isLatin1_aae02 6 = .ok (.aload_n 0, 1) := by decide +kernel
theorem dJ5_isLatin1_aae02_7 : decode cJ5_isLatin1_aae02 7 = .ok (.getfield 22, 3) := by decide +kernel
theorem dJ5_isLatin1_aae02_10 : decode cJ5_isLatin1_aae02 10 = .ok (.ifCond .ne 7, 3) := by decide +kernel
theorem dJ5_isLatin1_aae02_13 : decode cJ5_isLatin1_aae02 13 = .ok (.iconst 1, 1) := by decide +kernel
theorem dJ5_isLatin1_aae02_14 : decode cJ5_isLatin1_aae02 14 = .ok (.goto 4, 3) := by decide +kernel
theorem dJ5_isLatin1_aae02_17 : decode cJ5_isLatin1_aae02 17 = .ok (.iconst 0, 1) := by decide +kernel
theorem dJ5_isLatin1_aae02_18 : decode cJ5_isLatin1_aae02 18 = .ok (.ireturn, 1) := by decide +kernel
theorem dJ6_getChars_ba4f3_0 : decode cJ6_getChars_ba4f3 0 = .ok (.iload_n 1, 1) := by decide +kernel
theorem dJ6_getChars_ba4f3_1 : decode cJ6_getChars_ba4f3 1 = .ok (.istore 5, 2) := by decide +kernel
theorem dJ6_getChars_ba4f3_3 : decode cJ6_getChars_ba4f3 3 = .ok (.iload_n 0, 1) := by decide +kernel
theorem dJ6_getChars_ba4f3_4 : decode cJ6_getChars_ba4f3 4 = .ok (.ifCond .ge 7, 3) := by decide +kernel
theorem dJ6_getChars_ba4f3_7 : decode cJ6_getChars_ba4f3 7 = .ok (.iconst 1, 1) := by decide +kernel
theorem dJ6_getChars_ba4f3_8 : decode cJ6_getChars_ba4f3 8 = .ok (.goto 4, 3) := by decide +kernel
theorem dJ6_getChars_ba4f3_11 : decode cJ6_getChars_ba4f3 11 = .ok (.iconst 0, 1) := by decide +kernel
theorem dJ6_getChars_ba4f3_12 : decode cJ6_getChars_ba4f3 12 = .ok (.istore 6, 2) := by decide +kernel
theorem dJ6_getChars_ba4f3_14 : decode cJ6_getChars_ba4f3 14 = .ok (.iload 6, 2) := by decide +kernel
theorem dJ6_getChars_ba4f3_16 : decode cJ6_getChars_ba4f3 16 = .ok (.ifCond .ne 6, 3) := by decide +kernel
theorem dJ6_getChars_ba4f3_19 : decode cJ6_getChars_ba4f3 19 = .ok (.iload_n 0, 1) := by decide +kernel
theorem dJ6_getChars_ba4f3_20 : decode cJ6_getChars_ba4f3 20 = .ok (.ineg, 1) := by decide +kernel
theorem dJ6_getChars_ba4f3_21 : decode cJ6_getChars_ba4f3 21 = .ok (.istore_n 0, 1) := by decide +kernel
theorem dJ6_getChars_ba4f3_22 : decode cJ6_getChars_ba4f3 22 = .ok (.iload_n 0, 1) := by decide +kernel
theorem dJ6_getChars_ba4f3_23 : decode cJ6_getChars_ba4f3 23 = .ok (.bipush (-100), 2) := by decide +kernel
theorem dJ6_getChars_ba4f3_25 : decode cJ6_getChars_ba4f3 25 = .ok (.if_icmp .gt 47, 3) := by decide +kernel
theorem dJ6_getChars_ba4f3_28 : decode cJ6_getChars_ba4f3 28 = .ok (.iload_n 0, 1) := by decide +kernel
theorem dJ6_getChars_ba4f3_29 : decode cJ6_getChars_ba4f3 29 = .ok (.bipush 100, 2) := by decide +kernel
theorem dJ6_getChars_ba4f3_31 : decode cJ6_getChars_ba4f3 31 = .ok (.idiv, 1) := by decide +kernel
theorem dJ6_getChars_ba4f3_32 : decode cJ6_getChars_ba4f3 32 = .ok (.istore_n 3, 1) := by decide +kernel
theorem dJ6_getChars_ba4f3_33 : decode cJ6_getChars_ba4f3 33 = .ok (.iload_n 3, 1) := by decide +kernel
theorem dJ6_getChars_ba4f3_34 : decode cJ6_getChars_ba4f3 34 = .ok (.bipush 100, 2) := by decide +kernel
theorem dJ6_getChars_ba4f3_36 : decode cJ6_getChars_ba4f3 36 = .ok (.imul, 1) := by decide +kernel
theorem dJ6_getChars_ba4f3_37 : decode cJ6_getChars_ba4f3 37 = .ok (.iload_n 0, 1) := by decide +kernel
theorem dJ6_getChars_ba4f3_38 : decode cJ6_getChars_ba4f3 38 = .ok (.isub, 1) := by decide +kernel
theorem dJ6_getChars_ba4f3_39 : decode cJ6_getChars_ba4f3 39 = .ok (.istore 4, 2) := by decide +kernel
theorem dJ6_getChars_ba4f3_41 : decode cJ6_getChars_ba4f3 41 = .ok (.iload_n 3, 1) := by decide +kernel
theorem dJ6_getChars_ba4f3_42 : decode cJ6_getChars_ba4f3 42 = .ok (.istore_n 0, 1) := by decide +kernel
theorem dJ6_getChars_ba4f3_43 : decode cJ6_getChars_ba4f3 43 = .ok (.aload_n 2, 1) := by decide +kernel
theorem dJ6_getChars_ba4f3_44 : decode cJ6_getChars_ba4f3 44 = .ok (.iinc 5 (-1), 3) := by decide +kernel
theorem dJ6_getChars_ba4f3_47 : decode cJ6_getChars_ba4f3 47 = .ok (.iload 5, 2) := by decide +kernel
theorem dJ6_getChars_ba4f3_49 : decode cJ6_getChars_ba4f3 49 = .ok (.getstatic 83, 3) := by decide +kernel
theorem dJ6_getChars_ba4f3_52 : decode cJ6_getChars_ba4f3 52 = .ok (.iload 4, 2) := by decide +kernel
theorem dJ6_getChars_ba4f3_54 : decode cJ6_getChars_ba4f3 54 = .ok (.baload, 1) := by decide +kernel
theorem dJ6_getChars_ba4f3_55 : decode cJ6_getChars_ba4f3 55 = .ok (.bastore, 1) := by decide +kernel
theorem dJ6_getChars_ba4f3_56 : decode cJ6_getChars_ba4f3 56 = .ok (.aload_n 2, 1) := by decide +kernel
theorem dJ6_getChars_ba4f3_57 : decode cJ6_getChars_ba4f3 57 = .ok (.iinc 5 (-1), 3) := by decide +kernel
theorem dJ6_getChars_ba4f3_60 : decode cJ6_getChars_ba4f3 60 = .ok (.iload 5, 2) := by decide +kernel
theorem dJ6_getChars_ba4f3_62 : decode cJ6_getChars_ba4f3 62 = .ok (.getstatic 87, 3) := by decide +kernel
theorem dJ6_getChars_ba4f3_65 : decode cJ6_getChars_ba4f3 65 = .ok (.iload 4, 2) := by decide +kernel
theorem dJ6_getChars_ba4f3_67 : decode cJ6_getChars_ba4f3 67 = .ok (.baload, 1) := by decide +kernel
theorem dJ6_getChars_ba4f3_68 : decode cJ6_getChars_ba4f3 68 = .ok (.bastore, 1) := by decide +kernel
theorem dJ6_getChars_ba4f3_69 : decode cJ6_getChars_ba4f3 69 = .ok (.goto (-47), 3) := by decide +kernel
theorem dJ6_getChars_ba4f3_72 : decode cJ6_getChars_ba4f3 72 = .ok (.aload_n 2, 1) := by decide +kernel
theorem dJ6_getChars_ba4f3_73 : decode cJ6_getChars_ba4f3 73 = .ok (.iinc 5 (-1), 3) := by decide +kernel
theorem dJ6_getChars_ba4f3_76 : decode cJ6_getChars_ba4f3 76 = .ok (.iload 5, 2) := by decide +kernel
theorem dJ6_getChars_ba4f3_78 : decode cJ6_getChars_ba4f3 78 = .ok (.getstatic 83, 3) := by decide +kernel
theorem dJ6_getChars_ba4f3_81 : decode cJ6_getChars_ba4f3 81 = .ok (.iload_n 0, 1) := by decide +kernel
theorem dJ6_getChars_ba4f3_82 : decode cJ6_getChars_ba4f3 82 = .ok (.ineg, 1) := by decide +kernel
theorem dJ6_getChars_ba4f3_83 : decode cJ6_getChars_ba4f3 83 = .ok (.baload, 1) := by decide +kernel
theorem dJ6_getChars_ba4f3_84 : decode cJ6_getChars_ba4f3 84 = .ok (.bastore, 1) := by decide +kernel
theorem dJ6_getChars_ba4f3_85 : decode cJ6_getChars_ba4f3 85 = .ok (.iload_n 0, 1) := by decide +kernel
theorem dJ6_getChars_ba4f3_86 : decode cJ6_getChars_ba4f3 86 = .ok (.bipush (-9), 2) := by decide +kernel
theorem dJ6_getChars_ba4f3_88 : decode cJ6_getChars_ba4f3 88 = .ok (.if_icmp .ge 16, 3) := by decide +kernel
theorem dJ6_getChars_ba4f3_91 : decode cJ6_getChars_ba4f3 91 = .ok (.aload_n 2, 1) := by decide +kernel
theorem dJ6_getChars_ba4f3_92 : decode cJ6_getChars_ba4f3 92 = .ok (.iinc 5 (-1), 3) := by decide +kernel
theorem dJ6_getChars_ba4f3_95 : decode cJ6_getChars_ba4f3 95 = .ok (.iload 5, 2) := by decide +kernel
theorem dJ6_getChars_ba4f3_97 : decode cJ6_getChars_ba4f3 97 = .ok (.getstatic 87, 3) := by decide +kernel
theorem dJ6_getChars_ba4f3_100 : decode cJ6_getChars_ba4f3 100 = .ok (.iload_n 0, 1) := by decide +kernel
theorem dJ6_getChars_ba4f3_101 : decode cJ6_getChars_ba4f3 101 = .ok (.ineg, 1) := by decide +kernel
theorem dJ6_getChars_ba4f3_102 : decode cJ6_getChars_ba4f3 102 = .ok (.baload, 1) := by decide +kernel
theorem dJ6_getChars_ba4f3_103 : decode cJ6_getChars_ba4f3 103 = .ok (.bastore, 1) := by decide +kernel
theorem dJ6_getChars_ba4f3_104 : decode cJ6_getChars_ba4f3 104 = .ok (.iload 6, 2) := by decide +kernel
theorem dJ6_getChars_ba4f3_106 : decode cJ6_getChars_ba4f3 106 = .ok (.ifCond .eq 12, 3) := by decide +kernel
theorem dJ6_getChars_ba4f3_109 : decode cJ6_getChars_ba4f3 109 = .ok (.aload_n 2, 1) := by decide +kernel
theorem dJ6_getChars_ba4f3_110 : decode cJ6_getChars_ba4f3 110 = .ok (.iinc 5 (-1), 3) := by decide +kernel
theorem dJ6_getChars_ba4f3_113 : decode cJ6_getChars_ba4f3 113 = .ok (.iload 5, 2) := by decide +kernel
theorem dJ6_getChars_ba4f3_115 : decode cJ6_getChars_ba4f3 115 = .ok (.bipush 45, 2) := by decide +kernel
theorem dJ6_getChars_ba4f3_117 : decode cJ6_getChars_ba4f3 117 = .ok (.bastore, 1) := by decide +kernel
theorem dJ6_getChars_ba4f3_118 : decode cJ6_getChars_ba4f3 118 = .ok (.iload 5, 2) := by decide +kernel
theorem dJ6_getChars_ba4f3_120 : decode cJ6_getChars_ba4f3 120 = .ok (.ireturn, 1) := by decide +kernel
theorem dJ6_stringSize_0f7a4_0 : decode cJ6_stringSize_0f7a4 0 = .ok (.iconst 1, 1) := by decide +kernel
theorem dJ6_stringSize_0f7a4_1 : decode cJ6_stringSize_0f7a4 1 = .ok (.istore_n 1, 1) := by decide +kernel
theorem dJ6_stringSize_0f7a4_2 : decode cJ6_stringSize_0f7a4 2 = .ok (.iload_n 0, 1) := by decide +kernel
theorem dJ6_stringSize_0f7a4_3 : decode cJ6_stringSize_0f7a4 3 = .ok (.ifCond .lt 8, 3) := by decide +kernel
theorem dJ6_stringSize_0f7a4_6 : decode cJ6_stringSize_0f7a4 6 = .ok (.iconst 0, 1) := by decide +kernel
theorem dJ6_stringSize_0f7a4_7 : decode cJ6_stringSize_0f7a4 7 = .ok (.istore_n 1, 1) := by decide +kernel
theorem dJ6_stringSize_0f7a4_8 : decode cJ6_stringSize_0f7a4 8 = .ok (.iload_n 0, 1) := by decide +kernel
theorem dJ6_stringSize_0f7a4_9 : decode cJ6_stringSize_0f7a4 9 = .ok (.ineg, 1) := by decide +kernel
theorem dJ6_stringSize_0f7a4_10 : decode cJ6_stringSize_0f7a4 10 = .ok (.istore_n 0, 1) := by decide +kernel
theorem dJ6_stringSize_0f7a4_11 : decode cJ6_stringSize_0f7a4 11 = .ok (.bipush (-10), 2) := by decide +kernel
theorem dJ6_stringSize_0f7a4_13 : decode cJ6_stringSize_0f7a4 13 = .ok (.istore_n 2, 1) := by decide +kernel
theorem dJ6_stringSize_0f7a4_14 : decode cJ6_stringSize_0f7a4 14 = .ok (.iconst 1, 1) := by decide +kernel
theorem dJ6_stringSize_0f7a4_15 : decode cJ6_stringSize_0f7a4 15 = .ok (.istore_n 3, 1) := by decide +kernel
theorem dJ6_stringSize_0f7a4_16 : decode cJ6_stringSize_0f7a4 16 = .ok (.iload_n 3, 1) := by decide +kernel
theorem dJ6_stringSize_0f7a4_17 : decode cJ6_stringSize_0f7a4 17 = .ok (.bipush 10, 2) := by decide +kernel
theorem dJ6_stringSize_0f7a4_19 : decode cJ6_stringSize_0f7a4 19 = .ok (.if_icmp .ge 23, 3) := by decide +kernel
theorem dJ6_stringSize_0f7a4_22 : decode cJ6_stringSize_0f7a4 22 = .ok (.iload_n 0, 1) := by decide +kernel
theorem dJ6_stringSize_0f7a4_23 : decode cJ6_stringSize_0f7a4 23 = .ok (.iload_n 2, 1) := by decide +kernel
theorem dJ6_stringSize_0f7a4_24 : decode cJ6_stringSize_0f7a4 24 = .ok (.if_icmp .le 7, 3) := by decide +kernel
theorem dJ6_stringSize_0f7a4_27 : decode cJ6_stringSize_0f7a4 27 = .ok (.iload_n 3, 1) := by decide +kernel
theorem dJ6_stringSize_0f7a4_28 : decode cJ6_stringSize_0f7a4 28 = .ok (.iload_n 1, 1) := by decide +kernel
theorem dJ6_stringSize_0f7a4_29 : decode cJ6_stringSize_0f7a4 29 = .ok (.iadd, 1) := by decide +kernel
theorem dJ6_stringSize_0f7a4_30 : decode cJ6_stringSize_0f7a4 30 = .ok (.ireturn, 1) := by decide +kernel
theorem dJ6_stringSize_0f7a4_31 : decode cJ6_stringSize_0f7a4 31 = .ok (.bipush 10, 2) := by decide +kernel
theorem dJ6_stringSize_0f7a4_33 : decode cJ6_stringSize_0f7a4 33 = .ok (.iload_n 2, 1) := by decide +kernel
theorem dJ6_stringSize_0f7a4_34 : decode cJ6_stringSize_0f7a4 34 = .ok (.imul, 1) := by decide +kernel
theorem dJ6_stringSize_0f7a4_35 : decode cJ6_stringSize_0f7a4 35 = .ok (.istore_n 2, 1) := by decide +kernel
theorem dJ6_stringSize_0f7a4_36 : decode cJ6_stringSize_0f7a4 36 = .ok (.iinc 3 1, 3) := by decide +kernel
theorem dJ6_stringSize_0f7a4_39 : decode cJ6_stringSize_0f7a4 39 = .ok (.goto (-23), 3) := by decide +kernel
theorem dJ6_stringSize_0f7a4_42 : decode cJ6_stringSize_0f7a4 42 = .ok (.bipush 10, 2) := by decide +kernel
theorem dJ6_stringSize_0f7a4_44 : decode cJ6_stringSize_0f7a4 44 = .ok (.iload_n 1, 1) := by decide +kernel
theorem dJ6_stringSize_0f7a4_45 : decode cJ6_stringSize_0f7a4 45 = .ok (.iadd, 1) := by decide +kernel
theorem dJ6_stringSize_0f7a4_46 : decode cJ6_stringSize_0f7a4 46 = .ok (.ireturn, 1) := by decide +kernel
theorem dJ6_bitCount_0f7a4_0 : decode cJ6_bitCount_0f7a4 0 = .ok (.iload_n 0, 1) := by decide +kernel
theorem dJ6_bitCount_0f7a4_1 : decode cJ6_bitCount_0f7a4 1 = .ok (.iload_n 0, 1) := by decide +kernel
theorem dJ6_bitCount_0f7a4_2 : decode cJ6_bitCount_0f7a4 2 = .ok (.iconst 1, 1) := by decide +kernel
theorem dJ6_bitCount_0f7a4_3 : decode cJ6_bitCount_0f7a4 3 = .ok (.iushr, 1) := by decide +kernel
theorem dJ6_bitCount_0f7a4_4 : decode cJ6_bitCount_0f7a4 4 = .ok (.ldc_w 265, 3) := by decide +kernel
theorem dJ6_bitCount_0f7a4_7 : decode cJ6_bitCount_0f7a4 7 = .ok (.iand, 1) := by decide +kernel
theorem dJ6_bitCount_0f7a4_8 : decode cJ6_bitCount_0f7a4 8 = .ok (.isub, 1) := by decide +kernel
theorem dJ6_bitCount_0f7a4_9 : decode cJ6_bitCount_0f7a4 9 = .ok (.istore_n 0, 1) := by decide +kernel
theorem dJ6_bitCount_0f7a4_10 : decode cJ6_bitCount_0f7a4 10 = .ok (.iload_n 0, 1) := by decide +kernel
theorem dJ6_bitCount_0f7a4_11 : decode cJ6_bitCount_0f7a4 11 = .ok (.ldc_w 266, 3) := by decide +kernel
theorem dJ6_bitCount_0f7a4_14 : decode cJ6_bitCount_0f7a4 14 = .ok (.iand, 1) := by decide +kernel
theorem dJ6_bitCount_0f7a4_15 : decode cJ6_bitCount_0f7a4 15 = .ok (.iload_n 0, 1) := by decide +kernel
theorem dJ6_bitCount_0f7a4_16 : decode cJ6_bitCount_0f7a4 16 = .ok (.iconst 2, 1) := by decide +kernel
theorem dJ6_bitCount_0f7a4_17 : decode cJ6_bitCount_0f7a4 17 = .ok (.iushr, 1) := by decide +kernel
theorem dJ6_bitCount_0f7a4_18 : decode cJ6_bitCount_0f7a4 18 = .ok (.ldc_w 266, 3) := by decide +kernel
theorem dJ6_bitCount_0f7a4_21 : decode cJ6_bitCount_0f7a4 21 = .ok (.iand, 1) := by decide +kernel
theorem dJ6_bitCount_0f7a4_22 : decode cJ6_bitCount_0f7a4 22 = .ok (.iadd, 1) := by decide +kernel
theorem dJ6_bitCount_0f7a4_23 : decode cJ6_bitCount_0f7a4 23 = .ok (.istore_n 0, 1) := by decide +kernel
theorem dJ6_bitCount_0f7a4_24 : decode cJ6_bitCount_0f7a4 24 = .ok (.iload_n 0, 1) := by decide +kernel
theorem dJ6_bitCount_0f7a4_25 : decode cJ6_bitCount_0f7a4 25 = .ok (.iload_n 0, 1) := by decide +kernel
theorem dJ6_bitCount_0f7a4_26 : decode cJ6_bitCount_0f7a4 26 = .ok (.iconst 4, 1) := by decide +kernel
theorem dJ6_bitCount_0f7a4_27 : decode cJ6_bitCount_0f7a4 27 = .ok (.iushr, 1) := by decide +kernel
theorem dJ6_bitCount_0f7a4_28 : decode cJ6_bitCount_0f7a4 28 = .ok (.iadd, 1) := by decide +kernel
theorem dJ6_bitCount_0f7a4_29 : decode cJ6_bitCount_0f7a4 29 = .ok (.ldc_w 267, 3) := by decide +kernel
theorem dJ6_bitCount_0f7a4_32 : decode cJ6_bitCount_0f7a4 32 = .ok (.iand, 1) := by decide +kernel
theorem dJ6_bitCount_0f7a4_33 : decode cJ6_bitCount_0f7a4 33 = .ok (.istore_n 0, 1) := by decide +kernel
theorem dJ6_bitCount_0f7a4_34 : decode cJ6_bitCount_0f7a4 34 = .ok (.iload_n 0, 1) := by decide +kernel
theorem dJ6_bitCount_0f7a4_35 : decode cJ6_bitCount_0f7a4 35 = .ok (.iload_n 0, 1) := by decide +kernel
theorem dJ6_bitCount_0f7a4_36 : decode cJ6_bitCount_0f7a4 36 = .ok (.bipush 8, 2) := by decide +kernel
theorem dJ6_bitCount_0f7a4_38 : decode cJ6_bitCount_0f7a4 38 = .ok (.iushr, 1) := by decide +kernel
theorem dJ6_bitCount_0f7a4_39 : decode cJ6_bitCount_0f7a4 39 = .ok (.iadd, 1) := by decide +kernel
theorem dJ6_bitCount_0f7a4_40 : decode cJ6_bitCount_0f7a4 40 = .ok (.istore_n 0, 1) := by decide +kernel
theorem dJ6_bitCount_0f7a4_41 : decode cJ6_bitCount_0f7a4 41 = .ok (.iload_n 0, 1) := by decide +kernel
theorem dJ6_bitCount_0f7a4_42 : decode cJ6_bitCount_0f7a4 42 = .ok (.iload_n 0, 1) := by decide +kernel
theorem dJ6_bitCount_0f7a4_43 : decode cJ6_bitCount_0f7a4 43 = .ok (.bipush 16, 2) := by decide +kernel
theorem dJ6_bitCount_0f7a4_45 : decode cJ6_bitCount_0f7a4 45 = .ok (.iushr, 1) := by decide +kernel
theorem dJ6_bitCount_0f7a4_46 : decode cJ6_bitCount_0f7a4 46 = .ok (.iadd, 1) := by decide +kernel
theorem dJ6_bitCount_0f7a4_47 : decode cJ6_bitCount_0f7a4 47 = .ok (.istore_n 0, 1) := by decide +kernel
theorem dJ6_bitCount_0f7a4_48 : decode cJ6_bitCount_0f7a4 48 = .ok (.iload_n 0, 1) := by decide +kernel
theorem dJ6_bitCount_0f7a4_49 : decode cJ6_bitCount_0f7a4 49 = .ok (.bipush 63, 2) := by decide +kernel
theorem dJ6_bitCount_0f7a4_51 : decode cJ6_bitCount_0f7a4 51 = .ok (.iand, 1) := by decide +kernel
theorem dJ6_bitCount_0f7a4_52 : decode cJ6_bitCount_0f7a4 52 = .ok (.ireturn, 1) := by decide +kernel
theorem dJ9_floorDiv_7cf53_0 : decode cJ9_floorDiv_7cf53 0 = .ok (.iload_n 0, 1) := by decide +kernel
theorem dJ9_floorDiv_7cf53_1 : decode cJ9_floorDiv_7cf53 1 = .ok (.iload_n 1, 1) := by decide +kernel
theorem dJ9_floorDiv_7cf53_2 : decode cJ9_floorDiv_7cf53 2 = .ok (.idiv, 1) := by decide +kernel
theorem dJ9_floorDiv_7cf53_3 : decode cJ9_floorDiv_7cf53 3 = .ok (.istore_n 2, 1) := by decide +kernel
theorem dJ9_floorDiv_7cf53_4 : decode cJ9_floorDiv_7cf53 4 = .ok (.iload_n 0, 1) := by decide +kernel
theorem dJ9_floorDiv_7cf53_5 : decode cJ9_floorDiv_7cf53 5 = .ok (.iload_n 1, 1) := by decide +kernel
theorem dJ9_floorDiv_7cf53_6 : decode cJ9_floorDiv_7cf53 6 = .ok (.ixor, 1) := by decide +kernel
theorem dJ9_floorDiv_7cf53_7 : decode cJ9_floorDiv_7cf53 7 = .ok (.ifCond .ge 14, 3) := by decide +kernel
theorem dJ9_floorDiv_7cf53_10 : decode cJ9_floorDiv_7cf53 10 = .ok (.iload_n 2, 1) := by decide +kernel
theorem dJ9_floorDiv_7cf53_11 : decode cJ9_floorDiv_7cf53 11 = .ok (.iload_n 1, 1) := by decide +kernel
theorem dJ9_floorDiv_7cf53_12 : decode cJ9_floorDiv_7cf53 12 = .ok (.imul, 1) := by decide +kernel
theorem dJ9_floorDiv_7cf53_13 : decode cJ9_floorDiv_7cf53 13 = .ok (.iload_n 0, 1) := by decide +kernel
theorem dJ9_floorDiv_7cf53_14 : decode cJ9_floorDiv_7cf53 14 = .ok (.if_icmp .eq 7, 3) := by decide +kernel
theorem dJ9_floorDiv_7cf53_17 : decode cJ9_floorDiv_7cf53 17 = .ok (.iload_n 2, 1) := by decide +kernel
theorem dJ9_floorDiv_7cf53_18 : decode cJ9_floorDiv_7cf53 18 = .ok (.iconst 1, 1) := by decide +kernel
theorem dJ9_floorDiv_7cf53_19 : decode cJ9_floorDiv_7cf53 19 = .ok (.isub, 1) := by decide +kernel
theorem dJ9_floorDiv_7cf53_20 : decode cJ9_floorDiv_7cf53 20 = .ok (.ireturn, 1) := by decide +kernel
theorem dJ9_floorDiv_7cf53_21 : decode cJ9_floorDiv_7cf53 21 = .ok (.iload_n 2, 1) := by decide +kernel
theorem dJ9_floorDiv_7cf53_22 : decode cJ9_floorDiv_7cf53 22 = .ok (.ireturn, 1) := by decide +kernel
theorem dJ9_abs_0f7a4_0 : decode cJ9_abs_0f7a4 0 = .ok (.iload_n 0, 1) := by decide +kernel
theorem dJ9_abs_0f7a4_1 : decode cJ9_abs_0f7a4 1 = .ok (.ifCond .ge 8, 3) := by decide +kernel
theorem dJ9_abs_0f7a4_4 : decode cJ9_abs_0f7a4 4 = .ok (.iload_n 0, 1) := by decide +kernel
theorem dJ9_abs_0f7a4_5 : decode cJ9_abs_0f7a4 5 = .ok (.ineg, 1) := by decide +kernel
theorem dJ9_abs_0f7a4_6 : decode cJ9_abs_0f7a4 6 = .ok (.goto 4, 3) := by decide +kernel
theorem dJ9_abs_0f7a4_9 : decode cJ9_abs_0f7a4 9 = .ok (.iload_n 0, 1) := by decide +kernel
theorem dJ9_abs_0f7a4_10 : decode cJ9_abs_0f7a4 10 = .ok (.ireturn, 1) := by decide +kernel
theorem dJ9_abs_067f4_0 : decode cJ9_abs_067f4 0 = .ok (.lload_n 0, 1) := by decide +kernel
theorem dJ9_abs_067f4_1 : decode cJ9_abs_067f4 1 = .ok (.lconst 0, 1) := by decide +kernel
theorem dJ9_abs_067f4_2 : decode cJ9_abs_067f4 2 = .ok (.lcmp, 1) := by decide +kernel
theorem dJ9_abs_067f4_3 : decode cJ9_abs_067f4 3 = .ok (.ifCond .ge 8, 3) := by decide +kernel
theorem dJ9_abs_067f4_6 : decode cJ9_abs_067f4 6 = .ok (.lload_n 0, 1) := by decide +kernel
theorem dJ9_abs_067f4_7 : decode cJ9_abs_067f4 7 = .ok (.lneg, 1) := by decide +kernel
theorem dJ9_abs_067f4_8 : decode cJ9_abs_067f4 8 = .ok (.goto 4, 3) := by decide +kernel
theorem dJ9_abs_067f4_11 : decode cJ9_abs_067f4 11 = .ok (.lload_n 0, 1) := by decide +kernel
theorem dJ9_abs_067f4_12 : decode cJ9_abs_067f4 12 = .ok (.lreturn, 1) := by decide +kernel
theorem dJ9_max_7cf53_0 : decode cJ9_max_7cf53 0 = .ok (.iload_n 0, 1) := by decide +kernel
theorem dJ9_max_7cf53_1 : decode cJ9_max_7cf53 1 = .ok (.iload_n 1, 1) := by decide +kernel
theorem dJ9_max_7cf53_2 : decode cJ9_max_7cf53 2 = .ok (.if_icmp .lt 7, 3) := by decide +kernel
theorem dJ9_max_7cf53_5 : decode cJ9_max_7cf53 5 = .ok (.iload_n 0, 1) := by decide +kernel
theorem dJ9_max_7cf53_6 : decode cJ9_max_7cf53 6 = .ok (.goto 4, 3) := by decide +kernel
theorem dJ9_max_7cf53_9 : decode cJ9_max_7cf53 9 = .ok (.iload_n 1, 1) := by decide +kernel
theorem dJ9_max_7cf53_10 : decode cJ9_max_7cf53 10 = .ok (.ireturn, 1) := by decide +kernel
theorem dJ9_min_7cf53_0 : decode cJ9_min_7cf53 0 = .ok (.iload_n 0, 1) := by decide +kernel
theorem dJ9_min_7cf53_1 : decode cJ9_min_7cf53 1 = .ok (.iload_n 1, 1) := by decide +kernel
theorem dJ9_min_7cf53_2 : decode cJ9_min_7cf53 2 = .ok (.if_icmp .gt 7, 3) := by decide +kernel
theorem dJ9_min_7cf53_5 : decode cJ9_min_7cf53 5 = .ok (.iload_n 0, 1) := by decide +kernel
theorem dJ9_min_7cf53_6 : decode cJ9_min_7cf53 6 = .ok (.goto 4, 3) := by decide +kernel
theorem dJ9_min_7cf53_9 : decode cJ9_min_7cf53 9 = .ok (.iload_n 1, 1) := by decide +kernel
theorem dJ9_min_7cf53_10 : decode cJ9_min_7cf53 10 = .ok (.ireturn, 1) := by decide +kernel
set_option maxRecDepth 20000 in
theorem ggJ0_init_81219_J0_init_db425 : GoodIn wsJ0_init_81219 wsJ0_init_db425 := goodIn_r _ [4, 5, 6, 7, 8, 9, 10, 11, 12, 13, 14, 15, 16, 17, 18, 19, 20, 21, 22, 23, 24, 25, 26, 27, 28, 29, 30, 31, 32, 33, 34, 35, 36, 37, 38, 39, 40, 41, 42, 43, 44, 45, 46, 47, 48, 49, 50, 51, 52, 53, 54, 55, 56, 57, 58, 59, 60, 61, 62, 63, 64, 65, 66, 67, 68, 69, 70, 71, 72, 73, 74, 75, 76, 77, 3, 78, 79, 80, 81, 82, 83, 84, 85, 86, 87, 88, 89, 90, 91, 92, 93, 94, 95, 96, 97, 98, 99, 100, 101, 102, 103, 104, 105] (by decide +kernel) (by decide +kernel)
set_option maxRecDepth 20000 in
theorem gJ0_init_81219_J0_init_db425 : GoodIn wsJ0_init_81219 (wsJ0_init_db425) := ggJ0_init_81219_J0_init_db425
theorem dJ0_init_81219_0 : decode cJ0_init_81219 0 = .ok (.aload_n 0, 1) := by decide +kernel
theorem dJ0_init_81219_1 : decode cJ0_init_81219 1 = .ok (.aload_n 1, 1) := by decide +kernel
theorem dJ0_init_81219_2 : decode cJ0_init_81219 2 = .ok (.aconst_null, 1) := by decide +kernel
theorem dJ0_init_81219_3 : decode cJ0_init_81219 3 = .ok (.invokespecial 489, 3) := by decide +kernel
theorem dJ0_init_81219_6 : decode cJ0_init_81219 6 = .ok (.return_, 1) := by decide +kernel
set_option maxRecDepth 20000 in
theorem ggJ0_length_8abf5_J0_coder_7d493 : GoodIn wsJ0_length_8abf5 wsJ0_coder_7d493 := goodIn_r _ [6, 7, 8, 9, 10, 11, 12] (by decide +kernel) (by decide +kernel)
set_option maxRecDepth 20000 in
theorem gJ0_length_8abf5_J0_coder_7d493 : GoodIn wsJ0_length_8abf5 (wsV RJ0 335 RJ0 yJ0_coder_7d493 wsJ0_coder_7d493) := goodIn_app (goodIn_of _ (by decide +kernel)) ggJ0_length_8abf5_J0_coder_7d493
theorem dJ0_length_8abf5_0 : decode cJ0_length_8abf5 0 = .ok (.aload_n 0, 1) := by decide +kernel
theorem dJ0_length_8abf5_1 : decode cJ0_length_8abf5 1 = .ok (.getfield 9, 3) := by decide +kernel
theorem dJ0_length_8abf5_4 : decode cJ0_length_8abf5 4 = .ok (.arraylength, 1) := by decide +kernel
theorem dJ0_length_8abf5_5 : decode cJ0_length_8abf5 5 = .ok (.aload_n 0, 1) := by decide +kernel
theorem dJ0_length_8abf5_6 : decode cJ0_length_8abf5 6 = .ok (.invokevirtual 335, 3) := by decide +kernel
theorem dJ0_length_8abf5_9 : decode cJ0_length_8abf5 9 = .ok (.ishr, 1) := by decide +kernel
theorem dJ0_length_8abf5_10 : decode cJ0_length_8abf5 10 = .ok (.ireturn, 1) := by decide +kernel
set_option maxRecDepth 20000 in
theorem ggJ0_charAt_5068e_J0_isLatin1_aae02 : GoodIn wsJ0_charAt_5068e wsJ0_isLatin1_aae02 := goodIn_r _ [6, 7, 8, 38, 39, 40, 41] (by decide +kernel) (by decide +kernel)
set_option maxRecDepth 20000 in
theorem gJ0_charAt_5068e_J0_isLatin1_aae02 : GoodIn wsJ0_charAt_5068e (wsV RJ0 492 RJ0 yJ0_isLatin1_aae02 wsJ0_isLatin1_aae02) := goodIn_app (goodIn_of _ (by decide +kernel)) ggJ0_charAt_5068e_J0_isLatin1_aae02
set_option maxRecDepth 20000 in
theorem ggJ0_charAt_5068e_J1_charAt_3b067 : GoodIn wsJ0_charAt_5068e wsJ1_charAt_3b067 := goodIn_r _ [12, 13, 14, 5, 15, 16, 17, 18, 19, 20] (by decide +kernel) (by decide +kernel)
set_option maxRecDepth 20000 in
theorem gJ0_charAt_5068e_J1_charAt_3b067 : GoodIn wsJ0_charAt_5068e (va_wsS RJ0 495 yJ1_charAt_3b067 wsJ1_charAt_3b067) := goodIn_app (goodIn_of _ (by decide +kernel)) ggJ0_charAt_5068e_J1_charAt_3b067
set_option maxRecDepth 20000 in
theorem ggJ0_charAt_5068e_J2_charAt_3b067 : GoodIn wsJ0_charAt_5068e wsJ2_charAt_3b067 := goodIn_r _ [24, 25, 26, 23, 27, 28, 29, 30, 31, 14, 5, 15, 16, 17, 18, 19, 20, 32, 33, 34, 35, 36, 37] (by decide +kernel) (by decide +kernel)
set_option maxRecDepth 20000 in
theorem gJ0_charAt_5068e_J2_charAt_3b067 : GoodIn wsJ0_charAt_5068e (va_wsS RJ0 498 yJ2_charAt_3b067 wsJ2_charAt_3b067) := goodIn_app (goodIn_of _ (by decide +kernel)) ggJ0_charAt_5068e_J2_charAt_3b067
theorem dJ0_charAt_5068e_0 : decode cJ0_charAt_5068e 0 = .ok (.aload_n 0, 1) := by decide +kernel
theorem dJ0_charAt_5068e_1 : decode cJ0_charAt_5068e 1 = .ok (.invokevirtual 492, 3) := by decide +kernel
theorem dJ0_charAt_5068e_4 : decode cJ0_charAt_5068e 4 = .ok (.ifCond .eq 12, 3) := by decide +kernel
theorem dJ0_charAt_5068e_7 : decode cJ0_charAt_5068e 7 = .ok (.aload_n 0, 1) := by decide +kernel
theorem dJ0_charAt_5068e_8 : decode cJ0_charAt_5068e 8 = .ok (.getfield 9, 3) := by decide +kernel
theorem dJ0_charAt_5068e_11 : decode cJ0_charAt_5068e 11 = .ok (.iload_n 1, 1) := by decide +kernel
theorem dJ0_charAt_5068e_12 : decode cJ0_charAt_5068e 12 = .ok (.invokestatic 495, 3) := by decide +kernel
theorem dJ0_charAt_5068e_15 : decode cJ0_charAt_5068e 15 = .ok (.ireturn, 1) := by decide +kernel
theorem dJ0_charAt_5068e_16 : decode cJ0_charAt_5068e 16 = .ok (.aload_n 0, 1) := by decide +kernel
theorem dJ0_charAt_5068e_17 : decode cJ0_charAt_5068e 17 = .ok (.getfield 9, 3) := by decide +kernel
theorem dJ0_charAt_5068e_20 : decode cJ0_charAt_5068e 20 = .ok (.iload_n 1, 1) := by decide +kernel
theorem dJ0_charAt_5068e_21 : decode cJ0_charAt_5068e 21 = .ok (.invokestatic 498, 3) := by decide +kernel
theorem dJ0_charAt_5068e_24 : decode cJ0_charAt_5068e 24 = .ok (.ireturn, 1) := by decide +kernel
set_option maxRecDepth 20000 in
theorem ggJ0_init_db425_J5_getValue_6d5f1 : GoodIn wsJ0_init_db425 wsJ5_getValue_6d5f1 := goodIn_r _ [13, 14, 99, 100, 101, 102] (by decide +kernel) (by decide +kernel)
set_option maxRecDepth 20000 in
theorem gJ0_init_db425_J5_getValue_6d5f1_u552J4 : GoodIn wsJ0_init_db425 (va_wsU RJ0 552 RJ4 "java/lang/AbstractStringBuilder" ⟨"java/lang/AbstractStringBuilder", "getValue", "()[B"⟩ yJ5_getValue_6d5f1 wsJ5_getValue_6d5f1) := goodIn_app (goodIn_of _ (by decide +kernel)) ggJ0_init_db425_J5_getValue_6d5f1
set_option maxRecDepth 20000 in
theorem ggJ0_init_db425_J4_length_8abf5 : GoodIn wsJ0_init_db425 wsJ4_length_8abf5 := goodIn_r _ [21, 22, 16, 23, 24, 12, 25, 26, 99, 100, 101, 102] (by decide +kernel) (by decide +kernel)
set_option maxRecDepth 20000 in
theorem gJ0_init_db425_J4_length_8abf5_u549J4 : GoodIn wsJ0_init_db425 (va_wsO RJ0 549 RJ4 "java/lang/AbstractStringBuilder" ⟨"java/lang/AbstractStringBuilder", "length", "()I"⟩ yJ4_length_8abf5 wsJ4_length_8abf5) := goodIn_app (goodIn_of _ (by decide +kernel)) ggJ0_init_db425_J4_length_8abf5
set_option maxRecDepth 20000 in
theorem ggJ0_init_db425_J5_isLatin1_aae02 : GoodIn wsJ0_init_db425 wsJ5_isLatin1_aae02 := goodIn_r _ [31, 32, 33, 99, 100, 101, 102] (by decide +kernel) (by decide +kernel)
set_option maxRecDepth 20000 in
theorem gJ0_init_db425_J5_isLatin1_aae02_u1047J4 : GoodIn wsJ0_init_db425 (va_wsU RJ0 1047 RJ4 "java/lang/AbstractStringBuilder" ⟨"java/lang/AbstractStringBuilder", "isLatin1", "()Z"⟩ yJ5_isLatin1_aae02 wsJ5_isLatin1_aae02) := goodIn_app (goodIn_of _ (by decide +kernel)) ggJ0_init_db425_J5_isLatin1_aae02
set_option maxRecDepth 20000 in
theorem ggJ0_init_db425_J7_copyOfRange_39247 : GoodIn wsJ0_init_db425 wsJ7_copyOfRange_39247 := goodIn_r _ [37, 38, 39, 40, 41, 42, 43, 44, 45, 36, 46, 47, 48, 49, 50, 51, 52, 53, 54, 55, 56, 57, 58] (by decide +kernel) (by decide +kernel)
set_option maxRecDepth 20000 in
theorem gJ0_init_db425_J7_copyOfRange_39247 : GoodIn wsJ0_init_db425 (va_wsS RJ0 54 yJ7_copyOfRange_39247 wsJ7_copyOfRange_39247) := goodIn_app (goodIn_of _ (by decide +kernel)) ggJ0_init_db425_J7_copyOfRange_39247
set_option maxRecDepth 20000 in
theorem ggJ0_init_db425_J2_compress_39247 : GoodIn wsJ0_init_db425 wsJ2_compress_39247 := goodIn_r _ [62, 47, 63, 64, 61, 65, 66, 67, 68, 69, 70, 71, 72, 73, 74, 75, 76, 77, 78, 79, 80, 81, 82, 83, 84, 85, 86, 87, 88, 89, 90, 91, 35, 36, 37, 38, 39, 40, 41, 42, 43, 44, 45, 46, 48, 49, 50, 51, 52, 53, 54, 55, 56, 57, 58] (by decide +kernel) (by decide +kernel)
set_option maxRecDepth 20000 in
theorem gJ0_init_db425_J2_compress_39247 : GoodIn wsJ0_init_db425 (va_wsS RJ0 1051 yJ2_compress_39247 wsJ2_compress_39247) := goodIn_app (goodIn_of _ (by decide +kernel)) ggJ0_init_db425_J2_compress_39247
set_option maxRecDepth 20000 in
theorem ggJ0_init_db425_J2_coderFromArrayLen_85cad : GoodIn wsJ0_init_db425 wsJ2_coderFromArrayLen_85cad := goodIn_r _ [94] (by decide +kernel) (by decide +kernel)
set_option maxRecDepth 20000 in
theorem gJ0_init_db425_J2_coderFromArrayLen_85cad : GoodIn wsJ0_init_db425 (va_wsS RJ0 47 yJ2_coderFromArrayLen_85cad wsJ2_coderFromArrayLen_85cad) := goodIn_app (goodIn_of _ (by decide +kernel)) ggJ0_init_db425_J2_coderFromArrayLen_85cad
theorem dJ0_init_db425_0 : decode cJ0_init_db425 0 = .ok (.aload_n 0, 1) := by decide +kernel
theorem dJ0_init_db425_1 : decode cJ0_init_db425 1 = .ok (.invokespecial 1, 3) := by decide +kernel
theorem dJ0_init_db425_4 : decode cJ0_init_db425 4 = .ok (.aload_n 1, 1) := by decide +kernel
theorem dJ0_init_db425_5 : decode cJ0_init_db425 5 = .ok (.invokevirtual 552, 3) := by decide +kernel
theorem dJ0_init_db425_8 : decode cJ0_init_db425 8 = .ok (.astore_n 3, 1) := by decide +kernel
theorem dJ0_init_db425_9 : decode cJ0_init_db425 9 = .ok (.aload_n 1, 1) := by decide +kernel
theorem dJ0_init_db425_10 : decode cJ0_init_db425 10 = .ok (.invokevirtual 549, 3) := by decide +kernel
theorem dJ0_init_db425_13 : decode cJ0_init_db425 13 = .ok (.istore 4, 2) := by decide +kernel
theorem dJ0_init_db425_15 : decode cJ0_init_db425 15 = .ok (.aload_n 1, 1) := by decide +kernel
theorem dJ0_init_db425_16 : decode cJ0_init_db425 16 = .ok (.invokevirtual 1047, 3) := by decide +kernel
theorem dJ0_init_db425_19 : decode cJ0_init_db425 19 = .ok (.ifCond .eq 22, 3) := by decide +kernel
theorem dJ0_init_db425_22 : decode cJ0_init_db425 22 = .ok (.aload_n 0, 1) := by decide +kernel
theorem dJ0_init_db425_23 : decode cJ0_init_db425 23 = .ok (.iconst 0, 1) := by decide +kernel
theorem dJ0_init_db425_24 : decode cJ0_init_db425 24 = .ok (.putfield 15, 3) := by decide +kernel
theorem dJ0_init_db425_27 : decode cJ0_init_db425 27 = .ok (.aload_n 0, 1) := by decide +kernel
theorem dJ0_init_db425_28 : decode cJ0_init_db425 28 = .ok (.aload_n 3, 1) := by decide +kernel
theorem dJ0_init_db425_29 : decode cJ0_init_db425 29 = .ok (.iconst 0, 1) := by decide +kernel
theorem dJ0_init_db425_30 : decode cJ0_init_db425 30 = .ok (.iload 4, 2) := by decide +kernel
theorem dJ0_init_db425_32 : decode cJ0_init_db425 32 = .ok (.invokestatic 54, 3) := by decide +kernel
theorem dJ0_init_db425_35 : decode cJ0_init_db425 35 = .ok (.putfield 9, 3) := by decide +kernel
theorem dJ0_init_db425_38 : decode cJ0_init_db425 38 = .ok (.goto 59, 3) := by decide +kernel
theorem dJ0_init_db425_41 : decode cJ0_init_db425 41 = .ok (.getstatic 38, 3) := by decide +kernel
theorem dJ0_init_db425_44 : decode cJ0_init_db425 44 = .ok (.ifCond .eq 35, 3) := by decide +kernel
theorem dJ0_init_db425_47 : decode cJ0_init_db425 47 = .ok (.aload_n 1, 1) := by decide +kernel
theorem dJ0_init_db425_48 : decode cJ0_init_db425 48 = .ok (.getfield 1048, 3) := by decide +kernel
theorem dJ0_init_db425_51 : decode cJ0_init_db425 51 = .ok (.ifCond .eq 28, 3) := by decide +kernel
theorem dJ0_init_db425_54 : decode cJ0_init_db425 54 = .ok (.aload_n 0, 1) := by decide +kernel
theorem dJ0_init_db425_55 : decode cJ0_init_db425 55 = .ok (.aload_n 3, 1) := by decide +kernel
theorem dJ0_init_db425_56 : decode cJ0_init_db425 56 = .ok (.iconst 0, 1) := by decide +kernel
theorem dJ0_init_db425_57 : decode cJ0_init_db425 57 = .ok (.iload 4, 2) := by decide +kernel
theorem dJ0_init_db425_59 : decode cJ0_init_db425 59 = .ok (.invokestatic 1051, 3) := by decide +kernel
theorem dJ0_init_db425_62 : decode cJ0_init_db425 62 = .ok (.putfield 9, 3) := by decide +kernel
theorem dJ0_init_db425_65 : decode cJ0_init_db425 65 = .ok (.aload_n 0, 1) := by decide +kernel
theorem dJ0_init_db425_66 : decode cJ0_init_db425 66 = .ok (.aload_n 0, 1) := by decide +kernel
theorem dJ0_init_db425_67 : decode cJ0_init_db425 67 = .ok (.getfield 9, 3) := by decide +kernel
theorem dJ0_init_db425_70 : decode cJ0_init_db425 70 = .ok (.iload 4, 2) := by decide +kernel
theorem dJ0_init_db425_72 : decode cJ0_init_db425 72 = .ok (.invokestatic 47, 3) := by decide +kernel
theorem dJ0_init_db425_75 : decode cJ0_init_db425 75 = .ok (.putfield 15, 3) := by decide +kernel
theorem dJ0_init_db425_78 : decode cJ0_init_db425 78 = .ok (.return_, 1) := by decide +kernel
theorem dJ0_init_db425_79 : decode cJ0_init_db425 79 = .ok (.aload_n 0, 1) := by decide +kernel
theorem dJ0_init_db425_80 : decode cJ0_init_db425 80 = .ok (.iconst 1, 1) := by decide +kernel
theorem dJ0_init_db425_81 : decode cJ0_init_db425 81 = .ok (.putfield 15, 3) := by decide +kernel
theorem dJ0_init_db425_84 : decode cJ0_init_db425 84 = .ok (.aload_n 0, 1) := by decide +kernel
theorem dJ0_init_db425_85 : decode cJ0_init_db425 85 = .ok (.aload_n 3, 1) := by decide +kernel
theorem dJ0_init_db425_86 : decode cJ0_init_db425 86 = .ok (.iconst 0, 1) := by decide +kernel
theorem dJ0_init_db425_87 : decode cJ0_init_db425 87 = .ok (.iload 4, 2) := by decide +kernel
theorem dJ0_init_db425_89 : decode cJ0_init_db425 89 = .ok (.iconst 1, 1) := by decide +kernel
theorem dJ0_init_db425_90 : decode cJ0_init_db425 90 = .ok (.ishl, 1) := by decide +kernel
theorem dJ0_init_db425_91 : decode cJ0_init_db425 91 = .ok (.invokestatic 54, 3) := by decide +kernel
theorem dJ0_init_db425_94 : decode cJ0_init_db425 94 = .ok (.putfield 9, 3) := by decide +kernel
theorem dJ0_init_db425_97 : decode cJ0_init_db425 97 = .ok (.return_, 1) := by decide +kernel
theorem dJ0_coder_7d493_0 : decode cJ0_coder_7d493 0 = .ok (.getstatic 38, 3) := by decide +kernel
theorem dJ0_coder_7d493_3 : decode cJ0_coder_7d493 3 = .ok (.ifCond .eq 10, 3) := by decide +kernel
theorem dJ0_coder_7d493_6 : decode cJ0_coder_7d493 6 = .ok (.aload_n 0, 1) := by decide +kernel
theorem dJ0_coder_7d493_7 : decode cJ0_coder_7d493 7 = .ok (.getfield 15, 3) := by decide +kernel
theorem dJ0_coder_7d493_10 : decode cJ0_coder_7d493 10 = .ok (.goto 4, 3) := by decide +kernel
theorem dJ0_coder_7d493_13 : decode cJ0_coder_7d493 13 = .ok (.iconst 1, 1) := by decide +kernel
theorem dJ0_coder_7d493_14 : decode cJ0_coder_7d493 14 = .ok (.ireturn, 1) := by decide +kernel
theorem dJ0_isLatin1_aae02_0 : decode cJ0_isLatin1_aae02 0 = .ok (.getstatic 38, 3) := by decide +kernel
theorem dJ0_isLatin1_aae02_3 : decode cJ0_isLatin1_aae02 3 = .ok (.ifCond .eq 14, 3) := by decide +kernel
theorem dJ0_isLatin1_aae02_6 : decode cJ0_isLatin1_aae02 6 = .ok (.aload_n 0, 1) := by decide +kernel
theorem dJ0_isLatin1_aae02_7 : decode cJ0_isLatin1_aae02 7 = .ok (.getfield 15, 3) := by decide +kernel
theorem dJ0_isLatin1_aae02_10 : decode cJ0_isLatin1_aae02 10 = .ok (.ifCond .ne 7, 3) := by decide +kernel
theorem dJ0_isLatin1_aae02_13 : decode cJ0_isLatin1_aae02 13 = .ok (.iconst 1, 1) := by decide +kernel
theorem dJ0_isLatin1_aae02_14 : decode cJ0_isLatin1_aae02 14 = .ok (.goto 4, 3) := by decide +kernel
theorem dJ0_isLatin1_aae02_17 : decode cJ0_isLatin1_aae02 17 = .ok (.iconst 0, 1) := by decide +kernel
theorem dJ0_isLatin1_aae02_18 : decode cJ0_isLatin1_aae02 18 = .ok (.ireturn, 1) := by decide +kernel
set_option maxRecDepth 20000 in
theorem ggJ0_checkIndex_df160_J3_checkIndex_8e157 : GoodIn wsJ0_checkIndex_df160 wsJ3_checkIndex_8e157 := goodIn_r _ [5] (by decide +kernel) (by decide +kernel)
set_option maxRecDepth 20000 in
theorem gJ0_checkIndex_df160_J3_checkIndex_8e157 : GoodIn wsJ0_checkIndex_df160 (va_wsS RJ0 1059 yJ3_checkIndex_8e157 wsJ3_checkIndex_8e157) := goodIn_app (goodIn_of _ (by decide +kernel)) ggJ0_checkIndex_df160_J3_checkIndex_8e157
theorem dJ0_checkIndex_df160_0 : decode cJ0_checkIndex_df160 0 = .ok (.iload_n 0, 1) := by decide +kernel
theorem dJ0_checkIndex_df160_1 : decode cJ0_checkIndex_df160 1 = .ok (.iload_n 1, 1) := by decide +kernel
theorem dJ0_checkIndex_df160_2 : decode cJ0_checkIndex_df160 2 = .ok (.getstatic 1053, 3) := by decide +kernel
theorem dJ0_checkIndex_df160_5 : decode cJ0_checkIndex_df160 5 = .ok (.invokestatic 1059, 3) := by decide +kernel
theorem dJ0_checkIndex_df160_8 : decode cJ0_checkIndex_df160 8 = .ok (.pop, 1) := by decide +kernel
theorem dJ0_checkIndex_df160_9 : decode cJ0_checkIndex_df160 9 = .ok (.return_, 1) := by decide +kernel
set_option maxRecDepth 20000 in
theorem ggJ0_checkBoundsOffCount_cabcc_J3_checkFromIndexSize_8c36e : GoodIn wsJ0_checkBoundsOffCount_cabcc wsJ3_checkFromIndexSize_8c36e := goodIn_r _ [5] (by decide +kernel) (by decide +kernel)
set_option maxRecDepth 20000 in
theorem gJ0_checkBoundsOffCount_cabcc_J3_checkFromIndexSize_8c36e : GoodIn wsJ0_checkBoundsOffCount_cabcc (va_wsS RJ0 1065 yJ3_checkFromIndexSize_8c36e wsJ3_checkFromIndexSize_8c36e) := goodIn_app (goodIn_of _ (by decide +kernel)) ggJ0_checkBoundsOffCount_cabcc_J3_checkFromIndexSize_8c36e
theorem dJ0_checkBoundsOffCount_cabcc_0 : decode cJ0_checkBoundsOffCount_cabcc 0 = .ok (.iload_n 0, 1) := by decide +kernel
theorem dJ0_checkBoundsOffCount_cabcc_1 : decode cJ0_checkBoundsOffCount_cabcc 1 = .ok (.iload_n 1, 1) := by decide +kernel
theorem dJ0_checkBoundsOffCount_cabcc_2 : decode cJ0_checkBoundsOffCount_cabcc 2 = .ok (.iload_n 2, 1) := by decide +kernel
theorem dJ0_checkBoundsOffCount_cabcc_3 : decode cJ0_checkBoundsOffCount_cabcc 3 = .ok (.getstatic 1053, 3) := by decide +kernel
theorem dJ0_checkBoundsOffCount_cabcc_6 : decode cJ0_checkBoundsOffCount_cabcc 6 = .ok (.invokestatic 1065, 3) := by decide +kernel
theorem dJ0_checkBoundsOffCount_cabcc_9 : decode cJ0_checkBoundsOffCount_cabcc 9 = .ok (.ireturn, 1) := by decide +kernel
set_option maxRecDepth 20000 in
theorem ggJ0_checkBoundsBeginEnd_23922_J3_checkFromToIndex_8c36e : GoodIn wsJ0_checkBoundsBeginEnd_23922 wsJ3_checkFromToIndex_8c36e := goodIn_r _ [5] (by decide +kernel) (by decide +kernel)
set_option maxRecDepth 20000 in
theorem gJ0_checkBoundsBeginEnd_23922_J3_checkFromToIndex_8c36e : GoodIn wsJ0_checkBoundsBeginEnd_23922 (va_wsS RJ0 1062 yJ3_checkFromToIndex_8c36e wsJ3_checkFromToIndex_8c36e) := goodIn_app (goodIn_of _ (by decide +kernel)) ggJ0_checkBoundsBeginEnd_23922_J3_checkFromToIndex_8c36e
theorem dJ0_checkBoundsBeginEnd_23922_0 : decode cJ0_checkBoundsBeginEnd_23922 0 = .ok (.iload_n 0, 1) := by decide +kernel
theorem dJ0_checkBoundsBeginEnd_23922_1 : decode cJ0_checkBoundsBeginEnd_23922 1 = .ok (.iload_n 1, 1) := by decide +kernel
theorem dJ0_checkBoundsBeginEnd_23922_2 : decode cJ0_checkBoundsBeginEnd_23922 2 = .ok (.iload_n 2, 1) := by decide +kernel
theorem dJ0_checkBoundsBeginEnd_23922_3 : decode cJ0_checkBoundsBeginEnd_23922 3 = .ok (.getstatic 1053, 3) := by decide +kernel
theorem dJ0_checkBoundsBeginEnd_23922_6 : decode cJ0_checkBoundsBeginEnd_23922 6 = .ok (.invokestatic 1062, 3) := by decide +kernel
theorem dJ0_checkBoundsBeginEnd_23922_9 : decode cJ0_checkBoundsBeginEnd_23922 9 = .ok (.pop, 1) := by decide +kernel
theorem dJ0_checkBoundsBeginEnd_23922_10 : decode cJ0_checkBoundsBeginEnd_23922 10 = .ok (.return_, 1) := by decide +kernel
set_option maxRecDepth 20000 in
theorem ggJ4_init_da8c8_J5_init_d00df : GoodIn wsJ4_init_da8c8 wsJ5_init_d00df := goodIn_r _ [4, 5, 6, 7, 8, 9, 10, 11, 12, 13, 14, 15, 16, 17, 18, 19, 20, 21, 22, 23] (by decide +kernel) (by decide +kernel)
set_option maxRecDepth 20000 in
theorem gJ4_init_da8c8_J5_init_d00df : GoodIn wsJ4_init_da8c8 (wsJ5_init_d00df) := ggJ4_init_da8c8_J5_init_d00df
theorem dJ4_init_da8c8_0 : decode cJ4_init_da8c8 0 = .ok (.aload_n 0, 1) := by decide +kernel
theorem dJ4_init_da8c8_1 : decode cJ4_init_da8c8 1 = .ok (.bipush 16, 2) := by decide +kernel
theorem dJ4_init_da8c8_3 : decode cJ4_init_da8c8 3 = .ok (.invokespecial 1, 3) := by decide +kernel
theorem dJ4_init_da8c8_6 : decode cJ4_init_da8c8 6 = .ok (.return_, 1) := by decide +kernel
set_option maxRecDepth 20000 in
theorem ggJ4_append_cf468_J5_append_3fe6f : GoodIn wsJ4_append_cf468 wsJ5_append_3fe6f := goodIn_r _ [6, 7, 8, 9, 10, 11, 12, 5, 13, 14, 15, 16, 17, 18, 19, 20, 21, 22, 23, 24, 25, 26, 27, 28, 29, 30, 31, 32, 33, 34, 35, 36, 37, 38, 39, 40, 41, 42, 43, 44, 45, 46, 47, 48, 49, 50, 51, 52, 53, 54, 55, 56, 57, 58, 59, 60, 61, 62, 63, 64, 65, 66, 67, 68, 69, 70, 71, 72, 73, 74, 75, 76, 77, 78, 79, 80, 81, 82, 83, 84, 85, 86, 87, 88, 89, 90, 91, 92, 93, 94, 95, 96, 97, 98, 99, 100, 101, 102, 103, 104, 105, 106, 107, 108, 109, 110, 111, 112, 113, 114, 115, 116] (by decide +kernel) (by decide +kernel)
set_option maxRecDepth 20000 in
theorem gJ4_append_cf468_J5_append_3fe6f_s50 : GoodIn wsJ4_append_cf468 (va_wsSU RJ4 50 yJ5_append_3fe6f wsJ5_append_3fe6f) := goodIn_app (goodIn_of _ (by decide +kernel)) ggJ4_append_cf468_J5_append_3fe6f
theorem dJ4_append_cf468_0 : decode cJ4_append_cf468 0 = .ok (.aload_n 0, 1) := by decide +kernel
theorem dJ4_append_cf468_1 : decode cJ4_append_cf468 1 = .ok (.iload_n 1, 1) := by decide +kernel
theorem dJ4_append_cf468_2 : decode cJ4_append_cf468 2 = .ok (.invokespecial 50, 3) := by decide +kernel
theorem dJ4_append_cf468_5 : decode cJ4_append_cf468 5 = .ok (.pop, 1) := by decide +kernel
theorem dJ4_append_cf468_6 : decode cJ4_append_cf468 6 = .ok (.aload_n 0, 1) := by decide +kernel
theorem dJ4_append_cf468_7 : decode cJ4_append_cf468 7 = .ok (.areturn, 1) := by decide +kernel
set_option maxRecDepth 20000 in
theorem ggJ4_append_bf812_J5_append_c97b9 : GoodIn wsJ4_append_bf812 wsJ5_append_c97b9 := goodIn_r _ [6, 7, 8, 9, 10, 11, 12, 13, 14, 15, 16, 5, 17, 18, 19, 20, 21, 22, 23, 24, 25, 26, 27, 28, 29, 30, 31, 32, 33, 34, 35, 36, 37, 38, 39, 40, 41, 42, 43, 44, 45, 46, 47, 48, 49, 50, 51, 52, 53, 54, 55, 56, 57, 58, 59, 60, 61, 62, 63, 64, 65, 66, 67, 68, 69, 70, 71, 72, 73, 74, 75, 76, 77, 78, 79, 80, 81, 82, 83, 84, 85, 86, 87, 88, 89, 90, 91, 92, 93, 94, 95, 96, 97, 98, 99] (by decide +kernel) (by decide +kernel)
set_option maxRecDepth 20000 in
theorem gJ4_append_bf812_J5_append_c97b9_s53 : GoodIn wsJ4_append_bf812 (va_wsSU RJ4 53 yJ5_append_c97b9 wsJ5_append_c97b9) := goodIn_app (goodIn_of _ (by decide +kernel)) ggJ4_append_bf812_J5_append_c97b9
theorem dJ4_append_bf812_0 : decode cJ4_append_bf812 0 = .ok (.aload_n 0, 1) := by decide +kernel
theorem dJ4_append_bf812_1 : decode cJ4_append_bf812 1 = .ok (.iload_n 1, 1) := by decide +kernel
theorem dJ4_append_bf812_2 : decode cJ4_append_bf812 2 = .ok (.invokespecial 53, 3) := by decide +kernel
theorem dJ4_append_bf812_5 : decode cJ4_append_bf812 5 = .ok (.pop, 1) := by decide +kernel
theorem dJ4_append_bf812_6 : decode cJ4_append_bf812 6 = .ok (.aload_n 0, 1) := by decide +kernel
theorem dJ4_append_bf812_7 : decode cJ4_append_bf812 7 = .ok (.areturn, 1) := by decide +kernel
set_option maxRecDepth 20000 in
theorem ggJ4_toString_0e30d_J0_init_81219 : GoodIn wsJ4_toString_0e30d wsJ0_init_81219 := goodIn_r _ [6, 7, 8, 3, 9, 10, 11, 12, 13, 14, 15, 16, 17, 18, 19, 20, 21, 22, 23, 24, 25, 26, 27, 28, 29, 30, 31, 32, 33, 34, 35, 36, 37, 38, 39, 40, 41, 42, 43, 44, 45, 46, 47, 48, 49, 50, 51, 52, 53, 54, 55, 56, 57, 58, 59, 60, 61, 62, 63, 64, 65, 66, 67, 68, 69, 70, 71, 72, 73, 74, 75, 76, 77, 78, 79, 80, 81, 82, 83, 84, 85, 86, 87, 88, 89, 90, 91, 92, 93, 94, 95, 96, 97, 98, 99, 100, 101, 102, 103, 104, 105, 106, 107, 108, 109, 110] (by decide +kernel) (by decide +kernel)
set_option maxRecDepth 20000 in
theorem gJ4_toString_0e30d_J0_init_81219 : GoodIn wsJ4_toString_0e30d (wsJ0_init_81219) := ggJ4_toString_0e30d_J0_init_81219
theorem dJ4_toString_0e30d_0 : decode cJ4_toString_0e30d 0 = .ok (.new 18, 3) := by decide +kernel
theorem dJ4_toString_0e30d_3 : decode cJ4_toString_0e30d 3 = .ok (.dup, 1) := by decide +kernel
theorem dJ4_toString_0e30d_4 : decode cJ4_toString_0e30d 4 = .ok (.aload_n 0, 1) := by decide +kernel
theorem dJ4_toString_0e30d_5 : decode cJ4_toString_0e30d 5 = .ok (.invokespecial 137, 3) := by decide +kernel
theorem dJ4_toString_0e30d_8 : decode cJ4_toString_0e30d 8 = .ok (.areturn, 1) := by decide +kernel
set_option maxRecDepth 20000 in
theorem ggJ4_length_8abf5_J5_length_8abf5 : GoodIn wsJ4_length_8abf5 wsJ5_length_8abf5 := goodIn_r _ [6, 7, 8, 9, 10, 11] (by decide +kernel) (by decide +kernel)
set_option maxRecDepth 20000 in
theorem gJ4_length_8abf5_J5_length_8abf5_s343 : GoodIn wsJ4_length_8abf5 (va_wsSU RJ4 343 yJ5_length_8abf5 wsJ5_length_8abf5) := goodIn_app (goodIn_of _ (by decide +kernel)) ggJ4_length_8abf5_J5_length_8abf5
theorem dJ4_length_8abf5_0 : decode cJ4_length_8abf5 0 = .ok (.aload_n 0, 1) := by decide +kernel
theorem dJ4_length_8abf5_1 : decode cJ4_length_8abf5 1 = .ok (.invokespecial 343, 3) := by decide +kernel
theorem dJ4_length_8abf5_4 : decode cJ4_length_8abf5 4 = .ok (.ireturn, 1) := by decide +kernel
set_option maxRecDepth 20000 in
theorem ggJ1_charAt_3b067_J0_checkIndex_df160 : GoodIn wsJ1_charAt_3b067 wsJ0_checkIndex_df160 := goodIn_r _ [4, 5, 6, 7, 8, 9] (by decide +kernel) (by decide +kernel)
set_option maxRecDepth 20000 in
theorem gJ1_charAt_3b067_J0_checkIndex_df160 : GoodIn wsJ1_charAt_3b067 (va_wsS RJ1 9 yJ0_checkIndex_df160 wsJ0_checkIndex_df160) := goodIn_app (goodIn_of _ (by decide +kernel)) ggJ1_charAt_3b067_J0_checkIndex_df160
theorem dJ1_charAt_3b067_0 : decode cJ1_charAt_3b067 0 = .ok (.iload_n 1, 1) := by decide +kernel
theorem dJ1_charAt_3b067_1 : decode cJ1_charAt_3b067 1 = .ok (.aload_n 0, 1) := by decide +kernel
theorem dJ1_charAt_3b067_2 : decode cJ1_charAt_3b067 2 = .ok (.arraylength, 1) := by decide +kernel
theorem dJ1_charAt_3b067_3 : decode cJ1_charAt_3b067 3 = .ok (.invokestatic 9, 3) := by decide +kernel
theorem dJ1_charAt_3b067_6 : decode cJ1_charAt_3b067 6 = .ok (.aload_n 0, 1) := by decide +kernel
theorem dJ1_charAt_3b067_7 : decode cJ1_charAt_3b067 7 = .ok (.iload_n 1, 1) := by decide +kernel
theorem dJ1_charAt_3b067_8 : decode cJ1_charAt_3b067 8 = .ok (.baload, 1) := by decide +kernel
theorem dJ1_charAt_3b067_9 : decode cJ1_charAt_3b067 9 = .ok (.sipush 255, 3) := by decide +kernel
theorem dJ1_charAt_3b067_12 : decode cJ1_charAt_3b067 12 = .ok (.iand, 1) := by decide +kernel
theorem dJ1_charAt_3b067_13 : decode cJ1_charAt_3b067 13 = .ok (.i2c, 1) := by decide +kernel
theorem dJ1_charAt_3b067_14 : decode cJ1_charAt_3b067 14 = .ok (.ireturn, 1) := by decide +kernel
theorem dJ1_canEncode_fc78d_0 : decode cJ1_canEncode_fc78d 0 = .ok (.iload_n 0, 1) := by decide +kernel
theorem dJ1_canEncode_fc78d_1 : decode cJ1_canEncode_fc78d 1 = .ok (.sipush 255, 3) := by decide +kernel
theorem dJ1_canEncode_fc78d_4 : decode cJ1_canEncode_fc78d 4 = .ok (.if_icmp .gt 7, 3) := by decide +kernel
theorem dJ1_canEncode_fc78d_7 : decode cJ1_canEncode_fc78d 7 = .ok (.iconst 1, 1) := by decide +kernel
theorem dJ1_canEncode_fc78d_8 : decode cJ1_canEncode_fc78d 8 = .ok (.goto 4, 3) := by decide +kernel
theorem dJ1_canEncode_fc78d_11 : decode cJ1_canEncode_fc78d 11 = .ok (.iconst 0, 1) := by decide +kernel
theorem dJ1_canEncode_fc78d_12 : decode cJ1_canEncode_fc78d 12 = .ok (.ireturn, 1) := by decide +kernel
set_option maxRecDepth 20000 in
theorem ggJ1_inflate_0e8fd_J2_inflate_0e8fd : GoodIn wsJ1_inflate_0e8fd wsJ2_inflate_0e8fd := goodIn_r _ [4, 5, 6, 3, 7, 8, 9, 10, 11, 12, 13, 14, 15, 16, 17, 18, 19, 20, 21, 22, 23, 24, 25] (by decide +kernel) (by decide +kernel)
set_option maxRecDepth 20000 in
theorem gJ1_inflate_0e8fd_J2_inflate_0e8fd : GoodIn wsJ1_inflate_0e8fd (va_wsS RJ1 240 yJ2_inflate_0e8fd wsJ2_inflate_0e8fd) := goodIn_app (goodIn_of _ (by decide +kernel)) ggJ1_inflate_0e8fd_J2_inflate_0e8fd
theorem dJ1_inflate_0e8fd_0 : decode cJ1_inflate_0e8fd 0 = .ok (.aload_n 0, 1) := by decide +kernel
theorem dJ1_inflate_0e8fd_1 : decode cJ1_inflate_0e8fd 1 = .ok (.iload_n 1, 1) := by decide +kernel
theorem dJ1_inflate_0e8fd_2 : decode cJ1_inflate_0e8fd 2 = .ok (.aload_n 2, 1) := by decide +kernel
theorem dJ1_inflate_0e8fd_3 : decode cJ1_inflate_0e8fd 3 = .ok (.iload_n 3, 1) := by decide +kernel
theorem dJ1_inflate_0e8fd_4 : decode cJ1_inflate_0e8fd 4 = .ok (.iload 4, 2) := by decide +kernel
theorem dJ1_inflate_0e8fd_6 : decode cJ1_inflate_0e8fd 6 = .ok (.invokestatic 240, 3) := by decide +kernel
theorem dJ1_inflate_0e8fd_9 : decode cJ1_inflate_0e8fd 9 = .ok (.return_, 1) := by decide +kernel
set_option maxRecDepth 20000 in
theorem ggJ2_newBytesFor_77867_J2_newBytesLength_0f7a4 : GoodIn wsJ2_newBytesFor_77867 wsJ2_newBytesLength_0f7a4 := goodIn_r _ [5, 6] (by decide +kernel) (by decide +kernel)
set_option maxRecDepth 20000 in
theorem gJ2_newBytesFor_77867_J2_newBytesLength_0f7a4 : GoodIn wsJ2_newBytesFor_77867 (va_wsS RJ2 11 yJ2_newBytesLength_0f7a4 wsJ2_newBytesLength_0f7a4) := goodIn_app (goodIn_of _ (by decide +kernel)) ggJ2_newBytesFor_77867_J2_newBytesLength_0f7a4
theorem dJ2_newBytesFor_77867_0 : decode cJ2_newBytesFor_77867 0 = .ok (.iload_n 0, 1) := by decide +kernel
theorem dJ2_newBytesFor_77867_1 : decode cJ2_newBytesFor_77867 1 = .ok (.invokestatic 11, 3) := by decide +kernel
theorem dJ2_newBytesFor_77867_4 : decode cJ2_newBytesFor_77867 4 = .ok (.newarray .byte, 2) := by decide +kernel
theorem dJ2_newBytesFor_77867_6 : decode cJ2_newBytesFor_77867 6 = .ok (.areturn, 1) := by decide +kernel
theorem dJ2_newBytesLength_0f7a4_0 : decode cJ2_newBytesLength_0f7a4 0 = .ok (.iload_n 0, 1) := by decide +kernel
theorem dJ2_newBytesLength_0f7a4_1 : decode cJ2_newBytesLength_0f7a4 1 = .ok (.ifCond .ge 11, 3) := by decide +kernel
theorem dJ2_newBytesLength_0f7a4_4 : decode cJ2_newBytesLength_0f7a4 4 = .ok (.new 17, 3) := by decide +kernel
theorem dJ2_newBytesLength_0f7a4_7 : decode cJ2_newBytesLength_0f7a4 7 = .ok (.dup, 1) := by decide +kernel
theorem dJ2_newBytesLength_0f7a4_8 : decode cJ2_newBytesLength_0f7a4 8 = .ok (.invokespecial 19, 3) := by decide +kernel
theorem dJ2_newBytesLength_0f7a4_11 : decode cJ2_newBytesLength_0f7a4 11 = .ok (.athrow, 1) := by decide +kernel
theorem dJ2_newBytesLength_0f7a4_12 : decode cJ2_newBytesLength_0f7a4 12 = .ok (.iload_n 0, 1) := by decide +kernel
theorem dJ2_newBytesLength_0f7a4_13 : decode cJ2_newBytesLength_0f7a4 13 = .ok (.ldc 20, 2) := by decide +kernel
theorem dJ2_newBytesLength_0f7a4_15 : decode cJ2_newBytesLength_0f7a4 15 = .ok (.if_icmp .lt 40, 3) := by decide +kernel
theorem dJ2_newBytesLength_0f7a4_18 : decode cJ2_newBytesLength_0f7a4 18 = .ok (.new 21, 3) := by decide +kernel
theorem dJ2_newBytesLength_0f7a4_21 : decode cJ2_newBytesLength_0f7a4 21 = .ok (.dup, 1) := by decide +kernel
theorem dJ2_newBytesLength_0f7a4_22 : decode cJ2_newBytesLength_0f7a4 22 = .ok (.new 23, 3) := by decide +kernel
theorem dJ2_newBytesLength_0f7a4_25 : decode cJ2_newBytesLength_0f7a4 25 = .ok (.dup, 1) := by decide +kernel
theorem dJ2_newBytesLength_0f7a4_26 : decode cJ2_newBytesLength_0f7a4 26 = .ok (.invokespecial 25, 3) := by decide +kernel
theorem dJ2_newBytesLength_0f7a4_29 : decode cJ2_newBytesLength_0f7a4 29 = .ok (.ldc 26, 2) := by decide +kernel
theorem dJ2_newBytesLength_0f7a4_31 : decode cJ2_newBytesLength_0f7a4 31 = .ok (.invokevirtual 28, 3) := by decide +kernel
theorem dJ2_newBytesLength_0f7a4_34 : decode cJ2_newBytesLength_0f7a4 34 = .ok (.iload_n 0, 1) := by decide +kernel
theorem dJ2_newBytesLength_0f7a4_35 : decode cJ2_newBytesLength_0f7a4 35 = .ok (.invokevirtual 32, 3) := by decide +kernel
theorem dJ2_newBytesLength_0f7a4_38 : decode cJ2_newBytesLength_0f7a4 38 = .ok (.ldc 35, 2) := by decide +kernel
theorem dJ2_newBytesLength_0f7a4_40 : decode cJ2_newBytesLength_0f7a4 40 = .ok (.invokevirtual 28, 3) := by decide +kernel
theorem dJ2_newBytesLength_0f7a4_43 : decode cJ2_newBytesLength_0f7a4 43 = .ok (.ldc 20, 2) := by decide +kernel
theorem dJ2_newBytesLength_0f7a4_45 : decode cJ2_newBytesLength_0f7a4 45 = .ok (.invokevirtual 32, 3) := by decide +kernel
theorem dJ2_newBytesLength_0f7a4_48 : decode cJ2_newBytesLength_0f7a4 48 = .ok (.invokevirtual 37, 3) := by decide +kernel
theorem dJ2_newBytesLength_0f7a4_51 : decode cJ2_newBytesLength_0f7a4 51 = .ok (.invokespecial 41, 3) := by decide +kernel
theorem dJ2_newBytesLength_0f7a4_54 : decode cJ2_newBytesLength_0f7a4 54 = .ok (.athrow, 1) := by decide +kernel
theorem dJ2_newBytesLength_0f7a4_55 : decode cJ2_newBytesLength_0f7a4 55 = .ok (.iload_n 0, 1) := by decide +kernel
theorem dJ2_newBytesLength_0f7a4_56 : decode cJ2_newBytesLength_0f7a4 56 = .ok (.iconst 1, 1) := by decide +kernel
theorem dJ2_newBytesLength_0f7a4_57 : decode cJ2_newBytesLength_0f7a4 57 = .ok (.ishl, 1) := by decide +kernel
theorem dJ2_newBytesLength_0f7a4_58 : decode cJ2_newBytesLength_0f7a4 58 = .ok (.ireturn, 1) := by decide +kernel
set_option maxRecDepth 20000 in
theorem ggJ2_putChar_b72d1_J2_length_9d52b : GoodIn wsJ2_putChar_b72d1 wsJ2_length_9d52b := goodIn_r _ [7] (by decide +kernel) (by decide +kernel)
set_option maxRecDepth 20000 in
theorem gJ2_putChar_b72d1_J2_length_9d52b : GoodIn wsJ2_putChar_b72d1 (va_wsS RJ2 48 yJ2_length_9d52b wsJ2_length_9d52b) := goodIn_app (goodIn_of _ (by decide +kernel)) ggJ2_putChar_b72d1_J2_length_9d52b
theorem dJ2_putChar_b72d1_0 : decode cJ2_putChar_b72d1 0 = .ok (.getstatic 44, 3) := by decide +kernel
theorem dJ2_putChar_b72d1_3 : decode cJ2_putChar_b72d1 3 = .ok (.ifCond .ne 25, 3) := by decide +kernel
theorem dJ2_putChar_b72d1_6 : decode cJ2_putChar_b72d1 6 = .ok (.iload_n 1, 1) := by decide +kernel
theorem dJ2_putChar_b72d1_7 : decode cJ2_putChar_b72d1 7 = .ok (.ifCond .lt 11, 3) := by decide +kernel
theorem dJ2_putChar_b72d1_10 : decode cJ2_putChar_b72d1 10 = .ok (.iload_n 1, 1) := by decide +kernel
theorem dJ2_putChar_b72d1_11 : decode cJ2_putChar_b72d1 11 = .ok (.aload_n 0, 1) := by decide +kernel
theorem dJ2_putChar_b72d1_12 : decode cJ2_putChar_b72d1 12 = .ok (.invokestatic 48, 3) := by decide +kernel
theorem dJ2_putChar_b72d1_15 : decode cJ2_putChar_b72d1 15 = .ok (.if_icmp .lt 13, 3) := by decide +kernel
theorem dJ2_putChar_b72d1_18 : decode cJ2_putChar_b72d1 18 = .ok (.new 52, 3) := by decide +kernel
theorem dJ2_putChar_b72d1_21 : decode cJ2_putChar_b72d1 21 = .ok (.dup, 1) := by decide +kernel
theorem dJ2_putChar_b72d1_22 : decode cJ2_putChar_b72d1 22 = .ok (.ldc 54, 2) := by decide +kernel
theorem dJ2_putChar_b72d1_24 : decode cJ2_putChar_b72d1 24 = .ok (.invokespecial 56, 3) := by decide +kernel
theorem dJ2_putChar_b72d1_27 : decode cJ2_putChar_b72d1 27 = .ok (.athrow, 1) := by decide +kernel
theorem dJ2_putChar_b72d1_28 : decode cJ2_putChar_b72d1 28 = .ok (.iload_n 1, 1) := by decide +kernel
theorem dJ2_putChar_b72d1_29 : decode cJ2_putChar_b72d1 29 = .ok (.iconst 1, 1) := by decide +kernel
theorem dJ2_putChar_b72d1_30 : decode cJ2_putChar_b72d1 30 = .ok (.ishl, 1) := by decide +kernel
theorem dJ2_putChar_b72d1_31 : decode cJ2_putChar_b72d1 31 = .ok (.istore_n 1, 1) := by decide +kernel
theorem dJ2_putChar_b72d1_32 : decode cJ2_putChar_b72d1 32 = .ok (.aload_n 0, 1) := by decide +kernel
theorem dJ2_putChar_b72d1_33 : decode cJ2_putChar_b72d1 33 = .ok (.iload_n 1, 1) := by decide +kernel
theorem dJ2_putChar_b72d1_34 : decode cJ2_putChar_b72d1 34 = .ok (.iinc 1 1, 3) := by decide +kernel
theorem dJ2_putChar_b72d1_37 : decode cJ2_putChar_b72d1 37 = .ok (.iload_n 2, 1) := by decide +kernel
theorem dJ2_putChar_b72d1_38 : decode cJ2_putChar_b72d1 38 = .ok (.getstatic 59, 3) := by decide +kernel
theorem dJ2_putChar_b72d1_41 : decode cJ2_putChar_b72d1 41 = .ok (.ishr, 1) := by decide +kernel
theorem dJ2_putChar_b72d1_42 : decode cJ2_putChar_b72d1 42 = .ok (.i2b, 1) := by decide +kernel
theorem dJ2_putChar_b72d1_43 : decode cJ2_putChar_b72d1 43 = .ok (.bastore, 1) := by decide +kernel
theorem dJ2_putChar_b72d1_44 : decode cJ2_putChar_b72d1 44 = .ok (.aload_n 0, 1) := by decide +kernel
theorem dJ2_putChar_b72d1_45 : decode cJ2_putChar_b72d1 45 = .ok (.iload_n 1, 1) := by decide +kernel
theorem dJ2_putChar_b72d1_46 : decode cJ2_putChar_b72d1 46 = .ok (.iload_n 2, 1) := by decide +kernel
theorem dJ2_putChar_b72d1_47 : decode cJ2_putChar_b72d1 47 = .ok (.getstatic 63, 3) := by decide +kernel
theorem dJ2_putChar_b72d1_50 : decode cJ2_putChar_b72d1 50 = .ok (.ishr, 1) := by decide +kernel
theorem dJ2_putChar_b72d1_51 : decode cJ2_putChar_b72d1 51 = .ok (.i2b, 1) := by decide +kernel
theorem dJ2_putChar_b72d1_52 : decode cJ2_putChar_b72d1 52 = .ok (.bastore, 1) := by decide +kernel
theorem dJ2_putChar_b72d1_53 : decode cJ2_putChar_b72d1 53 = .ok (.return_, 1) := by decide +kernel
set_option maxRecDepth 20000 in
theorem ggJ2_getChar_3b067_J2_length_9d52b : GoodIn wsJ2_getChar_3b067 wsJ2_length_9d52b := goodIn_r _ [7] (by decide +kernel) (by decide +kernel)
set_option maxRecDepth 20000 in
theorem gJ2_getChar_3b067_J2_length_9d52b : GoodIn wsJ2_getChar_3b067 (va_wsS RJ2 48 yJ2_length_9d52b wsJ2_length_9d52b) := goodIn_app (goodIn_of _ (by decide +kernel)) ggJ2_getChar_3b067_J2_length_9d52b
theorem dJ2_getChar_3b067_0 : decode cJ2_getChar_3b067 0 = .ok (.getstatic 44, 3) := by decide +kernel
theorem dJ2_getChar_3b067_3 : decode cJ2_getChar_3b067 3 = .ok (.ifCond .ne 25, 3) := by decide +kernel
theorem dJ2_getChar_3b067_6 : decode cJ2_getChar_3b067 6 = .ok (.iload_n 1, 1) := by decide +kernel
theorem dJ2_getChar_3b067_7 : decode cJ2_getChar_3b067 7 = .ok (.ifCond .lt 11, 3) := by decide +kernel
theorem dJ2_getChar_3b067_10 : decode cJ2_getChar_3b067 10 = .ok (.iload_n 1, 1) := by decide +kernel
theorem dJ2_getChar_3b067_11 : decode cJ2_getChar_3b067 11 = .ok (.aload_n 0, 1) := by decide +kernel
theorem dJ2_getChar_3b067_12 : decode cJ2_getChar_3b067 12 = .ok (.invokestatic 48, 3) := by decide +kernel
theorem dJ2_getChar_3b067_15 : decode cJ2_getChar_3b067 15 = .ok (.if_icmp .lt 13, 3) := by decide +kernel
theorem dJ2_getChar_3b067_18 : decode cJ2_getChar_3b067 18 = .ok (.new 52, 3) := by decide +kernel
theorem dJ2_getChar_3b067_21 : decode cJ2_getChar_3b067 21 = .ok (.dup, 1) := by decide +kernel
theorem dJ2_getChar_3b067_22 : decode cJ2_getChar_3b067 22 = .ok (.ldc 54, 2) := by decide +kernel
theorem dJ2_getChar_3b067_24 : decode cJ2_getChar_3b067 24 = .ok (.invokespecial 56, 3) := by decide +kernel
theorem dJ2_getChar_3b067_27 : decode cJ2_getChar_3b067 27 = .ok (.athrow, 1) := by decide +kernel
theorem dJ2_getChar_3b067_28 : decode cJ2_getChar_3b067 28 = .ok (.iload_n 1, 1) := by decide +kernel
theorem dJ2_getChar_3b067_29 : decode cJ2_getChar_3b067 29 = .ok (.iconst 1, 1) := by decide +kernel
theorem dJ2_getChar_3b067_30 : decode cJ2_getChar_3b067 30 = .ok (.ishl, 1) := by decide +kernel
theorem dJ2_getChar_3b067_31 : decode cJ2_getChar_3b067 31 = .ok (.istore_n 1, 1) := by decide +kernel
theorem dJ2_getChar_3b067_32 : decode cJ2_getChar_3b067 32 = .ok (.aload_n 0, 1) := by decide +kernel
theorem dJ2_getChar_3b067_33 : decode cJ2_getChar_3b067 33 = .ok (.iload_n 1, 1) := by decide +kernel
theorem dJ2_getChar_3b067_34 : decode cJ2_getChar_3b067 34 = .ok (.iinc 1 1, 3) := by decide +kernel
theorem dJ2_getChar_3b067_37 : decode cJ2_getChar_3b067 37 = .ok (.baload, 1) := by decide +kernel
theorem dJ2_getChar_3b067_38 : decode cJ2_getChar_3b067 38 = .ok (.sipush 255, 3) := by decide +kernel
theorem dJ2_getChar_3b067_41 : decode cJ2_getChar_3b067 41 = .ok (.iand, 1) := by decide +kernel
theorem dJ2_getChar_3b067_42 : decode cJ2_getChar_3b067 42 = .ok (.getstatic 59, 3) := by decide +kernel
theorem dJ2_getChar_3b067_45 : decode cJ2_getChar_3b067 45 = .ok (.ishl, 1) := by decide +kernel
theorem dJ2_getChar_3b067_46 : decode cJ2_getChar_3b067 46 = .ok (.aload_n 0, 1) := by decide +kernel
theorem dJ2_getChar_3b067_47 : decode cJ2_getChar_3b067 47 = .ok (.iload_n 1, 1) := by decide +kernel
theorem dJ2_getChar_3b067_48 : decode cJ2_getChar_3b067 48 = .ok (.baload, 1) := by decide +kernel
theorem dJ2_getChar_3b067_49 : decode cJ2_getChar_3b067 49 = .ok (.sipush 255, 3) := by decide +kernel
theorem dJ2_getChar_3b067_52 : decode cJ2_getChar_3b067 52 = .ok (.iand, 1) := by decide +kernel
theorem dJ2_getChar_3b067_53 : decode cJ2_getChar_3b067 53 = .ok (.getstatic 63, 3) := by decide +kernel
theorem dJ2_getChar_3b067_56 : decode cJ2_getChar_3b067 56 = .ok (.ishl, 1) := by decide +kernel
theorem dJ2_getChar_3b067_57 : decode cJ2_getChar_3b067 57 = .ok (.ior, 1) := by decide +kernel
theorem dJ2_getChar_3b067_58 : decode cJ2_getChar_3b067 58 = .ok (.i2c, 1) := by decide +kernel
theorem dJ2_getChar_3b067_59 : decode cJ2_getChar_3b067 59 = .ok (.ireturn, 1) := by decide +kernel
theorem dJ2_length_9d52b_0 : decode cJ2_length_9d52b 0 = .ok (.aload_n 0, 1) := by decide +kernel
theorem dJ2_length_9d52b_1 : decode cJ2_length_9d52b 1 = .ok (.arraylength, 1) := by decide +kernel
theorem dJ2_length_9d52b_2 : decode cJ2_length_9d52b 2 = .ok (.iconst 1, 1) := by decide +kernel
theorem dJ2_length_9d52b_3 : decode cJ2_length_9d52b 3 = .ok (.ishr, 1) := by decide +kernel
theorem dJ2_length_9d52b_4 : decode cJ2_length_9d52b 4 = .ok (.ireturn, 1) := by decide +kernel
theorem dJ2_coderFromArrayLen_85cad_0 : decode cJ2_coderFromArrayLen_85cad 0 = .ok (.iload_n 1, 1) := by decide +kernel
theorem dJ2_coderFromArrayLen_85cad_1 : decode cJ2_coderFromArrayLen_85cad 1 = .ok (.aload_n 0, 1) := by decide +kernel
theorem dJ2_coderFromArrayLen_85cad_2 : decode cJ2_coderFromArrayLen_85cad 2 = .ok (.arraylength, 1) := by decide +kernel
theorem dJ2_coderFromArrayLen_85cad_3 : decode cJ2_coderFromArrayLen_85cad 3 = .ok (.isub, 1) := by decide +kernel
theorem dJ2_coderFromArrayLen_85cad_4 : decode cJ2_coderFromArrayLen_85cad 4 = .ok (.bipush 31, 2) := by decide +kernel
theorem dJ2_coderFromArrayLen_85cad_6 : decode cJ2_coderFromArrayLen_85cad 6 = .ok (.iushr, 1) := by decide +kernel
theorem dJ2_coderFromArrayLen_85cad_7 : decode cJ2_coderFromArrayLen_85cad 7 = .ok (.i2b, 1) := by decide +kernel
theorem dJ2_coderFromArrayLen_85cad_8 : decode cJ2_coderFromArrayLen_85cad 8 = .ok (.ireturn, 1) := by decide +kernel
set_option maxRecDepth 20000 in
theorem ggJ2_compress_39247_J2_compress_5af95 : GoodIn wsJ2_compress_39247 wsJ2_compress_5af95 := goodIn_r _ [5, 6, 7, 4, 8, 9, 10, 11, 12, 13, 14, 15, 16, 17, 18, 19, 20, 21, 22, 23, 24, 25, 26] (by decide +kernel) (by decide +kernel)
set_option maxRecDepth 20000 in
theorem gJ2_compress_39247_J2_compress_5af95 : GoodIn wsJ2_compress_39247 (va_wsS RJ2 123 yJ2_compress_5af95 wsJ2_compress_5af95) := goodIn_app (goodIn_of _ (by decide +kernel)) ggJ2_compress_39247_J2_compress_5af95
set_option maxRecDepth 20000 in
theorem ggJ2_compress_39247_J2_newBytesLength_0f7a4 : GoodIn wsJ2_compress_39247 wsJ2_newBytesLength_0f7a4 := goodIn_r _ [29, 30] (by decide +kernel) (by decide +kernel)
set_option maxRecDepth 20000 in
theorem gJ2_compress_39247_J2_newBytesLength_0f7a4 : GoodIn wsJ2_compress_39247 (va_wsS RJ2 11 yJ2_newBytesLength_0f7a4 wsJ2_newBytesLength_0f7a4) := goodIn_app (goodIn_of _ (by decide +kernel)) ggJ2_compress_39247_J2_newBytesLength_0f7a4
set_option maxRecDepth 20000 in
theorem ggJ2_compress_39247_J7_copyOfRange_39247 : GoodIn wsJ2_compress_39247 wsJ7_copyOfRange_39247 := goodIn_r _ [34, 35, 36, 37, 38, 39, 40, 41, 42, 33, 43, 1, 44, 45, 46, 47, 48, 49, 50, 51, 52, 53, 54] (by decide +kernel) (by decide +kernel)
set_option maxRecDepth 20000 in
theorem gJ2_compress_39247_J7_copyOfRange_39247 : GoodIn wsJ2_compress_39247 (va_wsS RJ2 126 yJ7_copyOfRange_39247 wsJ7_copyOfRange_39247) := goodIn_app (goodIn_of _ (by decide +kernel)) ggJ2_compress_39247_J7_copyOfRange_39247
set_option maxRecDepth 20000 in
theorem ggJ2_compress_39247_J2_getChar_3b067 : GoodIn wsJ2_compress_39247 wsJ2_getChar_3b067 := goodIn_r _ [23, 24, 25, 26, 9, 10, 4, 11] (by decide +kernel) (by decide +kernel)
set_option maxRecDepth 20000 in
theorem gJ2_compress_39247_J2_getChar_3b067 : GoodIn wsJ2_compress_39247 (va_wsS RJ2 71 yJ2_getChar_3b067 wsJ2_getChar_3b067) := goodIn_app (goodIn_of _ (by decide +kernel)) ggJ2_compress_39247_J2_getChar_3b067
theorem dJ2_compress_39247_0 : decode cJ2_compress_39247 0 = .ok (.iload_n 2, 1) := by decide +kernel
theorem dJ2_compress_39247_1 : decode cJ2_compress_39247 1 = .ok (.newarray .byte, 2) := by decide +kernel
theorem dJ2_compress_39247_3 : decode cJ2_compress_39247 3 = .ok (.astore_n 3, 1) := by decide +kernel
theorem dJ2_compress_39247_4 : decode cJ2_compress_39247 4 = .ok (.aload_n 0, 1) := by decide +kernel
theorem dJ2_compress_39247_5 : decode cJ2_compress_39247 5 = .ok (.iload_n 1, 1) := by decide +kernel
theorem dJ2_compress_39247_6 : decode cJ2_compress_39247 6 = .ok (.aload_n 3, 1) := by decide +kernel
theorem dJ2_compress_39247_7 : decode cJ2_compress_39247 7 = .ok (.iconst 0, 1) := by decide +kernel
theorem dJ2_compress_39247_8 : decode cJ2_compress_39247 8 = .ok (.iload_n 2, 1) := by decide +kernel
theorem dJ2_compress_39247_9 : decode cJ2_compress_39247 9 = .ok (.invokestatic 123, 3) := by decide +kernel
theorem dJ2_compress_39247_12 : decode cJ2_compress_39247 12 = .ok (.istore 4, 2) := by decide +kernel
theorem dJ2_compress_39247_14 : decode cJ2_compress_39247 14 = .ok (.iload 4, 2) := by decide +kernel
theorem dJ2_compress_39247_16 : decode cJ2_compress_39247 16 = .ok (.iload_n 2, 1) := by decide +kernel
theorem dJ2_compress_39247_17 : decode cJ2_compress_39247 17 = .ok (.if_icmp .eq 47, 3) := by decide +kernel
theorem dJ2_compress_39247_20 : decode cJ2_compress_39247 20 = .ok (.aload_n 0, 1) := by decide +kernel
theorem dJ2_compress_39247_21 : decode cJ2_compress_39247 21 = .ok (.iload_n 1, 1) := by decide +kernel
theorem dJ2_compress_39247_22 : decode cJ2_compress_39247 22 = .ok (.iconst 1, 1) := by decide +kernel
theorem dJ2_compress_39247_23 : decode cJ2_compress_39247 23 = .ok (.ishl, 1) := by decide +kernel
theorem dJ2_compress_39247_24 : decode cJ2_compress_39247 24 = .ok (.iload_n 1, 1) := by decide +kernel
theorem dJ2_compress_39247_25 : decode cJ2_compress_39247 25 = .ok (.iload_n 2, 1) := by decide +kernel
theorem dJ2_compress_39247_26 : decode cJ2_compress_39247 26 = .ok (.iadd, 1) := by decide +kernel
theorem dJ2_compress_39247_27 : decode cJ2_compress_39247 27 = .ok (.invokestatic 11, 3) := by decide +kernel
theorem dJ2_compress_39247_30 : decode cJ2_compress_39247 30 = .ok (.invokestatic 126, 3) := by decide +kernel
theorem dJ2_compress_39247_33 : decode cJ2_compress_39247 33 = .ok (.astore 5, 2) := by decide +kernel
theorem dJ2_compress_39247_35 : decode cJ2_compress_39247 35 = .ok (.aload 5, 2) := by decide +kernel
theorem dJ2_compress_39247_37 : decode cJ2_compress_39247 37 = .ok (.iload 4, 2) := by decide +kernel
theorem dJ2_compress_39247_39 : decode cJ2_compress_39247 39 = .ok (.invokestatic 71, 3) := by decide +kernel
theorem dJ2_compress_39247_42 : decode cJ2_compress_39247 42 = .ok (.sipush 255, 3) := by decide +kernel
theorem dJ2_compress_39247_45 : decode cJ2_compress_39247 45 = .ok (.if_icmp .gt 16, 3) := by decide +kernel
theorem dJ2_compress_39247_48 : decode cJ2_compress_39247 48 = .ok (.aload 5, 2) := by decide +kernel
theorem dJ2_compress_39247_50 : decode cJ2_compress_39247 50 = .ok (.iconst 0, 1) := by decide +kernel
theorem dJ2_compress_39247_51 : decode cJ2_compress_39247 51 = .ok (.aload_n 3, 1) := by decide +kernel
theorem dJ2_compress_39247_52 : decode cJ2_compress_39247 52 = .ok (.iconst 0, 1) := by decide +kernel
theorem dJ2_compress_39247_53 : decode cJ2_compress_39247 53 = .ok (.iload_n 2, 1) := by decide +kernel
theorem dJ2_compress_39247_54 : decode cJ2_compress_39247 54 = .ok (.invokestatic 123, 3) := by decide +kernel
theorem dJ2_compress_39247_57 : decode cJ2_compress_39247 57 = .ok (.iload_n 2, 1) := by decide +kernel
theorem dJ2_compress_39247_58 : decode cJ2_compress_39247 58 = .ok (.if_icmp .eq 6, 3) := by decide +kernel
theorem dJ2_compress_39247_61 : decode cJ2_compress_39247 61 = .ok (.aload 5, 2) := by decide +kernel
theorem dJ2_compress_39247_63 : decode cJ2_compress_39247 63 = .ok (.areturn, 1) := by decide +kernel
theorem dJ2_compress_39247_64 : decode cJ2_compress_39247 64 = .ok (.aload_n 3, 1) := by decide +kernel
theorem dJ2_compress_39247_65 : decode cJ2_compress_39247 65 = .ok (.areturn, 1) := by decide +kernel
set_option maxRecDepth 20000 in
theorem ggJ2_compress_5af95_J2_checkBoundsOffCount_d044e : GoodIn wsJ2_compress_5af95 wsJ2_checkBoundsOffCount_d044e := goodIn_r _ [4, 5, 6, 3, 7, 8, 9, 10, 11, 12, 13, 14, 15, 16] (by decide +kernel) (by decide +kernel)
set_option maxRecDepth 20000 in
theorem gJ2_compress_5af95_J2_checkBoundsOffCount_d044e : GoodIn wsJ2_compress_5af95 (va_wsS RJ2 173 yJ2_checkBoundsOffCount_d044e wsJ2_checkBoundsOffCount_d044e) := goodIn_app (goodIn_of _ (by decide +kernel)) ggJ2_compress_5af95_J2_checkBoundsOffCount_d044e
set_option maxRecDepth 20000 in
theorem ggJ2_compress_5af95_J2_getChar_3b067 : GoodIn wsJ2_compress_5af95 wsJ2_getChar_3b067 := goodIn_r _ [19, 20, 21, 22, 5, 6, 3, 7] (by decide +kernel) (by decide +kernel)
set_option maxRecDepth 20000 in
theorem gJ2_compress_5af95_J2_getChar_3b067 : GoodIn wsJ2_compress_5af95 (va_wsS RJ2 71 yJ2_getChar_3b067 wsJ2_getChar_3b067) := goodIn_app (goodIn_of _ (by decide +kernel)) ggJ2_compress_5af95_J2_getChar_3b067
theorem dJ2_compress_5af95_0 : decode cJ2_compress_5af95 0 = .ok (.iload_n 1, 1) := by decide +kernel
theorem dJ2_compress_5af95_1 : decode cJ2_compress_5af95 1 = .ok (.iload 4, 2) := by decide +kernel
theorem dJ2_compress_5af95_3 : decode cJ2_compress_5af95 3 = .ok (.aload_n 0, 1) := by decide +kernel
theorem dJ2_compress_5af95_4 : decode cJ2_compress_5af95 4 = .ok (.invokestatic 173, 3) := by decide +kernel
theorem dJ2_compress_5af95_7 : decode cJ2_compress_5af95 7 = .ok (.iconst 0, 1) := by decide +kernel
theorem dJ2_compress_5af95_8 : decode cJ2_compress_5af95 8 = .ok (.istore 5, 2) := by decide +kernel
theorem dJ2_compress_5af95_10 : decode cJ2_compress_5af95 10 = .ok (.iload 5, 2) := by decide +kernel
theorem dJ2_compress_5af95_12 : decode cJ2_compress_5af95 12 = .ok (.iload 4, 2) := by decide +kernel
theorem dJ2_compress_5af95_14 : decode cJ2_compress_5af95 14 = .ok (.if_icmp .ge 39, 3) := by decide +kernel
theorem dJ2_compress_5af95_17 : decode cJ2_compress_5af95 17 = .ok (.aload_n 0, 1) := by decide +kernel
theorem dJ2_compress_5af95_18 : decode cJ2_compress_5af95 18 = .ok (.iload_n 1, 1) := by decide +kernel
theorem dJ2_compress_5af95_19 : decode cJ2_compress_5af95 19 = .ok (.invokestatic 71, 3) := by decide +kernel
theorem dJ2_compress_5af95_22 : decode cJ2_compress_5af95 22 = .ok (.istore 6, 2) := by decide +kernel
theorem dJ2_compress_5af95_24 : decode cJ2_compress_5af95 24 = .ok (.iload 6, 2) := by decide +kernel
theorem dJ2_compress_5af95_26 : decode cJ2_compress_5af95 26 = .ok (.sipush 255, 3) := by decide +kernel
theorem dJ2_compress_5af95_29 : decode cJ2_compress_5af95 29 = .ok (.if_icmp .le 6, 3) := by decide +kernel
theorem dJ2_compress_5af95_32 : decode cJ2_compress_5af95 32 = .ok (.iload 5, 2) := by decide +kernel
theorem dJ2_compress_5af95_34 : decode cJ2_compress_5af95 34 = .ok (.ireturn, 1) := by decide +kernel
theorem dJ2_compress_5af95_35 : decode cJ2_compress_5af95 35 = .ok (.aload_n 2, 1) := by decide +kernel
theorem dJ2_compress_5af95_36 : decode cJ2_compress_5af95 36 = .ok (.iload_n 3, 1) := by decide +kernel
theorem dJ2_compress_5af95_37 : decode cJ2_compress_5af95 37 = .ok (.iload 6, 2) := by decide +kernel
theorem dJ2_compress_5af95_39 : decode cJ2_compress_5af95 39 = .ok (.i2b, 1) := by decide +kernel
theorem dJ2_compress_5af95_40 : decode cJ2_compress_5af95 40 = .ok (.bastore, 1) := by decide +kernel
theorem dJ2_compress_5af95_41 : decode cJ2_compress_5af95 41 = .ok (.iinc 1 1, 3) := by decide +kernel
theorem dJ2_compress_5af95_44 : decode cJ2_compress_5af95 44 = .ok (.iinc 3 1, 3) := by decide +kernel
theorem dJ2_compress_5af95_47 : decode cJ2_compress_5af95 47 = .ok (.iinc 5 1, 3) := by decide +kernel
theorem dJ2_compress_5af95_50 : decode cJ2_compress_5af95 50 = .ok (.goto (-40), 3) := by decide +kernel
theorem dJ2_compress_5af95_53 : decode cJ2_compress_5af95 53 = .ok (.iload 4, 2) := by decide +kernel
theorem dJ2_compress_5af95_55 : decode cJ2_compress_5af95 55 = .ok (.ireturn, 1) := by decide +kernel
set_option maxRecDepth 20000 in
theorem ggJ2_putCharSB_b72d1_J2_checkIndex_2214a : GoodIn wsJ2_putCharSB_b72d1 wsJ2_checkIndex_2214a := goodIn_r _ [4, 5, 6, 3, 7, 8, 9, 10, 11, 12, 13, 14, 15, 16] (by decide +kernel) (by decide +kernel)
set_option maxRecDepth 20000 in
theorem gJ2_putCharSB_b72d1_J2_checkIndex_2214a : GoodIn wsJ2_putCharSB_b72d1 (va_wsS RJ2 67 yJ2_checkIndex_2214a wsJ2_checkIndex_2214a) := goodIn_app (goodIn_of _ (by decide +kernel)) ggJ2_putCharSB_b72d1_J2_checkIndex_2214a
set_option maxRecDepth 20000 in
theorem ggJ2_putCharSB_b72d1_J2_putChar_b72d1 : GoodIn wsJ2_putCharSB_b72d1 wsJ2_putChar_b72d1 := goodIn_r _ [19, 20, 21, 22, 5, 6, 3, 7] (by decide +kernel) (by decide +kernel)
set_option maxRecDepth 20000 in
theorem gJ2_putCharSB_b72d1_J2_putChar_b72d1 : GoodIn wsJ2_putCharSB_b72d1 (va_wsS RJ2 111 yJ2_putChar_b72d1 wsJ2_putChar_b72d1) := goodIn_app (goodIn_of _ (by decide +kernel)) ggJ2_putCharSB_b72d1_J2_putChar_b72d1
theorem dJ2_putCharSB_b72d1_0 : decode cJ2_putCharSB_b72d1 0 = .ok (.iload_n 1, 1) := by decide +kernel
theorem dJ2_putCharSB_b72d1_1 : decode cJ2_putCharSB_b72d1 1 = .ok (.aload_n 0, 1) := by decide +kernel
theorem dJ2_putCharSB_b72d1_2 : decode cJ2_putCharSB_b72d1 2 = .ok (.invokestatic 67, 3) := by decide +kernel
theorem dJ2_putCharSB_b72d1_5 : decode cJ2_putCharSB_b72d1 5 = .ok (.aload_n 0, 1) := by decide +kernel
theorem dJ2_putCharSB_b72d1_6 : decode cJ2_putCharSB_b72d1 6 = .ok (.iload_n 1, 1) := by decide +kernel
theorem dJ2_putCharSB_b72d1_7 : decode cJ2_putCharSB_b72d1 7 = .ok (.iload_n 2, 1) := by decide +kernel
theorem dJ2_putCharSB_b72d1_8 : decode cJ2_putCharSB_b72d1 8 = .ok (.invokestatic 111, 3) := by decide +kernel
theorem dJ2_putCharSB_b72d1_11 : decode cJ2_putCharSB_b72d1 11 = .ok (.return_, 1) := by decide +kernel
set_option maxRecDepth 20000 in
theorem ggJ2_getChars_46870_J2_checkBoundsBeginEnd_d044e : GoodIn wsJ2_getChars_46870 wsJ2_checkBoundsBeginEnd_d044e := goodIn_r _ [5, 6, 7, 4, 8, 9, 10, 11, 12, 13, 14, 15, 16, 17] (by decide +kernel) (by decide +kernel)
set_option maxRecDepth 20000 in
theorem gJ2_getChars_46870_J2_checkBoundsBeginEnd_d044e : GoodIn wsJ2_getChars_46870 (va_wsS RJ2 96 yJ2_checkBoundsBeginEnd_d044e wsJ2_checkBoundsBeginEnd_d044e) := goodIn_app (goodIn_of _ (by decide +kernel)) ggJ2_getChars_46870_J2_checkBoundsBeginEnd_d044e
set_option maxRecDepth 20000 in
theorem ggJ2_getChars_46870_J2_getChars_ba4f3 : GoodIn wsJ2_getChars_46870 wsJ2_getChars_ba4f3 := goodIn_r _ [20, 21, 22, 23, 24, 4, 25, 1, 26, 27, 6, 7, 8] (by decide +kernel) (by decide +kernel)
set_option maxRecDepth 20000 in
theorem gJ2_getChars_46870_J2_getChars_ba4f3 : GoodIn wsJ2_getChars_46870 (va_wsS RJ2 393 yJ2_getChars_ba4f3 wsJ2_getChars_ba4f3) := goodIn_app (goodIn_of _ (by decide +kernel)) ggJ2_getChars_46870_J2_getChars_ba4f3
theorem dJ2_getChars_46870_0 : decode cJ2_getChars_46870 0 = .ok (.iload_n 1, 1) := by decide +kernel
theorem dJ2_getChars_46870_1 : decode cJ2_getChars_46870 1 = .ok (.iload_n 2, 1) := by decide +kernel
theorem dJ2_getChars_46870_2 : decode cJ2_getChars_46870 2 = .ok (.aload_n 3, 1) := by decide +kernel
theorem dJ2_getChars_46870_3 : decode cJ2_getChars_46870 3 = .ok (.invokestatic 96, 3) := by decide +kernel
theorem dJ2_getChars_46870_6 : decode cJ2_getChars_46870 6 = .ok (.iload_n 0, 1) := by decide +kernel
theorem dJ2_getChars_46870_7 : decode cJ2_getChars_46870 7 = .ok (.iload_n 2, 1) := by decide +kernel
theorem dJ2_getChars_46870_8 : decode cJ2_getChars_46870 8 = .ok (.aload_n 3, 1) := by decide +kernel
theorem dJ2_getChars_46870_9 : decode cJ2_getChars_46870 9 = .ok (.invokestatic 393, 3) := by decide +kernel
theorem dJ2_getChars_46870_12 : decode cJ2_getChars_46870 12 = .ok (.istore 4, 2) := by decide +kernel
theorem dJ2_getChars_46870_14 : decode cJ2_getChars_46870 14 = .ok (.getstatic 44, 3) := by decide +kernel
theorem dJ2_getChars_46870_17 : decode cJ2_getChars_46870 17 = .ok (.ifCond .ne 17, 3) := by decide +kernel
theorem dJ2_getChars_46870_20 : decode cJ2_getChars_46870 20 = .ok (.iload_n 1, 1) := by decide +kernel
theorem dJ2_getChars_46870_21 : decode cJ2_getChars_46870 21 = .ok (.iload 4, 2) := by decide +kernel
theorem dJ2_getChars_46870_23 : decode cJ2_getChars_46870 23 = .ok (.if_icmp .eq 11, 3) := by decide +kernel
theorem dJ2_getChars_46870_26 : decode cJ2_getChars_46870 26 = .ok (.new 52, 3) := by decide +kernel
theorem dJ2_getChars_46870_29 : decode cJ2_getChars_46870 29 = .ok (.dup, 1) := by decide +kernel
theorem dJ2_getChars_46870_30 : decode cJ2_getChars_46870 30 = .ok (.invokespecial 66, 3) := by decide +kernel
theorem dJ2_getChars_46870_33 : decode cJ2_getChars_46870 33 = .ok (.athrow, 1) := by decide +kernel
theorem dJ2_getChars_46870_34 : decode cJ2_getChars_46870 34 = .ok (.iload 4, 2) := by decide +kernel
theorem dJ2_getChars_46870_36 : decode cJ2_getChars_46870 36 = .ok (.ireturn, 1) := by decide +kernel
set_option maxRecDepth 20000 in
theorem ggJ2_charAt_3b067_J2_checkIndex_2214a : GoodIn wsJ2_charAt_3b067 wsJ2_checkIndex_2214a := goodIn_r _ [4, 5, 6, 3, 7, 8, 9, 10, 11, 12, 13, 14, 15, 16] (by decide +kernel) (by decide +kernel)
set_option maxRecDepth 20000 in
theorem gJ2_charAt_3b067_J2_checkIndex_2214a : GoodIn wsJ2_charAt_3b067 (va_wsS RJ2 67 yJ2_checkIndex_2214a wsJ2_checkIndex_2214a) := goodIn_app (goodIn_of _ (by decide +kernel)) ggJ2_charAt_3b067_J2_checkIndex_2214a
set_option maxRecDepth 20000 in
theorem ggJ2_charAt_3b067_J2_getChar_3b067 : GoodIn wsJ2_charAt_3b067 wsJ2_getChar_3b067 := goodIn_r _ [19, 20, 21, 22, 5, 6, 3, 7] (by decide +kernel) (by decide +kernel)
set_option maxRecDepth 20000 in
theorem gJ2_charAt_3b067_J2_getChar_3b067 : GoodIn wsJ2_charAt_3b067 (va_wsS RJ2 71 yJ2_getChar_3b067 wsJ2_getChar_3b067) := goodIn_app (goodIn_of _ (by decide +kernel)) ggJ2_charAt_3b067_J2_getChar_3b067
theorem dJ2_charAt_3b067_0 : decode cJ2_charAt_3b067 0 = .ok (.iload_n 1, 1) := by decide +kernel
theorem dJ2_charAt_3b067_1 : decode cJ2_charAt_3b067 1 = .ok (.aload_n 0, 1) := by decide +kernel
theorem dJ2_charAt_3b067_2 : decode cJ2_charAt_3b067 2 = .ok (.invokestatic 67, 3) := by decide +kernel
theorem dJ2_charAt_3b067_5 : decode cJ2_charAt_3b067 5 = .ok (.aload_n 0, 1) := by decide +kernel
theorem dJ2_charAt_3b067_6 : decode cJ2_charAt_3b067 6 = .ok (.iload_n 1, 1) := by decide +kernel
theorem dJ2_charAt_3b067_7 : decode cJ2_charAt_3b067 7 = .ok (.invokestatic 71, 3) := by decide +kernel
theorem dJ2_charAt_3b067_10 : decode cJ2_charAt_3b067 10 = .ok (.ireturn, 1) := by decide +kernel
set_option maxRecDepth 20000 in
theorem ggJ2_inflate_0e8fd_J2_checkBoundsOffCount_d044e : GoodIn wsJ2_inflate_0e8fd wsJ2_checkBoundsOffCount_d044e := goodIn_r _ [4, 5, 6, 3, 7, 8, 9, 10, 11, 12, 13, 14, 15, 16] (by decide +kernel) (by decide +kernel)
set_option maxRecDepth 20000 in
theorem gJ2_inflate_0e8fd_J2_checkBoundsOffCount_d044e : GoodIn wsJ2_inflate_0e8fd (va_wsS RJ2 173 yJ2_checkBoundsOffCount_d044e wsJ2_checkBoundsOffCount_d044e) := goodIn_app (goodIn_of _ (by decide +kernel)) ggJ2_inflate_0e8fd_J2_checkBoundsOffCount_d044e
set_option maxRecDepth 20000 in
theorem ggJ2_inflate_0e8fd_J2_putChar_b72d1 : GoodIn wsJ2_inflate_0e8fd wsJ2_putChar_b72d1 := goodIn_r _ [19, 20, 21, 22, 5, 6, 3, 7] (by decide +kernel) (by decide +kernel)
set_option maxRecDepth 20000 in
theorem gJ2_inflate_0e8fd_J2_putChar_b72d1 : GoodIn wsJ2_inflate_0e8fd (va_wsS RJ2 111 yJ2_putChar_b72d1 wsJ2_putChar_b72d1) := goodIn_app (goodIn_of _ (by decide +kernel)) ggJ2_inflate_0e8fd_J2_putChar_b72d1
theorem dJ2_inflate_0e8fd_0 : decode cJ2_inflate_0e8fd 0 = .ok (.iload_n 3, 1) := by decide +kernel
theorem dJ2_inflate_0e8fd_1 : decode cJ2_inflate_0e8fd 1 = .ok (.iload 4, 2) := by decide +kernel
theorem dJ2_inflate_0e8fd_3 : decode cJ2_inflate_0e8fd 3 = .ok (.aload_n 2, 1) := by decide +kernel
theorem dJ2_inflate_0e8fd_4 : decode cJ2_inflate_0e8fd 4 = .ok (.invokestatic 173, 3) := by decide +kernel
theorem dJ2_inflate_0e8fd_7 : decode cJ2_inflate_0e8fd 7 = .ok (.iconst 0, 1) := by decide +kernel
theorem dJ2_inflate_0e8fd_8 : decode cJ2_inflate_0e8fd 8 = .ok (.istore 5, 2) := by decide +kernel
theorem dJ2_inflate_0e8fd_10 : decode cJ2_inflate_0e8fd 10 = .ok (.iload 5, 2) := by decide +kernel
theorem dJ2_inflate_0e8fd_12 : decode cJ2_inflate_0e8fd 12 = .ok (.iload 4, 2) := by decide +kernel
theorem dJ2_inflate_0e8fd_14 : decode cJ2_inflate_0e8fd 14 = .ok (.if_icmp .ge 27, 3) := by decide +kernel
theorem dJ2_inflate_0e8fd_17 : decode cJ2_inflate_0e8fd 17 = .ok (.aload_n 2, 1) := by decide +kernel
theorem dJ2_inflate_0e8fd_18 : decode cJ2_inflate_0e8fd 18 = .ok (.iload_n 3, 1) := by decide +kernel
theorem dJ2_inflate_0e8fd_19 : decode cJ2_inflate_0e8fd 19 = .ok (.iinc 3 1, 3) := by decide +kernel
theorem dJ2_inflate_0e8fd_22 : decode cJ2_inflate_0e8fd 22 = .ok (.aload_n 0, 1) := by decide +kernel
theorem dJ2_inflate_0e8fd_23 : decode cJ2_inflate_0e8fd 23 = .ok (.iload_n 1, 1) := by decide +kernel
theorem dJ2_inflate_0e8fd_24 : decode cJ2_inflate_0e8fd 24 = .ok (.iinc 1 1, 3) := by decide +kernel
theorem dJ2_inflate_0e8fd_27 : decode cJ2_inflate_0e8fd 27 = .ok (.baload, 1) := by decide +kernel
theorem dJ2_inflate_0e8fd_28 : decode cJ2_inflate_0e8fd 28 = .ok (.sipush 255, 3) := by decide +kernel
theorem dJ2_inflate_0e8fd_31 : decode cJ2_inflate_0e8fd 31 = .ok (.iand, 1) := by decide +kernel
theorem dJ2_inflate_0e8fd_32 : decode cJ2_inflate_0e8fd 32 = .ok (.invokestatic 111, 3) := by decide +kernel
theorem dJ2_inflate_0e8fd_35 : decode cJ2_inflate_0e8fd 35 = .ok (.iinc 5 1, 3) := by decide +kernel
theorem dJ2_inflate_0e8fd_38 : decode cJ2_inflate_0e8fd 38 = .ok (.goto (-28), 3) := by decide +kernel
theorem dJ2_inflate_0e8fd_41 : decode cJ2_inflate_0e8fd 41 = .ok (.return_, 1) := by decide +kernel
set_option maxRecDepth 20000 in
theorem ggJ2_getChars_ba4f3_J2_putChar_b72d1 : GoodIn wsJ2_getChars_ba4f3 wsJ2_putChar_b72d1 := goodIn_r _ [6, 7, 8, 9, 10, 11, 5, 12] (by decide +kernel) (by decide +kernel)
set_option maxRecDepth 20000 in
theorem gJ2_getChars_ba4f3_J2_putChar_b72d1 : GoodIn wsJ2_getChars_ba4f3 (va_wsS RJ2 111 yJ2_putChar_b72d1 wsJ2_putChar_b72d1) := goodIn_app (goodIn_of _ (by decide +kernel)) ggJ2_getChars_ba4f3_J2_putChar_b72d1
theorem dJ2_getChars_ba4f3_0 : decode cJ2_getChars_ba4f3 0 = .ok (.iload_n 1, 1) := by decide +kernel
theorem dJ2_getChars_ba4f3_1 : decode cJ2_getChars_ba4f3 1 = .ok (.istore 5, 2) := by decide +kernel
theorem dJ2_getChars_ba4f3_3 : decode cJ2_getChars_ba4f3 3 = .ok (.iload_n 0, 1) := by decide +kernel
theorem dJ2_getChars_ba4f3_4 : decode cJ2_getChars_ba4f3 4 = .ok (.ifCond .ge 7, 3) := by decide +kernel
theorem dJ2_getChars_ba4f3_7 : decode cJ2_getChars_ba4f3 7 = .ok (.iconst 1, 1) := by decide +kernel
theorem dJ2_getChars_ba4f3_8 : decode cJ2_getChars_ba4f3 8 = .ok (.goto 4, 3) := by decide +kernel
theorem dJ2_getChars_ba4f3_11 : decode cJ2_getChars_ba4f3 11 = .ok (.iconst 0, 1) := by decide +kernel
theorem dJ2_getChars_ba4f3_12 : decode cJ2_getChars_ba4f3 12 = .ok (.istore 6, 2) := by decide +kernel
theorem dJ2_getChars_ba4f3_14 : decode cJ2_getChars_ba4f3 14 = .ok (.iload 6, 2) := by decide +kernel
theorem dJ2_getChars_ba4f3_16 : decode cJ2_getChars_ba4f3 16 = .ok (.ifCond .ne 6, 3) := by decide +kernel
theorem dJ2_getChars_ba4f3_19 : decode cJ2_getChars_ba4f3 19 = .ok (.iload_n 0, 1) := by decide +kernel
theorem dJ2_getChars_ba4f3_20 : decode cJ2_getChars_ba4f3 20 = .ok (.ineg, 1) := by decide +kernel
theorem dJ2_getChars_ba4f3_21 : decode cJ2_getChars_ba4f3 21 = .ok (.istore_n 0, 1) := by decide +kernel
theorem dJ2_getChars_ba4f3_22 : decode cJ2_getChars_ba4f3 22 = .ok (.iload_n 0, 1) := by decide +kernel
theorem dJ2_getChars_ba4f3_23 : decode cJ2_getChars_ba4f3 23 = .ok (.bipush (-100), 2) := by decide +kernel
theorem dJ2_getChars_ba4f3_25 : decode cJ2_getChars_ba4f3 25 = .ok (.if_icmp .gt 51, 3) := by decide +kernel
theorem dJ2_getChars_ba4f3_28 : decode cJ2_getChars_ba4f3 28 = .ok (.iload_n 0, 1) := by decide +kernel
theorem dJ2_getChars_ba4f3_29 : decode cJ2_getChars_ba4f3 29 = .ok (.bipush 100, 2) := by decide +kernel
theorem dJ2_getChars_ba4f3_31 : decode cJ2_getChars_ba4f3 31 = .ok (.idiv, 1) := by decide +kernel
theorem dJ2_getChars_ba4f3_32 : decode cJ2_getChars_ba4f3 32 = .ok (.istore_n 3, 1) := by decide +kernel
theorem dJ2_getChars_ba4f3_33 : decode cJ2_getChars_ba4f3 33 = .ok (.iload_n 3, 1) := by decide +kernel
theorem dJ2_getChars_ba4f3_34 : decode cJ2_getChars_ba4f3 34 = .ok (.bipush 100, 2) := by decide +kernel
theorem dJ2_getChars_ba4f3_36 : decode cJ2_getChars_ba4f3 36 = .ok (.imul, 1) := by decide +kernel
theorem dJ2_getChars_ba4f3_37 : decode cJ2_getChars_ba4f3 37 = .ok (.iload_n 0, 1) := by decide +kernel
theorem dJ2_getChars_ba4f3_38 : decode cJ2_getChars_ba4f3 38 = .ok (.isub, 1) := by decide +kernel
theorem dJ2_getChars_ba4f3_39 : decode cJ2_getChars_ba4f3 39 = .ok (.istore 4, 2) := by decide +kernel
theorem dJ2_getChars_ba4f3_41 : decode cJ2_getChars_ba4f3 41 = .ok (.iload_n 3, 1) := by decide +kernel
theorem dJ2_getChars_ba4f3_42 : decode cJ2_getChars_ba4f3 42 = .ok (.istore_n 0, 1) := by decide +kernel
theorem dJ2_getChars_ba4f3_43 : decode cJ2_getChars_ba4f3 43 = .ok (.aload_n 2, 1) := by decide +kernel
theorem dJ2_getChars_ba4f3_44 : decode cJ2_getChars_ba4f3 44 = .ok (.iinc 5 (-1), 3) := by decide +kernel
theorem dJ2_getChars_ba4f3_47 : decode cJ2_getChars_ba4f3 47 = .ok (.iload 5, 2) := by decide +kernel
theorem dJ2_getChars_ba4f3_49 : decode cJ2_getChars_ba4f3 49 = .ok (.getstatic 403, 3) := by decide +kernel
theorem dJ2_getChars_ba4f3_52 : decode cJ2_getChars_ba4f3 52 = .ok (.iload 4, 2) := by decide +kernel
theorem dJ2_getChars_ba4f3_54 : decode cJ2_getChars_ba4f3 54 = .ok (.baload, 1) := by decide +kernel
theorem dJ2_getChars_ba4f3_55 : decode cJ2_getChars_ba4f3 55 = .ok (.invokestatic 111, 3) := by decide +kernel
theorem dJ2_getChars_ba4f3_58 : decode cJ2_getChars_ba4f3 58 = .ok (.aload_n 2, 1) := by decide +kernel
theorem dJ2_getChars_ba4f3_59 : decode cJ2_getChars_ba4f3 59 = .ok (.iinc 5 (-1), 3) := by decide +kernel
theorem dJ2_getChars_ba4f3_62 : decode cJ2_getChars_ba4f3 62 = .ok (.iload 5, 2) := by decide +kernel
theorem dJ2_getChars_ba4f3_64 : decode cJ2_getChars_ba4f3 64 = .ok (.getstatic 407, 3) := by decide +kernel
theorem dJ2_getChars_ba4f3_67 : decode cJ2_getChars_ba4f3 67 = .ok (.iload 4, 2) := by decide +kernel
theorem dJ2_getChars_ba4f3_69 : decode cJ2_getChars_ba4f3 69 = .ok (.baload, 1) := by decide +kernel
theorem dJ2_getChars_ba4f3_70 : decode cJ2_getChars_ba4f3 70 = .ok (.invokestatic 111, 3) := by decide +kernel
theorem dJ2_getChars_ba4f3_73 : decode cJ2_getChars_ba4f3 73 = .ok (.goto (-51), 3) := by decide +kernel
theorem dJ2_getChars_ba4f3_76 : decode cJ2_getChars_ba4f3 76 = .ok (.aload_n 2, 1) := by decide +kernel
theorem dJ2_getChars_ba4f3_77 : decode cJ2_getChars_ba4f3 77 = .ok (.iinc 5 (-1), 3) := by decide +kernel
theorem dJ2_getChars_ba4f3_80 : decode cJ2_getChars_ba4f3 80 = .ok (.iload 5, 2) := by decide +kernel
theorem dJ2_getChars_ba4f3_82 : decode cJ2_getChars_ba4f3 82 = .ok (.getstatic 403, 3) := by decide +kernel
theorem dJ2_getChars_ba4f3_85 : decode cJ2_getChars_ba4f3 85 = .ok (.iload_n 0, 1) := by decide +kernel
theorem dJ2_getChars_ba4f3_86 : decode cJ2_getChars_ba4f3 86 = .ok (.ineg, 1) := by decide +kernel
theorem dJ2_getChars_ba4f3_87 : decode cJ2_getChars_ba4f3 87 = .ok (.baload, 1) := by decide +kernel
theorem dJ2_getChars_ba4f3_88 : decode cJ2_getChars_ba4f3 88 = .ok (.invokestatic 111, 3) := by decide +kernel
theorem dJ2_getChars_ba4f3_91 : decode cJ2_getChars_ba4f3 91 = .ok (.iload_n 0, 1) := by decide +kernel
theorem dJ2_getChars_ba4f3_92 : decode cJ2_getChars_ba4f3 92 = .ok (.bipush (-9), 2) := by decide +kernel
theorem dJ2_getChars_ba4f3_94 : decode cJ2_getChars_ba4f3 94 = .ok (.if_icmp .ge 18, 3) := by decide +kernel
theorem dJ2_getChars_ba4f3_97 : decode cJ2_getChars_ba4f3 97 = .ok (.aload_n 2, 1) := by decide +kernel
theorem dJ2_getChars_ba4f3_98 : decode cJ2_getChars_ba4f3 98 = .ok (.iinc 5 (-1), 3) := by decide +kernel
theorem dJ2_getChars_ba4f3_101 : decode cJ2_getChars_ba4f3 101 = .ok (.iload 5, 2) := by decide +kernel
theorem dJ2_getChars_ba4f3_103 : decode cJ2_getChars_ba4f3 103 = .ok (.getstatic 407, 3) := by decide +kernel
theorem dJ2_getChars_ba4f3_106 : decode cJ2_getChars_ba4f3 106 = .ok (.iload_n 0, 1) := by decide +kernel
theorem dJ2_getChars_ba4f3_107 : decode cJ2_getChars_ba4f3 107 = .ok (.ineg, 1) := by decide +kernel
theorem dJ2_getChars_ba4f3_108 : decode cJ2_getChars_ba4f3 108 = .ok (.baload, 1) := by decide +kernel
theorem dJ2_getChars_ba4f3_109 : decode cJ2_getChars_ba4f3 109 = .ok (.invokestatic 111, 3) := by decide +kernel
theorem dJ2_getChars_ba4f3_112 : decode cJ2_getChars_ba4f3 112 = .ok (.iload 6, 2) := by decide +kernel
theorem dJ2_getChars_ba4f3_114 : decode cJ2_getChars_ba4f3 114 = .ok (.ifCond .eq 14, 3) := by decide +kernel
theorem dJ2_getChars_ba4f3_117 : decode cJ2_getChars_ba4f3 117 = .ok (.aload_n 2, 1) := by decide +kernel
theorem dJ2_getChars_ba4f3_118 : decode cJ2_getChars_ba4f3 118 = .ok (.iinc 5 (-1), 3) := by decide +kernel
theorem dJ2_getChars_ba4f3_121 : decode cJ2_getChars_ba4f3 121 = .ok (.iload 5, 2) := by decide +kernel
theorem dJ2_getChars_ba4f3_123 : decode cJ2_getChars_ba4f3 123 = .ok (.bipush 45, 2) := by decide +kernel
theorem dJ2_getChars_ba4f3_125 : decode cJ2_getChars_ba4f3 125 = .ok (.invokestatic 111, 3) := by decide +kernel
theorem dJ2_getChars_ba4f3_128 : decode cJ2_getChars_ba4f3 128 = .ok (.iload 5, 2) := by decide +kernel
theorem dJ2_getChars_ba4f3_130 : decode cJ2_getChars_ba4f3 130 = .ok (.ireturn, 1) := by decide +kernel
set_option maxRecDepth 20000 in
theorem ggJ2_checkIndex_2214a_J2_length_9d52b : GoodIn wsJ2_checkIndex_2214a wsJ2_length_9d52b := goodIn_r _ [4] (by decide +kernel) (by decide +kernel)
set_option maxRecDepth 20000 in
theorem gJ2_checkIndex_2214a_J2_length_9d52b : GoodIn wsJ2_checkIndex_2214a (va_wsS RJ2 48 yJ2_length_9d52b wsJ2_length_9d52b) := goodIn_app (goodIn_of _ (by decide +kernel)) ggJ2_checkIndex_2214a_J2_length_9d52b
set_option maxRecDepth 20000 in
theorem ggJ2_checkIndex_2214a_J0_checkIndex_df160 : GoodIn wsJ2_checkIndex_2214a wsJ0_checkIndex_df160 := goodIn_r _ [8, 9, 10, 11, 12, 13] (by decide +kernel) (by decide +kernel)
set_option maxRecDepth 20000 in
theorem gJ2_checkIndex_2214a_J0_checkIndex_df160 : GoodIn wsJ2_checkIndex_2214a (va_wsS RJ2 414 yJ0_checkIndex_df160 wsJ0_checkIndex_df160) := goodIn_app (goodIn_of _ (by decide +kernel)) ggJ2_checkIndex_2214a_J0_checkIndex_df160
theorem dJ2_checkIndex_2214a_0 : decode cJ2_checkIndex_2214a 0 = .ok (.iload_n 0, 1) := by decide +kernel
theorem dJ2_checkIndex_2214a_1 : decode cJ2_checkIndex_2214a 1 = .ok (.aload_n 1, 1) := by decide +kernel
theorem dJ2_checkIndex_2214a_2 : decode cJ2_checkIndex_2214a 2 = .ok (.invokestatic 48, 3) := by decide +kernel
theorem dJ2_checkIndex_2214a_5 : decode cJ2_checkIndex_2214a 5 = .ok (.invokestatic 414, 3) := by decide +kernel
theorem dJ2_checkIndex_2214a_8 : decode cJ2_checkIndex_2214a 8 = .ok (.return_, 1) := by decide +kernel
set_option maxRecDepth 20000 in
theorem ggJ2_checkBoundsBeginEnd_d044e_J2_length_9d52b : GoodIn wsJ2_checkBoundsBeginEnd_d044e wsJ2_length_9d52b := goodIn_r _ [4] (by decide +kernel) (by decide +kernel)
set_option maxRecDepth 20000 in
theorem gJ2_checkBoundsBeginEnd_d044e_J2_length_9d52b : GoodIn wsJ2_checkBoundsBeginEnd_d044e (va_wsS RJ2 48 yJ2_length_9d52b wsJ2_length_9d52b) := goodIn_app (goodIn_of _ (by decide +kernel)) ggJ2_checkBoundsBeginEnd_d044e_J2_length_9d52b
set_option maxRecDepth 20000 in
theorem ggJ2_checkBoundsBeginEnd_d044e_J0_checkBoundsBeginEnd_23922 : GoodIn wsJ2_checkBoundsBeginEnd_d044e wsJ0_checkBoundsBeginEnd_23922 := goodIn_r _ [8, 9, 10, 11, 12, 13] (by decide +kernel) (by decide +kernel)
set_option maxRecDepth 20000 in
theorem gJ2_checkBoundsBeginEnd_d044e_J0_checkBoundsBeginEnd_23922 : GoodIn wsJ2_checkBoundsBeginEnd_d044e (va_wsS RJ2 241 yJ0_checkBoundsBeginEnd_23922 wsJ0_checkBoundsBeginEnd_23922) := goodIn_app (goodIn_of _ (by decide +kernel)) ggJ2_checkBoundsBeginEnd_d044e_J0_checkBoundsBeginEnd_23922
theorem dJ2_checkBoundsBeginEnd_d044e_0 : decode cJ2_checkBoundsBeginEnd_d044e 0 = .ok (.iload_n 0, 1) := by decide +kernel
theorem dJ2_checkBoundsBeginEnd_d044e_1 : decode cJ2_checkBoundsBeginEnd_d044e 1 = .ok (.iload_n 1, 1) := by decide +kernel
theorem dJ2_checkBoundsBeginEnd_d044e_2 : decode cJ2_checkBoundsBeginEnd_d044e 2 = .ok (.aload_n 2, 1) := by decide +kernel
theorem dJ2_checkBoundsBeginEnd_d044e_3 : decode cJ2_checkBoundsBeginEnd_d044e 3 = .ok (.invokestatic 48, 3) := by decide +kernel
theorem dJ2_checkBoundsBeginEnd_d044e_6 : decode cJ2_checkBoundsBeginEnd_d044e 6 = .ok (.invokestatic 241, 3) := by decide +kernel
theorem dJ2_checkBoundsBeginEnd_d044e_9 : decode cJ2_checkBoundsBeginEnd_d044e 9 = .ok (.return_, 1) := by decide +kernel
set_option maxRecDepth 20000 in
theorem ggJ2_checkBoundsOffCount_d044e_J2_length_9d52b : GoodIn wsJ2_checkBoundsOffCount_d044e wsJ2_length_9d52b := goodIn_r _ [4] (by decide +kernel) (by decide +kernel)
set_option maxRecDepth 20000 in
theorem gJ2_checkBoundsOffCount_d044e_J2_length_9d52b : GoodIn wsJ2_checkBoundsOffCount_d044e (va_wsS RJ2 48 yJ2_length_9d52b wsJ2_length_9d52b) := goodIn_app (goodIn_of _ (by decide +kernel)) ggJ2_checkBoundsOffCount_d044e_J2_length_9d52b
set_option maxRecDepth 20000 in
theorem ggJ2_checkBoundsOffCount_d044e_J0_checkBoundsOffCount_cabcc : GoodIn wsJ2_checkBoundsOffCount_d044e wsJ0_checkBoundsOffCount_cabcc := goodIn_r _ [8, 9, 10, 11, 12, 13] (by decide +kernel) (by decide +kernel)
set_option maxRecDepth 20000 in
theorem gJ2_checkBoundsOffCount_d044e_J0_checkBoundsOffCount_cabcc : GoodIn wsJ2_checkBoundsOffCount_d044e (va_wsS RJ2 419 yJ0_checkBoundsOffCount_cabcc wsJ0_checkBoundsOffCount_cabcc) := goodIn_app (goodIn_of _ (by decide +kernel)) ggJ2_checkBoundsOffCount_d044e_J0_checkBoundsOffCount_cabcc
theorem dJ2_checkBoundsOffCount_d044e_0 : decode cJ2_checkBoundsOffCount_d044e 0 = .ok (.iload_n 0, 1) := by decide +kernel
theorem dJ2_checkBoundsOffCount_d044e_1 : decode cJ2_checkBoundsOffCount_d044e 1 = .ok (.iload_n 1, 1) := by decide +kernel
theorem dJ2_checkBoundsOffCount_d044e_2 : decode cJ2_checkBoundsOffCount_d044e 2 = .ok (.aload_n 2, 1) := by decide +kernel
theorem dJ2_checkBoundsOffCount_d044e_3 : decode cJ2_checkBoundsOffCount_d044e 3 = .ok (.invokestatic 48, 3) := by decide +kernel
theorem dJ2_checkBoundsOffCount_d044e_6 : decode cJ2_checkBoundsOffCount_d044e 6 = .ok (.invokestatic 419, 3) := by decide +kernel
theorem dJ2_checkBoundsOffCount_d044e_9 : decode cJ2_checkBoundsOffCount_d044e 9 = .ok (.pop, 1) := by decide +kernel
theorem dJ2_checkBoundsOffCount_d044e_10 : decode cJ2_checkBoundsOffCount_d044e 10 = .ok (.return_, 1) := by decide +kernel
theorem dJ7_copyOf_9075b_0 : decode cJ7_copyOf_9075b 0 = .ok (.iload_n 1, 1) := by decide +kernel
theorem dJ7_copyOf_9075b_1 : decode cJ7_copyOf_9075b 1 = .ok (.aload_n 0, 1) := by decide +kernel
theorem dJ7_copyOf_9075b_2 : decode cJ7_copyOf_9075b 2 = .ok (.arraylength, 1) := by decide +kernel
theorem dJ7_copyOf_9075b_3 : decode cJ7_copyOf_9075b 3 = .ok (.if_icmp .ne 11, 3) := by decide +kernel
theorem dJ7_copyOf_9075b_6 : decode cJ7_copyOf_9075b 6 = .ok (.aload_n 0, 1) := by decide +kernel
theorem dJ7_copyOf_9075b_7 : decode cJ7_copyOf_9075b 7 = .ok (.invokevirtual 310, 3) := by decide +kernel
theorem dJ7_copyOf_9075b_10 : decode cJ7_copyOf_9075b 10 = .ok (.checkcast 311, 3) := by decide +kernel
theorem dJ7_copyOf_9075b_13 : decode cJ7_copyOf_9075b 13 = .ok (.areturn, 1) := by decide +kernel
theorem dJ7_copyOf_9075b_14 : decode cJ7_copyOf_9075b 14 = .ok (.iload_n 1, 1) := by decide +kernel
theorem dJ7_copyOf_9075b_15 : decode cJ7_copyOf_9075b 15 = .ok (.newarray .byte, 2) := by decide +kernel
theorem dJ7_copyOf_9075b_17 : decode cJ7_copyOf_9075b 17 = .ok (.astore_n 2, 1) := by decide +kernel
theorem dJ7_copyOf_9075b_18 : decode cJ7_copyOf_9075b 18 = .ok (.aload_n 0, 1) := by decide +kernel
theorem dJ7_copyOf_9075b_19 : decode cJ7_copyOf_9075b 19 = .ok (.iconst 0, 1) := by decide +kernel
theorem dJ7_copyOf_9075b_20 : decode cJ7_copyOf_9075b 20 = .ok (.aload_n 2, 1) := by decide +kernel
theorem dJ7_copyOf_9075b_21 : decode cJ7_copyOf_9075b 21 = .ok (.iconst 0, 1) := by decide +kernel
theorem dJ7_copyOf_9075b_22 : decode cJ7_copyOf_9075b 22 = .ok (.aload_n 0, 1) := by decide +kernel
theorem dJ7_copyOf_9075b_23 : decode cJ7_copyOf_9075b 23 = .ok (.arraylength, 1) := by decide +kernel
theorem dJ7_copyOf_9075b_24 : decode cJ7_copyOf_9075b 24 = .ok (.iload_n 1, 1) := by decide +kernel
theorem dJ7_copyOf_9075b_25 : decode cJ7_copyOf_9075b 25 = .ok (.invokestatic 304, 3) := by decide +kernel
theorem dJ7_copyOf_9075b_28 : decode cJ7_copyOf_9075b 28 = .ok (.invokestatic 150, 3) := by decide +kernel
theorem dJ7_copyOf_9075b_31 : decode cJ7_copyOf_9075b 31 = .ok (.aload_n 2, 1) := by decide +kernel
theorem dJ7_copyOf_9075b_32 : decode cJ7_copyOf_9075b 32 = .ok (.areturn, 1) := by decide +kernel
theorem dJ7_checkLength_df160_0 : decode cJ7_checkLength_df160 0 = .ok (.iload_n 1, 1) := by decide +kernel
theorem dJ7_checkLength_df160_1 : decode cJ7_checkLength_df160 1 = .ok (.iload_n 0, 1) := by decide +kernel
theorem dJ7_checkLength_df160_2 : decode cJ7_checkLength_df160 2 = .ok (.if_icmp .ge 35, 3) := by decide +kernel
theorem dJ7_checkLength_df160_5 : decode cJ7_checkLength_df160 5 = .ok (.new 43, 3) := by decide +kernel
theorem dJ7_checkLength_df160_8 : decode cJ7_checkLength_df160 8 = .ok (.dup, 1) := by decide +kernel
theorem dJ7_checkLength_df160_9 : decode cJ7_checkLength_df160 9 = .ok (.new 45, 3) := by decide +kernel
theorem dJ7_checkLength_df160_12 : decode cJ7_checkLength_df160 12 = .ok (.dup, 1) := by decide +kernel
theorem dJ7_checkLength_df160_13 : decode cJ7_checkLength_df160 13 = .ok (.invokespecial 47, 3) := by decide +kernel
theorem dJ7_checkLength_df160_16 : decode cJ7_checkLength_df160 16 = .ok (.iload_n 0, 1) := by decide +kernel
theorem dJ7_checkLength_df160_17 : decode cJ7_checkLength_df160 17 = .ok (.invokevirtual 54, 3) := by decide +kernel
theorem dJ7_checkLength_df160_20 : decode cJ7_checkLength_df160 20 = .ok (.ldc_w 337, 3) := by decide +kernel
theorem dJ7_checkLength_df160_23 : decode cJ7_checkLength_df160 23 = .ok (.invokevirtual 50, 3) := by decide +kernel
theorem dJ7_checkLength_df160_26 : decode cJ7_checkLength_df160 26 = .ok (.iload_n 1, 1) := by decide +kernel
theorem dJ7_checkLength_df160_27 : decode cJ7_checkLength_df160 27 = .ok (.invokevirtual 54, 3) := by decide +kernel
theorem dJ7_checkLength_df160_30 : decode cJ7_checkLength_df160 30 = .ok (.invokevirtual 61, 3) := by decide +kernel
theorem dJ7_checkLength_df160_33 : decode cJ7_checkLength_df160 33 = .ok (.invokespecial 65, 3) := by decide +kernel
theorem dJ7_checkLength_df160_36 : decode cJ7_checkLength_df160 36 = .ok (.athrow, 1) := by decide +kernel
theorem dJ7_checkLength_df160_37 : decode cJ7_checkLength_df160 37 = .ok (.return_, 1) := by decide +kernel
set_option maxRecDepth 20000 in
theorem ggJ7_copyOfRange_39247_J7_copyOfRangeByte_39247 : GoodIn wsJ7_copyOfRange_39247 wsJ7_copyOfRangeByte_39247 := goodIn_r _ [10, 11, 12, 13, 14, 15, 16, 17, 18, 19, 20, 21, 9, 22] (by decide +kernel) (by decide +kernel)
set_option maxRecDepth 20000 in
theorem gJ7_copyOfRange_39247_J7_copyOfRangeByte_39247 : GoodIn wsJ7_copyOfRange_39247 (va_wsS RJ7 339 yJ7_copyOfRangeByte_39247 wsJ7_copyOfRangeByte_39247) := goodIn_app (goodIn_of _ (by decide +kernel)) ggJ7_copyOfRange_39247_J7_copyOfRangeByte_39247
theorem dJ7_copyOfRange_39247_0 : decode cJ7_copyOfRange_39247 0 = .ok (.iload_n 1, 1) := by decide +kernel
theorem dJ7_copyOfRange_39247_1 : decode cJ7_copyOfRange_39247 1 = .ok (.ifCond .ne 9, 3) := by decide +kernel
theorem dJ7_copyOfRange_39247_4 : decode cJ7_copyOfRange_39247 4 = .ok (.iload_n 2, 1) := by decide +kernel
theorem dJ7_copyOfRange_39247_5 : decode cJ7_copyOfRange_39247 5 = .ok (.aload_n 0, 1) := by decide +kernel
theorem dJ7_copyOfRange_39247_6 : decode cJ7_copyOfRange_39247 6 = .ok (.arraylength, 1) := by decide +kernel
theorem dJ7_copyOfRange_39247_7 : decode cJ7_copyOfRange_39247 7 = .ok (.if_icmp .eq 10, 3) := by decide +kernel
theorem dJ7_copyOfRange_39247_10 : decode cJ7_copyOfRange_39247 10 = .ok (.aload_n 0, 1) := by decide +kernel
theorem dJ7_copyOfRange_39247_11 : decode cJ7_copyOfRange_39247 11 = .ok (.iload_n 1, 1) := by decide +kernel
theorem dJ7_copyOfRange_39247_12 : decode cJ7_copyOfRange_39247 12 = .ok (.iload_n 2, 1) := by decide +kernel
theorem dJ7_copyOfRange_39247_13 : decode cJ7_copyOfRange_39247 13 = .ok (.invokestatic 339, 3) := by decide +kernel
theorem dJ7_copyOfRange_39247_16 : decode cJ7_copyOfRange_39247 16 = .ok (.areturn, 1) := by decide +kernel
theorem dJ7_copyOfRange_39247_17 : decode cJ7_copyOfRange_39247 17 = .ok (.aload_n 0, 1) := by decide +kernel
theorem dJ7_copyOfRange_39247_18 : decode cJ7_copyOfRange_39247 18 = .ok (.invokevirtual 310, 3) := by decide +kernel
theorem dJ7_copyOfRange_39247_21 : decode cJ7_copyOfRange_39247 21 = .ok (.checkcast 311, 3) := by decide +kernel
theorem dJ7_copyOfRange_39247_24 : decode cJ7_copyOfRange_39247 24 = .ok (.areturn, 1) := by decide +kernel
