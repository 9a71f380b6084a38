theorem dX0_plainNaN_0 : decode cX0_plainNaN 0 = .ok (.aload_n 0, 1) := by decide +kernel
theorem dX0_plainNaN_1 : decode cX0_plainNaN 1 = .ok (.getfield 36, 3) := by decide +kernel
theorem dX0_plainNaN_4 : decode cX0_plainNaN 4 = .ok (.lconst 1, 1) := by decide +kernel
theorem dX0_plainNaN_5 : decode cX0_plainNaN 5 = .ok (.aload_n 0, 1) := by decide +kernel
theorem dX0_plainNaN_6 : decode cX0_plainNaN 6 = .ok (.getfield 29, 3) := by decide +kernel
theorem dX0_plainNaN_9 : decode cX0_plainNaN 9 = .ok (.iconst 1, 1) := by decide +kernel
theorem dX0_plainNaN_10 : decode cX0_plainNaN 10 = .ok (.isub, 1) := by decide +kernel
theorem dX0_plainNaN_11 : decode cX0_plainNaN 11 = .ok (.lshl, 1) := by decide +kernel
theorem dX0_plainNaN_12 : decode cX0_plainNaN 12 = .ok (.ladd, 1) := by decide +kernel
theorem dX0_plainNaN_13 : decode cX0_plainNaN 13 = .ok (.lreturn, 1) := by decide +kernel
theorem dX0_magnitude_0 : decode cX0_magnitude 0 = .ok (.lload_n 1, 1) := by decide +kernel
theorem dX0_magnitude_1 : decode cX0_magnitude 1 = .ok (.aload_n 0, 1) := by decide +kernel
theorem dX0_magnitude_2 : decode cX0_magnitude 2 = .ok (.getfield 40, 3) := by decide +kernel
theorem dX0_magnitude_5 : decode cX0_magnitude 5 = .ok (.lconst 1, 1) := by decide +kernel
theorem dX0_magnitude_6 : decode cX0_magnitude 6 = .ok (.lsub, 1) := by decide +kernel
theorem dX0_magnitude_7 : decode cX0_magnitude 7 = .ok (.land, 1) := by decide +kernel
theorem dX0_magnitude_8 : decode cX0_magnitude 8 = .ok (.lreturn, 1) := by decide +kernel
theorem dX0_isNegative_0 : decode cX0_isNegative 0 = .ok (.lload_n 1, 1) := by decide +kernel
theorem dX0_isNegative_1 : decode cX0_isNegative 1 = .ok (.aload_n 0, 1) := by decide +kernel
theorem dX0_isNegative_2 : decode cX0_isNegative 2 = .ok (.getfield 40, 3) := by decide +kernel
theorem dX0_isNegative_5 : decode cX0_isNegative 5 = .ok (.land, 1) := by decide +kernel
theorem dX0_isNegative_6 : decode cX0_isNegative 6 = .ok (.lconst 0, 1) := by decide +kernel
theorem dX0_isNegative_7 : decode cX0_isNegative 7 = .ok (.lcmp, 1) := by decide +kernel
theorem dX0_isNegative_8 : decode cX0_isNegative 8 = .ok (.ifCond .eq 7, 3) := by decide +kernel
theorem dX0_isNegative_11 : decode cX0_isNegative 11 = .ok (.iconst 1, 1) := by decide +kernel
theorem dX0_isNegative_12 : decode cX0_isNegative 12 = .ok (.goto 4, 3) := by decide +kernel
theorem dX0_isNegative_15 : decode cX0_isNegative 15 = .ok (.iconst 0, 1) := by decide +kernel
theorem dX0_isNegative_16 : decode cX0_isNegative 16 = .ok (.ireturn, 1) := by decide +kernel
set_option maxRecDepth 20000 in
theorem ggX0_isNaN_X0_magnitude : GoodIn wsX0_isNaN wsX0_magnitude := goodIn_r _ [6, 7] rfl (by decide +kernel)
set_option maxRecDepth 20000 in
theorem gX0_isNaN_X0_magnitude : GoodIn wsX0_isNaN (wsV RX0 43 RX0 yX0_magnitude wsX0_magnitude) := goodIn_app (goodIn_of _ (by decide +kernel)) ggX0_isNaN_X0_magnitude
theorem dX0_isNaN_0 : decode cX0_isNaN 0 = .ok (.aload_n 0, 1) := by decide +kernel
theorem dX0_isNaN_1 : decode cX0_isNaN 1 = .ok (.lload_n 1, 1) := by decide +kernel
theorem dX0_isNaN_2 : decode cX0_isNaN 2 = .ok (.invokevirtual 43, 3) := by decide +kernel
theorem dX0_isNaN_5 : decode cX0_isNaN 5 = .ok (.aload_n 0, 1) := by decide +kernel
theorem dX0_isNaN_6 : decode cX0_isNaN 6 = .ok (.getfield 36, 3) := by decide +kernel
theorem dX0_isNaN_9 : decode cX0_isNaN 9 = .ok (.lcmp, 1) := by decide +kernel
theorem dX0_isNaN_10 : decode cX0_isNaN 10 = .ok (.ifCond .le 7, 3) := by decide +kernel
theorem dX0_isNaN_13 : decode cX0_isNaN 13 = .ok (.iconst 1, 1) := by decide +kernel
theorem dX0_isNaN_14 : decode cX0_isNaN 14 = .ok (.goto 4, 3) := by decide +kernel
theorem dX0_isNaN_17 : decode cX0_isNaN 17 = .ok (.iconst 0, 1) := by decide +kernel
theorem dX0_isNaN_18 : decode cX0_isNaN 18 = .ok (.ireturn, 1) := by decide +kernel
set_option maxRecDepth 20000 in
theorem ggX0_isInfinite_X0_magnitude : GoodIn wsX0_isInfinite wsX0_magnitude := goodIn_r _ [6, 7] rfl (by decide +kernel)
set_option maxRecDepth 20000 in
theorem gX0_isInfinite_X0_magnitude : GoodIn wsX0_isInfinite (wsV RX0 43 RX0 yX0_magnitude wsX0_magnitude) := goodIn_app (goodIn_of _ (by decide +kernel)) ggX0_isInfinite_X0_magnitude
theorem dX0_isInfinite_0 : decode cX0_isInfinite 0 = .ok (.aload_n 0, 1) := by decide +kernel
theorem dX0_isInfinite_1 : decode cX0_isInfinite 1 = .ok (.lload_n 1, 1) := by decide +kernel
theorem dX0_isInfinite_2 : decode cX0_isInfinite 2 = .ok (.invokevirtual 43, 3) := by decide +kernel
theorem dX0_isInfinite_5 : decode cX0_isInfinite 5 = .ok (.aload_n 0, 1) := by decide +kernel
theorem dX0_isInfinite_6 : decode cX0_isInfinite 6 = .ok (.getfield 36, 3) := by decide +kernel
theorem dX0_isInfinite_9 : decode cX0_isInfinite 9 = .ok (.lcmp, 1) := by decide +kernel
theorem dX0_isInfinite_10 : decode cX0_isInfinite 10 = .ok (.ifCond .ne 7, 3) := by decide +kernel
theorem dX0_isInfinite_13 : decode cX0_isInfinite 13 = .ok (.iconst 1, 1) := by decide +kernel
theorem dX0_isInfinite_14 : decode cX0_isInfinite 14 = .ok (.goto 4, 3) := by decide +kernel
theorem dX0_isInfinite_17 : decode cX0_isInfinite 17 = .ok (.iconst 0, 1) := by decide +kernel
theorem dX0_isInfinite_18 : decode cX0_isInfinite 18 = .ok (.ireturn, 1) := by decide +kernel
set_option maxRecDepth 20000 in
theorem ggX0_isZero_X0_magnitude : GoodIn wsX0_isZero wsX0_magnitude := goodIn_r _ [5, 6] rfl (by decide +kernel)
set_option maxRecDepth 20000 in
theorem gX0_isZero_X0_magnitude : GoodIn wsX0_isZero (wsV RX0 43 RX0 yX0_magnitude wsX0_magnitude) := goodIn_app (goodIn_of _ (by decide +kernel)) ggX0_isZero_X0_magnitude
theorem dX0_isZero_0 : decode cX0_isZero 0 = .ok (.aload_n 0, 1) := by decide +kernel
theorem dX0_isZero_1 : decode cX0_isZero 1 = .ok (.lload_n 1, 1) := by decide +kernel
theorem dX0_isZero_2 : decode cX0_isZero 2 = .ok (.invokevirtual 43, 3) := by decide +kernel
theorem dX0_isZero_5 : decode cX0_isZero 5 = .ok (.lconst 0, 1) := by decide +kernel
theorem dX0_isZero_6 : decode cX0_isZero 6 = .ok (.lcmp, 1) := by decide +kernel
theorem dX0_isZero_7 : decode cX0_isZero 7 = .ok (.ifCond .ne 7, 3) := by decide +kernel
theorem dX0_isZero_10 : decode cX0_isZero 10 = .ok (.iconst 1, 1) := by decide +kernel
theorem dX0_isZero_11 : decode cX0_isZero 11 = .ok (.goto 4, 3) := by decide +kernel
theorem dX0_isZero_14 : decode cX0_isZero 14 = .ok (.iconst 0, 1) := by decide +kernel
theorem dX0_isZero_15 : decode cX0_isZero 15 = .ok (.ireturn, 1) := by decide +kernel
set_option maxRecDepth 20000 in
theorem ggX0_missingPlaces_X0_magnitude : GoodIn wsX0_missingPlaces wsX0_magnitude := goodIn_r _ [6, 7] rfl (by decide +kernel)
set_option maxRecDepth 20000 in
theorem gX0_missingPlaces_X0_magnitude : GoodIn wsX0_missingPlaces (wsV RX0 43 RX0 yX0_magnitude wsX0_magnitude) := goodIn_app (goodIn_of _ (by decide +kernel)) ggX0_missingPlaces_X0_magnitude
set_option maxRecDepth 20000 in
theorem ggX0_missingPlaces_X0_highestBit : GoodIn wsX0_missingPlaces wsX0_highestBit := goodIn_r _ [10] rfl (by decide +kernel)
set_option maxRecDepth 20000 in
theorem gX0_missingPlaces_X0_highestBit : GoodIn wsX0_missingPlaces (va_wsS RX0 47 yX0_highestBit wsX0_highestBit) := goodIn_app (goodIn_of _ (by decide +kernel)) ggX0_missingPlaces_X0_highestBit
theorem dX0_missingPlaces_0 : decode cX0_missingPlaces 0 = .ok (.aload_n 0, 1) := by decide +kernel
theorem dX0_missingPlaces_1 : decode cX0_missingPlaces 1 = .ok (.lload_n 1, 1) := by decide +kernel
theorem dX0_missingPlaces_2 : decode cX0_missingPlaces 2 = .ok (.invokevirtual 43, 3) := by decide +kernel
theorem dX0_missingPlaces_5 : decode cX0_missingPlaces 5 = .ok (.lstore_n 3, 1) := by decide +kernel
theorem dX0_missingPlaces_6 : decode cX0_missingPlaces 6 = .ok (.lload_n 3, 1) := by decide +kernel
theorem dX0_missingPlaces_7 : decode cX0_missingPlaces 7 = .ok (.lconst 1, 1) := by decide +kernel
theorem dX0_missingPlaces_8 : decode cX0_missingPlaces 8 = .ok (.aload_n 0, 1) := by decide +kernel
theorem dX0_missingPlaces_9 : decode cX0_missingPlaces 9 = .ok (.getfield 29, 3) := by decide +kernel
theorem dX0_missingPlaces_12 : decode cX0_missingPlaces 12 = .ok (.lshl, 1) := by decide +kernel
theorem dX0_missingPlaces_13 : decode cX0_missingPlaces 13 = .ok (.lcmp, 1) := by decide +kernel
theorem dX0_missingPlaces_14 : decode cX0_missingPlaces 14 = .ok (.ifCond .ge 15, 3) := by decide +kernel
theorem dX0_missingPlaces_17 : decode cX0_missingPlaces 17 = .ok (.aload_n 0, 1) := by decide +kernel
theorem dX0_missingPlaces_18 : decode cX0_missingPlaces 18 = .ok (.getfield 29, 3) := by decide +kernel
theorem dX0_missingPlaces_21 : decode cX0_missingPlaces 21 = .ok (.lload_n 3, 1) := by decide +kernel
theorem dX0_missingPlaces_22 : decode cX0_missingPlaces 22 = .ok (.invokestatic 47, 3) := by decide +kernel
theorem dX0_missingPlaces_25 : decode cX0_missingPlaces 25 = .ok (.isub, 1) := by decide +kernel
theorem dX0_missingPlaces_26 : decode cX0_missingPlaces 26 = .ok (.goto 4, 3) := by decide +kernel
theorem dX0_missingPlaces_29 : decode cX0_missingPlaces 29 = .ok (.iconst 0, 1) := by decide +kernel
theorem dX0_missingPlaces_30 : decode cX0_missingPlaces 30 = .ok (.ireturn, 1) := by decide +kernel
set_option maxRecDepth 20000 in
theorem ggX0_significand_X0_magnitude : GoodIn wsX0_significand wsX0_magnitude := goodIn_r _ [6, 7] rfl (by decide +kernel)
set_option maxRecDepth 20000 in
theorem gX0_significand_X0_magnitude : GoodIn wsX0_significand (wsV RX0 43 RX0 yX0_magnitude wsX0_magnitude) := goodIn_app (goodIn_of _ (by decide +kernel)) ggX0_significand_X0_magnitude
set_option maxRecDepth 20000 in
theorem ggX0_significand_X0_missingPlaces : GoodIn wsX0_significand wsX0_missingPlaces := goodIn_r _ [11, 1, 2, 3, 4, 5, 6, 7, 12, 13, 14] rfl (by decide +kernel)
set_option maxRecDepth 20000 in
theorem gX0_significand_X0_missingPlaces : GoodIn wsX0_significand (wsV RX0 51 RX0 yX0_missingPlaces wsX0_missingPlaces) := goodIn_app (goodIn_of _ (by decide +kernel)) ggX0_significand_X0_missingPlaces
theorem dX0_significand_0 : decode cX0_significand 0 = .ok (.lconst 1, 1) := by decide +kernel
theorem dX0_significand_1 : decode cX0_significand 1 = .ok (.aload_n 0, 1) := by decide +kernel
theorem dX0_significand_2 : decode cX0_significand 2 = .ok (.getfield 29, 3) := by decide +kernel
theorem dX0_significand_5 : decode cX0_significand 5 = .ok (.lshl, 1) := by decide +kernel
theorem dX0_significand_6 : decode cX0_significand 6 = .ok (.lstore_n 3, 1) := by decide +kernel
theorem dX0_significand_7 : decode cX0_significand 7 = .ok (.aload_n 0, 1) := by decide +kernel
theorem dX0_significand_8 : decode cX0_significand 8 = .ok (.lload_n 1, 1) := by decide +kernel
theorem dX0_significand_9 : decode cX0_significand 9 = .ok (.invokevirtual 43, 3) := by decide +kernel
theorem dX0_significand_12 : decode cX0_significand 12 = .ok (.lstore 5, 2) := by decide +kernel
theorem dX0_significand_14 : decode cX0_significand 14 = .ok (.lload 5, 2) := by decide +kernel
theorem dX0_significand_16 : decode cX0_significand 16 = .ok (.lload_n 3, 1) := by decide +kernel
theorem dX0_significand_17 : decode cX0_significand 17 = .ok (.lcmp, 1) := by decide +kernel
theorem dX0_significand_18 : decode cX0_significand 18 = .ok (.ifCond .ge 12, 3) := by decide +kernel
theorem dX0_significand_21 : decode cX0_significand 21 = .ok (.lload 5, 2) := by decide +kernel
theorem dX0_significand_23 : decode cX0_significand 23 = .ok (.aload_n 0, 1) := by decide +kernel
theorem dX0_significand_24 : decode cX0_significand 24 = .ok (.lload_n 1, 1) := by decide +kernel
theorem dX0_significand_25 : decode cX0_significand 25 = .ok (.invokevirtual 51, 3) := by decide +kernel
theorem dX0_significand_28 : decode cX0_significand 28 = .ok (.lshl, 1) := by decide +kernel
theorem dX0_significand_29 : decode cX0_significand 29 = .ok (.lreturn, 1) := by decide +kernel
theorem dX0_significand_30 : decode cX0_significand 30 = .ok (.lload 5, 2) := by decide +kernel
theorem dX0_significand_32 : decode cX0_significand 32 = .ok (.lload_n 3, 1) := by decide +kernel
theorem dX0_significand_33 : decode cX0_significand 33 = .ok (.lconst 1, 1) := by decide +kernel
theorem dX0_significand_34 : decode cX0_significand 34 = .ok (.lsub, 1) := by decide +kernel
theorem dX0_significand_35 : decode cX0_significand 35 = .ok (.land, 1) := by decide +kernel
theorem dX0_significand_36 : decode cX0_significand 36 = .ok (.lload_n 3, 1) := by decide +kernel
theorem dX0_significand_37 : decode cX0_significand 37 = .ok (.lor, 1) := by decide +kernel
theorem dX0_significand_38 : decode cX0_significand 38 = .ok (.lreturn, 1) := by decide +kernel
set_option maxRecDepth 20000 in
theorem ggX0_exponent_X0_magnitude : GoodIn wsX0_exponent wsX0_magnitude := goodIn_r _ [11, 12] rfl (by decide +kernel)
set_option maxRecDepth 20000 in
theorem gX0_exponent_X0_magnitude : GoodIn wsX0_exponent (wsV RX0 43 RX0 yX0_magnitude wsX0_magnitude) := goodIn_app (goodIn_of _ (by decide +kernel)) ggX0_exponent_X0_magnitude
set_option maxRecDepth 20000 in
theorem ggX0_exponent_X0_missingPlaces : GoodIn wsX0_exponent wsX0_missingPlaces := goodIn_r _ [16, 1, 7, 8, 9, 10, 11, 12, 17, 18, 19] rfl (by decide +kernel)
set_option maxRecDepth 20000 in
theorem gX0_exponent_X0_missingPlaces : GoodIn wsX0_exponent (wsV RX0 51 RX0 yX0_missingPlaces wsX0_missingPlaces) := goodIn_app (goodIn_of _ (by decide +kernel)) ggX0_exponent_X0_missingPlaces
theorem dX0_exponent_0 : decode cX0_exponent 0 = .ok (.aload_n 0, 1) := by decide +kernel
theorem dX0_exponent_1 : decode cX0_exponent 1 = .ok (.lload_n 1, 1) := by decide +kernel
theorem dX0_exponent_2 : decode cX0_exponent 2 = .ok (.invokevirtual 43, 3) := by decide +kernel
theorem dX0_exponent_5 : decode cX0_exponent 5 = .ok (.aload_n 0, 1) := by decide +kernel
theorem dX0_exponent_6 : decode cX0_exponent 6 = .ok (.getfield 29, 3) := by decide +kernel
theorem dX0_exponent_9 : decode cX0_exponent 9 = .ok (.lushr, 1) := by decide +kernel
theorem dX0_exponent_10 : decode cX0_exponent 10 = .ok (.l2i, 1) := by decide +kernel
theorem dX0_exponent_11 : decode cX0_exponent 11 = .ok (.istore_n 3, 1) := by decide +kernel
theorem dX0_exponent_12 : decode cX0_exponent 12 = .ok (.aload_n 0, 1) := by decide +kernel
theorem dX0_exponent_13 : decode cX0_exponent 13 = .ok (.getfield 33, 3) := by decide +kernel
theorem dX0_exponent_16 : decode cX0_exponent 16 = .ok (.iload_n 3, 1) := by decide +kernel
theorem dX0_exponent_17 : decode cX0_exponent 17 = .ok (.iconst 1, 1) := by decide +kernel
theorem dX0_exponent_18 : decode cX0_exponent 18 = .ok (.isub, 1) := by decide +kernel
theorem dX0_exponent_19 : decode cX0_exponent 19 = .ok (.iconst 0, 1) := by decide +kernel
theorem dX0_exponent_20 : decode cX0_exponent 20 = .ok (.invokestatic 54, 3) := by decide +kernel
theorem dX0_exponent_23 : decode cX0_exponent 23 = .ok (.iadd, 1) := by decide +kernel
theorem dX0_exponent_24 : decode cX0_exponent 24 = .ok (.aload_n 0, 1) := by decide +kernel
theorem dX0_exponent_25 : decode cX0_exponent 25 = .ok (.lload_n 1, 1) := by decide +kernel
theorem dX0_exponent_26 : decode cX0_exponent 26 = .ok (.invokevirtual 51, 3) := by decide +kernel
theorem dX0_exponent_29 : decode cX0_exponent 29 = .ok (.isub, 1) := by decide +kernel
theorem dX0_exponent_30 : decode cX0_exponent 30 = .ok (.ireturn, 1) := by decide +kernel
set_option maxRecDepth 20000 in
theorem ggX0_pack_X0_highestBit : GoodIn wsX0_pack wsX0_highestBit := goodIn_r _ [12] rfl (by decide +kernel)
set_option maxRecDepth 20000 in
theorem gX0_pack_X0_highestBit : GoodIn wsX0_pack (va_wsS RX0 47 yX0_highestBit wsX0_highestBit) := goodIn_app (goodIn_of _ (by decide +kernel)) ggX0_pack_X0_highestBit
set_option maxRecDepth 20000 in
theorem ggX0_pack_X0_rounded : GoodIn wsX0_pack wsX0_rounded := goodIn_r _ [15] rfl (by decide +kernel)
set_option maxRecDepth 20000 in
theorem gX0_pack_X0_rounded : GoodIn wsX0_pack (va_wsS RX0 60 yX0_rounded wsX0_rounded) := goodIn_app (goodIn_of _ (by decide +kernel)) ggX0_pack_X0_rounded
theorem dX0_pack_0 : decode cX0_pack 0 = .ok (.iload_n 1, 1) := by decide +kernel
theorem dX0_pack_1 : decode cX0_pack 1 = .ok (.ifCond .eq 10, 3) := by decide +kernel
theorem dX0_pack_4 : decode cX0_pack 4 = .ok (.aload_n 0, 1) := by decide +kernel
theorem dX0_pack_5 : decode cX0_pack 5 = .ok (.getfield 40, 3) := by decide +kernel
theorem dX0_pack_8 : decode cX0_pack 8 = .ok (.goto 4, 3) := by decide +kernel
theorem dX0_pack_11 : decode cX0_pack 11 = .ok (.lconst 0, 1) := by decide +kernel
theorem dX0_pack_12 : decode cX0_pack 12 = .ok (.lstore 5, 2) := by decide +kernel
theorem dX0_pack_14 : decode cX0_pack 14 = .ok (.lload_n 3, 1) := by decide +kernel
theorem dX0_pack_15 : decode cX0_pack 15 = .ok (.lconst 0, 1) := by decide +kernel
theorem dX0_pack_16 : decode cX0_pack 16 = .ok (.lcmp, 1) := by decide +kernel
theorem dX0_pack_17 : decode cX0_pack 17 = .ok (.ifCond .ne 6, 3) := by decide +kernel
theorem dX0_pack_20 : decode cX0_pack 20 = .ok (.lload 5, 2) := by decide +kernel
theorem dX0_pack_22 : decode cX0_pack 22 = .ok (.lreturn, 1) := by decide +kernel
theorem dX0_pack_23 : decode cX0_pack 23 = .ok (.iload_n 2, 1) := by decide +kernel
theorem dX0_pack_24 : decode cX0_pack 24 = .ok (.lload_n 3, 1) := by decide +kernel
theorem dX0_pack_25 : decode cX0_pack 25 = .ok (.invokestatic 47, 3) := by decide +kernel
theorem dX0_pack_28 : decode cX0_pack 28 = .ok (.iadd, 1) := by decide +kernel
theorem dX0_pack_29 : decode cX0_pack 29 = .ok (.aload_n 0, 1) := by decide +kernel
theorem dX0_pack_30 : decode cX0_pack 30 = .ok (.getfield 29, 3) := by decide +kernel
theorem dX0_pack_33 : decode cX0_pack 33 = .ok (.isub, 1) := by decide +kernel
theorem dX0_pack_34 : decode cX0_pack 34 = .ok (.aload_n 0, 1) := by decide +kernel
theorem dX0_pack_35 : decode cX0_pack 35 = .ok (.getfield 33, 3) := by decide +kernel
theorem dX0_pack_38 : decode cX0_pack 38 = .ok (.invokestatic 54, 3) := by decide +kernel
theorem dX0_pack_41 : decode cX0_pack 41 = .ok (.istore 7, 2) := by decide +kernel
theorem dX0_pack_43 : decode cX0_pack 43 = .ok (.iload 7, 2) := by decide +kernel
theorem dX0_pack_45 : decode cX0_pack 45 = .ok (.aload_n 0, 1) := by decide +kernel
theorem dX0_pack_46 : decode cX0_pack 46 = .ok (.getfield 33, 3) := by decide +kernel
theorem dX0_pack_49 : decode cX0_pack 49 = .ok (.isub, 1) := by decide +kernel
theorem dX0_pack_50 : decode cX0_pack 50 = .ok (.i2l, 1) := by decide +kernel
theorem dX0_pack_51 : decode cX0_pack 51 = .ok (.lstore 8, 2) := by decide +kernel
theorem dX0_pack_53 : decode cX0_pack 53 = .ok (.lload 8, 2) := by decide +kernel
theorem dX0_pack_55 : decode cX0_pack 55 = .ok (.aload_n 0, 1) := by decide +kernel
theorem dX0_pack_56 : decode cX0_pack 56 = .ok (.getfield 36, 3) := by decide +kernel
theorem dX0_pack_59 : decode cX0_pack 59 = .ok (.aload_n 0, 1) := by decide +kernel
theorem dX0_pack_60 : decode cX0_pack 60 = .ok (.getfield 29, 3) := by decide +kernel
theorem dX0_pack_63 : decode cX0_pack 63 = .ok (.lushr, 1) := by decide +kernel
theorem dX0_pack_64 : decode cX0_pack 64 = .ok (.lconst 1, 1) := by decide +kernel
theorem dX0_pack_65 : decode cX0_pack 65 = .ok (.lsub, 1) := by decide +kernel
theorem dX0_pack_66 : decode cX0_pack 66 = .ok (.lcmp, 1) := by decide +kernel
theorem dX0_pack_67 : decode cX0_pack 67 = .ok (.ifCond .lt 11, 3) := by decide +kernel
theorem dX0_pack_70 : decode cX0_pack 70 = .ok (.lload 5, 2) := by decide +kernel
theorem dX0_pack_72 : decode cX0_pack 72 = .ok (.aload_n 0, 1) := by decide +kernel
theorem dX0_pack_73 : decode cX0_pack 73 = .ok (.getfield 36, 3) := by decide +kernel
theorem dX0_pack_76 : decode cX0_pack 76 = .ok (.lor, 1) := by decide +kernel
theorem dX0_pack_77 : decode cX0_pack 77 = .ok (.lreturn, 1) := by decide +kernel
theorem dX0_pack_78 : decode cX0_pack 78 = .ok (.lload 5, 2) := by decide +kernel
theorem dX0_pack_80 : decode cX0_pack 80 = .ok (.lload 8, 2) := by decide +kernel
theorem dX0_pack_82 : decode cX0_pack 82 = .ok (.aload_n 0, 1) := by decide +kernel
theorem dX0_pack_83 : decode cX0_pack 83 = .ok (.getfield 29, 3) := by decide +kernel
theorem dX0_pack_86 : decode cX0_pack 86 = .ok (.lshl, 1) := by decide +kernel
theorem dX0_pack_87 : decode cX0_pack 87 = .ok (.lload_n 3, 1) := by decide +kernel
theorem dX0_pack_88 : decode cX0_pack 88 = .ok (.iload 7, 2) := by decide +kernel
theorem dX0_pack_90 : decode cX0_pack 90 = .ok (.iload_n 2, 1) := by decide +kernel
theorem dX0_pack_91 : decode cX0_pack 91 = .ok (.isub, 1) := by decide +kernel
theorem dX0_pack_92 : decode cX0_pack 92 = .ok (.invokestatic 60, 3) := by decide +kernel
theorem dX0_pack_95 : decode cX0_pack 95 = .ok (.ladd, 1) := by decide +kernel
theorem dX0_pack_96 : decode cX0_pack 96 = .ok (.lor, 1) := by decide +kernel
theorem dX0_pack_97 : decode cX0_pack 97 = .ok (.lreturn, 1) := by decide +kernel
theorem dX0_rounded_0 : decode cX0_rounded 0 = .ok (.iload_n 2, 1) := by decide +kernel
theorem dX0_rounded_1 : decode cX0_rounded 1 = .ok (.ifCond .gt 8, 3) := by decide +kernel
theorem dX0_rounded_4 : decode cX0_rounded 4 = .ok (.lload_n 0, 1) := by decide +kernel
theorem dX0_rounded_5 : decode cX0_rounded 5 = .ok (.iload_n 2, 1) := by decide +kernel
theorem dX0_rounded_6 : decode cX0_rounded 6 = .ok (.ineg, 1) := by decide +kernel
theorem dX0_rounded_7 : decode cX0_rounded 7 = .ok (.lshl, 1) := by decide +kernel
theorem dX0_rounded_8 : decode cX0_rounded 8 = .ok (.lreturn, 1) := by decide +kernel
theorem dX0_rounded_9 : decode cX0_rounded 9 = .ok (.iload_n 2, 1) := by decide +kernel
theorem dX0_rounded_10 : decode cX0_rounded 10 = .ok (.bipush 63, 2) := by decide +kernel
theorem dX0_rounded_12 : decode cX0_rounded 12 = .ok (.if_icmp .le 5, 3) := by decide +kernel
theorem dX0_rounded_15 : decode cX0_rounded 15 = .ok (.lconst 0, 1) := by decide +kernel
theorem dX0_rounded_16 : decode cX0_rounded 16 = .ok (.lreturn, 1) := by decide +kernel
theorem dX0_rounded_17 : decode cX0_rounded 17 = .ok (.lload_n 0, 1) := by decide +kernel
theorem dX0_rounded_18 : decode cX0_rounded 18 = .ok (.iload_n 2, 1) := by decide +kernel
theorem dX0_rounded_19 : decode cX0_rounded 19 = .ok (.lushr, 1) := by decide +kernel
theorem dX0_rounded_20 : decode cX0_rounded 20 = .ok (.lstore_n 3, 1) := by decide +kernel
theorem dX0_rounded_21 : decode cX0_rounded 21 = .ok (.lload_n 0, 1) := by decide +kernel
theorem dX0_rounded_22 : decode cX0_rounded 22 = .ok (.lload_n 3, 1) := by decide +kernel
theorem dX0_rounded_23 : decode cX0_rounded 23 = .ok (.iload_n 2, 1) := by decide +kernel
theorem dX0_rounded_24 : decode cX0_rounded 24 = .ok (.lshl, 1) := by decide +kernel
theorem dX0_rounded_25 : decode cX0_rounded 25 = .ok (.lsub, 1) := by decide +kernel
theorem dX0_rounded_26 : decode cX0_rounded 26 = .ok (.lstore 5, 2) := by decide +kernel
theorem dX0_rounded_28 : decode cX0_rounded 28 = .ok (.lconst 1, 1) := by decide +kernel
theorem dX0_rounded_29 : decode cX0_rounded 29 = .ok (.iload_n 2, 1) := by decide +kernel
theorem dX0_rounded_30 : decode cX0_rounded 30 = .ok (.iconst 1, 1) := by decide +kernel
theorem dX0_rounded_31 : decode cX0_rounded 31 = .ok (.isub, 1) := by decide +kernel
theorem dX0_rounded_32 : decode cX0_rounded 32 = .ok (.lshl, 1) := by decide +kernel
theorem dX0_rounded_33 : decode cX0_rounded 33 = .ok (.lstore 7, 2) := by decide +kernel
theorem dX0_rounded_35 : decode cX0_rounded 35 = .ok (.lload 5, 2) := by decide +kernel
theorem dX0_rounded_37 : decode cX0_rounded 37 = .ok (.lload 7, 2) := by decide +kernel
theorem dX0_rounded_39 : decode cX0_rounded 39 = .ok (.lcmp, 1) := by decide +kernel
theorem dX0_rounded_40 : decode cX0_rounded 40 = .ok (.ifCond .gt 19, 3) := by decide +kernel
theorem dX0_rounded_43 : decode cX0_rounded 43 = .ok (.lload 5, 2) := by decide +kernel
theorem dX0_rounded_45 : decode cX0_rounded 45 = .ok (.lload 7, 2) := by decide +kernel
theorem dX0_rounded_47 : decode cX0_rounded 47 = .ok (.lcmp, 1) := by decide +kernel
theorem dX0_rounded_48 : decode cX0_rounded 48 = .ok (.ifCond .ne 15, 3) := by decide +kernel
theorem dX0_rounded_51 : decode cX0_rounded 51 = .ok (.lload_n 3, 1) := by decide +kernel
theorem dX0_rounded_52 : decode cX0_rounded 52 = .ok (.lconst 1, 1) := by decide +kernel
theorem dX0_rounded_53 : decode cX0_rounded 53 = .ok (.land, 1) := by decide +kernel
theorem dX0_rounded_54 : decode cX0_rounded 54 = .ok (.lconst 1, 1) := by decide +kernel
theorem dX0_rounded_55 : decode cX0_rounded 55 = .ok (.lcmp, 1) := by decide +kernel
theorem dX0_rounded_56 : decode cX0_rounded 56 = .ok (.ifCond .ne 7, 3) := by decide +kernel
theorem dX0_rounded_59 : decode cX0_rounded 59 = .ok (.iconst 1, 1) := by decide +kernel
theorem dX0_rounded_60 : decode cX0_rounded 60 = .ok (.goto 4, 3) := by decide +kernel
theorem dX0_rounded_63 : decode cX0_rounded 63 = .ok (.iconst 0, 1) := by decide +kernel
theorem dX0_rounded_64 : decode cX0_rounded 64 = .ok (.istore 9, 2) := by decide +kernel
theorem dX0_rounded_66 : decode cX0_rounded 66 = .ok (.iload 9, 2) := by decide +kernel
theorem dX0_rounded_68 : decode cX0_rounded 68 = .ok (.ifCond .eq 9, 3) := by decide +kernel
theorem dX0_rounded_71 : decode cX0_rounded 71 = .ok (.lload_n 3, 1) := by decide +kernel
theorem dX0_rounded_72 : decode cX0_rounded 72 = .ok (.lconst 1, 1) := by decide +kernel
theorem dX0_rounded_73 : decode cX0_rounded 73 = .ok (.ladd, 1) := by decide +kernel
theorem dX0_rounded_74 : decode cX0_rounded 74 = .ok (.goto 4, 3) := by decide +kernel
theorem dX0_rounded_77 : decode cX0_rounded 77 = .ok (.lload_n 3, 1) := by decide +kernel
theorem dX0_rounded_78 : decode cX0_rounded 78 = .ok (.lreturn, 1) := by decide +kernel
theorem dX0_highestBit_0 : decode cX0_highestBit 0 = .ok (.iconst 0, 1) := by decide +kernel
theorem dX0_highestBit_1 : decode cX0_highestBit 1 = .ok (.istore_n 2, 1) := by decide +kernel
theorem dX0_highestBit_2 : decode cX0_highestBit 2 = .ok (.bipush 32, 2) := by decide +kernel
theorem dX0_highestBit_4 : decode cX0_highestBit 4 = .ok (.istore_n 3, 1) := by decide +kernel
theorem dX0_highestBit_5 : decode cX0_highestBit 5 = .ok (.iload_n 3, 1) := by decide +kernel
theorem dX0_highestBit_6 : decode cX0_highestBit 6 = .ok (.ifCond .le 24, 3) := by decide +kernel
theorem dX0_highestBit_9 : decode cX0_highestBit 9 = .ok (.lload_n 0, 1) := by decide +kernel
theorem dX0_highestBit_10 : decode cX0_highestBit 10 = .ok (.iload_n 2, 1) := by decide +kernel
theorem dX0_highestBit_11 : decode cX0_highestBit 11 = .ok (.iload_n 3, 1) := by decide +kernel
theorem dX0_highestBit_12 : decode cX0_highestBit 12 = .ok (.iadd, 1) := by decide +kernel
theorem dX0_highestBit_13 : decode cX0_highestBit 13 = .ok (.lushr, 1) := by decide +kernel
theorem dX0_highestBit_14 : decode cX0_highestBit 14 = .ok (.lconst 0, 1) := by decide +kernel
theorem dX0_highestBit_15 : decode cX0_highestBit 15 = .ok (.lcmp, 1) := by decide +kernel
theorem dX0_highestBit_16 : decode cX0_highestBit 16 = .ok (.ifCond .eq 7, 3) := by decide +kernel
theorem dX0_highestBit_19 : decode cX0_highestBit 19 = .ok (.iload_n 2, 1) := by decide +kernel
theorem dX0_highestBit_20 : decode cX0_highestBit 20 = .ok (.iload_n 3, 1) := by decide +kernel
theorem dX0_highestBit_21 : decode cX0_highestBit 21 = .ok (.iadd, 1) := by decide +kernel
theorem dX0_highestBit_22 : decode cX0_highestBit 22 = .ok (.istore_n 2, 1) := by decide +kernel
theorem dX0_highestBit_23 : decode cX0_highestBit 23 = .ok (.iload_n 3, 1) := by decide +kernel
theorem dX0_highestBit_24 : decode cX0_highestBit 24 = .ok (.iconst 2, 1) := by decide +kernel
theorem dX0_highestBit_25 : decode cX0_highestBit 25 = .ok (.idiv, 1) := by decide +kernel
theorem dX0_highestBit_26 : decode cX0_highestBit 26 = .ok (.istore_n 3, 1) := by decide +kernel
theorem dX0_highestBit_27 : decode cX0_highestBit 27 = .ok (.goto (-22), 3) := by decide +kernel
theorem dX0_highestBit_30 : decode cX0_highestBit 30 = .ok (.iload_n 2, 1) := by decide +kernel
theorem dX0_highestBit_31 : decode cX0_highestBit 31 = .ok (.ireturn, 1) := by decide +kernel
set_option maxRecDepth 20000 in
theorem ggX3_sum_X0_isNaN : GoodIn wsX3_sum wsX0_isNaN := goodIn_r _ [6, 7, 8, 9, 10, 5, 11, 12] rfl (by decide +kernel)
set_option maxRecDepth 20000 in
theorem gX3_sum_X0_isNaN : GoodIn wsX3_sum (wsV RX3 17 RX0 yX0_isNaN wsX0_isNaN) := goodIn_app (goodIn_of _ (by decide +kernel)) ggX3_sum_X0_isNaN
set_option maxRecDepth 20000 in
theorem ggX3_sum_X0_plainNaN : GoodIn wsX3_sum wsX0_plainNaN := goodIn_r _ [16, 7, 17] rfl (by decide +kernel)
set_option maxRecDepth 20000 in
theorem gX3_sum_X0_plainNaN : GoodIn wsX3_sum (wsV RX3 21 RX0 yX0_plainNaN wsX0_plainNaN) := goodIn_app (goodIn_of _ (by decide +kernel)) ggX3_sum_X0_plainNaN
set_option maxRecDepth 20000 in
theorem ggX3_sum_X0_isInfinite : GoodIn wsX3_sum wsX0_isInfinite := goodIn_r _ [21, 7, 8, 9, 10, 5, 11, 12] rfl (by decide +kernel)
set_option maxRecDepth 20000 in
theorem gX3_sum_X0_isInfinite : GoodIn wsX3_sum (wsV RX3 25 RX0 yX0_isInfinite wsX0_isInfinite) := goodIn_app (goodIn_of _ (by decide +kernel)) ggX3_sum_X0_isInfinite
set_option maxRecDepth 20000 in
theorem ggX3_sum_X0_magnitude : GoodIn wsX3_sum wsX0_magnitude := goodIn_r _ [11, 12] rfl (by decide +kernel)
set_option maxRecDepth 20000 in
theorem gX3_sum_X0_magnitude : GoodIn wsX3_sum (wsV RX3 28 RX0 yX0_magnitude wsX0_magnitude) := goodIn_app (goodIn_of _ (by decide +kernel)) ggX3_sum_X0_magnitude
set_option maxRecDepth 20000 in
theorem ggX3_sum_X0_isZero : GoodIn wsX3_sum wsX0_isZero := goodIn_r _ [26, 8, 9, 10, 5, 11, 12] rfl (by decide +kernel)
set_option maxRecDepth 20000 in
theorem gX3_sum_X0_isZero : GoodIn wsX3_sum (wsV RX3 32 RX0 yX0_isZero wsX0_isZero) := goodIn_app (goodIn_of _ (by decide +kernel)) ggX3_sum_X0_isZero
set_option maxRecDepth 20000 in
theorem ggX3_sum_X3_sumOfFinite : GoodIn wsX3_sum wsX3_sumOfFinite := goodIn_r _ [30, 1, 31, 32, 33, 5, 34, 17, 35, 36, 37, 38, 39, 8, 9, 10, 11, 12, 40, 41, 42, 43, 44, 45, 46, 47, 48, 49, 50, 51, 52, 29, 53, 54, 55, 56, 57, 7, 58, 59, 60] rfl (by decide +kernel)
set_option maxRecDepth 20000 in
theorem gX3_sum_X3_sumOfFinite : GoodIn wsX3_sum (va_wsS RX3 35 yX3_sumOfFinite wsX3_sumOfFinite) := goodIn_app (goodIn_of _ (by decide +kernel)) ggX3_sum_X3_sumOfFinite
theorem dX3_sum_0 : decode cX3_sum 0 = .ok (.getstatic 11, 3) := by decide +kernel
theorem dX3_sum_3 : decode cX3_sum 3 = .ok (.lload_n 0, 1) := by decide +kernel
theorem dX3_sum_4 : decode cX3_sum 4 = .ok (.invokevirtual 17, 3) := by decide +kernel
theorem dX3_sum_7 : decode cX3_sum 7 = .ok (.ifCond .ne 13, 3) := by decide +kernel
theorem dX3_sum_10 : decode cX3_sum 10 = .ok (.getstatic 11, 3) := by decide +kernel
theorem dX3_sum_13 : decode cX3_sum 13 = .ok (.lload_n 2, 1) := by decide +kernel
theorem dX3_sum_14 : decode cX3_sum 14 = .ok (.invokevirtual 17, 3) := by decide +kernel
theorem dX3_sum_17 : decode cX3_sum 17 = .ok (.ifCond .eq 10, 3) := by decide +kernel
theorem dX3_sum_20 : decode cX3_sum 20 = .ok (.getstatic 11, 3) := by decide +kernel
theorem dX3_sum_23 : decode cX3_sum 23 = .ok (.invokevirtual 21, 3) := by decide +kernel
theorem dX3_sum_26 : decode cX3_sum 26 = .ok (.lreturn, 1) := by decide +kernel
theorem dX3_sum_27 : decode cX3_sum 27 = .ok (.getstatic 11, 3) := by decide +kernel
theorem dX3_sum_30 : decode cX3_sum 30 = .ok (.lload_n 0, 1) := by decide +kernel
theorem dX3_sum_31 : decode cX3_sum 31 = .ok (.invokevirtual 25, 3) := by decide +kernel
theorem dX3_sum_34 : decode cX3_sum 34 = .ok (.ifCond .eq 30, 3) := by decide +kernel
theorem dX3_sum_37 : decode cX3_sum 37 = .ok (.getstatic 11, 3) := by decide +kernel
theorem dX3_sum_40 : decode cX3_sum 40 = .ok (.lload_n 2, 1) := by decide +kernel
theorem dX3_sum_41 : decode cX3_sum 41 = .ok (.invokevirtual 25, 3) := by decide +kernel
theorem dX3_sum_44 : decode cX3_sum 44 = .ok (.ifCond .eq 18, 3) := by decide +kernel
theorem dX3_sum_47 : decode cX3_sum 47 = .ok (.lload_n 0, 1) := by decide +kernel
theorem dX3_sum_48 : decode cX3_sum 48 = .ok (.lload_n 2, 1) := by decide +kernel
theorem dX3_sum_49 : decode cX3_sum 49 = .ok (.lcmp, 1) := by decide +kernel
theorem dX3_sum_50 : decode cX3_sum 50 = .ok (.ifCond .eq 12, 3) := by decide +kernel
theorem dX3_sum_53 : decode cX3_sum 53 = .ok (.getstatic 11, 3) := by decide +kernel
theorem dX3_sum_56 : decode cX3_sum 56 = .ok (.invokevirtual 21, 3) := by decide +kernel
theorem dX3_sum_59 : decode cX3_sum 59 = .ok (.goto 4, 3) := by decide +kernel
theorem dX3_sum_62 : decode cX3_sum 62 = .ok (.lload_n 0, 1) := by decide +kernel
theorem dX3_sum_63 : decode cX3_sum 63 = .ok (.lreturn, 1) := by decide +kernel
theorem dX3_sum_64 : decode cX3_sum 64 = .ok (.getstatic 11, 3) := by decide +kernel
theorem dX3_sum_67 : decode cX3_sum 67 = .ok (.lload_n 0, 1) := by decide +kernel
theorem dX3_sum_68 : decode cX3_sum 68 = .ok (.invokevirtual 28, 3) := by decide +kernel
theorem dX3_sum_71 : decode cX3_sum 71 = .ok (.getstatic 11, 3) := by decide +kernel
theorem dX3_sum_74 : decode cX3_sum 74 = .ok (.lload_n 2, 1) := by decide +kernel
theorem dX3_sum_75 : decode cX3_sum 75 = .ok (.invokevirtual 28, 3) := by decide +kernel
theorem dX3_sum_78 : decode cX3_sum 78 = .ok (.lcmp, 1) := by decide +kernel
theorem dX3_sum_79 : decode cX3_sum 79 = .ok (.ifCond .lt 7, 3) := by decide +kernel
theorem dX3_sum_82 : decode cX3_sum 82 = .ok (.iconst 1, 1) := by decide +kernel
theorem dX3_sum_83 : decode cX3_sum 83 = .ok (.goto 4, 3) := by decide +kernel
theorem dX3_sum_86 : decode cX3_sum 86 = .ok (.iconst 0, 1) := by decide +kernel
theorem dX3_sum_87 : decode cX3_sum 87 = .ok (.istore 4, 2) := by decide +kernel
theorem dX3_sum_89 : decode cX3_sum 89 = .ok (.iload 4, 2) := by decide +kernel
theorem dX3_sum_91 : decode cX3_sum 91 = .ok (.ifCond .eq 7, 3) := by decide +kernel
theorem dX3_sum_94 : decode cX3_sum 94 = .ok (.lload_n 0, 1) := by decide +kernel
theorem dX3_sum_95 : decode cX3_sum 95 = .ok (.goto 4, 3) := by decide +kernel
theorem dX3_sum_98 : decode cX3_sum 98 = .ok (.lload_n 2, 1) := by decide +kernel
theorem dX3_sum_99 : decode cX3_sum 99 = .ok (.lstore 5, 2) := by decide +kernel
theorem dX3_sum_101 : decode cX3_sum 101 = .ok (.iload 4, 2) := by decide +kernel
theorem dX3_sum_103 : decode cX3_sum 103 = .ok (.ifCond .eq 7, 3) := by decide +kernel
theorem dX3_sum_106 : decode cX3_sum 106 = .ok (.lload_n 2, 1) := by decide +kernel
theorem dX3_sum_107 : decode cX3_sum 107 = .ok (.goto 4, 3) := by decide +kernel
theorem dX3_sum_110 : decode cX3_sum 110 = .ok (.lload_n 0, 1) := by decide +kernel
theorem dX3_sum_111 : decode cX3_sum 111 = .ok (.lstore 7, 2) := by decide +kernel
theorem dX3_sum_113 : decode cX3_sum 113 = .ok (.getstatic 11, 3) := by decide +kernel
theorem dX3_sum_116 : decode cX3_sum 116 = .ok (.lload 5, 2) := by decide +kernel
theorem dX3_sum_118 : decode cX3_sum 118 = .ok (.invokevirtual 32, 3) := by decide +kernel
theorem dX3_sum_121 : decode cX3_sum 121 = .ok (.ifCond .eq 7, 3) := by decide +kernel
theorem dX3_sum_124 : decode cX3_sum 124 = .ok (.lload_n 0, 1) := by decide +kernel
theorem dX3_sum_125 : decode cX3_sum 125 = .ok (.lload_n 2, 1) := by decide +kernel
theorem dX3_sum_126 : decode cX3_sum 126 = .ok (.land, 1) := by decide +kernel
theorem dX3_sum_127 : decode cX3_sum 127 = .ok (.lreturn, 1) := by decide +kernel
theorem dX3_sum_128 : decode cX3_sum 128 = .ok (.getstatic 11, 3) := by decide +kernel
theorem dX3_sum_131 : decode cX3_sum 131 = .ok (.lload 5, 2) := by decide +kernel
theorem dX3_sum_133 : decode cX3_sum 133 = .ok (.invokevirtual 25, 3) := by decide +kernel
theorem dX3_sum_136 : decode cX3_sum 136 = .ok (.ifCond .ne 14, 3) := by decide +kernel
theorem dX3_sum_139 : decode cX3_sum 139 = .ok (.getstatic 11, 3) := by decide +kernel
theorem dX3_sum_142 : decode cX3_sum 142 = .ok (.lload 7, 2) := by decide +kernel
theorem dX3_sum_144 : decode cX3_sum 144 = .ok (.invokevirtual 32, 3) := by decide +kernel
theorem dX3_sum_147 : decode cX3_sum 147 = .ok (.ifCond .eq 6, 3) := by decide +kernel
theorem dX3_sum_150 : decode cX3_sum 150 = .ok (.lload 5, 2) := by decide +kernel
theorem dX3_sum_152 : decode cX3_sum 152 = .ok (.lreturn, 1) := by decide +kernel
theorem dX3_sum_153 : decode cX3_sum 153 = .ok (.lload 5, 2) := by decide +kernel
theorem dX3_sum_155 : decode cX3_sum 155 = .ok (.lload 7, 2) := by decide +kernel
theorem dX3_sum_157 : decode cX3_sum 157 = .ok (.invokestatic 35, 3) := by decide +kernel
theorem dX3_sum_160 : decode cX3_sum 160 = .ok (.lreturn, 1) := by decide +kernel
set_option maxRecDepth 20000 in
theorem ggX3_sumOfFinite_X0_exponent : GoodIn wsX3_sumOfFinite wsX0_exponent := goodIn_r _ [6, 7, 8, 9, 10, 11, 12, 13, 14, 15, 5, 16, 17, 18, 19, 20, 21, 22, 23, 24] rfl (by decide +kernel)
set_option maxRecDepth 20000 in
theorem gX3_sumOfFinite_X0_exponent : GoodIn wsX3_sumOfFinite (wsV RX3 39 RX0 yX0_exponent wsX0_exponent) := goodIn_app (goodIn_of _ (by decide +kernel)) ggX3_sumOfFinite_X0_exponent
set_option maxRecDepth 20000 in
theorem ggX3_sumOfFinite_X0_significand : GoodIn wsX3_sumOfFinite wsX0_significand := goodIn_r _ [28, 7, 13, 14, 15, 5, 16, 17, 18, 19, 20, 21, 22, 23, 24] rfl (by decide +kernel)
set_option maxRecDepth 20000 in
theorem gX3_sumOfFinite_X0_significand : GoodIn wsX3_sumOfFinite (wsV RX3 43 RX0 yX0_significand wsX0_significand) := goodIn_app (goodIn_of _ (by decide +kernel)) ggX3_sumOfFinite_X0_significand
set_option maxRecDepth 20000 in
theorem ggX3_sumOfFinite_X3_movedDown : GoodIn wsX3_sumOfFinite wsX3_movedDown := goodIn_r _ [32] rfl (by decide +kernel)
set_option maxRecDepth 20000 in
theorem gX3_sumOfFinite_X3_movedDown : GoodIn wsX3_sumOfFinite (va_wsS RX3 46 yX3_movedDown wsX3_movedDown) := goodIn_app (goodIn_of _ (by decide +kernel)) ggX3_sumOfFinite_X3_movedDown
set_option maxRecDepth 20000 in
theorem ggX3_sumOfFinite_X0_pack : GoodIn wsX3_sumOfFinite wsX0_pack := goodIn_r _ [36, 17, 7, 8, 9, 10, 11, 12, 37, 22, 23, 5, 24, 38, 39, 40] rfl (by decide +kernel)
set_option maxRecDepth 20000 in
theorem gX3_sumOfFinite_X0_pack : GoodIn wsX3_sumOfFinite (wsV RX3 50 RX0 yX0_pack wsX0_pack) := goodIn_app (goodIn_of _ (by decide +kernel)) ggX3_sumOfFinite_X0_pack
theorem dX3_sumOfFinite_0 : decode cX3_sumOfFinite 0 = .ok (.getstatic 11, 3) := by decide +kernel
theorem dX3_sumOfFinite_3 : decode cX3_sumOfFinite 3 = .ok (.lload_n 0, 1) := by decide +kernel
theorem dX3_sumOfFinite_4 : decode cX3_sumOfFinite 4 = .ok (.invokevirtual 39, 3) := by decide +kernel
theorem dX3_sumOfFinite_7 : decode cX3_sumOfFinite 7 = .ok (.istore 4, 2) := by decide +kernel
theorem dX3_sumOfFinite_9 : decode cX3_sumOfFinite 9 = .ok (.iload 4, 2) := by decide +kernel
theorem dX3_sumOfFinite_11 : decode cX3_sumOfFinite 11 = .ok (.getstatic 11, 3) := by decide +kernel
theorem dX3_sumOfFinite_14 : decode cX3_sumOfFinite 14 = .ok (.lload_n 2, 1) := by decide +kernel
theorem dX3_sumOfFinite_15 : decode cX3_sumOfFinite 15 = .ok (.invokevirtual 39, 3) := by decide +kernel
theorem dX3_sumOfFinite_18 : decode cX3_sumOfFinite 18 = .ok (.isub, 1) := by decide +kernel
theorem dX3_sumOfFinite_19 : decode cX3_sumOfFinite 19 = .ok (.istore 5, 2) := by decide +kernel
theorem dX3_sumOfFinite_21 : decode cX3_sumOfFinite 21 = .ok (.getstatic 11, 3) := by decide +kernel
theorem dX3_sumOfFinite_24 : decode cX3_sumOfFinite 24 = .ok (.lload_n 0, 1) := by decide +kernel
theorem dX3_sumOfFinite_25 : decode cX3_sumOfFinite 25 = .ok (.invokevirtual 43, 3) := by decide +kernel
theorem dX3_sumOfFinite_28 : decode cX3_sumOfFinite 28 = .ok (.bipush 9, 2) := by decide +kernel
theorem dX3_sumOfFinite_30 : decode cX3_sumOfFinite 30 = .ok (.lshl, 1) := by decide +kernel
theorem dX3_sumOfFinite_31 : decode cX3_sumOfFinite 31 = .ok (.lstore 6, 2) := by decide +kernel
theorem dX3_sumOfFinite_33 : decode cX3_sumOfFinite 33 = .ok (.getstatic 11, 3) := by decide +kernel
theorem dX3_sumOfFinite_36 : decode cX3_sumOfFinite 36 = .ok (.lload_n 2, 1) := by decide +kernel
theorem dX3_sumOfFinite_37 : decode cX3_sumOfFinite 37 = .ok (.invokevirtual 43, 3) := by decide +kernel
theorem dX3_sumOfFinite_40 : decode cX3_sumOfFinite 40 = .ok (.bipush 9, 2) := by decide +kernel
theorem dX3_sumOfFinite_42 : decode cX3_sumOfFinite 42 = .ok (.lshl, 1) := by decide +kernel
theorem dX3_sumOfFinite_43 : decode cX3_sumOfFinite 43 = .ok (.iload 5, 2) := by decide +kernel
theorem dX3_sumOfFinite_45 : decode cX3_sumOfFinite 45 = .ok (.invokestatic 46, 3) := by decide +kernel
theorem dX3_sumOfFinite_48 : decode cX3_sumOfFinite 48 = .ok (.lstore 8, 2) := by decide +kernel
theorem dX3_sumOfFinite_50 : decode cX3_sumOfFinite 50 = .ok (.lload_n 0, 1) := by decide +kernel
theorem dX3_sumOfFinite_51 : decode cX3_sumOfFinite 51 = .ok (.lconst 0, 1) := by decide +kernel
theorem dX3_sumOfFinite_52 : decode cX3_sumOfFinite 52 = .ok (.lcmp, 1) := by decide +kernel
theorem dX3_sumOfFinite_53 : decode cX3_sumOfFinite 53 = .ok (.ifCond .ge 7, 3) := by decide +kernel
theorem dX3_sumOfFinite_56 : decode cX3_sumOfFinite 56 = .ok (.iconst 1, 1) := by decide +kernel
theorem dX3_sumOfFinite_57 : decode cX3_sumOfFinite 57 = .ok (.goto 4, 3) := by decide +kernel
theorem dX3_sumOfFinite_60 : decode cX3_sumOfFinite 60 = .ok (.iconst 0, 1) := by decide +kernel
theorem dX3_sumOfFinite_61 : decode cX3_sumOfFinite 61 = .ok (.lload_n 2, 1) := by decide +kernel
theorem dX3_sumOfFinite_62 : decode cX3_sumOfFinite 62 = .ok (.lconst 0, 1) := by decide +kernel
theorem dX3_sumOfFinite_63 : decode cX3_sumOfFinite 63 = .ok (.lcmp, 1) := by decide +kernel
theorem dX3_sumOfFinite_64 : decode cX3_sumOfFinite 64 = .ok (.ifCond .ge 7, 3) := by decide +kernel
theorem dX3_sumOfFinite_67 : decode cX3_sumOfFinite 67 = .ok (.iconst 1, 1) := by decide +kernel
theorem dX3_sumOfFinite_68 : decode cX3_sumOfFinite 68 = .ok (.goto 4, 3) := by decide +kernel
theorem dX3_sumOfFinite_71 : decode cX3_sumOfFinite 71 = .ok (.iconst 0, 1) := by decide +kernel
theorem dX3_sumOfFinite_72 : decode cX3_sumOfFinite 72 = .ok (.if_icmp .ne 7, 3) := by decide +kernel
theorem dX3_sumOfFinite_75 : decode cX3_sumOfFinite 75 = .ok (.iconst 1, 1) := by decide +kernel
theorem dX3_sumOfFinite_76 : decode cX3_sumOfFinite 76 = .ok (.goto 4, 3) := by decide +kernel
theorem dX3_sumOfFinite_79 : decode cX3_sumOfFinite 79 = .ok (.iconst 0, 1) := by decide +kernel
theorem dX3_sumOfFinite_80 : decode cX3_sumOfFinite 80 = .ok (.istore 10, 2) := by decide +kernel
theorem dX3_sumOfFinite_82 : decode cX3_sumOfFinite 82 = .ok (.iload 10, 2) := by decide +kernel
theorem dX3_sumOfFinite_84 : decode cX3_sumOfFinite 84 = .ok (.ifCond .eq 11, 3) := by decide +kernel
theorem dX3_sumOfFinite_87 : decode cX3_sumOfFinite 87 = .ok (.lload 6, 2) := by decide +kernel
theorem dX3_sumOfFinite_89 : decode cX3_sumOfFinite 89 = .ok (.lload 8, 2) := by decide +kernel
theorem dX3_sumOfFinite_91 : decode cX3_sumOfFinite 91 = .ok (.ladd, 1) := by decide +kernel
theorem dX3_sumOfFinite_92 : decode cX3_sumOfFinite 92 = .ok (.goto 8, 3) := by decide +kernel
theorem dX3_sumOfFinite_95 : decode cX3_sumOfFinite 95 = .ok (.lload 6, 2) := by decide +kernel
theorem dX3_sumOfFinite_97 : decode cX3_sumOfFinite 97 = .ok (.lload 8, 2) := by decide +kernel
theorem dX3_sumOfFinite_99 : decode cX3_sumOfFinite 99 = .ok (.lsub, 1) := by decide +kernel
theorem dX3_sumOfFinite_100 : decode cX3_sumOfFinite 100 = .ok (.lstore 11, 2) := by decide +kernel
theorem dX3_sumOfFinite_102 : decode cX3_sumOfFinite 102 = .ok (.getstatic 11, 3) := by decide +kernel
theorem dX3_sumOfFinite_105 : decode cX3_sumOfFinite 105 = .ok (.lload_n 0, 1) := by decide +kernel
theorem dX3_sumOfFinite_106 : decode cX3_sumOfFinite 106 = .ok (.lconst 0, 1) := by decide +kernel
theorem dX3_sumOfFinite_107 : decode cX3_sumOfFinite 107 = .ok (.lcmp, 1) := by decide +kernel
theorem dX3_sumOfFinite_108 : decode cX3_sumOfFinite 108 = .ok (.ifCond .ge 14, 3) := by decide +kernel
theorem dX3_sumOfFinite_111 : decode cX3_sumOfFinite 111 = .ok (.lload 11, 2) := by decide +kernel
theorem dX3_sumOfFinite_113 : decode cX3_sumOfFinite 113 = .ok (.lconst 0, 1) := by decide +kernel
theorem dX3_sumOfFinite_114 : decode cX3_sumOfFinite 114 = .ok (.lcmp, 1) := by decide +kernel
theorem dX3_sumOfFinite_115 : decode cX3_sumOfFinite 115 = .ok (.ifCond .eq 7, 3) := by decide +kernel
theorem dX3_sumOfFinite_118 : decode cX3_sumOfFinite 118 = .ok (.iconst 1, 1) := by decide +kernel
theorem dX3_sumOfFinite_119 : decode cX3_sumOfFinite 119 = .ok (.goto 4, 3) := by decide +kernel
theorem dX3_sumOfFinite_122 : decode cX3_sumOfFinite 122 = .ok (.iconst 0, 1) := by decide +kernel
theorem dX3_sumOfFinite_123 : decode cX3_sumOfFinite 123 = .ok (.iload 4, 2) := by decide +kernel
theorem dX3_sumOfFinite_125 : decode cX3_sumOfFinite 125 = .ok (.bipush 9, 2) := by decide +kernel
theorem dX3_sumOfFinite_127 : decode cX3_sumOfFinite 127 = .ok (.isub, 1) := by decide +kernel
theorem dX3_sumOfFinite_128 : decode cX3_sumOfFinite 128 = .ok (.lload 11, 2) := by decide +kernel
theorem dX3_sumOfFinite_130 : decode cX3_sumOfFinite 130 = .ok (.invokevirtual 50, 3) := by decide +kernel
theorem dX3_sumOfFinite_133 : decode cX3_sumOfFinite 133 = .ok (.lreturn, 1) := by decide +kernel
theorem dX3_movedDown_0 : decode cX3_movedDown 0 = .ok (.iload_n 2, 1) := by decide +kernel
theorem dX3_movedDown_1 : decode cX3_movedDown 1 = .ok (.bipush 62, 2) := by decide +kernel
theorem dX3_movedDown_3 : decode cX3_movedDown 3 = .ok (.if_icmp .le 5, 3) := by decide +kernel
theorem dX3_movedDown_6 : decode cX3_movedDown 6 = .ok (.lconst 1, 1) := by decide +kernel
theorem dX3_movedDown_7 : decode cX3_movedDown 7 = .ok (.lreturn, 1) := by decide +kernel
theorem dX3_movedDown_8 : decode cX3_movedDown 8 = .ok (.lload_n 0, 1) := by decide +kernel
theorem dX3_movedDown_9 : decode cX3_movedDown 9 = .ok (.iload_n 2, 1) := by decide +kernel
theorem dX3_movedDown_10 : decode cX3_movedDown 10 = .ok (.lushr, 1) := by decide +kernel
theorem dX3_movedDown_11 : decode cX3_movedDown 11 = .ok (.lstore_n 3, 1) := by decide +kernel
theorem dX3_movedDown_12 : decode cX3_movedDown 12 = .ok (.lload_n 3, 1) := by decide +kernel
theorem dX3_movedDown_13 : decode cX3_movedDown 13 = .ok (.iload_n 2, 1) := by decide +kernel
theorem dX3_movedDown_14 : decode cX3_movedDown 14 = .ok (.lshl, 1) := by decide +kernel
theorem dX3_movedDown_15 : decode cX3_movedDown 15 = .ok (.lload_n 0, 1) := by decide +kernel
theorem dX3_movedDown_16 : decode cX3_movedDown 16 = .ok (.lcmp, 1) := by decide +kernel
theorem dX3_movedDown_17 : decode cX3_movedDown 17 = .ok (.ifCond .ne 7, 3) := by decide +kernel
theorem dX3_movedDown_20 : decode cX3_movedDown 20 = .ok (.lload_n 3, 1) := by decide +kernel
theorem dX3_movedDown_21 : decode cX3_movedDown 21 = .ok (.goto 6, 3) := by decide +kernel
theorem dX3_movedDown_24 : decode cX3_movedDown 24 = .ok (.lload_n 3, 1) := by decide +kernel
theorem dX3_movedDown_25 : decode cX3_movedDown 25 = .ok (.lconst 1, 1) := by decide +kernel
theorem dX3_movedDown_26 : decode cX3_movedDown 26 = .ok (.lor, 1) := by decide +kernel
theorem dX3_movedDown_27 : decode cX3_movedDown 27 = .ok (.lreturn, 1) := by decide +kernel
set_option maxRecDepth 20000 in
theorem ggX3_difference_X3_sum : GoodIn wsX3_difference wsX3_sum := goodIn_r _ [5, 6, 7, 8, 9, 10, 11, 12, 13, 14, 15, 16, 17, 18, 19, 20, 21, 22, 23, 24, 25, 26, 27, 28, 29, 30, 31, 32, 33, 4, 34, 35, 36, 37, 38, 39, 40, 41, 42, 43, 44, 45, 46, 47, 48, 49, 50, 51, 52, 53, 54, 55, 56, 57, 58, 59, 60, 61, 62, 63, 64] rfl (by decide +kernel)
set_option maxRecDepth 20000 in
theorem gX3_difference_X3_sum : GoodIn wsX3_difference (va_wsS RX3 56 yX3_sum wsX3_sum) := goodIn_app (goodIn_of _ (by decide +kernel)) ggX3_difference_X3_sum
theorem dX3_difference_0 : decode cX3_difference 0 = .ok (.lload_n 0, 1) := by decide +kernel
theorem dX3_difference_1 : decode cX3_difference 1 = .ok (.lload_n 2, 1) := by decide +kernel
theorem dX3_difference_2 : decode cX3_difference 2 = .ok (.ldc2_w 54, 3) := by decide +kernel
theorem dX3_difference_5 : decode cX3_difference 5 = .ok (.lxor, 1) := by decide +kernel
theorem dX3_difference_6 : decode cX3_difference 6 = .ok (.invokestatic 56, 3) := by decide +kernel
theorem dX3_difference_9 : decode cX3_difference 9 = .ok (.lreturn, 1) := by decide +kernel
set_option maxRecDepth 20000 in
theorem ggX3_product_X0_isNaN : GoodIn wsX3_product wsX0_isNaN := goodIn_r _ [8, 9, 10, 11, 12, 7, 13, 14] rfl (by decide +kernel)
set_option maxRecDepth 20000 in
theorem gX3_product_X0_isNaN : GoodIn wsX3_product (wsV RX3 17 RX0 yX0_isNaN wsX0_isNaN) := goodIn_app (goodIn_of _ (by decide +kernel)) ggX3_product_X0_isNaN
set_option maxRecDepth 20000 in
theorem ggX3_product_X0_plainNaN : GoodIn wsX3_product wsX0_plainNaN := goodIn_r _ [18, 9, 19] rfl (by decide +kernel)
set_option maxRecDepth 20000 in
theorem gX3_product_X0_plainNaN : GoodIn wsX3_product (wsV RX3 21 RX0 yX0_plainNaN wsX0_plainNaN) := goodIn_app (goodIn_of _ (by decide +kernel)) ggX3_product_X0_plainNaN
set_option maxRecDepth 20000 in
theorem ggX3_product_X0_isZero : GoodIn wsX3_product wsX0_isZero := goodIn_r _ [23, 10, 11, 12, 7, 13, 14] rfl (by decide +kernel)
set_option maxRecDepth 20000 in
theorem gX3_product_X0_isZero : GoodIn wsX3_product (wsV RX3 32 RX0 yX0_isZero wsX0_isZero) := goodIn_app (goodIn_of _ (by decide +kernel)) ggX3_product_X0_isZero
set_option maxRecDepth 20000 in
theorem ggX3_product_X0_isInfinite : GoodIn wsX3_product wsX0_isInfinite := goodIn_r _ [27, 9, 10, 11, 12, 7, 13, 14] rfl (by decide +kernel)
set_option maxRecDepth 20000 in
theorem gX3_product_X0_isInfinite : GoodIn wsX3_product (wsV RX3 25 RX0 yX0_isInfinite wsX0_isInfinite) := goodIn_app (goodIn_of _ (by decide +kernel)) ggX3_product_X0_isInfinite
set_option maxRecDepth 20000 in
theorem ggX3_product_X3_productOfFinite : GoodIn wsX3_product wsX3_productOfFinite := goodIn_r _ [31, 1, 32, 33, 34, 35, 7, 36, 19, 10, 11, 12, 13, 14, 37, 38, 39, 40, 41, 42, 43, 44, 45, 30, 46, 47, 48, 49, 50, 51, 52, 53, 54, 55, 56, 57, 58, 59, 9, 60, 61, 62] rfl (by decide +kernel)
set_option maxRecDepth 20000 in
theorem gX3_product_X3_productOfFinite : GoodIn wsX3_product (va_wsS RX3 63 yX3_productOfFinite wsX3_productOfFinite) := goodIn_app (goodIn_of _ (by decide +kernel)) ggX3_product_X3_productOfFinite
theorem dX3_product_0 : decode cX3_product 0 = .ok (.getstatic 11, 3) := by decide +kernel
theorem dX3_product_3 : decode cX3_product 3 = .ok (.lload_n 0, 1) := by decide +kernel
theorem dX3_product_4 : decode cX3_product 4 = .ok (.invokevirtual 17, 3) := by decide +kernel
theorem dX3_product_7 : decode cX3_product 7 = .ok (.ifCond .ne 13, 3) := by decide +kernel
theorem dX3_product_10 : decode cX3_product 10 = .ok (.getstatic 11, 3) := by decide +kernel
theorem dX3_product_13 : decode cX3_product 13 = .ok (.lload_n 2, 1) := by decide +kernel
theorem dX3_product_14 : decode cX3_product 14 = .ok (.invokevirtual 17, 3) := by decide +kernel
theorem dX3_product_17 : decode cX3_product 17 = .ok (.ifCond .eq 10, 3) := by decide +kernel
theorem dX3_product_20 : decode cX3_product 20 = .ok (.getstatic 11, 3) := by decide +kernel
theorem dX3_product_23 : decode cX3_product 23 = .ok (.invokevirtual 21, 3) := by decide +kernel
theorem dX3_product_26 : decode cX3_product 26 = .ok (.lreturn, 1) := by decide +kernel
theorem dX3_product_27 : decode cX3_product 27 = .ok (.lload_n 0, 1) := by decide +kernel
theorem dX3_product_28 : decode cX3_product 28 = .ok (.lload_n 2, 1) := by decide +kernel
theorem dX3_product_29 : decode cX3_product 29 = .ok (.lxor, 1) := by decide +kernel
theorem dX3_product_30 : decode cX3_product 30 = .ok (.ldc2_w 54, 3) := by decide +kernel
theorem dX3_product_33 : decode cX3_product 33 = .ok (.land, 1) := by decide +kernel
theorem dX3_product_34 : decode cX3_product 34 = .ok (.lstore 4, 2) := by decide +kernel
theorem dX3_product_36 : decode cX3_product 36 = .ok (.getstatic 11, 3) := by decide +kernel
theorem dX3_product_39 : decode cX3_product 39 = .ok (.lload_n 0, 1) := by decide +kernel
theorem dX3_product_40 : decode cX3_product 40 = .ok (.invokevirtual 32, 3) := by decide +kernel
theorem dX3_product_43 : decode cX3_product 43 = .ok (.ifCond .ne 13, 3) := by decide +kernel
theorem dX3_product_46 : decode cX3_product 46 = .ok (.getstatic 11, 3) := by decide +kernel
theorem dX3_product_49 : decode cX3_product 49 = .ok (.lload_n 2, 1) := by decide +kernel
theorem dX3_product_50 : decode cX3_product 50 = .ok (.invokevirtual 32, 3) := by decide +kernel
theorem dX3_product_53 : decode cX3_product 53 = .ok (.ifCond .eq 7, 3) := by decide +kernel
theorem dX3_product_56 : decode cX3_product 56 = .ok (.iconst 1, 1) := by decide +kernel
theorem dX3_product_57 : decode cX3_product 57 = .ok (.goto 4, 3) := by decide +kernel
theorem dX3_product_60 : decode cX3_product 60 = .ok (.iconst 0, 1) := by decide +kernel
theorem dX3_product_61 : decode cX3_product 61 = .ok (.istore 6, 2) := by decide +kernel
theorem dX3_product_63 : decode cX3_product 63 = .ok (.getstatic 11, 3) := by decide +kernel
theorem dX3_product_66 : decode cX3_product 66 = .ok (.lload_n 0, 1) := by decide +kernel
theorem dX3_product_67 : decode cX3_product 67 = .ok (.invokevirtual 25, 3) := by decide +kernel
theorem dX3_product_70 : decode cX3_product 70 = .ok (.ifCond .ne 13, 3) := by decide +kernel
theorem dX3_product_73 : decode cX3_product 73 = .ok (.getstatic 11, 3) := by decide +kernel
theorem dX3_product_76 : decode cX3_product 76 = .ok (.lload_n 2, 1) := by decide +kernel
theorem dX3_product_77 : decode cX3_product 77 = .ok (.invokevirtual 25, 3) := by decide +kernel
theorem dX3_product_80 : decode cX3_product 80 = .ok (.ifCond .eq 27, 3) := by decide +kernel
theorem dX3_product_83 : decode cX3_product 83 = .ok (.iload 6, 2) := by decide +kernel
theorem dX3_product_85 : decode cX3_product 85 = .ok (.ifCond .eq 12, 3) := by decide +kernel
theorem dX3_product_88 : decode cX3_product 88 = .ok (.getstatic 11, 3) := by decide +kernel
theorem dX3_product_91 : decode cX3_product 91 = .ok (.invokevirtual 21, 3) := by decide +kernel
theorem dX3_product_94 : decode cX3_product 94 = .ok (.goto 12, 3) := by decide +kernel
theorem dX3_product_97 : decode cX3_product 97 = .ok (.lload 4, 2) := by decide +kernel
theorem dX3_product_99 : decode cX3_product 99 = .ok (.getstatic 11, 3) := by decide +kernel
theorem dX3_product_102 : decode cX3_product 102 = .ok (.getfield 59, 3) := by decide +kernel
theorem dX3_product_105 : decode cX3_product 105 = .ok (.lor, 1) := by decide +kernel
theorem dX3_product_106 : decode cX3_product 106 = .ok (.lreturn, 1) := by decide +kernel
theorem dX3_product_107 : decode cX3_product 107 = .ok (.iload 6, 2) := by decide +kernel
theorem dX3_product_109 : decode cX3_product 109 = .ok (.ifCond .eq 8, 3) := by decide +kernel
theorem dX3_product_112 : decode cX3_product 112 = .ok (.lload 4, 2) := by decide +kernel
theorem dX3_product_114 : decode cX3_product 114 = .ok (.goto 8, 3) := by decide +kernel
theorem dX3_product_117 : decode cX3_product 117 = .ok (.lload_n 0, 1) := by decide +kernel
theorem dX3_product_118 : decode cX3_product 118 = .ok (.lload_n 2, 1) := by decide +kernel
theorem dX3_product_119 : decode cX3_product 119 = .ok (.invokestatic 63, 3) := by decide +kernel
theorem dX3_product_122 : decode cX3_product 122 = .ok (.lreturn, 1) := by decide +kernel
set_option maxRecDepth 20000 in
theorem ggX3_productOfFinite_X0_significand : GoodIn wsX3_productOfFinite wsX0_significand := goodIn_r _ [7, 8, 9, 10, 11, 6, 12, 13, 14, 15, 16, 17, 18, 19, 20] rfl (by decide +kernel)
set_option maxRecDepth 20000 in
theorem gX3_productOfFinite_X0_significand : GoodIn wsX3_productOfFinite (wsV RX3 43 RX0 yX0_significand wsX0_significand) := goodIn_app (goodIn_of _ (by decide +kernel)) ggX3_productOfFinite_X0_significand
set_option maxRecDepth 20000 in
theorem ggX3_productOfFinite_X3_movedDown : GoodIn wsX3_productOfFinite wsX3_movedDown := goodIn_r _ [24] rfl (by decide +kernel)
set_option maxRecDepth 20000 in
theorem gX3_productOfFinite_X3_movedDown : GoodIn wsX3_productOfFinite (va_wsS RX3 46 yX3_movedDown wsX3_movedDown) := goodIn_app (goodIn_of _ (by decide +kernel)) ggX3_productOfFinite_X3_movedDown
set_option maxRecDepth 20000 in
theorem ggX3_productOfFinite_X0_exponent : GoodIn wsX3_productOfFinite wsX0_exponent := goodIn_r _ [28, 8, 29, 30, 31, 32, 33, 9, 10, 11, 6, 12, 13, 14, 15, 16, 17, 18, 19, 20] rfl (by decide +kernel)
set_option maxRecDepth 20000 in
theorem gX3_productOfFinite_X0_exponent : GoodIn wsX3_productOfFinite (wsV RX3 39 RX0 yX0_exponent wsX0_exponent) := goodIn_app (goodIn_of _ (by decide +kernel)) ggX3_productOfFinite_X0_exponent
set_option maxRecDepth 20000 in
theorem ggX3_productOfFinite_X0_pack : GoodIn wsX3_productOfFinite wsX0_pack := goodIn_r _ [37, 13, 8, 29, 30, 31, 32, 33, 38, 18, 19, 6, 20, 39, 40, 41] rfl (by decide +kernel)
set_option maxRecDepth 20000 in
theorem gX3_productOfFinite_X0_pack : GoodIn wsX3_productOfFinite (wsV RX3 50 RX0 yX0_pack wsX0_pack) := goodIn_app (goodIn_of _ (by decide +kernel)) ggX3_productOfFinite_X0_pack
theorem dX3_productOfFinite_0 : decode cX3_productOfFinite 0 = .ok (.getstatic 11, 3) := by decide +kernel
theorem dX3_productOfFinite_3 : decode cX3_productOfFinite 3 = .ok (.lload_n 0, 1) := by decide +kernel
theorem dX3_productOfFinite_4 : decode cX3_productOfFinite 4 = .ok (.invokevirtual 43, 3) := by decide +kernel
theorem dX3_productOfFinite_7 : decode cX3_productOfFinite 7 = .ok (.lstore 4, 2) := by decide +kernel
theorem dX3_productOfFinite_9 : decode cX3_productOfFinite 9 = .ok (.getstatic 11, 3) := by decide +kernel
theorem dX3_productOfFinite_12 : decode cX3_productOfFinite 12 = .ok (.lload_n 2, 1) := by decide +kernel
theorem dX3_productOfFinite_13 : decode cX3_productOfFinite 13 = .ok (.invokevirtual 43, 3) := by decide +kernel
theorem dX3_productOfFinite_16 : decode cX3_productOfFinite 16 = .ok (.lstore 6, 2) := by decide +kernel
theorem dX3_productOfFinite_18 : decode cX3_productOfFinite 18 = .ok (.lload 4, 2) := by decide +kernel
theorem dX3_productOfFinite_20 : decode cX3_productOfFinite 20 = .ok (.bipush 27, 2) := by decide +kernel
theorem dX3_productOfFinite_22 : decode cX3_productOfFinite 22 = .ok (.lushr, 1) := by decide +kernel
theorem dX3_productOfFinite_23 : decode cX3_productOfFinite 23 = .ok (.lstore 8, 2) := by decide +kernel
theorem dX3_productOfFinite_25 : decode cX3_productOfFinite 25 = .ok (.lload 4, 2) := by decide +kernel
theorem dX3_productOfFinite_27 : decode cX3_productOfFinite 27 = .ok (.ldc2_w 66, 3) := by decide +kernel
theorem dX3_productOfFinite_30 : decode cX3_productOfFinite 30 = .ok (.land, 1) := by decide +kernel
theorem dX3_productOfFinite_31 : decode cX3_productOfFinite 31 = .ok (.lstore 10, 2) := by decide +kernel
theorem dX3_productOfFinite_33 : decode cX3_productOfFinite 33 = .ok (.lload 6, 2) := by decide +kernel
theorem dX3_productOfFinite_35 : decode cX3_productOfFinite 35 = .ok (.bipush 27, 2) := by decide +kernel
theorem dX3_productOfFinite_37 : decode cX3_productOfFinite 37 = .ok (.lushr, 1) := by decide +kernel
theorem dX3_productOfFinite_38 : decode cX3_productOfFinite 38 = .ok (.lstore 12, 2) := by decide +kernel
theorem dX3_productOfFinite_40 : decode cX3_productOfFinite 40 = .ok (.lload 6, 2) := by decide +kernel
theorem dX3_productOfFinite_42 : decode cX3_productOfFinite 42 = .ok (.ldc2_w 66, 3) := by decide +kernel
theorem dX3_productOfFinite_45 : decode cX3_productOfFinite 45 = .ok (.land, 1) := by decide +kernel
theorem dX3_productOfFinite_46 : decode cX3_productOfFinite 46 = .ok (.lstore 14, 2) := by decide +kernel
theorem dX3_productOfFinite_48 : decode cX3_productOfFinite 48 = .ok (.lload 8, 2) := by decide +kernel
theorem dX3_productOfFinite_50 : decode cX3_productOfFinite 50 = .ok (.lload 14, 2) := by decide +kernel
theorem dX3_productOfFinite_52 : decode cX3_productOfFinite 52 = .ok (.lmul, 1) := by decide +kernel
theorem dX3_productOfFinite_53 : decode cX3_productOfFinite 53 = .ok (.lload 10, 2) := by decide +kernel
theorem dX3_productOfFinite_55 : decode cX3_productOfFinite 55 = .ok (.lload 12, 2) := by decide +kernel
theorem dX3_productOfFinite_57 : decode cX3_productOfFinite 57 = .ok (.lmul, 1) := by decide +kernel
theorem dX3_productOfFinite_58 : decode cX3_productOfFinite 58 = .ok (.ladd, 1) := by decide +kernel
theorem dX3_productOfFinite_59 : decode cX3_productOfFinite 59 = .ok (.lstore 16, 2) := by decide +kernel
theorem dX3_productOfFinite_61 : decode cX3_productOfFinite 61 = .ok (.lload 8, 2) := by decide +kernel
theorem dX3_productOfFinite_63 : decode cX3_productOfFinite 63 = .ok (.lload 12, 2) := by decide +kernel
theorem dX3_productOfFinite_65 : decode cX3_productOfFinite 65 = .ok (.lmul, 1) := by decide +kernel
theorem dX3_productOfFinite_66 : decode cX3_productOfFinite 66 = .ok (.lload 16, 2) := by decide +kernel
theorem dX3_productOfFinite_68 : decode cX3_productOfFinite 68 = .ok (.bipush 27, 2) := by decide +kernel
theorem dX3_productOfFinite_70 : decode cX3_productOfFinite 70 = .ok (.lushr, 1) := by decide +kernel
theorem dX3_productOfFinite_71 : decode cX3_productOfFinite 71 = .ok (.ladd, 1) := by decide +kernel
theorem dX3_productOfFinite_72 : decode cX3_productOfFinite 72 = .ok (.lstore 18, 2) := by decide +kernel
theorem dX3_productOfFinite_74 : decode cX3_productOfFinite 74 = .ok (.lload 10, 2) := by decide +kernel
theorem dX3_productOfFinite_76 : decode cX3_productOfFinite 76 = .ok (.lload 14, 2) := by decide +kernel
theorem dX3_productOfFinite_78 : decode cX3_productOfFinite 78 = .ok (.lmul, 1) := by decide +kernel
theorem dX3_productOfFinite_79 : decode cX3_productOfFinite 79 = .ok (.lload 16, 2) := by decide +kernel
theorem dX3_productOfFinite_81 : decode cX3_productOfFinite 81 = .ok (.ldc2_w 66, 3) := by decide +kernel
theorem dX3_productOfFinite_84 : decode cX3_productOfFinite 84 = .ok (.land, 1) := by decide +kernel
theorem dX3_productOfFinite_85 : decode cX3_productOfFinite 85 = .ok (.bipush 27, 2) := by decide +kernel
theorem dX3_productOfFinite_87 : decode cX3_productOfFinite 87 = .ok (.lshl, 1) := by decide +kernel
theorem dX3_productOfFinite_88 : decode cX3_productOfFinite 88 = .ok (.ladd, 1) := by decide +kernel
theorem dX3_productOfFinite_89 : decode cX3_productOfFinite 89 = .ok (.lstore 20, 2) := by decide +kernel
theorem dX3_productOfFinite_91 : decode cX3_productOfFinite 91 = .ok (.lload 18, 2) := by decide +kernel
theorem dX3_productOfFinite_93 : decode cX3_productOfFinite 93 = .ok (.bipush 10, 2) := by decide +kernel
theorem dX3_productOfFinite_95 : decode cX3_productOfFinite 95 = .ok (.lshl, 1) := by decide +kernel
theorem dX3_productOfFinite_96 : decode cX3_productOfFinite 96 = .ok (.lload 20, 2) := by decide +kernel
theorem dX3_productOfFinite_98 : decode cX3_productOfFinite 98 = .ok (.bipush 44, 2) := by decide +kernel
theorem dX3_productOfFinite_100 : decode cX3_productOfFinite 100 = .ok (.invokestatic 46, 3) := by decide +kernel
theorem dX3_productOfFinite_103 : decode cX3_productOfFinite 103 = .ok (.ladd, 1) := by decide +kernel
theorem dX3_productOfFinite_104 : decode cX3_productOfFinite 104 = .ok (.lstore 22, 2) := by decide +kernel
theorem dX3_productOfFinite_106 : decode cX3_productOfFinite 106 = .ok (.getstatic 11, 3) := by decide +kernel
theorem dX3_productOfFinite_109 : decode cX3_productOfFinite 109 = .ok (.lload_n 0, 1) := by decide +kernel
theorem dX3_productOfFinite_110 : decode cX3_productOfFinite 110 = .ok (.invokevirtual 39, 3) := by decide +kernel
theorem dX3_productOfFinite_113 : decode cX3_productOfFinite 113 = .ok (.getstatic 11, 3) := by decide +kernel
theorem dX3_productOfFinite_116 : decode cX3_productOfFinite 116 = .ok (.lload_n 2, 1) := by decide +kernel
theorem dX3_productOfFinite_117 : decode cX3_productOfFinite 117 = .ok (.invokevirtual 39, 3) := by decide +kernel
theorem dX3_productOfFinite_120 : decode cX3_productOfFinite 120 = .ok (.iadd, 1) := by decide +kernel
theorem dX3_productOfFinite_121 : decode cX3_productOfFinite 121 = .ok (.istore 24, 2) := by decide +kernel
theorem dX3_productOfFinite_123 : decode cX3_productOfFinite 123 = .ok (.getstatic 11, 3) := by decide +kernel
theorem dX3_productOfFinite_126 : decode cX3_productOfFinite 126 = .ok (.lload_n 0, 1) := by decide +kernel
theorem dX3_productOfFinite_127 : decode cX3_productOfFinite 127 = .ok (.lconst 0, 1) := by decide +kernel
theorem dX3_productOfFinite_128 : decode cX3_productOfFinite 128 = .ok (.lcmp, 1) := by decide +kernel
theorem dX3_productOfFinite_129 : decode cX3_productOfFinite 129 = .ok (.ifCond .ge 7, 3) := by decide +kernel
theorem dX3_productOfFinite_132 : decode cX3_productOfFinite 132 = .ok (.iconst 1, 1) := by decide +kernel
theorem dX3_productOfFinite_133 : decode cX3_productOfFinite 133 = .ok (.goto 4, 3) := by decide +kernel
theorem dX3_productOfFinite_136 : decode cX3_productOfFinite 136 = .ok (.iconst 0, 1) := by decide +kernel
theorem dX3_productOfFinite_137 : decode cX3_productOfFinite 137 = .ok (.lload_n 2, 1) := by decide +kernel
theorem dX3_productOfFinite_138 : decode cX3_productOfFinite 138 = .ok (.lconst 0, 1) := by decide +kernel
theorem dX3_productOfFinite_139 : decode cX3_productOfFinite 139 = .ok (.lcmp, 1) := by decide +kernel
theorem dX3_productOfFinite_140 : decode cX3_productOfFinite 140 = .ok (.ifCond .ge 7, 3) := by decide +kernel
theorem dX3_productOfFinite_143 : decode cX3_productOfFinite 143 = .ok (.iconst 1, 1) := by decide +kernel
theorem dX3_productOfFinite_144 : decode cX3_productOfFinite 144 = .ok (.goto 4, 3) := by decide +kernel
theorem dX3_productOfFinite_147 : decode cX3_productOfFinite 147 = .ok (.iconst 0, 1) := by decide +kernel
theorem dX3_productOfFinite_148 : decode cX3_productOfFinite 148 = .ok (.if_icmp .eq 7, 3) := by decide +kernel
theorem dX3_productOfFinite_151 : decode cX3_productOfFinite 151 = .ok (.iconst 1, 1) := by decide +kernel
theorem dX3_productOfFinite_152 : decode cX3_productOfFinite 152 = .ok (.goto 4, 3) := by decide +kernel
theorem dX3_productOfFinite_155 : decode cX3_productOfFinite 155 = .ok (.iconst 0, 1) := by decide +kernel
theorem dX3_productOfFinite_156 : decode cX3_productOfFinite 156 = .ok (.iload 24, 2) := by decide +kernel
theorem dX3_productOfFinite_158 : decode cX3_productOfFinite 158 = .ok (.bipush 54, 2) := by decide +kernel
theorem dX3_productOfFinite_160 : decode cX3_productOfFinite 160 = .ok (.iadd, 1) := by decide +kernel
theorem dX3_productOfFinite_161 : decode cX3_productOfFinite 161 = .ok (.bipush 10, 2) := by decide +kernel
theorem dX3_productOfFinite_163 : decode cX3_productOfFinite 163 = .ok (.isub, 1) := by decide +kernel
theorem dX3_productOfFinite_164 : decode cX3_productOfFinite 164 = .ok (.lload 22, 2) := by decide +kernel
theorem dX3_productOfFinite_166 : decode cX3_productOfFinite 166 = .ok (.invokevirtual 50, 3) := by decide +kernel
theorem dX3_productOfFinite_169 : decode cX3_productOfFinite 169 = .ok (.lreturn, 1) := by decide +kernel
set_option maxRecDepth 20000 in
theorem ggX3_quotient_X0_isNaN : GoodIn wsX3_quotient wsX0_isNaN := goodIn_r _ [8, 9, 10, 11, 12, 7, 13, 14] rfl (by decide +kernel)
set_option maxRecDepth 20000 in
theorem gX3_quotient_X0_isNaN : GoodIn wsX3_quotient (wsV RX3 17 RX0 yX0_isNaN wsX0_isNaN) := goodIn_app (goodIn_of _ (by decide +kernel)) ggX3_quotient_X0_isNaN
set_option maxRecDepth 20000 in
theorem ggX3_quotient_X0_plainNaN : GoodIn wsX3_quotient wsX0_plainNaN := goodIn_r _ [18, 9, 19] rfl (by decide +kernel)
set_option maxRecDepth 20000 in
theorem gX3_quotient_X0_plainNaN : GoodIn wsX3_quotient (wsV RX3 21 RX0 yX0_plainNaN wsX0_plainNaN) := goodIn_app (goodIn_of _ (by decide +kernel)) ggX3_quotient_X0_plainNaN
set_option maxRecDepth 20000 in
theorem ggX3_quotient_X0_isInfinite : GoodIn wsX3_quotient wsX0_isInfinite := goodIn_r _ [23, 9, 10, 11, 12, 7, 13, 14] rfl (by decide +kernel)
set_option maxRecDepth 20000 in
theorem gX3_quotient_X0_isInfinite : GoodIn wsX3_quotient (wsV RX3 25 RX0 yX0_isInfinite wsX0_isInfinite) := goodIn_app (goodIn_of _ (by decide +kernel)) ggX3_quotient_X0_isInfinite
set_option maxRecDepth 20000 in
theorem ggX3_quotient_X0_isZero : GoodIn wsX3_quotient wsX0_isZero := goodIn_r _ [27, 10, 11, 12, 7, 13, 14] rfl (by decide +kernel)
set_option maxRecDepth 20000 in
theorem gX3_quotient_X0_isZero : GoodIn wsX3_quotient (wsV RX3 32 RX0 yX0_isZero wsX0_isZero) := goodIn_app (goodIn_of _ (by decide +kernel)) ggX3_quotient_X0_isZero
set_option maxRecDepth 20000 in
theorem ggX3_quotient_X3_quotientOfFinite : GoodIn wsX3_quotient wsX3_quotientOfFinite := goodIn_r _ [31, 1, 32, 33, 34, 7, 35, 19, 10, 11, 12, 13, 14, 36, 37, 38, 39, 40, 41, 42, 15, 16, 17, 18, 9, 43, 44, 45, 46, 47, 48, 49, 50, 51, 52, 53, 54, 55, 56, 57, 58] rfl (by decide +kernel)
set_option maxRecDepth 20000 in
theorem gX3_quotient_X3_quotientOfFinite : GoodIn wsX3_quotient (va_wsS RX3 68 yX3_quotientOfFinite wsX3_quotientOfFinite) := goodIn_app (goodIn_of _ (by decide +kernel)) ggX3_quotient_X3_quotientOfFinite
theorem dX3_quotient_0 : decode cX3_quotient 0 = .ok (.getstatic 11, 3) := by decide +kernel
theorem dX3_quotient_3 : decode cX3_quotient 3 = .ok (.lload_n 0, 1) := by decide +kernel
theorem dX3_quotient_4 : decode cX3_quotient 4 = .ok (.invokevirtual 17, 3) := by decide +kernel
theorem dX3_quotient_7 : decode cX3_quotient 7 = .ok (.ifCond .ne 13, 3) := by decide +kernel
theorem dX3_quotient_10 : decode cX3_quotient 10 = .ok (.getstatic 11, 3) := by decide +kernel
theorem dX3_quotient_13 : decode cX3_quotient 13 = .ok (.lload_n 2, 1) := by decide +kernel
theorem dX3_quotient_14 : decode cX3_quotient 14 = .ok (.invokevirtual 17, 3) := by decide +kernel
theorem dX3_quotient_17 : decode cX3_quotient 17 = .ok (.ifCond .eq 10, 3) := by decide +kernel
theorem dX3_quotient_20 : decode cX3_quotient 20 = .ok (.getstatic 11, 3) := by decide +kernel
theorem dX3_quotient_23 : decode cX3_quotient 23 = .ok (.invokevirtual 21, 3) := by decide +kernel
theorem dX3_quotient_26 : decode cX3_quotient 26 = .ok (.lreturn, 1) := by decide +kernel
theorem dX3_quotient_27 : decode cX3_quotient 27 = .ok (.lload_n 0, 1) := by decide +kernel
theorem dX3_quotient_28 : decode cX3_quotient 28 = .ok (.lload_n 2, 1) := by decide +kernel
theorem dX3_quotient_29 : decode cX3_quotient 29 = .ok (.lxor, 1) := by decide +kernel
theorem dX3_quotient_30 : decode cX3_quotient 30 = .ok (.ldc2_w 54, 3) := by decide +kernel
theorem dX3_quotient_33 : decode cX3_quotient 33 = .ok (.land, 1) := by decide +kernel
theorem dX3_quotient_34 : decode cX3_quotient 34 = .ok (.lstore 4, 2) := by decide +kernel
theorem dX3_quotient_36 : decode cX3_quotient 36 = .ok (.getstatic 11, 3) := by decide +kernel
theorem dX3_quotient_39 : decode cX3_quotient 39 = .ok (.lload_n 0, 1) := by decide +kernel
theorem dX3_quotient_40 : decode cX3_quotient 40 = .ok (.invokevirtual 25, 3) := by decide +kernel
theorem dX3_quotient_43 : decode cX3_quotient 43 = .ok (.ifCond .eq 32, 3) := by decide +kernel
theorem dX3_quotient_46 : decode cX3_quotient 46 = .ok (.getstatic 11, 3) := by decide +kernel
theorem dX3_quotient_49 : decode cX3_quotient 49 = .ok (.lload_n 2, 1) := by decide +kernel
theorem dX3_quotient_50 : decode cX3_quotient 50 = .ok (.invokevirtual 25, 3) := by decide +kernel
theorem dX3_quotient_53 : decode cX3_quotient 53 = .ok (.ifCond .eq 12, 3) := by decide +kernel
theorem dX3_quotient_56 : decode cX3_quotient 56 = .ok (.getstatic 11, 3) := by decide +kernel
theorem dX3_quotient_59 : decode cX3_quotient 59 = .ok (.invokevirtual 21, 3) := by decide +kernel
theorem dX3_quotient_62 : decode cX3_quotient 62 = .ok (.goto 12, 3) := by decide +kernel
theorem dX3_quotient_65 : decode cX3_quotient 65 = .ok (.lload 4, 2) := by decide +kernel
theorem dX3_quotient_67 : decode cX3_quotient 67 = .ok (.getstatic 11, 3) := by decide +kernel
theorem dX3_quotient_70 : decode cX3_quotient 70 = .ok (.getfield 59, 3) := by decide +kernel
theorem dX3_quotient_73 : decode cX3_quotient 73 = .ok (.lor, 1) := by decide +kernel
theorem dX3_quotient_74 : decode cX3_quotient 74 = .ok (.lreturn, 1) := by decide +kernel
theorem dX3_quotient_75 : decode cX3_quotient 75 = .ok (.getstatic 11, 3) := by decide +kernel
theorem dX3_quotient_78 : decode cX3_quotient 78 = .ok (.lload_n 2, 1) := by decide +kernel
theorem dX3_quotient_79 : decode cX3_quotient 79 = .ok (.invokevirtual 32, 3) := by decide +kernel
theorem dX3_quotient_82 : decode cX3_quotient 82 = .ok (.ifCond .eq 32, 3) := by decide +kernel
theorem dX3_quotient_85 : decode cX3_quotient 85 = .ok (.getstatic 11, 3) := by decide +kernel
theorem dX3_quotient_88 : decode cX3_quotient 88 = .ok (.lload_n 0, 1) := by decide +kernel
theorem dX3_quotient_89 : decode cX3_quotient 89 = .ok (.invokevirtual 32, 3) := by decide +kernel
theorem dX3_quotient_92 : decode cX3_quotient 92 = .ok (.ifCond .eq 12, 3) := by decide +kernel
theorem dX3_quotient_95 : decode cX3_quotient 95 = .ok (.getstatic 11, 3) := by decide +kernel
theorem dX3_quotient_98 : decode cX3_quotient 98 = .ok (.invokevirtual 21, 3) := by decide +kernel
theorem dX3_quotient_101 : decode cX3_quotient 101 = .ok (.goto 12, 3) := by decide +kernel
theorem dX3_quotient_104 : decode cX3_quotient 104 = .ok (.lload 4, 2) := by decide +kernel
theorem dX3_quotient_106 : decode cX3_quotient 106 = .ok (.getstatic 11, 3) := by decide +kernel
theorem dX3_quotient_109 : decode cX3_quotient 109 = .ok (.getfield 59, 3) := by decide +kernel
theorem dX3_quotient_112 : decode cX3_quotient 112 = .ok (.lor, 1) := by decide +kernel
theorem dX3_quotient_113 : decode cX3_quotient 113 = .ok (.lreturn, 1) := by decide +kernel
theorem dX3_quotient_114 : decode cX3_quotient 114 = .ok (.getstatic 11, 3) := by decide +kernel
theorem dX3_quotient_117 : decode cX3_quotient 117 = .ok (.lload_n 0, 1) := by decide +kernel
theorem dX3_quotient_118 : decode cX3_quotient 118 = .ok (.invokevirtual 32, 3) := by decide +kernel
theorem dX3_quotient_121 : decode cX3_quotient 121 = .ok (.ifCond .ne 13, 3) := by decide +kernel
theorem dX3_quotient_124 : decode cX3_quotient 124 = .ok (.getstatic 11, 3) := by decide +kernel
theorem dX3_quotient_127 : decode cX3_quotient 127 = .ok (.lload_n 2, 1) := by decide +kernel
theorem dX3_quotient_128 : decode cX3_quotient 128 = .ok (.invokevirtual 25, 3) := by decide +kernel
theorem dX3_quotient_131 : decode cX3_quotient 131 = .ok (.ifCond .eq 8, 3) := by decide +kernel
theorem dX3_quotient_134 : decode cX3_quotient 134 = .ok (.lload 4, 2) := by decide +kernel
theorem dX3_quotient_136 : decode cX3_quotient 136 = .ok (.goto 8, 3) := by decide +kernel
theorem dX3_quotient_139 : decode cX3_quotient 139 = .ok (.lload_n 0, 1) := by decide +kernel
theorem dX3_quotient_140 : decode cX3_quotient 140 = .ok (.lload_n 2, 1) := by decide +kernel
theorem dX3_quotient_141 : decode cX3_quotient 141 = .ok (.invokestatic 68, 3) := by decide +kernel
theorem dX3_quotient_144 : decode cX3_quotient 144 = .ok (.lreturn, 1) := by decide +kernel
set_option maxRecDepth 20000 in
theorem ggX3_quotientOfFinite_X0_significand : GoodIn wsX3_quotientOfFinite wsX0_significand := goodIn_r _ [6, 7, 8, 9, 10, 5, 11, 12, 13, 14, 15, 16, 17, 18, 19] rfl (by decide +kernel)
set_option maxRecDepth 20000 in
theorem gX3_quotientOfFinite_X0_significand : GoodIn wsX3_quotientOfFinite (wsV RX3 43 RX0 yX0_significand wsX0_significand) := goodIn_app (goodIn_of _ (by decide +kernel)) ggX3_quotientOfFinite_X0_significand
set_option maxRecDepth 20000 in
theorem ggX3_quotientOfFinite_X0_plainNaN : GoodIn wsX3_quotientOfFinite wsX0_plainNaN := goodIn_r _ [23, 24, 7] rfl (by decide +kernel)
set_option maxRecDepth 20000 in
theorem gX3_quotientOfFinite_X0_plainNaN : GoodIn wsX3_quotientOfFinite (wsV RX3 21 RX0 yX0_plainNaN wsX0_plainNaN) := goodIn_app (goodIn_of _ (by decide +kernel)) ggX3_quotientOfFinite_X0_plainNaN
set_option maxRecDepth 20000 in
theorem ggX3_quotientOfFinite_X0_exponent : GoodIn wsX3_quotientOfFinite wsX0_exponent := goodIn_r _ [28, 7, 29, 30, 31, 32, 33, 8, 9, 10, 5, 11, 12, 13, 14, 15, 16, 17, 18, 19] rfl (by decide +kernel)
set_option maxRecDepth 20000 in
theorem gX3_quotientOfFinite_X0_exponent : GoodIn wsX3_quotientOfFinite (wsV RX3 39 RX0 yX0_exponent wsX0_exponent) := goodIn_app (goodIn_of _ (by decide +kernel)) ggX3_quotientOfFinite_X0_exponent
set_option maxRecDepth 20000 in
theorem ggX3_quotientOfFinite_X0_pack : GoodIn wsX3_quotientOfFinite wsX0_pack := goodIn_r _ [37, 12, 7, 29, 30, 31, 32, 33, 24, 17, 18, 5, 19, 38, 39, 40] rfl (by decide +kernel)
set_option maxRecDepth 20000 in
theorem gX3_quotientOfFinite_X0_pack : GoodIn wsX3_quotientOfFinite (wsV RX3 50 RX0 yX0_pack wsX0_pack) := goodIn_app (goodIn_of _ (by decide +kernel)) ggX3_quotientOfFinite_X0_pack
theorem dX3_quotientOfFinite_0 : decode cX3_quotientOfFinite 0 = .ok (.getstatic 11, 3) := by decide +kernel
theorem dX3_quotientOfFinite_3 : decode cX3_quotientOfFinite 3 = .ok (.lload_n 2, 1) := by decide +kernel
theorem dX3_quotientOfFinite_4 : decode cX3_quotientOfFinite 4 = .ok (.invokevirtual 43, 3) := by decide +kernel
theorem dX3_quotientOfFinite_7 : decode cX3_quotientOfFinite 7 = .ok (.lstore 4, 2) := by decide +kernel
theorem dX3_quotientOfFinite_9 : decode cX3_quotientOfFinite 9 = .ok (.lload 4, 2) := by decide +kernel
theorem dX3_quotientOfFinite_11 : decode cX3_quotientOfFinite 11 = .ok (.lconst 0, 1) := by decide +kernel
theorem dX3_quotientOfFinite_12 : decode cX3_quotientOfFinite 12 = .ok (.lcmp, 1) := by decide +kernel
theorem dX3_quotientOfFinite_13 : decode cX3_quotientOfFinite 13 = .ok (.ifCond .ne 10, 3) := by decide +kernel
theorem dX3_quotientOfFinite_16 : decode cX3_quotientOfFinite 16 = .ok (.getstatic 11, 3) := by decide +kernel
theorem dX3_quotientOfFinite_19 : decode cX3_quotientOfFinite 19 = .ok (.invokevirtual 21, 3) := by decide +kernel
theorem dX3_quotientOfFinite_22 : decode cX3_quotientOfFinite 22 = .ok (.lreturn, 1) := by decide +kernel
theorem dX3_quotientOfFinite_23 : decode cX3_quotientOfFinite 23 = .ok (.getstatic 11, 3) := by decide +kernel
theorem dX3_quotientOfFinite_26 : decode cX3_quotientOfFinite 26 = .ok (.lload_n 0, 1) := by decide +kernel
theorem dX3_quotientOfFinite_27 : decode cX3_quotientOfFinite 27 = .ok (.invokevirtual 43, 3) := by decide +kernel
theorem dX3_quotientOfFinite_30 : decode cX3_quotientOfFinite 30 = .ok (.lstore 6, 2) := by decide +kernel
theorem dX3_quotientOfFinite_32 : decode cX3_quotientOfFinite 32 = .ok (.lload 6, 2) := by decide +kernel
theorem dX3_quotientOfFinite_34 : decode cX3_quotientOfFinite 34 = .ok (.lload 4, 2) := by decide +kernel
theorem dX3_quotientOfFinite_36 : decode cX3_quotientOfFinite 36 = .ok (.ldiv, 1) := by decide +kernel
theorem dX3_quotientOfFinite_37 : decode cX3_quotientOfFinite 37 = .ok (.lstore 8, 2) := by decide +kernel
theorem dX3_quotientOfFinite_39 : decode cX3_quotientOfFinite 39 = .ok (.lload 6, 2) := by decide +kernel
theorem dX3_quotientOfFinite_41 : decode cX3_quotientOfFinite 41 = .ok (.lload 4, 2) := by decide +kernel
theorem dX3_quotientOfFinite_43 : decode cX3_quotientOfFinite 43 = .ok (.lrem, 1) := by decide +kernel
theorem dX3_quotientOfFinite_44 : decode cX3_quotientOfFinite 44 = .ok (.lstore 6, 2) := by decide +kernel
theorem dX3_quotientOfFinite_46 : decode cX3_quotientOfFinite 46 = .ok (.iconst 0, 1) := by decide +kernel
theorem dX3_quotientOfFinite_47 : decode cX3_quotientOfFinite 47 = .ok (.istore 10, 2) := by decide +kernel
theorem dX3_quotientOfFinite_49 : decode cX3_quotientOfFinite 49 = .ok (.iconst 0, 1) := by decide +kernel
theorem dX3_quotientOfFinite_50 : decode cX3_quotientOfFinite 50 = .ok (.istore 11, 2) := by decide +kernel
theorem dX3_quotientOfFinite_52 : decode cX3_quotientOfFinite 52 = .ok (.iload 11, 2) := by decide +kernel
theorem dX3_quotientOfFinite_54 : decode cX3_quotientOfFinite 54 = .ok (.bipush 6, 2) := by decide +kernel
theorem dX3_quotientOfFinite_56 : decode cX3_quotientOfFinite 56 = .ok (.if_icmp .ge 39, 3) := by decide +kernel
theorem dX3_quotientOfFinite_59 : decode cX3_quotientOfFinite 59 = .ok (.lload 6, 2) := by decide +kernel
theorem dX3_quotientOfFinite_61 : decode cX3_quotientOfFinite 61 = .ok (.bipush 10, 2) := by decide +kernel
theorem dX3_quotientOfFinite_63 : decode cX3_quotientOfFinite 63 = .ok (.lshl, 1) := by decide +kernel
theorem dX3_quotientOfFinite_64 : decode cX3_quotientOfFinite 64 = .ok (.lstore 6, 2) := by decide +kernel
theorem dX3_quotientOfFinite_66 : decode cX3_quotientOfFinite 66 = .ok (.lload 8, 2) := by decide +kernel
theorem dX3_quotientOfFinite_68 : decode cX3_quotientOfFinite 68 = .ok (.bipush 10, 2) := by decide +kernel
theorem dX3_quotientOfFinite_70 : decode cX3_quotientOfFinite 70 = .ok (.lshl, 1) := by decide +kernel
theorem dX3_quotientOfFinite_71 : decode cX3_quotientOfFinite 71 = .ok (.lload 6, 2) := by decide +kernel
theorem dX3_quotientOfFinite_73 : decode cX3_quotientOfFinite 73 = .ok (.lload 4, 2) := by decide +kernel
theorem dX3_quotientOfFinite_75 : decode cX3_quotientOfFinite 75 = .ok (.ldiv, 1) := by decide +kernel
theorem dX3_quotientOfFinite_76 : decode cX3_quotientOfFinite 76 = .ok (.ladd, 1) := by decide +kernel
theorem dX3_quotientOfFinite_77 : decode cX3_quotientOfFinite 77 = .ok (.lstore 8, 2) := by decide +kernel
theorem dX3_quotientOfFinite_79 : decode cX3_quotientOfFinite 79 = .ok (.lload 6, 2) := by decide +kernel
theorem dX3_quotientOfFinite_81 : decode cX3_quotientOfFinite 81 = .ok (.lload 4, 2) := by decide +kernel
theorem dX3_quotientOfFinite_83 : decode cX3_quotientOfFinite 83 = .ok (.lrem, 1) := by decide +kernel
theorem dX3_quotientOfFinite_84 : decode cX3_quotientOfFinite 84 = .ok (.lstore 6, 2) := by decide +kernel
theorem dX3_quotientOfFinite_86 : decode cX3_quotientOfFinite 86 = .ok (.iinc 10 10, 3) := by decide +kernel
theorem dX3_quotientOfFinite_89 : decode cX3_quotientOfFinite 89 = .ok (.iinc 11 1, 3) := by decide +kernel
theorem dX3_quotientOfFinite_92 : decode cX3_quotientOfFinite 92 = .ok (.goto (-40), 3) := by decide +kernel
theorem dX3_quotientOfFinite_95 : decode cX3_quotientOfFinite 95 = .ok (.getstatic 11, 3) := by decide +kernel
theorem dX3_quotientOfFinite_98 : decode cX3_quotientOfFinite 98 = .ok (.lload_n 0, 1) := by decide +kernel
theorem dX3_quotientOfFinite_99 : decode cX3_quotientOfFinite 99 = .ok (.invokevirtual 39, 3) := by decide +kernel
theorem dX3_quotientOfFinite_102 : decode cX3_quotientOfFinite 102 = .ok (.getstatic 11, 3) := by decide +kernel
theorem dX3_quotientOfFinite_105 : decode cX3_quotientOfFinite 105 = .ok (.lload_n 2, 1) := by decide +kernel
theorem dX3_quotientOfFinite_106 : decode cX3_quotientOfFinite 106 = .ok (.invokevirtual 39, 3) := by decide +kernel
theorem dX3_quotientOfFinite_109 : decode cX3_quotientOfFinite 109 = .ok (.isub, 1) := by decide +kernel
theorem dX3_quotientOfFinite_110 : decode cX3_quotientOfFinite 110 = .ok (.iload 10, 2) := by decide +kernel
theorem dX3_quotientOfFinite_112 : decode cX3_quotientOfFinite 112 = .ok (.isub, 1) := by decide +kernel
theorem dX3_quotientOfFinite_113 : decode cX3_quotientOfFinite 113 = .ok (.istore 11, 2) := by decide +kernel
theorem dX3_quotientOfFinite_115 : decode cX3_quotientOfFinite 115 = .ok (.getstatic 11, 3) := by decide +kernel
theorem dX3_quotientOfFinite_118 : decode cX3_quotientOfFinite 118 = .ok (.lload_n 0, 1) := by decide +kernel
theorem dX3_quotientOfFinite_119 : decode cX3_quotientOfFinite 119 = .ok (.lconst 0, 1) := by decide +kernel
theorem dX3_quotientOfFinite_120 : decode cX3_quotientOfFinite 120 = .ok (.lcmp, 1) := by decide +kernel
theorem dX3_quotientOfFinite_121 : decode cX3_quotientOfFinite 121 = .ok (.ifCond .ge 7, 3) := by decide +kernel
theorem dX3_quotientOfFinite_124 : decode cX3_quotientOfFinite 124 = .ok (.iconst 1, 1) := by decide +kernel
theorem dX3_quotientOfFinite_125 : decode cX3_quotientOfFinite 125 = .ok (.goto 4, 3) := by decide +kernel
theorem dX3_quotientOfFinite_128 : decode cX3_quotientOfFinite 128 = .ok (.iconst 0, 1) := by decide +kernel
theorem dX3_quotientOfFinite_129 : decode cX3_quotientOfFinite 129 = .ok (.lload_n 2, 1) := by decide +kernel
theorem dX3_quotientOfFinite_130 : decode cX3_quotientOfFinite 130 = .ok (.lconst 0, 1) := by decide +kernel
theorem dX3_quotientOfFinite_131 : decode cX3_quotientOfFinite 131 = .ok (.lcmp, 1) := by decide +kernel
theorem dX3_quotientOfFinite_132 : decode cX3_quotientOfFinite 132 = .ok (.ifCond .ge 7, 3) := by decide +kernel
theorem dX3_quotientOfFinite_135 : decode cX3_quotientOfFinite 135 = .ok (.iconst 1, 1) := by decide +kernel
theorem dX3_quotientOfFinite_136 : decode cX3_quotientOfFinite 136 = .ok (.goto 4, 3) := by decide +kernel
theorem dX3_quotientOfFinite_139 : decode cX3_quotientOfFinite 139 = .ok (.iconst 0, 1) := by decide +kernel
theorem dX3_quotientOfFinite_140 : decode cX3_quotientOfFinite 140 = .ok (.if_icmp .eq 7, 3) := by decide +kernel
theorem dX3_quotientOfFinite_143 : decode cX3_quotientOfFinite 143 = .ok (.iconst 1, 1) := by decide +kernel
theorem dX3_quotientOfFinite_144 : decode cX3_quotientOfFinite 144 = .ok (.goto 4, 3) := by decide +kernel
theorem dX3_quotientOfFinite_147 : decode cX3_quotientOfFinite 147 = .ok (.iconst 0, 1) := by decide +kernel
theorem dX3_quotientOfFinite_148 : decode cX3_quotientOfFinite 148 = .ok (.iload 11, 2) := by decide +kernel
theorem dX3_quotientOfFinite_150 : decode cX3_quotientOfFinite 150 = .ok (.lload 6, 2) := by decide +kernel
theorem dX3_quotientOfFinite_152 : decode cX3_quotientOfFinite 152 = .ok (.lconst 0, 1) := by decide +kernel
theorem dX3_quotientOfFinite_153 : decode cX3_quotientOfFinite 153 = .ok (.lcmp, 1) := by decide +kernel
theorem dX3_quotientOfFinite_154 : decode cX3_quotientOfFinite 154 = .ok (.ifCond .ne 8, 3) := by decide +kernel
theorem dX3_quotientOfFinite_157 : decode cX3_quotientOfFinite 157 = .ok (.lload 8, 2) := by decide +kernel
theorem dX3_quotientOfFinite_159 : decode cX3_quotientOfFinite 159 = .ok (.goto 7, 3) := by decide +kernel
theorem dX3_quotientOfFinite_162 : decode cX3_quotientOfFinite 162 = .ok (.lload 8, 2) := by decide +kernel
theorem dX3_quotientOfFinite_164 : decode cX3_quotientOfFinite 164 = .ok (.lconst 1, 1) := by decide +kernel
theorem dX3_quotientOfFinite_165 : decode cX3_quotientOfFinite 165 = .ok (.lor, 1) := by decide +kernel
theorem dX3_quotientOfFinite_166 : decode cX3_quotientOfFinite 166 = .ok (.invokevirtual 50, 3) := by decide +kernel
theorem dX3_quotientOfFinite_169 : decode cX3_quotientOfFinite 169 = .ok (.lreturn, 1) := by decide +kernel
set_option maxRecDepth 20000 in
theorem ggX3_remainder_X0_isNaN : GoodIn wsX3_remainder wsX0_isNaN := goodIn_r _ [6, 7, 8, 9, 10, 5, 11, 12] rfl (by decide +kernel)
set_option maxRecDepth 20000 in
theorem gX3_remainder_X0_isNaN : GoodIn wsX3_remainder (wsV RX3 17 RX0 yX0_isNaN wsX0_isNaN) := goodIn_app (goodIn_of _ (by decide +kernel)) ggX3_remainder_X0_isNaN
set_option maxRecDepth 20000 in
theorem ggX3_remainder_X0_isInfinite : GoodIn wsX3_remainder wsX0_isInfinite := goodIn_r _ [16, 7, 8, 9, 10, 5, 11, 12] rfl (by decide +kernel)
set_option maxRecDepth 20000 in
theorem gX3_remainder_X0_isInfinite : GoodIn wsX3_remainder (wsV RX3 25 RX0 yX0_isInfinite wsX0_isInfinite) := goodIn_app (goodIn_of _ (by decide +kernel)) ggX3_remainder_X0_isInfinite
set_option maxRecDepth 20000 in
theorem ggX3_remainder_X0_isZero : GoodIn wsX3_remainder wsX0_isZero := goodIn_r _ [20, 8, 9, 10, 5, 11, 12] rfl (by decide +kernel)
set_option maxRecDepth 20000 in
theorem gX3_remainder_X0_isZero : GoodIn wsX3_remainder (wsV RX3 32 RX0 yX0_isZero wsX0_isZero) := goodIn_app (goodIn_of _ (by decide +kernel)) ggX3_remainder_X0_isZero
set_option maxRecDepth 20000 in
theorem ggX3_remainder_X0_plainNaN : GoodIn wsX3_remainder wsX0_plainNaN := goodIn_r _ [24, 7, 25] rfl (by decide +kernel)
set_option maxRecDepth 20000 in
theorem gX3_remainder_X0_plainNaN : GoodIn wsX3_remainder (wsV RX3 21 RX0 yX0_plainNaN wsX0_plainNaN) := goodIn_app (goodIn_of _ (by decide +kernel)) ggX3_remainder_X0_plainNaN
set_option maxRecDepth 20000 in
theorem ggX3_remainder_X0_magnitude : GoodIn wsX3_remainder wsX0_magnitude := goodIn_r _ [11, 12] rfl (by decide +kernel)
set_option maxRecDepth 20000 in
theorem gX3_remainder_X0_magnitude : GoodIn wsX3_remainder (wsV RX3 28 RX0 yX0_magnitude wsX0_magnitude) := goodIn_app (goodIn_of _ (by decide +kernel)) ggX3_remainder_X0_magnitude
set_option maxRecDepth 20000 in
theorem ggX3_remainder_X3_remainderOfFinite : GoodIn wsX3_remainder wsX3_remainderOfFinite := goodIn_r _ [30, 1, 31, 32, 33, 34, 35, 36, 37, 5, 38, 25, 8, 9, 10, 11, 12, 39, 40, 41, 42, 43, 44, 45, 21, 22, 23, 24, 7, 46, 47, 48, 49, 50, 51, 52, 53, 54, 55, 56, 57, 58, 59, 60] rfl (by decide +kernel)
set_option maxRecDepth 20000 in
theorem gX3_remainder_X3_remainderOfFinite : GoodIn wsX3_remainder (va_wsS RX3 71 yX3_remainderOfFinite wsX3_remainderOfFinite) := goodIn_app (goodIn_of _ (by decide +kernel)) ggX3_remainder_X3_remainderOfFinite
theorem dX3_remainder_0 : decode cX3_remainder 0 = .ok (.getstatic 11, 3) := by decide +kernel
theorem dX3_remainder_3 : decode cX3_remainder 3 = .ok (.lload_n 0, 1) := by decide +kernel
theorem dX3_remainder_4 : decode cX3_remainder 4 = .ok (.invokevirtual 17, 3) := by decide +kernel
theorem dX3_remainder_7 : decode cX3_remainder 7 = .ok (.ifCond .ne 13, 3) := by decide +kernel
theorem dX3_remainder_10 : decode cX3_remainder 10 = .ok (.getstatic 11, 3) := by decide +kernel
theorem dX3_remainder_13 : decode cX3_remainder 13 = .ok (.lload_n 2, 1) := by decide +kernel
theorem dX3_remainder_14 : decode cX3_remainder 14 = .ok (.invokevirtual 17, 3) := by decide +kernel
theorem dX3_remainder_17 : decode cX3_remainder 17 = .ok (.ifCond .eq 7, 3) := by decide +kernel
theorem dX3_remainder_20 : decode cX3_remainder 20 = .ok (.iconst 1, 1) := by decide +kernel
theorem dX3_remainder_21 : decode cX3_remainder 21 = .ok (.goto 4, 3) := by decide +kernel
theorem dX3_remainder_24 : decode cX3_remainder 24 = .ok (.iconst 0, 1) := by decide +kernel
theorem dX3_remainder_25 : decode cX3_remainder 25 = .ok (.istore 4, 2) := by decide +kernel
theorem dX3_remainder_27 : decode cX3_remainder 27 = .ok (.iload 4, 2) := by decide +kernel
theorem dX3_remainder_29 : decode cX3_remainder 29 = .ok (.ifCond .ne 23, 3) := by decide +kernel
theorem dX3_remainder_32 : decode cX3_remainder 32 = .ok (.getstatic 11, 3) := by decide +kernel
theorem dX3_remainder_35 : decode cX3_remainder 35 = .ok (.lload_n 0, 1) := by decide +kernel
theorem dX3_remainder_36 : decode cX3_remainder 36 = .ok (.invokevirtual 25, 3) := by decide +kernel
theorem dX3_remainder_39 : decode cX3_remainder 39 = .ok (.ifCond .ne 13, 3) := by decide +kernel
theorem dX3_remainder_42 : decode cX3_remainder 42 = .ok (.getstatic 11, 3) := by decide +kernel
theorem dX3_remainder_45 : decode cX3_remainder 45 = .ok (.lload_n 2, 1) := by decide +kernel
theorem dX3_remainder_46 : decode cX3_remainder 46 = .ok (.invokevirtual 32, 3) := by decide +kernel
theorem dX3_remainder_49 : decode cX3_remainder 49 = .ok (.ifCond .eq 10, 3) := by decide +kernel
theorem dX3_remainder_52 : decode cX3_remainder 52 = .ok (.getstatic 11, 3) := by decide +kernel
theorem dX3_remainder_55 : decode cX3_remainder 55 = .ok (.invokevirtual 21, 3) := by decide +kernel
theorem dX3_remainder_58 : decode cX3_remainder 58 = .ok (.lreturn, 1) := by decide +kernel
theorem dX3_remainder_59 : decode cX3_remainder 59 = .ok (.getstatic 11, 3) := by decide +kernel
theorem dX3_remainder_62 : decode cX3_remainder 62 = .ok (.lload_n 0, 1) := by decide +kernel
theorem dX3_remainder_63 : decode cX3_remainder 63 = .ok (.invokevirtual 28, 3) := by decide +kernel
theorem dX3_remainder_66 : decode cX3_remainder 66 = .ok (.getstatic 11, 3) := by decide +kernel
theorem dX3_remainder_69 : decode cX3_remainder 69 = .ok (.lload_n 2, 1) := by decide +kernel
theorem dX3_remainder_70 : decode cX3_remainder 70 = .ok (.invokevirtual 28, 3) := by decide +kernel
theorem dX3_remainder_73 : decode cX3_remainder 73 = .ok (.lcmp, 1) := by decide +kernel
theorem dX3_remainder_74 : decode cX3_remainder 74 = .ok (.ifCond .ge 7, 3) := by decide +kernel
theorem dX3_remainder_77 : decode cX3_remainder 77 = .ok (.iconst 1, 1) := by decide +kernel
theorem dX3_remainder_78 : decode cX3_remainder 78 = .ok (.goto 4, 3) := by decide +kernel
theorem dX3_remainder_81 : decode cX3_remainder 81 = .ok (.iconst 0, 1) := by decide +kernel
theorem dX3_remainder_82 : decode cX3_remainder 82 = .ok (.istore 5, 2) := by decide +kernel
theorem dX3_remainder_84 : decode cX3_remainder 84 = .ok (.iload 5, 2) := by decide +kernel
theorem dX3_remainder_86 : decode cX3_remainder 86 = .ok (.ifCond .eq 7, 3) := by decide +kernel
theorem dX3_remainder_89 : decode cX3_remainder 89 = .ok (.lload_n 0, 1) := by decide +kernel
theorem dX3_remainder_90 : decode cX3_remainder 90 = .ok (.goto 8, 3) := by decide +kernel
theorem dX3_remainder_93 : decode cX3_remainder 93 = .ok (.lload_n 0, 1) := by decide +kernel
theorem dX3_remainder_94 : decode cX3_remainder 94 = .ok (.lload_n 2, 1) := by decide +kernel
theorem dX3_remainder_95 : decode cX3_remainder 95 = .ok (.invokestatic 71, 3) := by decide +kernel
theorem dX3_remainder_98 : decode cX3_remainder 98 = .ok (.lreturn, 1) := by decide +kernel
set_option maxRecDepth 20000 in
theorem ggX3_remainderOfFinite_X0_significand : GoodIn wsX3_remainderOfFinite wsX0_significand := goodIn_r _ [10, 11, 12, 13, 14, 9, 15, 16, 17, 18, 19, 20, 21, 22, 23] rfl (by decide +kernel)
set_option maxRecDepth 20000 in
theorem gX3_remainderOfFinite_X0_significand : GoodIn wsX3_remainderOfFinite (wsV RX3 43 RX0 yX0_significand wsX0_significand) := goodIn_app (goodIn_of _ (by decide +kernel)) ggX3_remainderOfFinite_X0_significand
set_option maxRecDepth 20000 in
theorem ggX3_remainderOfFinite_X0_plainNaN : GoodIn wsX3_remainderOfFinite wsX0_plainNaN := goodIn_r _ [27, 28, 11] rfl (by decide +kernel)
set_option maxRecDepth 20000 in
theorem gX3_remainderOfFinite_X0_plainNaN : GoodIn wsX3_remainderOfFinite (wsV RX3 21 RX0 yX0_plainNaN wsX0_plainNaN) := goodIn_app (goodIn_of _ (by decide +kernel)) ggX3_remainderOfFinite_X0_plainNaN
set_option maxRecDepth 20000 in
theorem ggX3_remainderOfFinite_X0_exponent : GoodIn wsX3_remainderOfFinite wsX0_exponent := goodIn_r _ [32, 11, 33, 34, 35, 4, 36, 12, 13, 14, 9, 15, 16, 17, 18, 19, 20, 21, 22, 23] rfl (by decide +kernel)
set_option maxRecDepth 20000 in
theorem gX3_remainderOfFinite_X0_exponent : GoodIn wsX3_remainderOfFinite (wsV RX3 39 RX0 yX0_exponent wsX0_exponent) := goodIn_app (goodIn_of _ (by decide +kernel)) ggX3_remainderOfFinite_X0_exponent
set_option maxRecDepth 20000 in
theorem ggX3_remainderOfFinite_X0_pack : GoodIn wsX3_remainderOfFinite wsX0_pack := goodIn_r _ [40, 16, 11, 33, 34, 35, 4, 36, 28, 21, 22, 9, 23, 41, 42, 43] rfl (by decide +kernel)
set_option maxRecDepth 20000 in
theorem gX3_remainderOfFinite_X0_pack : GoodIn wsX3_remainderOfFinite (wsV RX3 50 RX0 yX0_pack wsX0_pack) := goodIn_app (goodIn_of _ (by decide +kernel)) ggX3_remainderOfFinite_X0_pack
theorem dX3_remainderOfFinite_0 : decode cX3_remainderOfFinite 0 = .ok (.getstatic 11, 3) := by decide +kernel
theorem dX3_remainderOfFinite_3 : decode cX3_remainderOfFinite 3 = .ok (.lload_n 2, 1) := by decide +kernel
theorem dX3_remainderOfFinite_4 : decode cX3_remainderOfFinite 4 = .ok (.invokevirtual 43, 3) := by decide +kernel
theorem dX3_remainderOfFinite_7 : decode cX3_remainderOfFinite 7 = .ok (.lstore 4, 2) := by decide +kernel
theorem dX3_remainderOfFinite_9 : decode cX3_remainderOfFinite 9 = .ok (.lload 4, 2) := by decide +kernel
theorem dX3_remainderOfFinite_11 : decode cX3_remainderOfFinite 11 = .ok (.lconst 0, 1) := by decide +kernel
theorem dX3_remainderOfFinite_12 : decode cX3_remainderOfFinite 12 = .ok (.lcmp, 1) := by decide +kernel
theorem dX3_remainderOfFinite_13 : decode cX3_remainderOfFinite 13 = .ok (.ifCond .ne 10, 3) := by decide +kernel
theorem dX3_remainderOfFinite_16 : decode cX3_remainderOfFinite 16 = .ok (.getstatic 11, 3) := by decide +kernel
theorem dX3_remainderOfFinite_19 : decode cX3_remainderOfFinite 19 = .ok (.invokevirtual 21, 3) := by decide +kernel
theorem dX3_remainderOfFinite_22 : decode cX3_remainderOfFinite 22 = .ok (.lreturn, 1) := by decide +kernel
theorem dX3_remainderOfFinite_23 : decode cX3_remainderOfFinite 23 = .ok (.getstatic 11, 3) := by decide +kernel
theorem dX3_remainderOfFinite_26 : decode cX3_remainderOfFinite 26 = .ok (.lload_n 2, 1) := by decide +kernel
theorem dX3_remainderOfFinite_27 : decode cX3_remainderOfFinite 27 = .ok (.invokevirtual 39, 3) := by decide +kernel
theorem dX3_remainderOfFinite_30 : decode cX3_remainderOfFinite 30 = .ok (.istore 6, 2) := by decide +kernel
theorem dX3_remainderOfFinite_32 : decode cX3_remainderOfFinite 32 = .ok (.getstatic 11, 3) := by decide +kernel
theorem dX3_remainderOfFinite_35 : decode cX3_remainderOfFinite 35 = .ok (.lload_n 0, 1) := by decide +kernel
theorem dX3_remainderOfFinite_36 : decode cX3_remainderOfFinite 36 = .ok (.invokevirtual 43, 3) := by decide +kernel
theorem dX3_remainderOfFinite_39 : decode cX3_remainderOfFinite 39 = .ok (.lload 4, 2) := by decide +kernel
theorem dX3_remainderOfFinite_41 : decode cX3_remainderOfFinite 41 = .ok (.lrem, 1) := by decide +kernel
theorem dX3_remainderOfFinite_42 : decode cX3_remainderOfFinite 42 = .ok (.lstore 7, 2) := by decide +kernel
theorem dX3_remainderOfFinite_44 : decode cX3_remainderOfFinite 44 = .ok (.getstatic 11, 3) := by decide +kernel
theorem dX3_remainderOfFinite_47 : decode cX3_remainderOfFinite 47 = .ok (.lload_n 0, 1) := by decide +kernel
theorem dX3_remainderOfFinite_48 : decode cX3_remainderOfFinite 48 = .ok (.invokevirtual 39, 3) := by decide +kernel
theorem dX3_remainderOfFinite_51 : decode cX3_remainderOfFinite 51 = .ok (.iload 6, 2) := by decide +kernel
theorem dX3_remainderOfFinite_53 : decode cX3_remainderOfFinite 53 = .ok (.isub, 1) := by decide +kernel
theorem dX3_remainderOfFinite_54 : decode cX3_remainderOfFinite 54 = .ok (.istore 9, 2) := by decide +kernel
theorem dX3_remainderOfFinite_56 : decode cX3_remainderOfFinite 56 = .ok (.iload 9, 2) := by decide +kernel
theorem dX3_remainderOfFinite_58 : decode cX3_remainderOfFinite 58 = .ok (.ifCond .le 24, 3) := by decide +kernel
theorem dX3_remainderOfFinite_61 : decode cX3_remainderOfFinite 61 = .ok (.lload 7, 2) := by decide +kernel
theorem dX3_remainderOfFinite_63 : decode cX3_remainderOfFinite 63 = .ok (.iload 9, 2) := by decide +kernel
theorem dX3_remainderOfFinite_65 : decode cX3_remainderOfFinite 65 = .ok (.bipush 10, 2) := by decide +kernel
theorem dX3_remainderOfFinite_67 : decode cX3_remainderOfFinite 67 = .ok (.invokestatic 74, 3) := by decide +kernel
theorem dX3_remainderOfFinite_70 : decode cX3_remainderOfFinite 70 = .ok (.lshl, 1) := by decide +kernel
theorem dX3_remainderOfFinite_71 : decode cX3_remainderOfFinite 71 = .ok (.lload 4, 2) := by decide +kernel
theorem dX3_remainderOfFinite_73 : decode cX3_remainderOfFinite 73 = .ok (.lrem, 1) := by decide +kernel
theorem dX3_remainderOfFinite_74 : decode cX3_remainderOfFinite 74 = .ok (.lstore 7, 2) := by decide +kernel
theorem dX3_remainderOfFinite_76 : decode cX3_remainderOfFinite 76 = .ok (.iinc 9 (-10), 3) := by decide +kernel
theorem dX3_remainderOfFinite_79 : decode cX3_remainderOfFinite 79 = .ok (.goto (-23), 3) := by decide +kernel
theorem dX3_remainderOfFinite_82 : decode cX3_remainderOfFinite 82 = .ok (.getstatic 11, 3) := by decide +kernel
theorem dX3_remainderOfFinite_85 : decode cX3_remainderOfFinite 85 = .ok (.lload_n 0, 1) := by decide +kernel
theorem dX3_remainderOfFinite_86 : decode cX3_remainderOfFinite 86 = .ok (.lconst 0, 1) := by decide +kernel
theorem dX3_remainderOfFinite_87 : decode cX3_remainderOfFinite 87 = .ok (.lcmp, 1) := by decide +kernel
theorem dX3_remainderOfFinite_88 : decode cX3_remainderOfFinite 88 = .ok (.ifCond .ge 7, 3) := by decide +kernel
theorem dX3_remainderOfFinite_91 : decode cX3_remainderOfFinite 91 = .ok (.iconst 1, 1) := by decide +kernel
theorem dX3_remainderOfFinite_92 : decode cX3_remainderOfFinite 92 = .ok (.goto 4, 3) := by decide +kernel
theorem dX3_remainderOfFinite_95 : decode cX3_remainderOfFinite 95 = .ok (.iconst 0, 1) := by decide +kernel
theorem dX3_remainderOfFinite_96 : decode cX3_remainderOfFinite 96 = .ok (.iload 6, 2) := by decide +kernel
theorem dX3_remainderOfFinite_98 : decode cX3_remainderOfFinite 98 = .ok (.lload 7, 2) := by decide +kernel
theorem dX3_remainderOfFinite_100 : decode cX3_remainderOfFinite 100 = .ok (.invokevirtual 50, 3) := by decide +kernel
theorem dX3_remainderOfFinite_103 : decode cX3_remainderOfFinite 103 = .ok (.lreturn, 1) := by decide +kernel
set_option maxRecDepth 20000 in
theorem ggX3_greater_X0_isNaN : GoodIn wsX3_greater wsX0_isNaN := goodIn_r _ [6, 7, 8, 9, 10, 5, 11, 12] rfl (by decide +kernel)
set_option maxRecDepth 20000 in
theorem gX3_greater_X0_isNaN : GoodIn wsX3_greater (wsV RX3 17 RX0 yX0_isNaN wsX0_isNaN) := goodIn_app (goodIn_of _ (by decide +kernel)) ggX3_greater_X0_isNaN
set_option maxRecDepth 20000 in
theorem ggX3_greater_X0_plainNaN : GoodIn wsX3_greater wsX0_plainNaN := goodIn_r _ [16, 7, 17] rfl (by decide +kernel)
set_option maxRecDepth 20000 in
theorem gX3_greater_X0_plainNaN : GoodIn wsX3_greater (wsV RX3 21 RX0 yX0_plainNaN wsX0_plainNaN) := goodIn_app (goodIn_of _ (by decide +kernel)) ggX3_greater_X0_plainNaN
set_option maxRecDepth 20000 in
theorem ggX3_greater_X3_rankWithSignOfZero : GoodIn wsX3_greater wsX3_rankWithSignOfZero := goodIn_r _ [21, 1, 22, 23, 9, 10, 5, 11, 12] rfl (by decide +kernel)
set_option maxRecDepth 20000 in
theorem gX3_greater_X3_rankWithSignOfZero : GoodIn wsX3_greater (va_wsS RX3 80 yX3_rankWithSignOfZero wsX3_rankWithSignOfZero) := goodIn_app (goodIn_of _ (by decide +kernel)) ggX3_greater_X3_rankWithSignOfZero
theorem dX3_greater_0 : decode cX3_greater 0 = .ok (.getstatic 11, 3) := by decide +kernel
theorem dX3_greater_3 : decode cX3_greater 3 = .ok (.lload_n 0, 1) := by decide +kernel
theorem dX3_greater_4 : decode cX3_greater 4 = .ok (.invokevirtual 17, 3) := by decide +kernel
theorem dX3_greater_7 : decode cX3_greater 7 = .ok (.ifCond .ne 13, 3) := by decide +kernel
theorem dX3_greater_10 : decode cX3_greater 10 = .ok (.getstatic 11, 3) := by decide +kernel
theorem dX3_greater_13 : decode cX3_greater 13 = .ok (.lload_n 2, 1) := by decide +kernel
theorem dX3_greater_14 : decode cX3_greater 14 = .ok (.invokevirtual 17, 3) := by decide +kernel
theorem dX3_greater_17 : decode cX3_greater 17 = .ok (.ifCond .eq 10, 3) := by decide +kernel
theorem dX3_greater_20 : decode cX3_greater 20 = .ok (.getstatic 11, 3) := by decide +kernel
theorem dX3_greater_23 : decode cX3_greater 23 = .ok (.invokevirtual 21, 3) := by decide +kernel
theorem dX3_greater_26 : decode cX3_greater 26 = .ok (.lreturn, 1) := by decide +kernel
theorem dX3_greater_27 : decode cX3_greater 27 = .ok (.lload_n 0, 1) := by decide +kernel
theorem dX3_greater_28 : decode cX3_greater 28 = .ok (.invokestatic 80, 3) := by decide +kernel
theorem dX3_greater_31 : decode cX3_greater 31 = .ok (.lload_n 2, 1) := by decide +kernel
theorem dX3_greater_32 : decode cX3_greater 32 = .ok (.invokestatic 80, 3) := by decide +kernel
theorem dX3_greater_35 : decode cX3_greater 35 = .ok (.lcmp, 1) := by decide +kernel
theorem dX3_greater_36 : decode cX3_greater 36 = .ok (.ifCond .lt 7, 3) := by decide +kernel
theorem dX3_greater_39 : decode cX3_greater 39 = .ok (.lload_n 0, 1) := by decide +kernel
theorem dX3_greater_40 : decode cX3_greater 40 = .ok (.goto 4, 3) := by decide +kernel
theorem dX3_greater_43 : decode cX3_greater 43 = .ok (.lload_n 2, 1) := by decide +kernel
theorem dX3_greater_44 : decode cX3_greater 44 = .ok (.lreturn, 1) := by decide +kernel
set_option maxRecDepth 20000 in
theorem ggX3_lesser_X0_isNaN : GoodIn wsX3_lesser wsX0_isNaN := goodIn_r _ [6, 7, 8, 9, 10, 5, 11, 12] rfl (by decide +kernel)
set_option maxRecDepth 20000 in
theorem gX3_lesser_X0_isNaN : GoodIn wsX3_lesser (wsV RX3 17 RX0 yX0_isNaN wsX0_isNaN) := goodIn_app (goodIn_of _ (by decide +kernel)) ggX3_lesser_X0_isNaN
set_option maxRecDepth 20000 in
theorem ggX3_lesser_X0_plainNaN : GoodIn wsX3_lesser wsX0_plainNaN := goodIn_r _ [16, 7, 17] rfl (by decide +kernel)
set_option maxRecDepth 20000 in
theorem gX3_lesser_X0_plainNaN : GoodIn wsX3_lesser (wsV RX3 21 RX0 yX0_plainNaN wsX0_plainNaN) := goodIn_app (goodIn_of _ (by decide +kernel)) ggX3_lesser_X0_plainNaN
set_option maxRecDepth 20000 in
theorem ggX3_lesser_X3_rankWithSignOfZero : GoodIn wsX3_lesser wsX3_rankWithSignOfZero := goodIn_r _ [21, 1, 22, 23, 9, 10, 5, 11, 12] rfl (by decide +kernel)
set_option maxRecDepth 20000 in
theorem gX3_lesser_X3_rankWithSignOfZero : GoodIn wsX3_lesser (va_wsS RX3 80 yX3_rankWithSignOfZero wsX3_rankWithSignOfZero) := goodIn_app (goodIn_of _ (by decide +kernel)) ggX3_lesser_X3_rankWithSignOfZero
theorem dX3_lesser_0 : decode cX3_lesser 0 = .ok (.getstatic 11, 3) := by decide +kernel
theorem dX3_lesser_3 : decode cX3_lesser 3 = .ok (.lload_n 0, 1) := by decide +kernel
theorem dX3_lesser_4 : decode cX3_lesser 4 = .ok (.invokevirtual 17, 3) := by decide +kernel
theorem dX3_lesser_7 : decode cX3_lesser 7 = .ok (.ifCond .ne 13, 3) := by decide +kernel
theorem dX3_lesser_10 : decode cX3_lesser 10 = .ok (.getstatic 11, 3) := by decide +kernel
theorem dX3_lesser_13 : decode cX3_lesser 13 = .ok (.lload_n 2, 1) := by decide +kernel
theorem dX3_lesser_14 : decode cX3_lesser 14 = .ok (.invokevirtual 17, 3) := by decide +kernel
theorem dX3_lesser_17 : decode cX3_lesser 17 = .ok (.ifCond .eq 10, 3) := by decide +kernel
theorem dX3_lesser_20 : decode cX3_lesser 20 = .ok (.getstatic 11, 3) := by decide +kernel
theorem dX3_lesser_23 : decode cX3_lesser 23 = .ok (.invokevirtual 21, 3) := by decide +kernel
theorem dX3_lesser_26 : decode cX3_lesser 26 = .ok (.lreturn, 1) := by decide +kernel
theorem dX3_lesser_27 : decode cX3_lesser 27 = .ok (.lload_n 0, 1) := by decide +kernel
theorem dX3_lesser_28 : decode cX3_lesser 28 = .ok (.invokestatic 80, 3) := by decide +kernel
theorem dX3_lesser_31 : decode cX3_lesser 31 = .ok (.lload_n 2, 1) := by decide +kernel
theorem dX3_lesser_32 : decode cX3_lesser 32 = .ok (.invokestatic 80, 3) := by decide +kernel
theorem dX3_lesser_35 : decode cX3_lesser 35 = .ok (.lcmp, 1) := by decide +kernel
theorem dX3_lesser_36 : decode cX3_lesser 36 = .ok (.ifCond .gt 7, 3) := by decide +kernel
theorem dX3_lesser_39 : decode cX3_lesser 39 = .ok (.lload_n 0, 1) := by decide +kernel
theorem dX3_lesser_40 : decode cX3_lesser 40 = .ok (.goto 4, 3) := by decide +kernel
theorem dX3_lesser_43 : decode cX3_lesser 43 = .ok (.lload_n 2, 1) := by decide +kernel
theorem dX3_lesser_44 : decode cX3_lesser 44 = .ok (.lreturn, 1) := by decide +kernel
set_option maxRecDepth 20000 in
theorem ggX3_rankWithSignOfZero_X0_magnitude : GoodIn wsX3_rankWithSignOfZero wsX0_magnitude := goodIn_r _ [7, 8] rfl (by decide +kernel)
set_option maxRecDepth 20000 in
theorem gX3_rankWithSignOfZero_X0_magnitude : GoodIn wsX3_rankWithSignOfZero (wsV RX3 28 RX0 yX0_magnitude wsX0_magnitude) := goodIn_app (goodIn_of _ (by decide +kernel)) ggX3_rankWithSignOfZero_X0_magnitude
theorem dX3_rankWithSignOfZero_0 : decode cX3_rankWithSignOfZero 0 = .ok (.lload_n 0, 1) := by decide +kernel
theorem dX3_rankWithSignOfZero_1 : decode cX3_rankWithSignOfZero 1 = .ok (.lconst 0, 1) := by decide +kernel
theorem dX3_rankWithSignOfZero_2 : decode cX3_rankWithSignOfZero 2 = .ok (.lcmp, 1) := by decide +kernel
theorem dX3_rankWithSignOfZero_3 : decode cX3_rankWithSignOfZero 3 = .ok (.ifCond .ge 17, 3) := by decide +kernel
theorem dX3_rankWithSignOfZero_6 : decode cX3_rankWithSignOfZero 6 = .ok (.getstatic 11, 3) := by decide +kernel
theorem dX3_rankWithSignOfZero_9 : decode cX3_rankWithSignOfZero 9 = .ok (.lload_n 0, 1) := by decide +kernel
theorem dX3_rankWithSignOfZero_10 : decode cX3_rankWithSignOfZero 10 = .ok (.invokevirtual 28, 3) := by decide +kernel
theorem dX3_rankWithSignOfZero_13 : decode cX3_rankWithSignOfZero 13 = .ok (.ldc2_w 83, 3) := by decide +kernel
theorem dX3_rankWithSignOfZero_16 : decode cX3_rankWithSignOfZero 16 = .ok (.lxor, 1) := by decide +kernel
theorem dX3_rankWithSignOfZero_17 : decode cX3_rankWithSignOfZero 17 = .ok (.goto 4, 3) := by decide +kernel
theorem dX3_rankWithSignOfZero_20 : decode cX3_rankWithSignOfZero 20 = .ok (.lload_n 0, 1) := by decide +kernel
theorem dX3_rankWithSignOfZero_21 : decode cX3_rankWithSignOfZero 21 = .ok (.lreturn, 1) := by decide +kernel
set_option maxRecDepth 20000 in
theorem ggX3_rank_X0_magnitude : GoodIn wsX3_rank wsX0_magnitude := goodIn_r _ [6, 7] rfl (by decide +kernel)
set_option maxRecDepth 20000 in
theorem gX3_rank_X0_magnitude : GoodIn wsX3_rank (wsV RX3 28 RX0 yX0_magnitude wsX0_magnitude) := goodIn_app (goodIn_of _ (by decide +kernel)) ggX3_rank_X0_magnitude
theorem dX3_rank_0 : decode cX3_rank 0 = .ok (.lload_n 0, 1) := by decide +kernel
theorem dX3_rank_1 : decode cX3_rank 1 = .ok (.lconst 0, 1) := by decide +kernel
theorem dX3_rank_2 : decode cX3_rank 2 = .ok (.lcmp, 1) := by decide +kernel
theorem dX3_rank_3 : decode cX3_rank 3 = .ok (.ifCond .ge 14, 3) := by decide +kernel
theorem dX3_rank_6 : decode cX3_rank 6 = .ok (.getstatic 11, 3) := by decide +kernel
theorem dX3_rank_9 : decode cX3_rank 9 = .ok (.lload_n 0, 1) := by decide +kernel
theorem dX3_rank_10 : decode cX3_rank 10 = .ok (.invokevirtual 28, 3) := by decide +kernel
theorem dX3_rank_13 : decode cX3_rank 13 = .ok (.lneg, 1) := by decide +kernel
theorem dX3_rank_14 : decode cX3_rank 14 = .ok (.goto 4, 3) := by decide +kernel
theorem dX3_rank_17 : decode cX3_rank 17 = .ok (.lload_n 0, 1) := by decide +kernel
theorem dX3_rank_18 : decode cX3_rank 18 = .ok (.lreturn, 1) := by decide +kernel
set_option maxRecDepth 20000 in
theorem ggX3_withSignOf_X0_isNaN : GoodIn wsX3_withSignOf wsX0_isNaN := goodIn_r _ [7, 8, 9, 10, 11, 6, 12, 13] rfl (by decide +kernel)
set_option maxRecDepth 20000 in
theorem gX3_withSignOf_X0_isNaN : GoodIn wsX3_withSignOf (wsV RX3 17 RX0 yX0_isNaN wsX0_isNaN) := goodIn_app (goodIn_of _ (by decide +kernel)) ggX3_withSignOf_X0_isNaN
set_option maxRecDepth 20000 in
theorem ggX3_withSignOf_X0_plainNaN : GoodIn wsX3_withSignOf wsX0_plainNaN := goodIn_r _ [17, 8, 18] rfl (by decide +kernel)
set_option maxRecDepth 20000 in
theorem gX3_withSignOf_X0_plainNaN : GoodIn wsX3_withSignOf (wsV RX3 21 RX0 yX0_plainNaN wsX0_plainNaN) := goodIn_app (goodIn_of _ (by decide +kernel)) ggX3_withSignOf_X0_plainNaN
set_option maxRecDepth 20000 in
theorem ggX3_withSignOf_X0_magnitude : GoodIn wsX3_withSignOf wsX0_magnitude := goodIn_r _ [12, 13] rfl (by decide +kernel)
set_option maxRecDepth 20000 in
theorem gX3_withSignOf_X0_magnitude : GoodIn wsX3_withSignOf (wsV RX3 28 RX0 yX0_magnitude wsX0_magnitude) := goodIn_app (goodIn_of _ (by decide +kernel)) ggX3_withSignOf_X0_magnitude
theorem dX3_withSignOf_0 : decode cX3_withSignOf 0 = .ok (.getstatic 11, 3) := by decide +kernel
theorem dX3_withSignOf_3 : decode cX3_withSignOf 3 = .ok (.lload_n 0, 1) := by decide +kernel
theorem dX3_withSignOf_4 : decode cX3_withSignOf 4 = .ok (.invokevirtual 17, 3) := by decide +kernel
theorem dX3_withSignOf_7 : decode cX3_withSignOf 7 = .ok (.ifCond .eq 10, 3) := by decide +kernel
theorem dX3_withSignOf_10 : decode cX3_withSignOf 10 = .ok (.getstatic 11, 3) := by decide +kernel
theorem dX3_withSignOf_13 : decode cX3_withSignOf 13 = .ok (.invokevirtual 21, 3) := by decide +kernel
theorem dX3_withSignOf_16 : decode cX3_withSignOf 16 = .ok (.lreturn, 1) := by decide +kernel
theorem dX3_withSignOf_17 : decode cX3_withSignOf 17 = .ok (.getstatic 11, 3) := by decide +kernel
theorem dX3_withSignOf_20 : decode cX3_withSignOf 20 = .ok (.lload_n 2, 1) := by decide +kernel
theorem dX3_withSignOf_21 : decode cX3_withSignOf 21 = .ok (.invokevirtual 17, 3) := by decide +kernel
theorem dX3_withSignOf_24 : decode cX3_withSignOf 24 = .ok (.ifCond .eq 7, 3) := by decide +kernel
theorem dX3_withSignOf_27 : decode cX3_withSignOf 27 = .ok (.lconst 0, 1) := by decide +kernel
theorem dX3_withSignOf_28 : decode cX3_withSignOf 28 = .ok (.goto 8, 3) := by decide +kernel
theorem dX3_withSignOf_31 : decode cX3_withSignOf 31 = .ok (.lload_n 2, 1) := by decide +kernel
theorem dX3_withSignOf_32 : decode cX3_withSignOf 32 = .ok (.ldc2_w 54, 3) := by decide +kernel
theorem dX3_withSignOf_35 : decode cX3_withSignOf 35 = .ok (.land, 1) := by decide +kernel
theorem dX3_withSignOf_36 : decode cX3_withSignOf 36 = .ok (.lstore 4, 2) := by decide +kernel
theorem dX3_withSignOf_38 : decode cX3_withSignOf 38 = .ok (.lload 4, 2) := by decide +kernel
theorem dX3_withSignOf_40 : decode cX3_withSignOf 40 = .ok (.getstatic 11, 3) := by decide +kernel
theorem dX3_withSignOf_43 : decode cX3_withSignOf 43 = .ok (.lload_n 0, 1) := by decide +kernel
theorem dX3_withSignOf_44 : decode cX3_withSignOf 44 = .ok (.invokevirtual 28, 3) := by decide +kernel
theorem dX3_withSignOf_47 : decode cX3_withSignOf 47 = .ok (.lor, 1) := by decide +kernel
theorem dX3_withSignOf_48 : decode cX3_withSignOf 48 = .ok (.lreturn, 1) := by decide +kernel
set_option maxRecDepth 20000 in
theorem ggX3_isTrue_X0_isNaN : GoodIn wsX3_isTrue wsX0_isNaN := goodIn_r _ [6, 7, 8, 9, 10, 5, 11, 12] rfl (by decide +kernel)
set_option maxRecDepth 20000 in
theorem gX3_isTrue_X0_isNaN : GoodIn wsX3_isTrue (wsV RX3 17 RX0 yX0_isNaN wsX0_isNaN) := goodIn_app (goodIn_of _ (by decide +kernel)) ggX3_isTrue_X0_isNaN
set_option maxRecDepth 20000 in
theorem ggX3_isTrue_X3_rank : GoodIn wsX3_isTrue wsX3_rank := goodIn_r _ [16, 1, 17, 9, 10, 5, 11, 12] rfl (by decide +kernel)
set_option maxRecDepth 20000 in
theorem gX3_isTrue_X3_rank : GoodIn wsX3_isTrue (va_wsS RX3 85 yX3_rank wsX3_rank) := goodIn_app (goodIn_of _ (by decide +kernel)) ggX3_isTrue_X3_rank
theorem dX3_isTrue_0 : decode cX3_isTrue 0 = .ok (.getstatic 11, 3) := by decide +kernel
theorem dX3_isTrue_3 : decode cX3_isTrue 3 = .ok (.lload_n 1, 1) := by decide +kernel
theorem dX3_isTrue_4 : decode cX3_isTrue 4 = .ok (.invokevirtual 17, 3) := by decide +kernel
theorem dX3_isTrue_7 : decode cX3_isTrue 7 = .ok (.ifCond .ne 13, 3) := by decide +kernel
theorem dX3_isTrue_10 : decode cX3_isTrue 10 = .ok (.getstatic 11, 3) := by decide +kernel
theorem dX3_isTrue_13 : decode cX3_isTrue 13 = .ok (.lload_n 3, 1) := by decide +kernel
theorem dX3_isTrue_14 : decode cX3_isTrue 14 = .ok (.invokevirtual 17, 3) := by decide +kernel
theorem dX3_isTrue_17 : decode cX3_isTrue 17 = .ok (.ifCond .eq 14, 3) := by decide +kernel
theorem dX3_isTrue_20 : decode cX3_isTrue 20 = .ok (.iload_n 0, 1) := by decide +kernel
theorem dX3_isTrue_21 : decode cX3_isTrue 21 = .ok (.iconst 5, 1) := by decide +kernel
theorem dX3_isTrue_22 : decode cX3_isTrue 22 = .ok (.if_icmp .ne 7, 3) := by decide +kernel
theorem dX3_isTrue_25 : decode cX3_isTrue 25 = .ok (.iconst 1, 1) := by decide +kernel
theorem dX3_isTrue_26 : decode cX3_isTrue 26 = .ok (.goto 4, 3) := by decide +kernel
theorem dX3_isTrue_29 : decode cX3_isTrue 29 = .ok (.iconst 0, 1) := by decide +kernel
theorem dX3_isTrue_30 : decode cX3_isTrue 30 = .ok (.ireturn, 1) := by decide +kernel
theorem dX3_isTrue_31 : decode cX3_isTrue 31 = .ok (.lload_n 1, 1) := by decide +kernel
theorem dX3_isTrue_32 : decode cX3_isTrue 32 = .ok (.invokestatic 85, 3) := by decide +kernel
theorem dX3_isTrue_35 : decode cX3_isTrue 35 = .ok (.lstore 5, 2) := by decide +kernel
theorem dX3_isTrue_37 : decode cX3_isTrue 37 = .ok (.lload_n 3, 1) := by decide +kernel
theorem dX3_isTrue_38 : decode cX3_isTrue 38 = .ok (.invokestatic 85, 3) := by decide +kernel
theorem dX3_isTrue_41 : decode cX3_isTrue 41 = .ok (.lstore 7, 2) := by decide +kernel
theorem dX3_isTrue_43 : decode cX3_isTrue 43 = .ok (.iload_n 0, 1) := by decide +kernel
theorem dX3_isTrue_44 : decode cX3_isTrue 44 = .ok (.tableswitch 106 0 4 #[36, 50, 64, 78, 92], 36) := by decide +kernel
theorem dX3_isTrue_80 : decode cX3_isTrue 80 = .ok (.lload 5, 2) := by decide +kernel
theorem dX3_isTrue_82 : decode cX3_isTrue 82 = .ok (.lload 7, 2) := by decide +kernel
theorem dX3_isTrue_84 : decode cX3_isTrue 84 = .ok (.lcmp, 1) := by decide +kernel
theorem dX3_isTrue_85 : decode cX3_isTrue 85 = .ok (.ifCond .ge 7, 3) := by decide +kernel
theorem dX3_isTrue_88 : decode cX3_isTrue 88 = .ok (.iconst 1, 1) := by decide +kernel
theorem dX3_isTrue_89 : decode cX3_isTrue 89 = .ok (.goto 4, 3) := by decide +kernel
theorem dX3_isTrue_92 : decode cX3_isTrue 92 = .ok (.iconst 0, 1) := by decide +kernel
theorem dX3_isTrue_93 : decode cX3_isTrue 93 = .ok (.ireturn, 1) := by decide +kernel
theorem dX3_isTrue_94 : decode cX3_isTrue 94 = .ok (.lload 5, 2) := by decide +kernel
theorem dX3_isTrue_96 : decode cX3_isTrue 96 = .ok (.lload 7, 2) := by decide +kernel
theorem dX3_isTrue_98 : decode cX3_isTrue 98 = .ok (.lcmp, 1) := by decide +kernel
theorem dX3_isTrue_99 : decode cX3_isTrue 99 = .ok (.ifCond .gt 7, 3) := by decide +kernel
theorem dX3_isTrue_102 : decode cX3_isTrue 102 = .ok (.iconst 1, 1) := by decide +kernel
theorem dX3_isTrue_103 : decode cX3_isTrue 103 = .ok (.goto 4, 3) := by decide +kernel
theorem dX3_isTrue_106 : decode cX3_isTrue 106 = .ok (.iconst 0, 1) := by decide +kernel
theorem dX3_isTrue_107 : decode cX3_isTrue 107 = .ok (.ireturn, 1) := by decide +kernel
theorem dX3_isTrue_108 : decode cX3_isTrue 108 = .ok (.lload 5, 2) := by decide +kernel
theorem dX3_isTrue_110 : decode cX3_isTrue 110 = .ok (.lload 7, 2) := by decide +kernel
theorem dX3_isTrue_112 : decode cX3_isTrue 112 = .ok (.lcmp, 1) := by decide +kernel
theorem dX3_isTrue_113 : decode cX3_isTrue 113 = .ok (.ifCond .le 7, 3) := by decide +kernel
theorem dX3_isTrue_116 : decode cX3_isTrue 116 = .ok (.iconst 1, 1) := by decide +kernel
theorem dX3_isTrue_117 : decode cX3_isTrue 117 = .ok (.goto 4, 3) := by decide +kernel
theorem dX3_isTrue_120 : decode cX3_isTrue 120 = .ok (.iconst 0, 1) := by decide +kernel
theorem dX3_isTrue_121 : decode cX3_isTrue 121 = .ok (.ireturn, 1) := by decide +kernel
theorem dX3_isTrue_122 : decode cX3_isTrue 122 = .ok (.lload 5, 2) := by decide +kernel
theorem dX3_isTrue_124 : decode cX3_isTrue 124 = .ok (.lload 7, 2) := by decide +kernel
theorem dX3_isTrue_126 : decode cX3_isTrue 126 = .ok (.lcmp, 1) := by decide +kernel
theorem dX3_isTrue_127 : decode cX3_isTrue 127 = .ok (.ifCond .lt 7, 3) := by decide +kernel
theorem dX3_isTrue_130 : decode cX3_isTrue 130 = .ok (.iconst 1, 1) := by decide +kernel
theorem dX3_isTrue_131 : decode cX3_isTrue 131 = .ok (.goto 4, 3) := by decide +kernel
theorem dX3_isTrue_134 : decode cX3_isTrue 134 = .ok (.iconst 0, 1) := by decide +kernel
theorem dX3_isTrue_135 : decode cX3_isTrue 135 = .ok (.ireturn, 1) := by decide +kernel
theorem dX3_isTrue_136 : decode cX3_isTrue 136 = .ok (.lload 5, 2) := by decide +kernel
theorem dX3_isTrue_138 : decode cX3_isTrue 138 = .ok (.lload 7, 2) := by decide +kernel
theorem dX3_isTrue_140 : decode cX3_isTrue 140 = .ok (.lcmp, 1) := by decide +kernel
theorem dX3_isTrue_141 : decode cX3_isTrue 141 = .ok (.ifCond .ne 7, 3) := by decide +kernel
theorem dX3_isTrue_144 : decode cX3_isTrue 144 = .ok (.iconst 1, 1) := by decide +kernel
theorem dX3_isTrue_145 : decode cX3_isTrue 145 = .ok (.goto 4, 3) := by decide +kernel
theorem dX3_isTrue_148 : decode cX3_isTrue 148 = .ok (.iconst 0, 1) := by decide +kernel
theorem dX3_isTrue_149 : decode cX3_isTrue 149 = .ok (.ireturn, 1) := by decide +kernel
theorem dX3_isTrue_150 : decode cX3_isTrue 150 = .ok (.lload 5, 2) := by decide +kernel
theorem dX3_isTrue_152 : decode cX3_isTrue 152 = .ok (.lload 7, 2) := by decide +kernel
theorem dX3_isTrue_154 : decode cX3_isTrue 154 = .ok (.lcmp, 1) := by decide +kernel
theorem dX3_isTrue_155 : decode cX3_isTrue 155 = .ok (.ifCond .eq 7, 3) := by decide +kernel
theorem dX3_isTrue_158 : decode cX3_isTrue 158 = .ok (.iconst 1, 1) := by decide +kernel
theorem dX3_isTrue_159 : decode cX3_isTrue 159 = .ok (.goto 4, 3) := by decide +kernel
theorem dX3_isTrue_162 : decode cX3_isTrue 162 = .ok (.iconst 0, 1) := by decide +kernel
theorem dX3_isTrue_163 : decode cX3_isTrue 163 = .ok (.ireturn, 1) := by decide +kernel
set_option maxRecDepth 20000 in
theorem ggX3_mathOfNumber_X3_floor : GoodIn wsX3_mathOfNumber wsX3_floor := goodIn_r _ [7, 2, 8, 9, 10, 11, 12, 6, 13, 14, 15, 16, 17, 18, 19, 20, 21, 22, 23, 24] rfl (by decide +kernel)
set_option maxRecDepth 20000 in
theorem gX3_mathOfNumber_X3_floor : GoodIn wsX3_mathOfNumber (va_wsS RX3 88 yX3_floor wsX3_floor) := goodIn_app (goodIn_of _ (by decide +kernel)) ggX3_mathOfNumber_X3_floor
set_option maxRecDepth 20000 in
theorem ggX3_mathOfNumber_X3_nearestWhole : GoodIn wsX3_mathOfNumber wsX3_nearestWhole := goodIn_r _ [27, 2, 8, 11, 12, 6, 13, 14, 15, 16, 17, 18, 19, 28, 29, 30, 31, 32, 24, 33, 34, 35, 36, 37, 38, 39, 40, 41, 42, 43, 44, 45, 46, 47, 48, 49, 50, 51, 52, 53, 54, 55, 56, 57] rfl (by decide +kernel)
set_option maxRecDepth 20000 in
theorem gX3_mathOfNumber_X3_nearestWhole : GoodIn wsX3_mathOfNumber (va_wsS RX3 91 yX3_nearestWhole wsX3_nearestWhole) := goodIn_app (goodIn_of _ (by decide +kernel)) ggX3_mathOfNumber_X3_nearestWhole
set_option maxRecDepth 20000 in
theorem ggX3_mathOfNumber_X0_isZero : GoodIn wsX3_mathOfNumber wsX0_isZero := goodIn_r _ [23, 24, 15, 16, 17, 18, 19] rfl (by decide +kernel)
set_option maxRecDepth 20000 in
theorem gX3_mathOfNumber_X0_isZero : GoodIn wsX3_mathOfNumber (wsV RX3 32 RX0 yX0_isZero wsX0_isZero) := goodIn_app (goodIn_of _ (by decide +kernel)) ggX3_mathOfNumber_X0_isZero
set_option maxRecDepth 20000 in
theorem ggX3_mathOfNumber_X0_magnitude : GoodIn wsX3_mathOfNumber wsX0_magnitude := goodIn_r _ [18, 19] rfl (by decide +kernel)
set_option maxRecDepth 20000 in
theorem gX3_mathOfNumber_X0_magnitude : GoodIn wsX3_mathOfNumber (wsV RX3 28 RX0 yX0_magnitude wsX0_magnitude) := goodIn_app (goodIn_of _ (by decide +kernel)) ggX3_mathOfNumber_X0_magnitude
set_option maxRecDepth 20000 in
theorem ggX3_mathOfNumber_X3_distanceToNext : GoodIn wsX3_mathOfNumber wsX3_distanceToNext := goodIn_r _ [60, 2, 61, 62, 63, 46, 47, 48, 64, 65, 66, 17, 67, 56, 24, 15, 16, 18, 19, 40, 41, 42, 43, 32, 44, 45, 33, 34, 35, 36, 37, 38, 39, 52, 53, 54, 55, 57, 50, 51] rfl (by decide +kernel)
set_option maxRecDepth 20000 in
theorem gX3_mathOfNumber_X3_distanceToNext : GoodIn wsX3_mathOfNumber (va_wsS RX3 96 yX3_distanceToNext wsX3_distanceToNext) := goodIn_app (goodIn_of _ (by decide +kernel)) ggX3_mathOfNumber_X3_distanceToNext
set_option maxRecDepth 20000 in
theorem ggX3_mathOfNumber_X3_nextUp : GoodIn wsX3_mathOfNumber wsX3_nextUp := goodIn_r _ [70, 2, 20, 21, 22, 17, 23, 24, 15, 16, 18, 19, 64, 65, 66, 67, 56] rfl (by decide +kernel)
set_option maxRecDepth 20000 in
theorem gX3_mathOfNumber_X3_nextUp : GoodIn wsX3_mathOfNumber (va_wsS RX3 99 yX3_nextUp wsX3_nextUp) := goodIn_app (goodIn_of _ (by decide +kernel)) ggX3_mathOfNumber_X3_nextUp
set_option maxRecDepth 20000 in
theorem ggX3_mathOfNumber_X3_scaled : GoodIn wsX3_mathOfNumber wsX3_scaled := goodIn_r _ [73, 2, 64, 65, 66, 17, 67, 56, 24, 15, 16, 18, 19, 40, 41, 42, 43, 32, 44, 45, 46, 47, 48, 33, 34, 35, 36, 37, 38, 39, 28, 29, 30, 31, 52, 53, 54, 55, 57, 50, 51] rfl (by decide +kernel)
set_option maxRecDepth 20000 in
theorem gX3_mathOfNumber_X3_scaled : GoodIn wsX3_mathOfNumber (va_wsS RX3 102 yX3_scaled wsX3_scaled) := goodIn_app (goodIn_of _ (by decide +kernel)) ggX3_mathOfNumber_X3_scaled
theorem dX3_mathOfNumber_0 : decode cX3_mathOfNumber 0 = .ok (.iload_n 0, 1) := by decide +kernel
theorem dX3_mathOfNumber_1 : decode cX3_mathOfNumber 1 = .ok (.tableswitch 118 0 7 #[47, 52, 65, 70, 94, 102, 107, 112], 47) := by decide +kernel
theorem dX3_mathOfNumber_48 : decode cX3_mathOfNumber 48 = .ok (.lload_n 1, 1) := by decide +kernel
theorem dX3_mathOfNumber_49 : decode cX3_mathOfNumber 49 = .ok (.invokestatic 88, 3) := by decide +kernel
theorem dX3_mathOfNumber_52 : decode cX3_mathOfNumber 52 = .ok (.lreturn, 1) := by decide +kernel
theorem dX3_mathOfNumber_53 : decode cX3_mathOfNumber 53 = .ok (.lload_n 1, 1) := by decide +kernel
theorem dX3_mathOfNumber_54 : decode cX3_mathOfNumber 54 = .ok (.ldc2_w 54, 3) := by decide +kernel
theorem dX3_mathOfNumber_57 : decode cX3_mathOfNumber 57 = .ok (.lxor, 1) := by decide +kernel
theorem dX3_mathOfNumber_58 : decode cX3_mathOfNumber 58 = .ok (.invokestatic 88, 3) := by decide +kernel
theorem dX3_mathOfNumber_61 : decode cX3_mathOfNumber 61 = .ok (.ldc2_w 54, 3) := by decide +kernel
theorem dX3_mathOfNumber_64 : decode cX3_mathOfNumber 64 = .ok (.lxor, 1) := by decide +kernel
theorem dX3_mathOfNumber_65 : decode cX3_mathOfNumber 65 = .ok (.lreturn, 1) := by decide +kernel
theorem dX3_mathOfNumber_66 : decode cX3_mathOfNumber 66 = .ok (.lload_n 1, 1) := by decide +kernel
theorem dX3_mathOfNumber_67 : decode cX3_mathOfNumber 67 = .ok (.invokestatic 91, 3) := by decide +kernel
theorem dX3_mathOfNumber_70 : decode cX3_mathOfNumber 70 = .ok (.lreturn, 1) := by decide +kernel
theorem dX3_mathOfNumber_71 : decode cX3_mathOfNumber 71 = .ok (.getstatic 11, 3) := by decide +kernel
theorem dX3_mathOfNumber_74 : decode cX3_mathOfNumber 74 = .ok (.lload_n 1, 1) := by decide +kernel
theorem dX3_mathOfNumber_75 : decode cX3_mathOfNumber 75 = .ok (.invokevirtual 32, 3) := by decide +kernel
theorem dX3_mathOfNumber_78 : decode cX3_mathOfNumber 78 = .ok (.ifCond .eq 7, 3) := by decide +kernel
theorem dX3_mathOfNumber_81 : decode cX3_mathOfNumber 81 = .ok (.lload_n 1, 1) := by decide +kernel
theorem dX3_mathOfNumber_82 : decode cX3_mathOfNumber 82 = .ok (.goto 12, 3) := by decide +kernel
theorem dX3_mathOfNumber_85 : decode cX3_mathOfNumber 85 = .ok (.lload_n 1, 1) := by decide +kernel
theorem dX3_mathOfNumber_86 : decode cX3_mathOfNumber 86 = .ok (.ldc2_w 54, 3) := by decide +kernel
theorem dX3_mathOfNumber_89 : decode cX3_mathOfNumber 89 = .ok (.land, 1) := by decide +kernel
theorem dX3_mathOfNumber_90 : decode cX3_mathOfNumber 90 = .ok (.ldc2_w 94, 3) := by decide +kernel
theorem dX3_mathOfNumber_93 : decode cX3_mathOfNumber 93 = .ok (.lor, 1) := by decide +kernel
theorem dX3_mathOfNumber_94 : decode cX3_mathOfNumber 94 = .ok (.lreturn, 1) := by decide +kernel
theorem dX3_mathOfNumber_95 : decode cX3_mathOfNumber 95 = .ok (.getstatic 11, 3) := by decide +kernel
theorem dX3_mathOfNumber_98 : decode cX3_mathOfNumber 98 = .ok (.lload_n 1, 1) := by decide +kernel
theorem dX3_mathOfNumber_99 : decode cX3_mathOfNumber 99 = .ok (.invokevirtual 28, 3) := by decide +kernel
theorem dX3_mathOfNumber_102 : decode cX3_mathOfNumber 102 = .ok (.lreturn, 1) := by decide +kernel
theorem dX3_mathOfNumber_103 : decode cX3_mathOfNumber 103 = .ok (.lload_n 1, 1) := by decide +kernel
theorem dX3_mathOfNumber_104 : decode cX3_mathOfNumber 104 = .ok (.invokestatic 96, 3) := by decide +kernel
theorem dX3_mathOfNumber_107 : decode cX3_mathOfNumber 107 = .ok (.lreturn, 1) := by decide +kernel
theorem dX3_mathOfNumber_108 : decode cX3_mathOfNumber 108 = .ok (.lload_n 1, 1) := by decide +kernel
theorem dX3_mathOfNumber_109 : decode cX3_mathOfNumber 109 = .ok (.invokestatic 99, 3) := by decide +kernel
theorem dX3_mathOfNumber_112 : decode cX3_mathOfNumber 112 = .ok (.lreturn, 1) := by decide +kernel
theorem dX3_mathOfNumber_113 : decode cX3_mathOfNumber 113 = .ok (.lload_n 1, 1) := by decide +kernel
theorem dX3_mathOfNumber_114 : decode cX3_mathOfNumber 114 = .ok (.iconst 3, 1) := by decide +kernel
theorem dX3_mathOfNumber_115 : decode cX3_mathOfNumber 115 = .ok (.invokestatic 102, 3) := by decide +kernel
theorem dX3_mathOfNumber_118 : decode cX3_mathOfNumber 118 = .ok (.lreturn, 1) := by decide +kernel
theorem dX3_mathOfNumber_119 : decode cX3_mathOfNumber 119 = .ok (.lload_n 1, 1) := by decide +kernel
theorem dX3_mathOfNumber_120 : decode cX3_mathOfNumber 120 = .ok (.bipush (-3), 2) := by decide +kernel
theorem dX3_mathOfNumber_122 : decode cX3_mathOfNumber 122 = .ok (.invokestatic 102, 3) := by decide +kernel
theorem dX3_mathOfNumber_125 : decode cX3_mathOfNumber 125 = .ok (.lreturn, 1) := by decide +kernel
set_option maxRecDepth 20000 in
theorem ggX3_power_X0_magnitude : GoodIn wsX3_power wsX0_magnitude := goodIn_r _ [7, 8] rfl (by decide +kernel)
set_option maxRecDepth 20000 in
theorem gX3_power_X0_magnitude : GoodIn wsX3_power (wsV RX3 28 RX0 yX0_magnitude wsX0_magnitude) := goodIn_app (goodIn_of _ (by decide +kernel)) ggX3_power_X0_magnitude
theorem dX3_power_0 : decode cX3_power 0 = .ok (.getstatic 11, 3) := by decide +kernel
theorem dX3_power_3 : decode cX3_power 3 = .ok (.lload_n 0, 1) := by decide +kernel
theorem dX3_power_4 : decode cX3_power 4 = .ok (.invokevirtual 28, 3) := by decide +kernel
theorem dX3_power_7 : decode cX3_power 7 = .ok (.getstatic 11, 3) := by decide +kernel
theorem dX3_power_10 : decode cX3_power 10 = .ok (.getfield 105, 3) := by decide +kernel
theorem dX3_power_13 : decode cX3_power 13 = .ok (.lushr, 1) := by decide +kernel
theorem dX3_power_14 : decode cX3_power 14 = .ok (.l2i, 1) := by decide +kernel
theorem dX3_power_15 : decode cX3_power 15 = .ok (.sipush 1023, 3) := by decide +kernel
theorem dX3_power_18 : decode cX3_power 18 = .ok (.isub, 1) := by decide +kernel
theorem dX3_power_19 : decode cX3_power 19 = .ok (.ireturn, 1) := by decide +kernel
set_option maxRecDepth 20000 in
theorem ggX3_floor_X3_power : GoodIn wsX3_floor wsX3_power := goodIn_r _ [8, 1, 2, 9, 10, 11, 12, 13, 14] rfl (by decide +kernel)
set_option maxRecDepth 20000 in
theorem gX3_floor_X3_power : GoodIn wsX3_floor (va_wsS RX3 109 yX3_power wsX3_power) := goodIn_app (goodIn_of _ (by decide +kernel)) ggX3_floor_X3_power
set_option maxRecDepth 20000 in
theorem ggX3_floor_X0_isZero : GoodIn wsX3_floor wsX0_isZero := goodIn_r _ [18, 19, 10, 11, 12, 13, 14] rfl (by decide +kernel)
set_option maxRecDepth 20000 in
theorem gX3_floor_X0_isZero : GoodIn wsX3_floor (wsV RX3 32 RX0 yX0_isZero wsX0_isZero) := goodIn_app (goodIn_of _ (by decide +kernel)) ggX3_floor_X0_isZero
theorem dX3_floor_0 : decode cX3_floor 0 = .ok (.lload_n 0, 1) := by decide +kernel
theorem dX3_floor_1 : decode cX3_floor 1 = .ok (.invokestatic 109, 3) := by decide +kernel
theorem dX3_floor_4 : decode cX3_floor 4 = .ok (.istore_n 2, 1) := by decide +kernel
theorem dX3_floor_5 : decode cX3_floor 5 = .ok (.iload_n 2, 1) := by decide +kernel
theorem dX3_floor_6 : decode cX3_floor 6 = .ok (.getstatic 11, 3) := by decide +kernel
theorem dX3_floor_9 : decode cX3_floor 9 = .ok (.getfield 105, 3) := by decide +kernel
theorem dX3_floor_12 : decode cX3_floor 12 = .ok (.if_icmp .ge 13, 3) := by decide +kernel
theorem dX3_floor_15 : decode cX3_floor 15 = .ok (.getstatic 11, 3) := by decide +kernel
theorem dX3_floor_18 : decode cX3_floor 18 = .ok (.lload_n 0, 1) := by decide +kernel
theorem dX3_floor_19 : decode cX3_floor 19 = .ok (.invokevirtual 32, 3) := by decide +kernel
theorem dX3_floor_22 : decode cX3_floor 22 = .ok (.ifCond .eq 5, 3) := by decide +kernel
theorem dX3_floor_25 : decode cX3_floor 25 = .ok (.lload_n 0, 1) := by decide +kernel
theorem dX3_floor_26 : decode cX3_floor 26 = .ok (.lreturn, 1) := by decide +kernel
theorem dX3_floor_27 : decode cX3_floor 27 = .ok (.iload_n 2, 1) := by decide +kernel
theorem dX3_floor_28 : decode cX3_floor 28 = .ok (.ifCond .ge 17, 3) := by decide +kernel
theorem dX3_floor_31 : decode cX3_floor 31 = .ok (.lload_n 0, 1) := by decide +kernel
theorem dX3_floor_32 : decode cX3_floor 32 = .ok (.lconst 0, 1) := by decide +kernel
theorem dX3_floor_33 : decode cX3_floor 33 = .ok (.lcmp, 1) := by decide +kernel
theorem dX3_floor_34 : decode cX3_floor 34 = .ok (.ifCond .ge 9, 3) := by decide +kernel
theorem dX3_floor_37 : decode cX3_floor 37 = .ok (.ldc2_w 112, 3) := by decide +kernel
theorem dX3_floor_40 : decode cX3_floor 40 = .ok (.goto 4, 3) := by decide +kernel
theorem dX3_floor_43 : decode cX3_floor 43 = .ok (.lconst 0, 1) := by decide +kernel
theorem dX3_floor_44 : decode cX3_floor 44 = .ok (.lreturn, 1) := by decide +kernel
theorem dX3_floor_45 : decode cX3_floor 45 = .ok (.lconst 1, 1) := by decide +kernel
theorem dX3_floor_46 : decode cX3_floor 46 = .ok (.getstatic 11, 3) := by decide +kernel
theorem dX3_floor_49 : decode cX3_floor 49 = .ok (.getfield 105, 3) := by decide +kernel
theorem dX3_floor_52 : decode cX3_floor 52 = .ok (.lshl, 1) := by decide +kernel
theorem dX3_floor_53 : decode cX3_floor 53 = .ok (.lconst 1, 1) := by decide +kernel
theorem dX3_floor_54 : decode cX3_floor 54 = .ok (.lsub, 1) := by decide +kernel
theorem dX3_floor_55 : decode cX3_floor 55 = .ok (.iload_n 2, 1) := by decide +kernel
theorem dX3_floor_56 : decode cX3_floor 56 = .ok (.lushr, 1) := by decide +kernel
theorem dX3_floor_57 : decode cX3_floor 57 = .ok (.lstore_n 3, 1) := by decide +kernel
theorem dX3_floor_58 : decode cX3_floor 58 = .ok (.lload_n 0, 1) := by decide +kernel
theorem dX3_floor_59 : decode cX3_floor 59 = .ok (.lconst 0, 1) := by decide +kernel
theorem dX3_floor_60 : decode cX3_floor 60 = .ok (.lcmp, 1) := by decide +kernel
theorem dX3_floor_61 : decode cX3_floor 61 = .ok (.ifCond .ge 9, 3) := by decide +kernel
theorem dX3_floor_64 : decode cX3_floor 64 = .ok (.lload_n 0, 1) := by decide +kernel
theorem dX3_floor_65 : decode cX3_floor 65 = .ok (.lload_n 3, 1) := by decide +kernel
theorem dX3_floor_66 : decode cX3_floor 66 = .ok (.ladd, 1) := by decide +kernel
theorem dX3_floor_67 : decode cX3_floor 67 = .ok (.goto 4, 3) := by decide +kernel
theorem dX3_floor_70 : decode cX3_floor 70 = .ok (.lload_n 0, 1) := by decide +kernel
theorem dX3_floor_71 : decode cX3_floor 71 = .ok (.lstore 5, 2) := by decide +kernel
theorem dX3_floor_73 : decode cX3_floor 73 = .ok (.lload 5, 2) := by decide +kernel
theorem dX3_floor_75 : decode cX3_floor 75 = .ok (.lload_n 3, 1) := by decide +kernel
theorem dX3_floor_76 : decode cX3_floor 76 = .ok (.ldc2_w 83, 3) := by decide +kernel
theorem dX3_floor_79 : decode cX3_floor 79 = .ok (.lxor, 1) := by decide +kernel
theorem dX3_floor_80 : decode cX3_floor 80 = .ok (.land, 1) := by decide +kernel
theorem dX3_floor_81 : decode cX3_floor 81 = .ok (.lreturn, 1) := by decide +kernel
set_option maxRecDepth 20000 in
theorem ggX3_nearestWhole_X3_power : GoodIn wsX3_nearestWhole wsX3_power := goodIn_r _ [6, 1, 2, 7, 8, 9, 10, 11, 12] rfl (by decide +kernel)
set_option maxRecDepth 20000 in
theorem gX3_nearestWhole_X3_power : GoodIn wsX3_nearestWhole (va_wsS RX3 109 yX3_power wsX3_power) := goodIn_app (goodIn_of _ (by decide +kernel)) ggX3_nearestWhole_X3_power
set_option maxRecDepth 20000 in
theorem ggX3_nearestWhole_X0_significand : GoodIn wsX3_nearestWhole wsX0_significand := goodIn_r _ [16, 17, 18, 8, 9, 10, 11, 12, 19, 20, 21, 22, 23, 24, 25] rfl (by decide +kernel)
set_option maxRecDepth 20000 in
theorem gX3_nearestWhole_X0_significand : GoodIn wsX3_nearestWhole (wsV RX3 43 RX0 yX0_significand wsX0_significand) := goodIn_app (goodIn_of _ (by decide +kernel)) ggX3_nearestWhole_X0_significand
set_option maxRecDepth 20000 in
theorem ggX3_nearestWhole_X0_exponent : GoodIn wsX3_nearestWhole wsX0_exponent := goodIn_r _ [29, 17, 30, 31, 32, 33, 34, 18, 8, 9, 10, 11, 12, 19, 20, 21, 22, 23, 24, 25] rfl (by decide +kernel)
set_option maxRecDepth 20000 in
theorem gX3_nearestWhole_X0_exponent : GoodIn wsX3_nearestWhole (wsV RX3 39 RX0 yX0_exponent wsX0_exponent) := goodIn_app (goodIn_of _ (by decide +kernel)) ggX3_nearestWhole_X0_exponent
set_option maxRecDepth 20000 in
theorem ggX3_nearestWhole_X0_rounded : GoodIn wsX3_nearestWhole wsX0_rounded := goodIn_r _ [37] rfl (by decide +kernel)
set_option maxRecDepth 20000 in
theorem gX3_nearestWhole_X0_rounded : GoodIn wsX3_nearestWhole (va_wsS RX3 114 yX0_rounded wsX0_rounded) := goodIn_app (goodIn_of _ (by decide +kernel)) ggX3_nearestWhole_X0_rounded
set_option maxRecDepth 20000 in
theorem ggX3_nearestWhole_X0_pack : GoodIn wsX3_nearestWhole wsX0_pack := goodIn_r _ [41, 12, 17, 30, 31, 32, 33, 34, 42, 23, 24, 10, 25, 43, 36, 37] rfl (by decide +kernel)
set_option maxRecDepth 20000 in
theorem gX3_nearestWhole_X0_pack : GoodIn wsX3_nearestWhole (wsV RX3 50 RX0 yX0_pack wsX0_pack) := goodIn_app (goodIn_of _ (by decide +kernel)) ggX3_nearestWhole_X0_pack
theorem dX3_nearestWhole_0 : decode cX3_nearestWhole 0 = .ok (.lload_n 0, 1) := by decide +kernel
theorem dX3_nearestWhole_1 : decode cX3_nearestWhole 1 = .ok (.invokestatic 109, 3) := by decide +kernel
theorem dX3_nearestWhole_4 : decode cX3_nearestWhole 4 = .ok (.getstatic 11, 3) := by decide +kernel
theorem dX3_nearestWhole_7 : decode cX3_nearestWhole 7 = .ok (.getfield 105, 3) := by decide +kernel
theorem dX3_nearestWhole_10 : decode cX3_nearestWhole 10 = .ok (.if_icmp .lt 5, 3) := by decide +kernel
theorem dX3_nearestWhole_13 : decode cX3_nearestWhole 13 = .ok (.lload_n 0, 1) := by decide +kernel
theorem dX3_nearestWhole_14 : decode cX3_nearestWhole 14 = .ok (.lreturn, 1) := by decide +kernel
theorem dX3_nearestWhole_15 : decode cX3_nearestWhole 15 = .ok (.getstatic 11, 3) := by decide +kernel
theorem dX3_nearestWhole_18 : decode cX3_nearestWhole 18 = .ok (.lload_n 0, 1) := by decide +kernel
theorem dX3_nearestWhole_19 : decode cX3_nearestWhole 19 = .ok (.invokevirtual 43, 3) := by decide +kernel
theorem dX3_nearestWhole_22 : decode cX3_nearestWhole 22 = .ok (.getstatic 11, 3) := by decide +kernel
theorem dX3_nearestWhole_25 : decode cX3_nearestWhole 25 = .ok (.lload_n 0, 1) := by decide +kernel
theorem dX3_nearestWhole_26 : decode cX3_nearestWhole 26 = .ok (.invokevirtual 39, 3) := by decide +kernel
theorem dX3_nearestWhole_29 : decode cX3_nearestWhole 29 = .ok (.ineg, 1) := by decide +kernel
theorem dX3_nearestWhole_30 : decode cX3_nearestWhole 30 = .ok (.invokestatic 114, 3) := by decide +kernel
theorem dX3_nearestWhole_33 : decode cX3_nearestWhole 33 = .ok (.lstore_n 2, 1) := by decide +kernel
theorem dX3_nearestWhole_34 : decode cX3_nearestWhole 34 = .ok (.getstatic 11, 3) := by decide +kernel
theorem dX3_nearestWhole_37 : decode cX3_nearestWhole 37 = .ok (.lload_n 0, 1) := by decide +kernel
theorem dX3_nearestWhole_38 : decode cX3_nearestWhole 38 = .ok (.lconst 0, 1) := by decide +kernel
theorem dX3_nearestWhole_39 : decode cX3_nearestWhole 39 = .ok (.lcmp, 1) := by decide +kernel
theorem dX3_nearestWhole_40 : decode cX3_nearestWhole 40 = .ok (.ifCond .ge 7, 3) := by decide +kernel
theorem dX3_nearestWhole_43 : decode cX3_nearestWhole 43 = .ok (.iconst 1, 1) := by decide +kernel
theorem dX3_nearestWhole_44 : decode cX3_nearestWhole 44 = .ok (.goto 4, 3) := by decide +kernel
theorem dX3_nearestWhole_47 : decode cX3_nearestWhole 47 = .ok (.iconst 0, 1) := by decide +kernel
theorem dX3_nearestWhole_48 : decode cX3_nearestWhole 48 = .ok (.iconst 0, 1) := by decide +kernel
theorem dX3_nearestWhole_49 : decode cX3_nearestWhole 49 = .ok (.lload_n 2, 1) := by decide +kernel
theorem dX3_nearestWhole_50 : decode cX3_nearestWhole 50 = .ok (.invokevirtual 50, 3) := by decide +kernel
theorem dX3_nearestWhole_53 : decode cX3_nearestWhole 53 = .ok (.lreturn, 1) := by decide +kernel
set_option maxRecDepth 20000 in
theorem ggX3_distanceToNext_X0_isInfinite : GoodIn wsX3_distanceToNext wsX0_isInfinite := goodIn_r _ [12, 13, 14, 15, 16, 11, 17, 18] rfl (by decide +kernel)
set_option maxRecDepth 20000 in
theorem gX3_distanceToNext_X0_isInfinite : GoodIn wsX3_distanceToNext (wsV RX3 25 RX0 yX0_isInfinite wsX0_isInfinite) := goodIn_app (goodIn_of _ (by decide +kernel)) ggX3_distanceToNext_X0_isInfinite
set_option maxRecDepth 20000 in
theorem ggX3_distanceToNext_X0_exponent : GoodIn wsX3_distanceToNext wsX0_exponent := goodIn_r _ [22, 23, 24, 25, 5, 6, 7, 14, 15, 16, 11, 17, 18, 26, 27, 28, 29, 30, 31, 32] rfl (by decide +kernel)
set_option maxRecDepth 20000 in
theorem gX3_distanceToNext_X0_exponent : GoodIn wsX3_distanceToNext (wsV RX3 39 RX0 yX0_exponent wsX0_exponent) := goodIn_app (goodIn_of _ (by decide +kernel)) ggX3_distanceToNext_X0_exponent
set_option maxRecDepth 20000 in
theorem ggX3_distanceToNext_X0_pack : GoodIn wsX3_distanceToNext wsX0_pack := goodIn_r _ [36, 18, 23, 24, 25, 5, 6, 7, 13, 30, 31, 11, 32, 37, 38, 39] rfl (by decide +kernel)
set_option maxRecDepth 20000 in
theorem gX3_distanceToNext_X0_pack : GoodIn wsX3_distanceToNext (wsV RX3 50 RX0 yX0_pack wsX0_pack) := goodIn_app (goodIn_of _ (by decide +kernel)) ggX3_distanceToNext_X0_pack
theorem dX3_distanceToNext_0 : decode cX3_distanceToNext 0 = .ok (.getstatic 11, 3) := by decide +kernel
theorem dX3_distanceToNext_3 : decode cX3_distanceToNext 3 = .ok (.lload_n 0, 1) := by decide +kernel
theorem dX3_distanceToNext_4 : decode cX3_distanceToNext 4 = .ok (.invokevirtual 25, 3) := by decide +kernel
theorem dX3_distanceToNext_7 : decode cX3_distanceToNext 7 = .ok (.ifCond .eq 10, 3) := by decide +kernel
theorem dX3_distanceToNext_10 : decode cX3_distanceToNext 10 = .ok (.getstatic 11, 3) := by decide +kernel
theorem dX3_distanceToNext_13 : decode cX3_distanceToNext 13 = .ok (.getfield 59, 3) := by decide +kernel
theorem dX3_distanceToNext_16 : decode cX3_distanceToNext 16 = .ok (.lreturn, 1) := by decide +kernel
theorem dX3_distanceToNext_17 : decode cX3_distanceToNext 17 = .ok (.getstatic 11, 3) := by decide +kernel
theorem dX3_distanceToNext_20 : decode cX3_distanceToNext 20 = .ok (.lload_n 0, 1) := by decide +kernel
theorem dX3_distanceToNext_21 : decode cX3_distanceToNext 21 = .ok (.invokevirtual 39, 3) := by decide +kernel
theorem dX3_distanceToNext_24 : decode cX3_distanceToNext 24 = .ok (.getstatic 11, 3) := by decide +kernel
theorem dX3_distanceToNext_27 : decode cX3_distanceToNext 27 = .ok (.getfield 117, 3) := by decide +kernel
theorem dX3_distanceToNext_30 : decode cX3_distanceToNext 30 = .ok (.invokestatic 120, 3) := by decide +kernel
theorem dX3_distanceToNext_33 : decode cX3_distanceToNext 33 = .ok (.istore_n 2, 1) := by decide +kernel
theorem dX3_distanceToNext_34 : decode cX3_distanceToNext 34 = .ok (.getstatic 11, 3) := by decide +kernel
theorem dX3_distanceToNext_37 : decode cX3_distanceToNext 37 = .ok (.iconst 0, 1) := by decide +kernel
theorem dX3_distanceToNext_38 : decode cX3_distanceToNext 38 = .ok (.iload_n 2, 1) := by decide +kernel
theorem dX3_distanceToNext_39 : decode cX3_distanceToNext 39 = .ok (.lconst 1, 1) := by decide +kernel
theorem dX3_distanceToNext_40 : decode cX3_distanceToNext 40 = .ok (.invokevirtual 50, 3) := by decide +kernel
theorem dX3_distanceToNext_43 : decode cX3_distanceToNext 43 = .ok (.lreturn, 1) := by decide +kernel
set_option maxRecDepth 20000 in
theorem ggX3_nextUp_X0_isZero : GoodIn wsX3_nextUp wsX0_isZero := goodIn_r _ [6, 7, 8, 9, 5, 10, 11] rfl (by decide +kernel)
set_option maxRecDepth 20000 in
theorem gX3_nextUp_X0_isZero : GoodIn wsX3_nextUp (wsV RX3 32 RX0 yX0_isZero wsX0_isZero) := goodIn_app (goodIn_of _ (by decide +kernel)) ggX3_nextUp_X0_isZero
set_option maxRecDepth 20000 in
theorem ggX3_nextUp_X0_isInfinite : GoodIn wsX3_nextUp wsX0_isInfinite := goodIn_r _ [15, 16, 7, 8, 9, 5, 10, 11] rfl (by decide +kernel)
set_option maxRecDepth 20000 in
theorem gX3_nextUp_X0_isInfinite : GoodIn wsX3_nextUp (wsV RX3 25 RX0 yX0_isInfinite wsX0_isInfinite) := goodIn_app (goodIn_of _ (by decide +kernel)) ggX3_nextUp_X0_isInfinite
theorem dX3_nextUp_0 : decode cX3_nextUp 0 = .ok (.getstatic 11, 3) := by decide +kernel
theorem dX3_nextUp_3 : decode cX3_nextUp 3 = .ok (.lload_n 0, 1) := by decide +kernel
theorem dX3_nextUp_4 : decode cX3_nextUp 4 = .ok (.invokevirtual 32, 3) := by decide +kernel
theorem dX3_nextUp_7 : decode cX3_nextUp 7 = .ok (.ifCond .eq 5, 3) := by decide +kernel
theorem dX3_nextUp_10 : decode cX3_nextUp 10 = .ok (.lconst 1, 1) := by decide +kernel
theorem dX3_nextUp_11 : decode cX3_nextUp 11 = .ok (.lreturn, 1) := by decide +kernel
theorem dX3_nextUp_12 : decode cX3_nextUp 12 = .ok (.lload_n 0, 1) := by decide +kernel
theorem dX3_nextUp_13 : decode cX3_nextUp 13 = .ok (.lconst 0, 1) := by decide +kernel
theorem dX3_nextUp_14 : decode cX3_nextUp 14 = .ok (.lcmp, 1) := by decide +kernel
theorem dX3_nextUp_15 : decode cX3_nextUp 15 = .ok (.ifCond .ge 7, 3) := by decide +kernel
theorem dX3_nextUp_18 : decode cX3_nextUp 18 = .ok (.lload_n 0, 1) := by decide +kernel
theorem dX3_nextUp_19 : decode cX3_nextUp 19 = .ok (.lconst 1, 1) := by decide +kernel
theorem dX3_nextUp_20 : decode cX3_nextUp 20 = .ok (.lsub, 1) := by decide +kernel
theorem dX3_nextUp_21 : decode cX3_nextUp 21 = .ok (.lreturn, 1) := by decide +kernel
theorem dX3_nextUp_22 : decode cX3_nextUp 22 = .ok (.getstatic 11, 3) := by decide +kernel
theorem dX3_nextUp_25 : decode cX3_nextUp 25 = .ok (.lload_n 0, 1) := by decide +kernel
theorem dX3_nextUp_26 : decode cX3_nextUp 26 = .ok (.invokevirtual 25, 3) := by decide +kernel
theorem dX3_nextUp_29 : decode cX3_nextUp 29 = .ok (.ifCond .eq 7, 3) := by decide +kernel
theorem dX3_nextUp_32 : decode cX3_nextUp 32 = .ok (.lload_n 0, 1) := by decide +kernel
theorem dX3_nextUp_33 : decode cX3_nextUp 33 = .ok (.goto 6, 3) := by decide +kernel
theorem dX3_nextUp_36 : decode cX3_nextUp 36 = .ok (.lload_n 0, 1) := by decide +kernel
theorem dX3_nextUp_37 : decode cX3_nextUp 37 = .ok (.lconst 1, 1) := by decide +kernel
theorem dX3_nextUp_38 : decode cX3_nextUp 38 = .ok (.ladd, 1) := by decide +kernel
theorem dX3_nextUp_39 : decode cX3_nextUp 39 = .ok (.lreturn, 1) := by decide +kernel
set_option maxRecDepth 20000 in
theorem ggX3_scaled_X0_isInfinite : GoodIn wsX3_scaled wsX0_isInfinite := goodIn_r _ [6, 7, 8, 9, 10, 5, 11, 12] rfl (by decide +kernel)
set_option maxRecDepth 20000 in
theorem gX3_scaled_X0_isInfinite : GoodIn wsX3_scaled (wsV RX3 25 RX0 yX0_isInfinite wsX0_isInfinite) := goodIn_app (goodIn_of _ (by decide +kernel)) ggX3_scaled_X0_isInfinite
set_option maxRecDepth 20000 in
theorem ggX3_scaled_X0_exponent : GoodIn wsX3_scaled wsX0_exponent := goodIn_r _ [16, 17, 18, 19, 20, 21, 22, 8, 9, 10, 5, 11, 12, 23, 24, 25, 26, 27, 28, 29] rfl (by decide +kernel)
set_option maxRecDepth 20000 in
theorem gX3_scaled_X0_exponent : GoodIn wsX3_scaled (wsV RX3 39 RX0 yX0_exponent wsX0_exponent) := goodIn_app (goodIn_of _ (by decide +kernel)) ggX3_scaled_X0_exponent
set_option maxRecDepth 20000 in
theorem ggX3_scaled_X0_significand : GoodIn wsX3_scaled wsX0_significand := goodIn_r _ [33, 17, 8, 9, 10, 5, 11, 12, 23, 24, 25, 26, 27, 28, 29] rfl (by decide +kernel)
set_option maxRecDepth 20000 in
theorem gX3_scaled_X0_significand : GoodIn wsX3_scaled (wsV RX3 43 RX0 yX0_significand wsX0_significand) := goodIn_app (goodIn_of _ (by decide +kernel)) ggX3_scaled_X0_significand
set_option maxRecDepth 20000 in
theorem ggX3_scaled_X0_pack : GoodIn wsX3_scaled wsX0_pack := goodIn_r _ [37, 12, 17, 18, 19, 20, 21, 22, 7, 27, 28, 5, 29, 38, 39, 40] rfl (by decide +kernel)
set_option maxRecDepth 20000 in
theorem gX3_scaled_X0_pack : GoodIn wsX3_scaled (wsV RX3 50 RX0 yX0_pack wsX0_pack) := goodIn_app (goodIn_of _ (by decide +kernel)) ggX3_scaled_X0_pack
theorem dX3_scaled_0 : decode cX3_scaled 0 = .ok (.getstatic 11, 3) := by decide +kernel
theorem dX3_scaled_3 : decode cX3_scaled 3 = .ok (.lload_n 0, 1) := by decide +kernel
theorem dX3_scaled_4 : decode cX3_scaled 4 = .ok (.invokevirtual 25, 3) := by decide +kernel
theorem dX3_scaled_7 : decode cX3_scaled 7 = .ok (.ifCond .eq 5, 3) := by decide +kernel
theorem dX3_scaled_10 : decode cX3_scaled 10 = .ok (.lload_n 0, 1) := by decide +kernel
theorem dX3_scaled_11 : decode cX3_scaled 11 = .ok (.lreturn, 1) := by decide +kernel
theorem dX3_scaled_12 : decode cX3_scaled 12 = .ok (.getstatic 11, 3) := by decide +kernel
theorem dX3_scaled_15 : decode cX3_scaled 15 = .ok (.lload_n 0, 1) := by decide +kernel
theorem dX3_scaled_16 : decode cX3_scaled 16 = .ok (.lconst 0, 1) := by decide +kernel
theorem dX3_scaled_17 : decode cX3_scaled 17 = .ok (.lcmp, 1) := by decide +kernel
theorem dX3_scaled_18 : decode cX3_scaled 18 = .ok (.ifCond .ge 7, 3) := by decide +kernel
theorem dX3_scaled_21 : decode cX3_scaled 21 = .ok (.iconst 1, 1) := by decide +kernel
theorem dX3_scaled_22 : decode cX3_scaled 22 = .ok (.goto 4, 3) := by decide +kernel
theorem dX3_scaled_25 : decode cX3_scaled 25 = .ok (.iconst 0, 1) := by decide +kernel
theorem dX3_scaled_26 : decode cX3_scaled 26 = .ok (.getstatic 11, 3) := by decide +kernel
theorem dX3_scaled_29 : decode cX3_scaled 29 = .ok (.lload_n 0, 1) := by decide +kernel
theorem dX3_scaled_30 : decode cX3_scaled 30 = .ok (.invokevirtual 39, 3) := by decide +kernel
theorem dX3_scaled_33 : decode cX3_scaled 33 = .ok (.iload_n 2, 1) := by decide +kernel
theorem dX3_scaled_34 : decode cX3_scaled 34 = .ok (.iadd, 1) := by decide +kernel
theorem dX3_scaled_35 : decode cX3_scaled 35 = .ok (.getstatic 11, 3) := by decide +kernel
theorem dX3_scaled_38 : decode cX3_scaled 38 = .ok (.lload_n 0, 1) := by decide +kernel
theorem dX3_scaled_39 : decode cX3_scaled 39 = .ok (.invokevirtual 43, 3) := by decide +kernel
theorem dX3_scaled_42 : decode cX3_scaled 42 = .ok (.invokevirtual 50, 3) := by decide +kernel
theorem dX3_scaled_45 : decode cX3_scaled 45 = .ok (.lreturn, 1) := by decide +kernel
set_option maxRecDepth 20000 in
theorem ggX3_converted_X0_isNaN : GoodIn wsX3_converted wsX0_isNaN := goodIn_r _ [7, 8, 9, 10, 11, 6, 12, 13] rfl (by decide +kernel)
set_option maxRecDepth 20000 in
theorem gX3_converted_X0_isNaN : GoodIn wsX3_converted (wsV RX3 17 RX0 yX0_isNaN wsX0_isNaN) := goodIn_app (goodIn_of _ (by decide +kernel)) ggX3_converted_X0_isNaN
set_option maxRecDepth 20000 in
theorem ggX3_converted_X0_plainNaN : GoodIn wsX3_converted wsX0_plainNaN := goodIn_r _ [17, 8, 18] rfl (by decide +kernel)
set_option maxRecDepth 20000 in
theorem gX3_converted_X0_plainNaN : GoodIn wsX3_converted (wsV RX3 21 RX0 yX0_plainNaN wsX0_plainNaN) := goodIn_app (goodIn_of _ (by decide +kernel)) ggX3_converted_X0_plainNaN
set_option maxRecDepth 20000 in
theorem ggX3_converted_X0_isNegative : GoodIn wsX3_converted wsX0_isNegative := goodIn_r _ [22, 13] rfl (by decide +kernel)
set_option maxRecDepth 20000 in
theorem gX3_converted_X0_isNegative : GoodIn wsX3_converted (wsV RX3 123 RX0 yX0_isNegative wsX0_isNegative) := goodIn_app (goodIn_of _ (by decide +kernel)) ggX3_converted_X0_isNegative
set_option maxRecDepth 20000 in
theorem ggX3_converted_X0_isInfinite : GoodIn wsX3_converted wsX0_isInfinite := goodIn_r _ [26, 8, 9, 10, 11, 6, 12, 13] rfl (by decide +kernel)
set_option maxRecDepth 20000 in
theorem gX3_converted_X0_isInfinite : GoodIn wsX3_converted (wsV RX3 25 RX0 yX0_isInfinite wsX0_isInfinite) := goodIn_app (goodIn_of _ (by decide +kernel)) ggX3_converted_X0_isInfinite
set_option maxRecDepth 20000 in
theorem ggX3_converted_X0_exponent : GoodIn wsX3_converted wsX0_exponent := goodIn_r _ [30, 18, 31, 32, 33, 34, 35, 9, 10, 11, 6, 12, 13, 36, 37, 38, 39, 40, 41, 42] rfl (by decide +kernel)
set_option maxRecDepth 20000 in
theorem gX3_converted_X0_exponent : GoodIn wsX3_converted (wsV RX3 39 RX0 yX0_exponent wsX0_exponent) := goodIn_app (goodIn_of _ (by decide +kernel)) ggX3_converted_X0_exponent
set_option maxRecDepth 20000 in
theorem ggX3_converted_X0_significand : GoodIn wsX3_converted wsX0_significand := goodIn_r _ [46, 18, 9, 10, 11, 6, 12, 13, 36, 37, 38, 39, 40, 41, 42] rfl (by decide +kernel)
set_option maxRecDepth 20000 in
theorem gX3_converted_X0_significand : GoodIn wsX3_converted (wsV RX3 43 RX0 yX0_significand wsX0_significand) := goodIn_app (goodIn_of _ (by decide +kernel)) ggX3_converted_X0_significand
set_option maxRecDepth 20000 in
theorem ggX3_converted_X0_pack : GoodIn wsX3_converted wsX0_pack := goodIn_r _ [50, 13, 18, 31, 32, 33, 34, 35, 8, 40, 41, 6, 42, 51, 52, 53] rfl (by decide +kernel)
set_option maxRecDepth 20000 in
theorem gX3_converted_X0_pack : GoodIn wsX3_converted (wsV RX3 50 RX0 yX0_pack wsX0_pack) := goodIn_app (goodIn_of _ (by decide +kernel)) ggX3_converted_X0_pack
theorem dX3_converted_0 : decode cX3_converted 0 = .ok (.aload_n 0, 1) := by decide +kernel
theorem dX3_converted_1 : decode cX3_converted 1 = .ok (.lload_n 2, 1) := by decide +kernel
theorem dX3_converted_2 : decode cX3_converted 2 = .ok (.invokevirtual 17, 3) := by decide +kernel
theorem dX3_converted_5 : decode cX3_converted 5 = .ok (.ifCond .eq 8, 3) := by decide +kernel
theorem dX3_converted_8 : decode cX3_converted 8 = .ok (.aload_n 1, 1) := by decide +kernel
theorem dX3_converted_9 : decode cX3_converted 9 = .ok (.invokevirtual 21, 3) := by decide +kernel
theorem dX3_converted_12 : decode cX3_converted 12 = .ok (.lreturn, 1) := by decide +kernel
theorem dX3_converted_13 : decode cX3_converted 13 = .ok (.aload_n 0, 1) := by decide +kernel
theorem dX3_converted_14 : decode cX3_converted 14 = .ok (.lload_n 2, 1) := by decide +kernel
theorem dX3_converted_15 : decode cX3_converted 15 = .ok (.invokevirtual 123, 3) := by decide +kernel
theorem dX3_converted_18 : decode cX3_converted 18 = .ok (.istore 4, 2) := by decide +kernel
theorem dX3_converted_20 : decode cX3_converted 20 = .ok (.aload_n 0, 1) := by decide +kernel
theorem dX3_converted_21 : decode cX3_converted 21 = .ok (.lload_n 2, 1) := by decide +kernel
theorem dX3_converted_22 : decode cX3_converted 22 = .ok (.invokevirtual 25, 3) := by decide +kernel
theorem dX3_converted_25 : decode cX3_converted 25 = .ok (.ifCond .eq 25, 3) := by decide +kernel
theorem dX3_converted_28 : decode cX3_converted 28 = .ok (.iload 4, 2) := by decide +kernel
theorem dX3_converted_30 : decode cX3_converted 30 = .ok (.ifCond .eq 15, 3) := by decide +kernel
theorem dX3_converted_33 : decode cX3_converted 33 = .ok (.aload_n 1, 1) := by decide +kernel
theorem dX3_converted_34 : decode cX3_converted 34 = .ok (.getfield 126, 3) := by decide +kernel
theorem dX3_converted_37 : decode cX3_converted 37 = .ok (.aload_n 1, 1) := by decide +kernel
theorem dX3_converted_38 : decode cX3_converted 38 = .ok (.getfield 59, 3) := by decide +kernel
theorem dX3_converted_41 : decode cX3_converted 41 = .ok (.lor, 1) := by decide +kernel
theorem dX3_converted_42 : decode cX3_converted 42 = .ok (.goto 7, 3) := by decide +kernel
theorem dX3_converted_45 : decode cX3_converted 45 = .ok (.aload_n 1, 1) := by decide +kernel
theorem dX3_converted_46 : decode cX3_converted 46 = .ok (.getfield 59, 3) := by decide +kernel
theorem dX3_converted_49 : decode cX3_converted 49 = .ok (.lreturn, 1) := by decide +kernel
theorem dX3_converted_50 : decode cX3_converted 50 = .ok (.aload_n 1, 1) := by decide +kernel
theorem dX3_converted_51 : decode cX3_converted 51 = .ok (.iload 4, 2) := by decide +kernel
theorem dX3_converted_53 : decode cX3_converted 53 = .ok (.aload_n 0, 1) := by decide +kernel
theorem dX3_converted_54 : decode cX3_converted 54 = .ok (.lload_n 2, 1) := by decide +kernel
theorem dX3_converted_55 : decode cX3_converted 55 = .ok (.invokevirtual 39, 3) := by decide +kernel
theorem dX3_converted_58 : decode cX3_converted 58 = .ok (.aload_n 0, 1) := by decide +kernel
theorem dX3_converted_59 : decode cX3_converted 59 = .ok (.lload_n 2, 1) := by decide +kernel
theorem dX3_converted_60 : decode cX3_converted 60 = .ok (.invokevirtual 43, 3) := by decide +kernel
theorem dX3_converted_63 : decode cX3_converted 63 = .ok (.invokevirtual 50, 3) := by decide +kernel
theorem dX3_converted_66 : decode cX3_converted 66 = .ok (.lreturn, 1) := by decide +kernel
set_option maxRecDepth 20000 in
theorem ggX3_fromLong_X0_pack : GoodIn wsX3_fromLong wsX0_pack := goodIn_r _ [11, 12, 13, 14, 15, 16, 5, 17, 18, 19, 20, 10, 21, 22, 23, 24] rfl (by decide +kernel)
set_option maxRecDepth 20000 in
theorem gX3_fromLong_X0_pack : GoodIn wsX3_fromLong (wsV RX3 50 RX0 yX0_pack wsX0_pack) := goodIn_app (goodIn_of _ (by decide +kernel)) ggX3_fromLong_X0_pack
theorem dX3_fromLong_0 : decode cX3_fromLong 0 = .ok (.lload_n 1, 1) := by decide +kernel
theorem dX3_fromLong_1 : decode cX3_fromLong 1 = .ok (.ldc2_w 54, 3) := by decide +kernel
theorem dX3_fromLong_4 : decode cX3_fromLong 4 = .ok (.lcmp, 1) := by decide +kernel
theorem dX3_fromLong_5 : decode cX3_fromLong 5 = .ok (.ifCond .ne 13, 3) := by decide +kernel
theorem dX3_fromLong_8 : decode cX3_fromLong 8 = .ok (.aload_n 0, 1) := by decide +kernel
theorem dX3_fromLong_9 : decode cX3_fromLong 9 = .ok (.iconst 1, 1) := by decide +kernel
theorem dX3_fromLong_10 : decode cX3_fromLong 10 = .ok (.iconst 1, 1) := by decide +kernel
theorem dX3_fromLong_11 : decode cX3_fromLong 11 = .ok (.ldc2_w 129, 3) := by decide +kernel
theorem dX3_fromLong_14 : decode cX3_fromLong 14 = .ok (.invokevirtual 50, 3) := by decide +kernel
theorem dX3_fromLong_17 : decode cX3_fromLong 17 = .ok (.lreturn, 1) := by decide +kernel
theorem dX3_fromLong_18 : decode cX3_fromLong 18 = .ok (.aload_n 0, 1) := by decide +kernel
theorem dX3_fromLong_19 : decode cX3_fromLong 19 = .ok (.lload_n 1, 1) := by decide +kernel
theorem dX3_fromLong_20 : decode cX3_fromLong 20 = .ok (.lconst 0, 1) := by decide +kernel
theorem dX3_fromLong_21 : decode cX3_fromLong 21 = .ok (.lcmp, 1) := by decide +kernel
theorem dX3_fromLong_22 : decode cX3_fromLong 22 = .ok (.ifCond .ge 7, 3) := by decide +kernel
theorem dX3_fromLong_25 : decode cX3_fromLong 25 = .ok (.iconst 1, 1) := by decide +kernel
theorem dX3_fromLong_26 : decode cX3_fromLong 26 = .ok (.goto 4, 3) := by decide +kernel
theorem dX3_fromLong_29 : decode cX3_fromLong 29 = .ok (.iconst 0, 1) := by decide +kernel
theorem dX3_fromLong_30 : decode cX3_fromLong 30 = .ok (.iconst 0, 1) := by decide +kernel
theorem dX3_fromLong_31 : decode cX3_fromLong 31 = .ok (.lload_n 1, 1) := by decide +kernel
theorem dX3_fromLong_32 : decode cX3_fromLong 32 = .ok (.invokestatic 131, 3) := by decide +kernel
theorem dX3_fromLong_35 : decode cX3_fromLong 35 = .ok (.invokevirtual 50, 3) := by decide +kernel
theorem dX3_fromLong_38 : decode cX3_fromLong 38 = .ok (.lreturn, 1) := by decide +kernel
set_option maxRecDepth 20000 in
theorem ggX3_toLong_X0_isNaN : GoodIn wsX3_toLong wsX0_isNaN := goodIn_r _ [12, 13, 14, 15, 16, 11, 17, 18] rfl (by decide +kernel)
set_option maxRecDepth 20000 in
theorem gX3_toLong_X0_isNaN : GoodIn wsX3_toLong (wsV RX3 17 RX0 yX0_isNaN wsX0_isNaN) := goodIn_app (goodIn_of _ (by decide +kernel)) ggX3_toLong_X0_isNaN
set_option maxRecDepth 20000 in
theorem ggX3_toLong_X3_power : GoodIn wsX3_toLong wsX3_power := goodIn_r _ [22, 1, 23, 24, 15, 16, 11, 17, 18] rfl (by decide +kernel)
set_option maxRecDepth 20000 in
theorem gX3_toLong_X3_power : GoodIn wsX3_toLong (va_wsS RX3 109 yX3_power wsX3_power) := goodIn_app (goodIn_of _ (by decide +kernel)) ggX3_toLong_X3_power
set_option maxRecDepth 20000 in
theorem ggX3_toLong_X0_exponent : GoodIn wsX3_toLong wsX0_exponent := goodIn_r _ [28, 29, 30, 31, 32, 6, 33, 14, 15, 16, 11, 17, 18, 34, 35, 36, 37, 38, 39, 40] rfl (by decide +kernel)
set_option maxRecDepth 20000 in
theorem gX3_toLong_X0_exponent : GoodIn wsX3_toLong (wsV RX3 39 RX0 yX0_exponent wsX0_exponent) := goodIn_app (goodIn_of _ (by decide +kernel)) ggX3_toLong_X0_exponent
set_option maxRecDepth 20000 in
theorem ggX3_toLong_X0_significand : GoodIn wsX3_toLong wsX0_significand := goodIn_r _ [44, 29, 14, 15, 16, 11, 17, 18, 34, 35, 36, 37, 38, 39, 40] rfl (by decide +kernel)
set_option maxRecDepth 20000 in
theorem gX3_toLong_X0_significand : GoodIn wsX3_toLong (wsV RX3 43 RX0 yX0_significand wsX0_significand) := goodIn_app (goodIn_of _ (by decide +kernel)) ggX3_toLong_X0_significand
theorem dX3_toLong_0 : decode cX3_toLong 0 = .ok (.getstatic 11, 3) := by decide +kernel
theorem dX3_toLong_3 : decode cX3_toLong 3 = .ok (.lload_n 0, 1) := by decide +kernel
theorem dX3_toLong_4 : decode cX3_toLong 4 = .ok (.invokevirtual 17, 3) := by decide +kernel
theorem dX3_toLong_7 : decode cX3_toLong 7 = .ok (.ifCond .eq 5, 3) := by decide +kernel
theorem dX3_toLong_10 : decode cX3_toLong 10 = .ok (.lconst 0, 1) := by decide +kernel
theorem dX3_toLong_11 : decode cX3_toLong 11 = .ok (.lreturn, 1) := by decide +kernel
theorem dX3_toLong_12 : decode cX3_toLong 12 = .ok (.lload_n 0, 1) := by decide +kernel
theorem dX3_toLong_13 : decode cX3_toLong 13 = .ok (.invokestatic 109, 3) := by decide +kernel
theorem dX3_toLong_16 : decode cX3_toLong 16 = .ok (.bipush 63, 2) := by decide +kernel
theorem dX3_toLong_18 : decode cX3_toLong 18 = .ok (.if_icmp .lt 19, 3) := by decide +kernel
theorem dX3_toLong_21 : decode cX3_toLong 21 = .ok (.lload_n 0, 1) := by decide +kernel
theorem dX3_toLong_22 : decode cX3_toLong 22 = .ok (.lconst 0, 1) := by decide +kernel
theorem dX3_toLong_23 : decode cX3_toLong 23 = .ok (.lcmp, 1) := by decide +kernel
theorem dX3_toLong_24 : decode cX3_toLong 24 = .ok (.ifCond .ge 9, 3) := by decide +kernel
theorem dX3_toLong_27 : decode cX3_toLong 27 = .ok (.ldc2_w 54, 3) := by decide +kernel
theorem dX3_toLong_30 : decode cX3_toLong 30 = .ok (.goto 6, 3) := by decide +kernel
theorem dX3_toLong_33 : decode cX3_toLong 33 = .ok (.ldc2_w 134, 3) := by decide +kernel
theorem dX3_toLong_36 : decode cX3_toLong 36 = .ok (.lreturn, 1) := by decide +kernel
theorem dX3_toLong_37 : decode cX3_toLong 37 = .ok (.getstatic 11, 3) := by decide +kernel
theorem dX3_toLong_40 : decode cX3_toLong 40 = .ok (.lload_n 0, 1) := by decide +kernel
theorem dX3_toLong_41 : decode cX3_toLong 41 = .ok (.invokevirtual 39, 3) := by decide +kernel
theorem dX3_toLong_44 : decode cX3_toLong 44 = .ok (.istore_n 2, 1) := by decide +kernel
theorem dX3_toLong_45 : decode cX3_toLong 45 = .ok (.getstatic 11, 3) := by decide +kernel
theorem dX3_toLong_48 : decode cX3_toLong 48 = .ok (.lload_n 0, 1) := by decide +kernel
theorem dX3_toLong_49 : decode cX3_toLong 49 = .ok (.invokevirtual 43, 3) := by decide +kernel
theorem dX3_toLong_52 : decode cX3_toLong 52 = .ok (.lstore_n 3, 1) := by decide +kernel
theorem dX3_toLong_53 : decode cX3_toLong 53 = .ok (.iload_n 2, 1) := by decide +kernel
theorem dX3_toLong_54 : decode cX3_toLong 54 = .ok (.ifCond .lt 9, 3) := by decide +kernel
theorem dX3_toLong_57 : decode cX3_toLong 57 = .ok (.lload_n 3, 1) := by decide +kernel
theorem dX3_toLong_58 : decode cX3_toLong 58 = .ok (.iload_n 2, 1) := by decide +kernel
theorem dX3_toLong_59 : decode cX3_toLong 59 = .ok (.lshl, 1) := by decide +kernel
theorem dX3_toLong_60 : decode cX3_toLong 60 = .ok (.goto 12, 3) := by decide +kernel
theorem dX3_toLong_63 : decode cX3_toLong 63 = .ok (.lload_n 3, 1) := by decide +kernel
theorem dX3_toLong_64 : decode cX3_toLong 64 = .ok (.iload_n 2, 1) := by decide +kernel
theorem dX3_toLong_65 : decode cX3_toLong 65 = .ok (.ineg, 1) := by decide +kernel
theorem dX3_toLong_66 : decode cX3_toLong 66 = .ok (.bipush 63, 2) := by decide +kernel
theorem dX3_toLong_68 : decode cX3_toLong 68 = .ok (.invokestatic 74, 3) := by decide +kernel
theorem dX3_toLong_71 : decode cX3_toLong 71 = .ok (.lushr, 1) := by decide +kernel
theorem dX3_toLong_72 : decode cX3_toLong 72 = .ok (.lstore 5, 2) := by decide +kernel
theorem dX3_toLong_74 : decode cX3_toLong 74 = .ok (.lload_n 0, 1) := by decide +kernel
theorem dX3_toLong_75 : decode cX3_toLong 75 = .ok (.lconst 0, 1) := by decide +kernel
theorem dX3_toLong_76 : decode cX3_toLong 76 = .ok (.lcmp, 1) := by decide +kernel
theorem dX3_toLong_77 : decode cX3_toLong 77 = .ok (.ifCond .ge 9, 3) := by decide +kernel
theorem dX3_toLong_80 : decode cX3_toLong 80 = .ok (.lload 5, 2) := by decide +kernel
theorem dX3_toLong_82 : decode cX3_toLong 82 = .ok (.lneg, 1) := by decide +kernel
theorem dX3_toLong_83 : decode cX3_toLong 83 = .ok (.goto 5, 3) := by decide +kernel
theorem dX3_toLong_86 : decode cX3_toLong 86 = .ok (.lload 5, 2) := by decide +kernel
theorem dX3_toLong_88 : decode cX3_toLong 88 = .ok (.lreturn, 1) := by decide +kernel
set_option maxRecDepth 20000 in
theorem ggX3_toInt_X3_toLong : GoodIn wsX3_toInt wsX3_toLong := goodIn_r _ [13, 14, 15, 16, 17, 18, 4, 19, 20, 21, 22, 23, 24, 25, 26, 27, 28, 29, 30, 31, 32, 12, 33, 34, 35, 36, 37, 38, 39, 40, 41, 42, 43, 44, 45, 46, 47, 48, 49, 50, 51, 52, 53, 54, 55] rfl (by decide +kernel)
set_option maxRecDepth 20000 in
theorem gX3_toInt_X3_toLong : GoodIn wsX3_toInt (va_wsS RX3 136 yX3_toLong wsX3_toLong) := goodIn_app (goodIn_of _ (by decide +kernel)) ggX3_toInt_X3_toLong
theorem dX3_toInt_0 : decode cX3_toInt 0 = .ok (.lload_n 0, 1) := by decide +kernel
theorem dX3_toInt_1 : decode cX3_toInt 1 = .ok (.invokestatic 136, 3) := by decide +kernel
theorem dX3_toInt_4 : decode cX3_toInt 4 = .ok (.ldc2_w 139, 3) := by decide +kernel
theorem dX3_toInt_7 : decode cX3_toInt 7 = .ok (.invokestatic 141, 3) := by decide +kernel
theorem dX3_toInt_10 : decode cX3_toInt 10 = .ok (.ldc2_w 143, 3) := by decide +kernel
theorem dX3_toInt_13 : decode cX3_toInt 13 = .ok (.invokestatic 145, 3) := by decide +kernel
theorem dX3_toInt_16 : decode cX3_toInt 16 = .ok (.l2i, 1) := by decide +kernel
theorem dX3_toInt_17 : decode cX3_toInt 17 = .ok (.ireturn, 1) := by decide +kernel
