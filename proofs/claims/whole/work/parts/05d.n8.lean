set_option maxRecDepth 20000 in
theorem ggX1_init_X6_init : GoodIn wsX1_init wsX6_init := goodIn_r _ [6, 7, 8, 9, 10, 11, 12, 13, 14, 15, 16, 17, 18, 19, 20, 21, 22, 23, 24, 25, 26] rfl (by decide +kernel)
set_option maxRecDepth 20000 in
theorem gX1_init_X6_init : GoodIn wsX1_init (wsX6_init) := ggX1_init_X6_init
theorem dX1_init_0 : decode cX1_init 0 = .ok (.aload_n 0, 1) := by decide +kernel
theorem dX1_init_1 : decode cX1_init 1 = .ok (.iload_n 1, 1) := by decide +kernel
theorem dX1_init_2 : decode cX1_init 2 = .ok (.iload_n 2, 1) := by decide +kernel
theorem dX1_init_3 : decode cX1_init 3 = .ok (.invokespecial 1, 3) := by decide +kernel
theorem dX1_init_6 : decode cX1_init 6 = .ok (.aload_n 0, 1) := by decide +kernel
theorem dX1_init_7 : decode cX1_init 7 = .ok (.iload_n 2, 1) := by decide +kernel
theorem dX1_init_8 : decode cX1_init 8 = .ok (.newarray .long, 2) := by decide +kernel
theorem dX1_init_10 : decode cX1_init 10 = .ok (.putfield 7, 3) := by decide +kernel
theorem dX1_init_13 : decode cX1_init 13 = .ok (.return_, 1) := by decide +kernel
set_option maxRecDepth 20000 in
theorem ggX2_init_X6_init : GoodIn wsX2_init wsX6_init := goodIn_r _ [5, 6, 7, 8, 9, 10, 20, 21, 22, 11, 12, 13, 14, 15, 16, 17, 18, 19, 23, 24, 25] rfl (by decide +kernel)
set_option maxRecDepth 20000 in
theorem gX2_init_X6_init : GoodIn wsX2_init (wsX6_init) := ggX2_init_X6_init
theorem dX2_init_0 : decode cX2_init 0 = .ok (.aload_n 0, 1) := by decide +kernel
theorem dX2_init_1 : decode cX2_init 1 = .ok (.iload_n 1, 1) := by decide +kernel
theorem dX2_init_2 : decode cX2_init 2 = .ok (.iconst 0, 1) := by decide +kernel
theorem dX2_init_3 : decode cX2_init 3 = .ok (.invokespecial 1, 3) := by decide +kernel
theorem dX2_init_6 : decode cX2_init 6 = .ok (.aload_n 0, 1) := by decide +kernel
theorem dX2_init_7 : decode cX2_init 7 = .ok (.iload_n 2, 1) := by decide +kernel
theorem dX2_init_8 : decode cX2_init 8 = .ok (.putfield 7, 3) := by decide +kernel
theorem dX2_init_11 : decode cX2_init 11 = .ok (.return_, 1) := by decide +kernel
theorem dX2_size_0 : decode cX2_size 0 = .ok (.aload_n 0, 1) := by decide +kernel
theorem dX2_size_1 : decode cX2_size 1 = .ok (.getfield 7, 3) := by decide +kernel
theorem dX2_size_4 : decode cX2_size 4 = .ok (.ireturn, 1) := by decide +kernel
set_option maxRecDepth 20000 in
theorem ggX2_twice_X2_size : GoodIn wsX2_twice wsX2_size := goodIn_r _ [5, 6, 22, 23, 24, 25, 26, 27, 28, 29, 30] rfl (by decide +kernel)
set_option maxRecDepth 20000 in
theorem gX2_twice_X2_size : GoodIn wsX2_twice (wsV RX2 13 RX2 yX2_size wsX2_size) := goodIn_app (goodIn_of _ (by decide +kernel)) ggX2_twice_X2_size
set_option maxRecDepth 20000 in
theorem ggX2_twice_X4_size : GoodIn wsX2_twice wsX4_size := goodIn_r _ [13, 14, 15, 22, 23, 24, 25, 26, 27, 28, 29, 30] rfl (by decide +kernel)
set_option maxRecDepth 20000 in
theorem gX2_twice_X4_size_u13X4 : GoodIn wsX2_twice (va_wsO RX2 13 RX4 "ThrowModels$Plain" ⟨"ThrowModels$Plain", "size", "()I"⟩ yX4_size wsX4_size) := goodIn_app (goodIn_of _ (by decide +kernel)) ggX2_twice_X4_size
set_option maxRecDepth 20000 in
theorem ggX2_twice_X5_size : GoodIn wsX2_twice wsX5_size := goodIn_r _ [19, 20, 21, 22, 23, 24, 25, 26, 27, 28, 29, 30] rfl (by decide +kernel)
set_option maxRecDepth 20000 in
theorem gX2_twice_X5_size_u13X5 : GoodIn wsX2_twice (va_wsO RX2 13 RX5 "ThrowModels$Plain" ⟨"ThrowModels$Plain", "size", "()I"⟩ yX5_size wsX5_size) := goodIn_app (goodIn_of _ (by decide +kernel)) ggX2_twice_X5_size
theorem dX2_twice_0 : decode cX2_twice 0 = .ok (.iconst 2, 1) := by decide +kernel
theorem dX2_twice_1 : decode cX2_twice 1 = .ok (.aload_n 0, 1) := by decide +kernel
theorem dX2_twice_2 : decode cX2_twice 2 = .ok (.invokevirtual 13, 3) := by decide +kernel
theorem dX2_twice_5 : decode cX2_twice 5 = .ok (.imul, 1) := by decide +kernel
theorem dX2_twice_6 : decode cX2_twice 6 = .ok (.ireturn, 1) := by decide +kernel
theorem dX2_mark_0 : decode cX2_mark 0 = .ok (.bipush 7, 2) := by decide +kernel
theorem dX2_mark_2 : decode cX2_mark 2 = .ok (.aload_n 0, 1) := by decide +kernel
theorem dX2_mark_3 : decode cX2_mark 3 = .ok (.getfield 7, 3) := by decide +kernel
theorem dX2_mark_6 : decode cX2_mark 6 = .ok (.imul, 1) := by decide +kernel
theorem dX2_mark_7 : decode cX2_mark 7 = .ok (.iconst 1, 1) := by decide +kernel
theorem dX2_mark_8 : decode cX2_mark 8 = .ok (.iadd, 1) := by decide +kernel
theorem dX2_mark_9 : decode cX2_mark 9 = .ok (.ireturn, 1) := by decide +kernel
theorem dX2_step_0 : decode cX2_step 0 = .ok (.sipush 1000, 3) := by decide +kernel
theorem dX2_step_3 : decode cX2_step 3 = .ok (.aload_n 0, 1) := by decide +kernel
theorem dX2_step_4 : decode cX2_step 4 = .ok (.getfield 7, 3) := by decide +kernel
theorem dX2_step_7 : decode cX2_step 7 = .ok (.iadd, 1) := by decide +kernel
theorem dX2_step_8 : decode cX2_step 8 = .ok (.ireturn, 1) := by decide +kernel
set_option maxRecDepth 20000 in
theorem ggX4_init_X2_init : GoodIn wsX4_init wsX2_init := goodIn_r _ [4, 5, 6, 7, 8, 9, 10, 11, 12, 13, 14, 15, 16, 17, 18, 19, 20, 21, 22, 23, 24, 25, 26, 27, 28, 29] rfl (by decide +kernel)
set_option maxRecDepth 20000 in
theorem gX4_init_X2_init : GoodIn wsX4_init (wsX2_init) := ggX4_init_X2_init
theorem dX4_init_0 : decode cX4_init 0 = .ok (.aload_n 0, 1) := by decide +kernel
theorem dX4_init_1 : decode cX4_init 1 = .ok (.iload_n 1, 1) := by decide +kernel
theorem dX4_init_2 : decode cX4_init 2 = .ok (.iload_n 2, 1) := by decide +kernel
theorem dX4_init_3 : decode cX4_init 3 = .ok (.invokespecial 1, 3) := by decide +kernel
theorem dX4_init_6 : decode cX4_init 6 = .ok (.return_, 1) := by decide +kernel
theorem dX4_size_0 : decode cX4_size 0 = .ok (.iconst 2, 1) := by decide +kernel
theorem dX4_size_1 : decode cX4_size 1 = .ok (.aload_n 0, 1) := by decide +kernel
theorem dX4_size_2 : decode cX4_size 2 = .ok (.getfield 7, 3) := by decide +kernel
theorem dX4_size_5 : decode cX4_size 5 = .ok (.imul, 1) := by decide +kernel
theorem dX4_size_6 : decode cX4_size 6 = .ok (.ireturn, 1) := by decide +kernel
set_option maxRecDepth 20000 in
theorem ggX4_twice_X4_size : GoodIn wsX4_twice wsX4_size := goodIn_r _ [5, 6, 7, 17, 18, 19, 20, 21, 22, 23, 24, 25] rfl (by decide +kernel)
set_option maxRecDepth 20000 in
theorem gX4_twice_X4_size : GoodIn wsX4_twice (wsV RX4 13 RX4 yX4_size wsX4_size) := goodIn_app (goodIn_of _ (by decide +kernel)) ggX4_twice_X4_size
set_option maxRecDepth 20000 in
theorem ggX4_twice_X5_size : GoodIn wsX4_twice wsX5_size := goodIn_r _ [14, 15, 16, 17, 18, 19, 20, 21, 22, 23, 24, 25] rfl (by decide +kernel)
set_option maxRecDepth 20000 in
theorem gX4_twice_X5_size_u13X5 : GoodIn wsX4_twice (va_wsO RX4 13 RX5 "ThrowModels$Round" ⟨"ThrowModels$Round", "size", "()I"⟩ yX5_size wsX5_size) := goodIn_app (goodIn_of _ (by decide +kernel)) ggX4_twice_X5_size
theorem dX4_twice_0 : decode cX4_twice 0 = .ok (.iconst 3, 1) := by decide +kernel
theorem dX4_twice_1 : decode cX4_twice 1 = .ok (.aload_n 0, 1) := by decide +kernel
theorem dX4_twice_2 : decode cX4_twice 2 = .ok (.invokevirtual 13, 3) := by decide +kernel
theorem dX4_twice_5 : decode cX4_twice 5 = .ok (.imul, 1) := by decide +kernel
theorem dX4_twice_6 : decode cX4_twice 6 = .ok (.bipush 100, 2) := by decide +kernel
theorem dX4_twice_8 : decode cX4_twice 8 = .ok (.iadd, 1) := by decide +kernel
theorem dX4_twice_9 : decode cX4_twice 9 = .ok (.ireturn, 1) := by decide +kernel
set_option maxRecDepth 20000 in
theorem ggX4_step_X2_step : GoodIn wsX4_step wsX2_step := goodIn_r _ [6, 7, 8, 9, 10, 11, 12, 13, 14, 15, 16] rfl (by decide +kernel)
set_option maxRecDepth 20000 in
theorem gX4_step_X2_step_s17 : GoodIn wsX4_step (va_wsSU RX4 17 yX2_step wsX2_step) := goodIn_app (goodIn_of _ (by decide +kernel)) ggX4_step_X2_step
theorem dX4_step_0 : decode cX4_step 0 = .ok (.aload_n 0, 1) := by decide +kernel
theorem dX4_step_1 : decode cX4_step 1 = .ok (.invokespecial 17, 3) := by decide +kernel
theorem dX4_step_4 : decode cX4_step 4 = .ok (.bipush 20, 2) := by decide +kernel
theorem dX4_step_6 : decode cX4_step 6 = .ok (.iadd, 1) := by decide +kernel
theorem dX4_step_7 : decode cX4_step 7 = .ok (.ireturn, 1) := by decide +kernel
set_option maxRecDepth 20000 in
theorem ggX5_init_X4_init : GoodIn wsX5_init wsX4_init := goodIn_r _ [4, 5, 6, 7, 8, 9, 10, 11, 12, 13, 14, 15, 16, 17, 18, 19, 20, 21, 22, 23, 24, 25, 26, 27, 28, 29, 30, 31, 32, 33] rfl (by decide +kernel)
set_option maxRecDepth 20000 in
theorem gX5_init_X4_init : GoodIn wsX5_init (wsX4_init) := ggX5_init_X4_init
theorem dX5_init_0 : decode cX5_init 0 = .ok (.aload_n 0, 1) := by decide +kernel
theorem dX5_init_1 : decode cX5_init 1 = .ok (.bipush 12, 2) := by decide +kernel
theorem dX5_init_3 : decode cX5_init 3 = .ok (.iload_n 1, 1) := by decide +kernel
theorem dX5_init_4 : decode cX5_init 4 = .ok (.invokespecial 3, 3) := by decide +kernel
theorem dX5_init_7 : decode cX5_init 7 = .ok (.return_, 1) := by decide +kernel
theorem dX5_size_0 : decode cX5_size 0 = .ok (.iconst 2, 1) := by decide +kernel
theorem dX5_size_1 : decode cX5_size 1 = .ok (.aload_n 0, 1) := by decide +kernel
theorem dX5_size_2 : decode cX5_size 2 = .ok (.getfield 9, 3) := by decide +kernel
theorem dX5_size_5 : decode cX5_size 5 = .ok (.imul, 1) := by decide +kernel
theorem dX5_size_6 : decode cX5_size 6 = .ok (.iconst 1, 1) := by decide +kernel
theorem dX5_size_7 : decode cX5_size 7 = .ok (.iadd, 1) := by decide +kernel
theorem dX5_size_8 : decode cX5_size 8 = .ok (.ireturn, 1) := by decide +kernel
theorem dX5_mark_0 : decode cX5_mark 0 = .ok (.bipush 10, 2) := by decide +kernel
theorem dX5_mark_2 : decode cX5_mark 2 = .ok (.aload_n 0, 1) := by decide +kernel
theorem dX5_mark_3 : decode cX5_mark 3 = .ok (.invokespecial 15, 3) := by decide +kernel
theorem dX5_mark_6 : decode cX5_mark 6 = .ok (.imul, 1) := by decide +kernel
theorem dX5_mark_7 : decode cX5_mark 7 = .ok (.ireturn, 1) := by decide +kernel
set_option maxRecDepth 20000 in
theorem ggX5_step_X4_step : GoodIn wsX5_step wsX4_step := goodIn_r _ [6, 7, 8, 9, 10, 11, 12, 13, 14, 15, 16, 17, 18, 19, 20, 21, 22] rfl (by decide +kernel)
set_option maxRecDepth 20000 in
theorem gX5_step_X4_step_s19 : GoodIn wsX5_step (va_wsSU RX5 19 yX4_step wsX4_step) := goodIn_app (goodIn_of _ (by decide +kernel)) ggX5_step_X4_step
theorem dX5_step_0 : decode cX5_step 0 = .ok (.aload_n 0, 1) := by decide +kernel
theorem dX5_step_1 : decode cX5_step 1 = .ok (.invokespecial 19, 3) := by decide +kernel
theorem dX5_step_4 : decode cX5_step 4 = .ok (.iconst 3, 1) := by decide +kernel
theorem dX5_step_5 : decode cX5_step 5 = .ok (.iadd, 1) := by decide +kernel
theorem dX5_step_6 : decode cX5_step 6 = .ok (.ireturn, 1) := by decide +kernel
theorem dX6_init_0 : decode cX6_init 0 = .ok (.aload_n 0, 1) := by decide +kernel
theorem dX6_init_1 : decode cX6_init 1 = .ok (.invokespecial 3, 3) := by decide +kernel
theorem dX6_init_4 : decode cX6_init 4 = .ok (.aload_n 0, 1) := by decide +kernel
theorem dX6_init_5 : decode cX6_init 5 = .ok (.iload_n 1, 1) := by decide +kernel
theorem dX6_init_6 : decode cX6_init 6 = .ok (.putfield 9, 3) := by decide +kernel
theorem dX6_init_9 : decode cX6_init 9 = .ok (.aload_n 0, 1) := by decide +kernel
theorem dX6_init_10 : decode cX6_init 10 = .ok (.iload_n 2, 1) := by decide +kernel
theorem dX6_init_11 : decode cX6_init 11 = .ok (.putfield 15, 3) := by decide +kernel
theorem dX6_init_14 : decode cX6_init 14 = .ok (.return_, 1) := by decide +kernel
theorem dX6_isOf_0 : decode cX6_isOf 0 = .ok (.iload_n 1, 1) := by decide +kernel
theorem dX6_isOf_1 : decode cX6_isOf 1 = .ok (.tableswitch 101 8 15 #[47, 101, 71, 86, 101, 71, 86, 47], 47) := by decide +kernel
theorem dX6_isOf_48 : decode cX6_isOf 48 = .ok (.aload_n 0, 1) := by decide +kernel
theorem dX6_isOf_49 : decode cX6_isOf 49 = .ok (.getfield 9, 3) := by decide +kernel
theorem dX6_isOf_52 : decode cX6_isOf 52 = .ok (.bipush 8, 2) := by decide +kernel
theorem dX6_isOf_54 : decode cX6_isOf 54 = .ok (.if_icmp .eq 12, 3) := by decide +kernel
theorem dX6_isOf_57 : decode cX6_isOf 57 = .ok (.aload_n 0, 1) := by decide +kernel
theorem dX6_isOf_58 : decode cX6_isOf 58 = .ok (.getfield 9, 3) := by decide +kernel
theorem dX6_isOf_61 : decode cX6_isOf 61 = .ok (.bipush 9, 2) := by decide +kernel
theorem dX6_isOf_63 : decode cX6_isOf 63 = .ok (.if_icmp .ne 7, 3) := by decide +kernel
theorem dX6_isOf_66 : decode cX6_isOf 66 = .ok (.iconst 1, 1) := by decide +kernel
theorem dX6_isOf_67 : decode cX6_isOf 67 = .ok (.goto 4, 3) := by decide +kernel
theorem dX6_isOf_70 : decode cX6_isOf 70 = .ok (.iconst 0, 1) := by decide +kernel
theorem dX6_isOf_71 : decode cX6_isOf 71 = .ok (.ireturn, 1) := by decide +kernel
theorem dX6_isOf_72 : decode cX6_isOf 72 = .ok (.aload_n 0, 1) := by decide +kernel
theorem dX6_isOf_73 : decode cX6_isOf 73 = .ok (.getfield 9, 3) := by decide +kernel
theorem dX6_isOf_76 : decode cX6_isOf 76 = .ok (.bipush 10, 2) := by decide +kernel
theorem dX6_isOf_78 : decode cX6_isOf 78 = .ok (.if_icmp .lt 7, 3) := by decide +kernel
theorem dX6_isOf_81 : decode cX6_isOf 81 = .ok (.iconst 1, 1) := by decide +kernel
theorem dX6_isOf_82 : decode cX6_isOf 82 = .ok (.goto 4, 3) := by decide +kernel
theorem dX6_isOf_85 : decode cX6_isOf 85 = .ok (.iconst 0, 1) := by decide +kernel
theorem dX6_isOf_86 : decode cX6_isOf 86 = .ok (.ireturn, 1) := by decide +kernel
theorem dX6_isOf_87 : decode cX6_isOf 87 = .ok (.aload_n 0, 1) := by decide +kernel
theorem dX6_isOf_88 : decode cX6_isOf 88 = .ok (.getfield 9, 3) := by decide +kernel
theorem dX6_isOf_91 : decode cX6_isOf 91 = .ok (.bipush 11, 2) := by decide +kernel
theorem dX6_isOf_93 : decode cX6_isOf 93 = .ok (.if_icmp .lt 7, 3) := by decide +kernel
theorem dX6_isOf_96 : decode cX6_isOf 96 = .ok (.iconst 1, 1) := by decide +kernel
theorem dX6_isOf_97 : decode cX6_isOf 97 = .ok (.goto 4, 3) := by decide +kernel
theorem dX6_isOf_100 : decode cX6_isOf 100 = .ok (.iconst 0, 1) := by decide +kernel
theorem dX6_isOf_101 : decode cX6_isOf 101 = .ok (.ireturn, 1) := by decide +kernel
theorem dX6_isOf_102 : decode cX6_isOf 102 = .ok (.aload_n 0, 1) := by decide +kernel
theorem dX6_isOf_103 : decode cX6_isOf 103 = .ok (.getfield 9, 3) := by decide +kernel
theorem dX6_isOf_106 : decode cX6_isOf 106 = .ok (.iload_n 1, 1) := by decide +kernel
theorem dX6_isOf_107 : decode cX6_isOf 107 = .ok (.if_icmp .ne 7, 3) := by decide +kernel
theorem dX6_isOf_110 : decode cX6_isOf 110 = .ok (.iconst 1, 1) := by decide +kernel
theorem dX6_isOf_111 : decode cX6_isOf 111 = .ok (.goto 4, 3) := by decide +kernel
theorem dX6_isOf_114 : decode cX6_isOf 114 = .ok (.iconst 0, 1) := by decide +kernel
theorem dX6_isOf_115 : decode cX6_isOf 115 = .ok (.ireturn, 1) := by decide +kernel
theorem dX6_holds_0 : decode cX6_holds 0 = .ok (.iload_n 1, 1) := by decide +kernel
theorem dX6_holds_1 : decode cX6_holds 1 = .ok (.ifCond .lt 15, 3) := by decide +kernel
theorem dX6_holds_4 : decode cX6_holds 4 = .ok (.iload_n 1, 1) := by decide +kernel
theorem dX6_holds_5 : decode cX6_holds 5 = .ok (.aload_n 0, 1) := by decide +kernel
theorem dX6_holds_6 : decode cX6_holds 6 = .ok (.getfield 15, 3) := by decide +kernel
theorem dX6_holds_9 : decode cX6_holds 9 = .ok (.if_icmp .ge 7, 3) := by decide +kernel
theorem dX6_holds_12 : decode cX6_holds 12 = .ok (.iconst 1, 1) := by decide +kernel
theorem dX6_holds_13 : decode cX6_holds 13 = .ok (.goto 4, 3) := by decide +kernel
theorem dX6_holds_16 : decode cX6_holds 16 = .ok (.iconst 0, 1) := by decide +kernel
theorem dX6_holds_17 : decode cX6_holds 17 = .ok (.ireturn, 1) := by decide +kernel
set_option maxRecDepth 20000 in
theorem ggX7_init_X6_init : GoodIn wsX7_init wsX6_init := goodIn_r _ [6, 7, 8, 9, 10, 11, 15, 16, 17, 18, 19, 20, 21, 22, 23, 24, 25, 26, 12, 13, 14] rfl (by decide +kernel)
set_option maxRecDepth 20000 in
theorem gX7_init_X6_init : GoodIn wsX7_init (wsX6_init) := ggX7_init_X6_init
theorem dX7_init_0 : decode cX7_init 0 = .ok (.aload_n 0, 1) := by decide +kernel
theorem dX7_init_1 : decode cX7_init 1 = .ok (.iload_n 1, 1) := by decide +kernel
theorem dX7_init_2 : decode cX7_init 2 = .ok (.iload_n 2, 1) := by decide +kernel
theorem dX7_init_3 : decode cX7_init 3 = .ok (.invokespecial 1, 3) := by decide +kernel
theorem dX7_init_6 : decode cX7_init 6 = .ok (.aload_n 0, 1) := by decide +kernel
theorem dX7_init_7 : decode cX7_init 7 = .ok (.iload_n 2, 1) := by decide +kernel
theorem dX7_init_8 : decode cX7_init 8 = .ok (.anewarray 2, 3) := by decide +kernel
theorem dX7_init_11 : decode cX7_init 11 = .ok (.putfield 7, 3) := by decide +kernel
theorem dX7_init_14 : decode cX7_init 14 = .ok (.return_, 1) := by decide +kernel
theorem dX8_init_0 : decode cX8_init 0 = .ok (.aload_n 0, 1) := by decide +kernel
theorem dX8_init_1 : decode cX8_init 1 = .ok (.invokespecial 1, 3) := by decide +kernel
theorem dX8_init_4 : decode cX8_init 4 = .ok (.aload_n 0, 1) := by decide +kernel
theorem dX8_init_5 : decode cX8_init 5 = .ok (.bipush 16, 2) := by decide +kernel
theorem dX8_init_7 : decode cX8_init 7 = .ok (.anewarray 9, 3) := by decide +kernel
theorem dX8_init_10 : decode cX8_init 10 = .ok (.putfield 11, 3) := by decide +kernel
theorem dX8_init_13 : decode cX8_init 13 = .ok (.aload_n 0, 1) := by decide +kernel
theorem dX8_init_14 : decode cX8_init 14 = .ok (.bipush 9, 2) := by decide +kernel
theorem dX8_init_16 : decode cX8_init 16 = .ok (.newarray .int, 2) := by decide +kernel
theorem dX8_init_18 : decode cX8_init 18 = .ok (.putfield 15, 3) := by decide +kernel
theorem dX8_init_21 : decode cX8_init 21 = .ok (.aload_n 0, 1) := by decide +kernel
theorem dX8_init_22 : decode cX8_init 22 = .ok (.iconst 0, 1) := by decide +kernel
theorem dX8_init_23 : decode cX8_init 23 = .ok (.putfield 19, 3) := by decide +kernel
theorem dX8_init_26 : decode cX8_init 26 = .ok (.aload_n 0, 1) := by decide +kernel
theorem dX8_init_27 : decode cX8_init 27 = .ok (.iconst 0, 1) := by decide +kernel
theorem dX8_init_28 : decode cX8_init 28 = .ok (.putfield 23, 3) := by decide +kernel
theorem dX8_init_31 : decode cX8_init 31 = .ok (.return_, 1) := by decide +kernel
set_option maxRecDepth 20000 in
theorem ggX8_make_X8_makeCause : GoodIn wsX8_make wsX8_makeCause := goodIn_r _ [5, 6, 7, 4, 8] rfl (by decide +kernel)
set_option maxRecDepth 20000 in
theorem gX8_make_X8_makeCause : GoodIn wsX8_make (va_wsS RX8 26 yX8_makeCause wsX8_makeCause) := goodIn_app (goodIn_of _ (by decide +kernel)) ggX8_make_X8_makeCause
set_option maxRecDepth 20000 in
theorem ggX8_make_X8_stops : GoodIn wsX8_make wsX8_stops := goodIn_r _ [12, 13, 14, 72, 73, 74, 75] rfl (by decide +kernel)
set_option maxRecDepth 20000 in
theorem gX8_make_X8_stops : GoodIn wsX8_make (wsV RX8 30 RX8 yX8_stops wsX8_stops) := goodIn_app (goodIn_of _ (by decide +kernel)) ggX8_make_X8_stops
set_option maxRecDepth 20000 in
theorem ggX8_make_X8_newThing : GoodIn wsX8_make wsX8_newThing := goodIn_r _ [17, 18, 19, 20, 21, 22, 23, 24, 25, 26, 27, 28, 29, 30, 31, 32, 33, 34, 35, 36, 37, 38, 39, 40, 41, 42, 43, 44, 45, 46, 47, 48, 49, 50, 51, 52, 53, 54, 55, 56, 57, 58, 59, 60, 61, 4, 62, 63, 64, 65, 66, 67, 68, 69, 70, 71, 76, 77, 78, 79, 80, 81, 82, 83, 84, 85, 86, 87, 88, 89, 90] rfl (by decide +kernel)
set_option maxRecDepth 20000 in
theorem gX8_make_X8_newThing : GoodIn wsX8_make (va_wsS RX8 34 yX8_newThing wsX8_newThing) := goodIn_app (goodIn_of _ (by decide +kernel)) ggX8_make_X8_newThing
theorem dX8_make_0 : decode cX8_make 0 = .ok (.aload_n 0, 1) := by decide +kernel
theorem dX8_make_1 : decode cX8_make 1 = .ok (.iload_n 1, 1) := by decide +kernel
theorem dX8_make_2 : decode cX8_make 2 = .ok (.iload_n 2, 1) := by decide +kernel
theorem dX8_make_3 : decode cX8_make 3 = .ok (.iload_n 3, 1) := by decide +kernel
theorem dX8_make_4 : decode cX8_make 4 = .ok (.iload 4, 2) := by decide +kernel
theorem dX8_make_6 : decode cX8_make 6 = .ok (.invokestatic 26, 3) := by decide +kernel
theorem dX8_make_9 : decode cX8_make 9 = .ok (.invokevirtual 30, 3) := by decide +kernel
theorem dX8_make_12 : decode cX8_make 12 = .ok (.ifCond .eq 5, 3) := by decide +kernel
theorem dX8_make_15 : decode cX8_make 15 = .ok (.iconst 0, 1) := by decide +kernel
theorem dX8_make_16 : decode cX8_make 16 = .ok (.ireturn, 1) := by decide +kernel
theorem dX8_make_17 : decode cX8_make 17 = .ok (.aload_n 0, 1) := by decide +kernel
theorem dX8_make_18 : decode cX8_make 18 = .ok (.getfield 11, 3) := by decide +kernel
theorem dX8_make_21 : decode cX8_make 21 = .ok (.iload_n 2, 1) := by decide +kernel
theorem dX8_make_22 : decode cX8_make 22 = .ok (.iload_n 1, 1) := by decide +kernel
theorem dX8_make_23 : decode cX8_make 23 = .ok (.iload_n 3, 1) := by decide +kernel
theorem dX8_make_24 : decode cX8_make 24 = .ok (.iload 4, 2) := by decide +kernel
theorem dX8_make_26 : decode cX8_make 26 = .ok (.invokestatic 34, 3) := by decide +kernel
theorem dX8_make_29 : decode cX8_make 29 = .ok (.aastore, 1) := by decide +kernel
theorem dX8_make_30 : decode cX8_make 30 = .ok (.iconst 1, 1) := by decide +kernel
theorem dX8_make_31 : decode cX8_make 31 = .ok (.ireturn, 1) := by decide +kernel
set_option maxRecDepth 20000 in
theorem ggX8_move_X8_isCell : GoodIn wsX8_move wsX8_isCell := goodIn_r _ [5] rfl (by decide +kernel)
set_option maxRecDepth 20000 in
theorem gX8_move_X8_isCell : GoodIn wsX8_move (va_wsS RX8 38 yX8_isCell wsX8_isCell) := goodIn_app (goodIn_of _ (by decide +kernel)) ggX8_move_X8_isCell
set_option maxRecDepth 20000 in
theorem ggX8_move_X8_stops : GoodIn wsX8_move wsX8_stops := goodIn_r _ [9, 10, 11, 12, 13, 14, 15] rfl (by decide +kernel)
set_option maxRecDepth 20000 in
theorem gX8_move_X8_stops : GoodIn wsX8_move (wsV RX8 30 RX8 yX8_stops wsX8_stops) := goodIn_app (goodIn_of _ (by decide +kernel)) ggX8_move_X8_stops
theorem dX8_move_0 : decode cX8_move 0 = .ok (.iload_n 1, 1) := by decide +kernel
theorem dX8_move_1 : decode cX8_move 1 = .ok (.iconst (-1), 1) := by decide +kernel
theorem dX8_move_2 : decode cX8_move 2 = .ok (.if_icmp .eq 10, 3) := by decide +kernel
theorem dX8_move_5 : decode cX8_move 5 = .ok (.iload_n 1, 1) := by decide +kernel
theorem dX8_move_6 : decode cX8_move 6 = .ok (.invokestatic 38, 3) := by decide +kernel
theorem dX8_move_9 : decode cX8_move 9 = .ok (.ifCond .eq 14, 3) := by decide +kernel
theorem dX8_move_12 : decode cX8_move 12 = .ok (.iload_n 2, 1) := by decide +kernel
theorem dX8_move_13 : decode cX8_move 13 = .ok (.invokestatic 38, 3) := by decide +kernel
theorem dX8_move_16 : decode cX8_move 16 = .ok (.ifCond .eq 7, 3) := by decide +kernel
theorem dX8_move_19 : decode cX8_move 19 = .ok (.iconst 1, 1) := by decide +kernel
theorem dX8_move_20 : decode cX8_move 20 = .ok (.goto 4, 3) := by decide +kernel
theorem dX8_move_23 : decode cX8_move 23 = .ok (.iconst 0, 1) := by decide +kernel
theorem dX8_move_24 : decode cX8_move 24 = .ok (.istore_n 3, 1) := by decide +kernel
theorem dX8_move_25 : decode cX8_move 25 = .ok (.aload_n 0, 1) := by decide +kernel
theorem dX8_move_26 : decode cX8_move 26 = .ok (.iload_n 3, 1) := by decide +kernel
theorem dX8_move_27 : decode cX8_move 27 = .ok (.ifCond .eq 7, 3) := by decide +kernel
theorem dX8_move_30 : decode cX8_move 30 = .ok (.iconst 0, 1) := by decide +kernel
theorem dX8_move_31 : decode cX8_move 31 = .ok (.goto 5, 3) := by decide +kernel
theorem dX8_move_34 : decode cX8_move 34 = .ok (.bipush 8, 2) := by decide +kernel
theorem dX8_move_36 : decode cX8_move 36 = .ok (.invokevirtual 30, 3) := by decide +kernel
theorem dX8_move_39 : decode cX8_move 39 = .ok (.ifCond .eq 5, 3) := by decide +kernel
theorem dX8_move_42 : decode cX8_move 42 = .ok (.iconst 0, 1) := by decide +kernel
theorem dX8_move_43 : decode cX8_move 43 = .ok (.ireturn, 1) := by decide +kernel
theorem dX8_move_44 : decode cX8_move 44 = .ok (.aload_n 0, 1) := by decide +kernel
theorem dX8_move_45 : decode cX8_move 45 = .ok (.getfield 11, 3) := by decide +kernel
theorem dX8_move_48 : decode cX8_move 48 = .ok (.iload_n 2, 1) := by decide +kernel
theorem dX8_move_49 : decode cX8_move 49 = .ok (.iload_n 1, 1) := by decide +kernel
theorem dX8_move_50 : decode cX8_move 50 = .ok (.iconst (-1), 1) := by decide +kernel
theorem dX8_move_51 : decode cX8_move 51 = .ok (.if_icmp .ne 7, 3) := by decide +kernel
theorem dX8_move_54 : decode cX8_move 54 = .ok (.aconst_null, 1) := by decide +kernel
theorem dX8_move_55 : decode cX8_move 55 = .ok (.goto 9, 3) := by decide +kernel
theorem dX8_move_58 : decode cX8_move 58 = .ok (.aload_n 0, 1) := by decide +kernel
theorem dX8_move_59 : decode cX8_move 59 = .ok (.getfield 11, 3) := by decide +kernel
theorem dX8_move_62 : decode cX8_move 62 = .ok (.iload_n 1, 1) := by decide +kernel
theorem dX8_move_63 : decode cX8_move 63 = .ok (.aaload, 1) := by decide +kernel
theorem dX8_move_64 : decode cX8_move 64 = .ok (.aastore, 1) := by decide +kernel
theorem dX8_move_65 : decode cX8_move 65 = .ok (.iconst 1, 1) := by decide +kernel
theorem dX8_move_66 : decode cX8_move 66 = .ok (.ireturn, 1) := by decide +kernel
set_option maxRecDepth 20000 in
theorem ggX8_twin_X8_isCell : GoodIn wsX8_twin wsX8_isCell := goodIn_r _ [16] rfl (by decide +kernel)
set_option maxRecDepth 20000 in
theorem gX8_twin_X8_isCell : GoodIn wsX8_twin (va_wsS RX8 38 yX8_isCell wsX8_isCell) := goodIn_app (goodIn_of _ (by decide +kernel)) ggX8_twin_X8_isCell
set_option maxRecDepth 20000 in
theorem ggX8_twin_X8_castCause : GoodIn wsX8_twin wsX8_castCause := goodIn_r _ [19, 20, 21, 15, 22, 23, 24, 25, 26, 27, 28, 29, 30, 31, 32, 33, 56, 57, 58, 59, 60, 61, 62, 63, 64, 65, 66, 67, 68, 69, 70] rfl (by decide +kernel)
set_option maxRecDepth 20000 in
theorem gX8_twin_X8_castCause : GoodIn wsX8_twin (va_wsS RX8 41 yX8_castCause wsX8_castCause) := goodIn_app (goodIn_of _ (by decide +kernel)) ggX8_twin_X8_castCause
set_option maxRecDepth 20000 in
theorem ggX8_twin_X8_stops : GoodIn wsX8_twin wsX8_stops := goodIn_r _ [37, 38, 39, 52, 53, 54, 55] rfl (by decide +kernel)
set_option maxRecDepth 20000 in
theorem gX8_twin_X8_stops : GoodIn wsX8_twin (wsV RX8 30 RX8 yX8_stops wsX8_stops) := goodIn_app (goodIn_of _ (by decide +kernel)) ggX8_twin_X8_stops
set_option maxRecDepth 20000 in
theorem ggX8_twin_X1_init : GoodIn wsX8_twin wsX1_init := goodIn_r _ [42, 43, 44, 45, 46, 27, 47, 48, 49, 50, 29, 51, 56, 57, 58, 59, 60, 61, 62, 63, 64, 65, 66, 67, 68, 69, 70] rfl (by decide +kernel)
set_option maxRecDepth 20000 in
theorem gX8_twin_X1_init : GoodIn wsX8_twin (wsX1_init) := ggX8_twin_X1_init
theorem dX8_twin_0 : decode cX8_twin 0 = .ok (.iload_n 1, 1) := by decide +kernel
theorem dX8_twin_1 : decode cX8_twin 1 = .ok (.invokestatic 38, 3) := by decide +kernel
theorem dX8_twin_4 : decode cX8_twin 4 = .ok (.ifCond .eq 14, 3) := by decide +kernel
theorem dX8_twin_7 : decode cX8_twin 7 = .ok (.iload_n 2, 1) := by decide +kernel
theorem dX8_twin_8 : decode cX8_twin 8 = .ok (.invokestatic 38, 3) := by decide +kernel
theorem dX8_twin_11 : decode cX8_twin 11 = .ok (.ifCond .eq 7, 3) := by decide +kernel
theorem dX8_twin_14 : decode cX8_twin 14 = .ok (.iconst 1, 1) := by decide +kernel
theorem dX8_twin_15 : decode cX8_twin 15 = .ok (.goto 4, 3) := by decide +kernel
theorem dX8_twin_18 : decode cX8_twin 18 = .ok (.iconst 0, 1) := by decide +kernel
theorem dX8_twin_19 : decode cX8_twin 19 = .ok (.istore_n 3, 1) := by decide +kernel
theorem dX8_twin_20 : decode cX8_twin 20 = .ok (.aload_n 0, 1) := by decide +kernel
theorem dX8_twin_21 : decode cX8_twin 21 = .ok (.iload_n 3, 1) := by decide +kernel
theorem dX8_twin_22 : decode cX8_twin 22 = .ok (.ifCond .eq 16, 3) := by decide +kernel
theorem dX8_twin_25 : decode cX8_twin 25 = .ok (.iconst 0, 1) := by decide +kernel
theorem dX8_twin_26 : decode cX8_twin 26 = .ok (.aload_n 0, 1) := by decide +kernel
theorem dX8_twin_27 : decode cX8_twin 27 = .ok (.getfield 11, 3) := by decide +kernel
theorem dX8_twin_30 : decode cX8_twin 30 = .ok (.iload_n 1, 1) := by decide +kernel
theorem dX8_twin_31 : decode cX8_twin 31 = .ok (.aaload, 1) := by decide +kernel
theorem dX8_twin_32 : decode cX8_twin 32 = .ok (.invokestatic 41, 3) := by decide +kernel
theorem dX8_twin_35 : decode cX8_twin 35 = .ok (.goto 5, 3) := by decide +kernel
theorem dX8_twin_38 : decode cX8_twin 38 = .ok (.bipush 8, 2) := by decide +kernel
theorem dX8_twin_40 : decode cX8_twin 40 = .ok (.invokevirtual 30, 3) := by decide +kernel
theorem dX8_twin_43 : decode cX8_twin 43 = .ok (.ifCond .eq 5, 3) := by decide +kernel
theorem dX8_twin_46 : decode cX8_twin 46 = .ok (.iconst 0, 1) := by decide +kernel
theorem dX8_twin_47 : decode cX8_twin 47 = .ok (.ireturn, 1) := by decide +kernel
theorem dX8_twin_48 : decode cX8_twin 48 = .ok (.aload_n 0, 1) := by decide +kernel
theorem dX8_twin_49 : decode cX8_twin 49 = .ok (.getfield 11, 3) := by decide +kernel
theorem dX8_twin_52 : decode cX8_twin 52 = .ok (.iload_n 1, 1) := by decide +kernel
theorem dX8_twin_53 : decode cX8_twin 53 = .ok (.aaload, 1) := by decide +kernel
theorem dX8_twin_54 : decode cX8_twin 54 = .ok (.astore 5, 2) := by decide +kernel
theorem dX8_twin_56 : decode cX8_twin 56 = .ok (.aload 5, 2) := by decide +kernel
theorem dX8_twin_58 : decode cX8_twin 58 = .ok (.instanceof 45, 3) := by decide +kernel
theorem dX8_twin_61 : decode cX8_twin 61 = .ok (.ifCond .eq 53, 3) := by decide +kernel
theorem dX8_twin_64 : decode cX8_twin 64 = .ok (.aload 5, 2) := by decide +kernel
theorem dX8_twin_66 : decode cX8_twin 66 = .ok (.checkcast 45, 3) := by decide +kernel
theorem dX8_twin_69 : decode cX8_twin 69 = .ok (.astore 4, 2) := by decide +kernel
theorem dX8_twin_71 : decode cX8_twin 71 = .ok (.new 45, 3) := by decide +kernel
theorem dX8_twin_74 : decode cX8_twin 74 = .ok (.dup, 1) := by decide +kernel
theorem dX8_twin_75 : decode cX8_twin 75 = .ok (.iconst 0, 1) := by decide +kernel
theorem dX8_twin_76 : decode cX8_twin 76 = .ok (.aload 4, 2) := by decide +kernel
theorem dX8_twin_78 : decode cX8_twin 78 = .ok (.getfield 47, 3) := by decide +kernel
theorem dX8_twin_81 : decode cX8_twin 81 = .ok (.invokespecial 50, 3) := by decide +kernel
theorem dX8_twin_84 : decode cX8_twin 84 = .ok (.astore 5, 2) := by decide +kernel
theorem dX8_twin_86 : decode cX8_twin 86 = .ok (.aload 4, 2) := by decide +kernel
theorem dX8_twin_88 : decode cX8_twin 88 = .ok (.getfield 53, 3) := by decide +kernel
theorem dX8_twin_91 : decode cX8_twin 91 = .ok (.iconst 0, 1) := by decide +kernel
theorem dX8_twin_92 : decode cX8_twin 92 = .ok (.aload 5, 2) := by decide +kernel
theorem dX8_twin_94 : decode cX8_twin 94 = .ok (.getfield 53, 3) := by decide +kernel
theorem dX8_twin_97 : decode cX8_twin 97 = .ok (.iconst 0, 1) := by decide +kernel
theorem dX8_twin_98 : decode cX8_twin 98 = .ok (.aload 4, 2) := by decide +kernel
theorem dX8_twin_100 : decode cX8_twin 100 = .ok (.getfield 47, 3) := by decide +kernel
theorem dX8_twin_103 : decode cX8_twin 103 = .ok (.invokestatic 57, 3) := by decide +kernel
theorem dX8_twin_106 : decode cX8_twin 106 = .ok (.aload_n 0, 1) := by decide +kernel
theorem dX8_twin_107 : decode cX8_twin 107 = .ok (.getfield 11, 3) := by decide +kernel
theorem dX8_twin_110 : decode cX8_twin 110 = .ok (.iload_n 2, 1) := by decide +kernel
theorem dX8_twin_111 : decode cX8_twin 111 = .ok (.aload 5, 2) := by decide +kernel
theorem dX8_twin_113 : decode cX8_twin 113 = .ok (.aastore, 1) := by decide +kernel
theorem dX8_twin_114 : decode cX8_twin 114 = .ok (.iconst 1, 1) := by decide +kernel
theorem dX8_twin_115 : decode cX8_twin 115 = .ok (.ireturn, 1) := by decide +kernel
set_option maxRecDepth 20000 in
theorem ggX8_is_X8_isCell : GoodIn wsX8_is wsX8_isCell := goodIn_r _ [5] rfl (by decide +kernel)
set_option maxRecDepth 20000 in
theorem gX8_is_X8_isCell : GoodIn wsX8_is (va_wsS RX8 38 yX8_isCell wsX8_isCell) := goodIn_app (goodIn_of _ (by decide +kernel)) ggX8_is_X8_isCell
set_option maxRecDepth 20000 in
theorem ggX8_is_X6_isOf : GoodIn wsX8_is wsX6_isOf := goodIn_r _ [11, 12, 21, 22, 23, 24, 25, 26, 27, 28, 29, 30, 31, 32, 33, 34, 35] rfl (by decide +kernel)
set_option maxRecDepth 20000 in
theorem gX8_is_X6_isOf_u63X1 : GoodIn wsX8_is (va_wsU RX8 63 RX1 "ThrowModels$Thing" ⟨"ThrowModels$Thing", "isOf", "(I)Z"⟩ yX6_isOf wsX6_isOf) := goodIn_app (goodIn_of _ (by decide +kernel)) ggX8_is_X6_isOf
set_option maxRecDepth 20000 in
theorem gX8_is_X6_isOf_u63X2 : GoodIn wsX8_is (va_wsU RX8 63 RX2 "ThrowModels$Thing" ⟨"ThrowModels$Thing", "isOf", "(I)Z"⟩ yX6_isOf wsX6_isOf) := goodIn_app (goodIn_of _ (by decide +kernel)) ggX8_is_X6_isOf
set_option maxRecDepth 20000 in
theorem gX8_is_X6_isOf_u63X4 : GoodIn wsX8_is (va_wsU RX8 63 RX4 "ThrowModels$Thing" ⟨"ThrowModels$Thing", "isOf", "(I)Z"⟩ yX6_isOf wsX6_isOf) := goodIn_app (goodIn_of _ (by decide +kernel)) ggX8_is_X6_isOf
set_option maxRecDepth 20000 in
theorem gX8_is_X6_isOf_u63X5 : GoodIn wsX8_is (va_wsU RX8 63 RX5 "ThrowModels$Thing" ⟨"ThrowModels$Thing", "isOf", "(I)Z"⟩ yX6_isOf wsX6_isOf) := goodIn_app (goodIn_of _ (by decide +kernel)) ggX8_is_X6_isOf
set_option maxRecDepth 20000 in
theorem gX8_is_X6_isOf_u63X7 : GoodIn wsX8_is (va_wsU RX8 63 RX7 "ThrowModels$Thing" ⟨"ThrowModels$Thing", "isOf", "(I)Z"⟩ yX6_isOf wsX6_isOf) := goodIn_app (goodIn_of _ (by decide +kernel)) ggX8_is_X6_isOf
theorem dX8_is_0 : decode cX8_is 0 = .ok (.iload_n 1, 1) := by decide +kernel
theorem dX8_is_1 : decode cX8_is 1 = .ok (.invokestatic 38, 3) := by decide +kernel
theorem dX8_is_4 : decode cX8_is 4 = .ok (.ifCond .eq 13, 3) := by decide +kernel
theorem dX8_is_7 : decode cX8_is 7 = .ok (.iload_n 2, 1) := by decide +kernel
theorem dX8_is_8 : decode cX8_is 8 = .ok (.ifCond .lt 9, 3) := by decide +kernel
theorem dX8_is_11 : decode cX8_is 11 = .ok (.iload_n 2, 1) := by decide +kernel
theorem dX8_is_12 : decode cX8_is 12 = .ok (.bipush 15, 2) := by decide +kernel
theorem dX8_is_14 : decode cX8_is 14 = .ok (.if_icmp .le 5, 3) := by decide +kernel
theorem dX8_is_17 : decode cX8_is 17 = .ok (.iconst (-1), 1) := by decide +kernel
theorem dX8_is_18 : decode cX8_is 18 = .ok (.ireturn, 1) := by decide +kernel
theorem dX8_is_19 : decode cX8_is 19 = .ok (.aload_n 0, 1) := by decide +kernel
theorem dX8_is_20 : decode cX8_is 20 = .ok (.getfield 11, 3) := by decide +kernel
theorem dX8_is_23 : decode cX8_is 23 = .ok (.iload_n 1, 1) := by decide +kernel
theorem dX8_is_24 : decode cX8_is 24 = .ok (.aaload, 1) := by decide +kernel
theorem dX8_is_25 : decode cX8_is 25 = .ok (.astore_n 3, 1) := by decide +kernel
theorem dX8_is_26 : decode cX8_is 26 = .ok (.aload_n 3, 1) := by decide +kernel
theorem dX8_is_27 : decode cX8_is 27 = .ok (.ifnull 15, 3) := by decide +kernel
theorem dX8_is_30 : decode cX8_is 30 = .ok (.aload_n 3, 1) := by decide +kernel
theorem dX8_is_31 : decode cX8_is 31 = .ok (.iload_n 2, 1) := by decide +kernel
theorem dX8_is_32 : decode cX8_is 32 = .ok (.invokevirtual 63, 3) := by decide +kernel
theorem dX8_is_35 : decode cX8_is 35 = .ok (.ifCond .eq 7, 3) := by decide +kernel
theorem dX8_is_38 : decode cX8_is 38 = .ok (.iconst 1, 1) := by decide +kernel
theorem dX8_is_39 : decode cX8_is 39 = .ok (.goto 4, 3) := by decide +kernel
theorem dX8_is_42 : decode cX8_is 42 = .ok (.iconst 0, 1) := by decide +kernel
theorem dX8_is_43 : decode cX8_is 43 = .ok (.ireturn, 1) := by decide +kernel
set_option maxRecDepth 20000 in
theorem ggX8_same_X8_isCell : GoodIn wsX8_same wsX8_isCell := goodIn_r _ [5] rfl (by decide +kernel)
set_option maxRecDepth 20000 in
theorem gX8_same_X8_isCell : GoodIn wsX8_same (va_wsS RX8 38 yX8_isCell wsX8_isCell) := goodIn_app (goodIn_of _ (by decide +kernel)) ggX8_same_X8_isCell
theorem dX8_same_0 : decode cX8_same 0 = .ok (.iload_n 1, 1) := by decide +kernel
theorem dX8_same_1 : decode cX8_same 1 = .ok (.invokestatic 38, 3) := by decide +kernel
theorem dX8_same_4 : decode cX8_same 4 = .ok (.ifCond .eq 10, 3) := by decide +kernel
theorem dX8_same_7 : decode cX8_same 7 = .ok (.iload_n 2, 1) := by decide +kernel
theorem dX8_same_8 : decode cX8_same 8 = .ok (.invokestatic 38, 3) := by decide +kernel
theorem dX8_same_11 : decode cX8_same 11 = .ok (.ifCond .ne 5, 3) := by decide +kernel
theorem dX8_same_14 : decode cX8_same 14 = .ok (.iconst (-1), 1) := by decide +kernel
theorem dX8_same_15 : decode cX8_same 15 = .ok (.ireturn, 1) := by decide +kernel
theorem dX8_same_16 : decode cX8_same 16 = .ok (.aload_n 0, 1) := by decide +kernel
theorem dX8_same_17 : decode cX8_same 17 = .ok (.getfield 11, 3) := by decide +kernel
theorem dX8_same_20 : decode cX8_same 20 = .ok (.iload_n 1, 1) := by decide +kernel
theorem dX8_same_21 : decode cX8_same 21 = .ok (.aaload, 1) := by decide +kernel
theorem dX8_same_22 : decode cX8_same 22 = .ok (.aload_n 0, 1) := by decide +kernel
theorem dX8_same_23 : decode cX8_same 23 = .ok (.getfield 11, 3) := by decide +kernel
theorem dX8_same_26 : decode cX8_same 26 = .ok (.iload_n 2, 1) := by decide +kernel
theorem dX8_same_27 : decode cX8_same 27 = .ok (.aaload, 1) := by decide +kernel
theorem dX8_same_28 : decode cX8_same 28 = .ok (.if_acmp .ne 7, 3) := by decide +kernel
theorem dX8_same_31 : decode cX8_same 31 = .ok (.iconst 1, 1) := by decide +kernel
theorem dX8_same_32 : decode cX8_same 32 = .ok (.goto 4, 3) := by decide +kernel
theorem dX8_same_35 : decode cX8_same 35 = .ok (.iconst 0, 1) := by decide +kernel
theorem dX8_same_36 : decode cX8_same 36 = .ok (.ireturn, 1) := by decide +kernel
set_option maxRecDepth 20000 in
theorem ggX8_length_X8_isArrayType : GoodIn wsX8_length wsX8_isArrayType := goodIn_r _ [6, 7, 8, 5, 9, 10, 11, 12] rfl (by decide +kernel)
set_option maxRecDepth 20000 in
theorem gX8_length_X8_isArrayType : GoodIn wsX8_length (va_wsS RX8 66 yX8_isArrayType wsX8_isArrayType) := goodIn_app (goodIn_of _ (by decide +kernel)) ggX8_length_X8_isArrayType
set_option maxRecDepth 20000 in
theorem ggX8_length_X8_isCell : GoodIn wsX8_length wsX8_isCell := goodIn_r _ [15] rfl (by decide +kernel)
set_option maxRecDepth 20000 in
theorem gX8_length_X8_isCell : GoodIn wsX8_length (va_wsS RX8 38 yX8_isCell wsX8_isCell) := goodIn_app (goodIn_of _ (by decide +kernel)) ggX8_length_X8_isCell
set_option maxRecDepth 20000 in
theorem ggX8_length_X8_castCause : GoodIn wsX8_length wsX8_castCause := goodIn_r _ [18, 19, 20, 5, 21, 22, 23, 24, 25, 26, 27, 28, 29, 30, 31, 32, 43, 44, 45, 46, 47, 48, 49, 50, 51, 52, 53, 54, 55, 56, 57] rfl (by decide +kernel)
set_option maxRecDepth 20000 in
theorem gX8_length_X8_castCause : GoodIn wsX8_length (va_wsS RX8 41 yX8_castCause wsX8_castCause) := goodIn_app (goodIn_of _ (by decide +kernel)) ggX8_length_X8_castCause
set_option maxRecDepth 20000 in
theorem ggX8_length_X8_stops : GoodIn wsX8_length wsX8_stops := goodIn_r _ [36, 37, 38, 39, 40, 41, 42] rfl (by decide +kernel)
set_option maxRecDepth 20000 in
theorem gX8_length_X8_stops : GoodIn wsX8_length (wsV RX8 30 RX8 yX8_stops wsX8_stops) := goodIn_app (goodIn_of _ (by decide +kernel)) ggX8_length_X8_stops
theorem dX8_length_0 : decode cX8_length 0 = .ok (.iload_n 1, 1) := by decide +kernel
theorem dX8_length_1 : decode cX8_length 1 = .ok (.invokestatic 66, 3) := by decide +kernel
theorem dX8_length_4 : decode cX8_length 4 = .ok (.ifCond .eq 14, 3) := by decide +kernel
theorem dX8_length_7 : decode cX8_length 7 = .ok (.iload_n 2, 1) := by decide +kernel
theorem dX8_length_8 : decode cX8_length 8 = .ok (.invokestatic 38, 3) := by decide +kernel
theorem dX8_length_11 : decode cX8_length 11 = .ok (.ifCond .eq 7, 3) := by decide +kernel
theorem dX8_length_14 : decode cX8_length 14 = .ok (.iconst 1, 1) := by decide +kernel
theorem dX8_length_15 : decode cX8_length 15 = .ok (.goto 4, 3) := by decide +kernel
theorem dX8_length_18 : decode cX8_length 18 = .ok (.iconst 0, 1) := by decide +kernel
theorem dX8_length_19 : decode cX8_length 19 = .ok (.istore_n 3, 1) := by decide +kernel
theorem dX8_length_20 : decode cX8_length 20 = .ok (.aload_n 0, 1) := by decide +kernel
theorem dX8_length_21 : decode cX8_length 21 = .ok (.iload_n 3, 1) := by decide +kernel
theorem dX8_length_22 : decode cX8_length 22 = .ok (.ifCond .eq 16, 3) := by decide +kernel
theorem dX8_length_25 : decode cX8_length 25 = .ok (.iload_n 1, 1) := by decide +kernel
theorem dX8_length_26 : decode cX8_length 26 = .ok (.aload_n 0, 1) := by decide +kernel
theorem dX8_length_27 : decode cX8_length 27 = .ok (.getfield 11, 3) := by decide +kernel
theorem dX8_length_30 : decode cX8_length 30 = .ok (.iload_n 2, 1) := by decide +kernel
theorem dX8_length_31 : decode cX8_length 31 = .ok (.aaload, 1) := by decide +kernel
theorem dX8_length_32 : decode cX8_length 32 = .ok (.invokestatic 41, 3) := by decide +kernel
theorem dX8_length_35 : decode cX8_length 35 = .ok (.goto 5, 3) := by decide +kernel
theorem dX8_length_38 : decode cX8_length 38 = .ok (.bipush 8, 2) := by decide +kernel
theorem dX8_length_40 : decode cX8_length 40 = .ok (.invokevirtual 30, 3) := by decide +kernel
theorem dX8_length_43 : decode cX8_length 43 = .ok (.ifCond .eq 5, 3) := by decide +kernel
theorem dX8_length_46 : decode cX8_length 46 = .ok (.iconst 0, 1) := by decide +kernel
theorem dX8_length_47 : decode cX8_length 47 = .ok (.ireturn, 1) := by decide +kernel
theorem dX8_length_48 : decode cX8_length 48 = .ok (.aload_n 0, 1) := by decide +kernel
theorem dX8_length_49 : decode cX8_length 49 = .ok (.getfield 11, 3) := by decide +kernel
theorem dX8_length_52 : decode cX8_length 52 = .ok (.iload_n 2, 1) := by decide +kernel
theorem dX8_length_53 : decode cX8_length 53 = .ok (.aaload, 1) := by decide +kernel
theorem dX8_length_54 : decode cX8_length 54 = .ok (.astore 4, 2) := by decide +kernel
theorem dX8_length_56 : decode cX8_length 56 = .ok (.aload 4, 2) := by decide +kernel
theorem dX8_length_58 : decode cX8_length 58 = .ok (.ifnonnull 7, 3) := by decide +kernel
theorem dX8_length_61 : decode cX8_length 61 = .ok (.iconst 0, 1) := by decide +kernel
theorem dX8_length_62 : decode cX8_length 62 = .ok (.goto 8, 3) := by decide +kernel
theorem dX8_length_65 : decode cX8_length 65 = .ok (.aload 4, 2) := by decide +kernel
theorem dX8_length_67 : decode cX8_length 67 = .ok (.getfield 69, 3) := by decide +kernel
theorem dX8_length_70 : decode cX8_length 70 = .ok (.ireturn, 1) := by decide +kernel
set_option maxRecDepth 20000 in
theorem ggX8_load_X8_isNumberType : GoodIn wsX8_load wsX8_isNumberType := goodIn_r _ [5] rfl (by decide +kernel)
set_option maxRecDepth 20000 in
theorem gX8_load_X8_isNumberType : GoodIn wsX8_load (va_wsS RX8 70 yX8_isNumberType wsX8_isNumberType) := goodIn_app (goodIn_of _ (by decide +kernel)) ggX8_load_X8_isNumberType
set_option maxRecDepth 20000 in
theorem ggX8_load_X8_isCell : GoodIn wsX8_load wsX8_isCell := goodIn_r _ [8] rfl (by decide +kernel)
set_option maxRecDepth 20000 in
theorem gX8_load_X8_isCell : GoodIn wsX8_load (va_wsS RX8 38 yX8_isCell wsX8_isCell) := goodIn_app (goodIn_of _ (by decide +kernel)) ggX8_load_X8_isCell
set_option maxRecDepth 20000 in
theorem ggX8_load_X8_elementCause : GoodIn wsX8_load wsX8_elementCause := goodIn_r _ [11, 12, 13, 4, 14, 15, 16, 17, 18, 19, 20, 21, 22, 23, 24, 25, 26, 27, 28, 29, 30, 31, 32, 33, 34, 35, 36, 37, 38, 57, 58, 59, 60, 61, 62, 63, 64, 65, 66, 67, 68, 69, 70, 71] rfl (by decide +kernel)
set_option maxRecDepth 20000 in
theorem gX8_load_X8_elementCause : GoodIn wsX8_load (va_wsS RX8 73 yX8_elementCause wsX8_elementCause) := goodIn_app (goodIn_of _ (by decide +kernel)) ggX8_load_X8_elementCause
set_option maxRecDepth 20000 in
theorem ggX8_load_X8_stops : GoodIn wsX8_load wsX8_stops := goodIn_r _ [42, 43, 44, 53, 54, 55, 56] rfl (by decide +kernel)
set_option maxRecDepth 20000 in
theorem gX8_load_X8_stops : GoodIn wsX8_load (wsV RX8 30 RX8 yX8_stops wsX8_stops) := goodIn_app (goodIn_of _ (by decide +kernel)) ggX8_load_X8_stops
set_option maxRecDepth 20000 in
theorem ggX8_load_X8_numberAt : GoodIn wsX8_load wsX8_numberAt := goodIn_r _ [47, 48, 49, 50, 51, 52, 32, 22, 33, 34, 57, 58, 59, 60, 61, 62, 63, 64, 65, 66, 67, 68, 69, 70, 71] rfl (by decide +kernel)
set_option maxRecDepth 20000 in
theorem gX8_load_X8_numberAt : GoodIn wsX8_load (va_wsS RX8 77 yX8_numberAt wsX8_numberAt) := goodIn_app (goodIn_of _ (by decide +kernel)) ggX8_load_X8_numberAt
theorem dX8_load_0 : decode cX8_load 0 = .ok (.iload_n 1, 1) := by decide +kernel
theorem dX8_load_1 : decode cX8_load 1 = .ok (.invokestatic 70, 3) := by decide +kernel
theorem dX8_load_4 : decode cX8_load 4 = .ok (.ifCond .eq 14, 3) := by decide +kernel
theorem dX8_load_7 : decode cX8_load 7 = .ok (.iload_n 2, 1) := by decide +kernel
theorem dX8_load_8 : decode cX8_load 8 = .ok (.invokestatic 38, 3) := by decide +kernel
theorem dX8_load_11 : decode cX8_load 11 = .ok (.ifCond .eq 7, 3) := by decide +kernel
theorem dX8_load_14 : decode cX8_load 14 = .ok (.iconst 1, 1) := by decide +kernel
theorem dX8_load_15 : decode cX8_load 15 = .ok (.goto 4, 3) := by decide +kernel
theorem dX8_load_18 : decode cX8_load 18 = .ok (.iconst 0, 1) := by decide +kernel
theorem dX8_load_19 : decode cX8_load 19 = .ok (.istore 4, 2) := by decide +kernel
theorem dX8_load_21 : decode cX8_load 21 = .ok (.aload_n 0, 1) := by decide +kernel
theorem dX8_load_22 : decode cX8_load 22 = .ok (.iload 4, 2) := by decide +kernel
theorem dX8_load_24 : decode cX8_load 24 = .ok (.ifCond .eq 17, 3) := by decide +kernel
theorem dX8_load_27 : decode cX8_load 27 = .ok (.iload_n 1, 1) := by decide +kernel
theorem dX8_load_28 : decode cX8_load 28 = .ok (.aload_n 0, 1) := by decide +kernel
theorem dX8_load_29 : decode cX8_load 29 = .ok (.getfield 11, 3) := by decide +kernel
theorem dX8_load_32 : decode cX8_load 32 = .ok (.iload_n 2, 1) := by decide +kernel
theorem dX8_load_33 : decode cX8_load 33 = .ok (.aaload, 1) := by decide +kernel
theorem dX8_load_34 : decode cX8_load 34 = .ok (.iload_n 3, 1) := by decide +kernel
theorem dX8_load_35 : decode cX8_load 35 = .ok (.invokestatic 73, 3) := by decide +kernel
theorem dX8_load_38 : decode cX8_load 38 = .ok (.goto 5, 3) := by decide +kernel
theorem dX8_load_41 : decode cX8_load 41 = .ok (.bipush 8, 2) := by decide +kernel
theorem dX8_load_43 : decode cX8_load 43 = .ok (.invokevirtual 30, 3) := by decide +kernel
theorem dX8_load_46 : decode cX8_load 46 = .ok (.ifCond .eq 5, 3) := by decide +kernel
theorem dX8_load_49 : decode cX8_load 49 = .ok (.lconst 0, 1) := by decide +kernel
theorem dX8_load_50 : decode cX8_load 50 = .ok (.lreturn, 1) := by decide +kernel
theorem dX8_load_51 : decode cX8_load 51 = .ok (.aload_n 0, 1) := by decide +kernel
theorem dX8_load_52 : decode cX8_load 52 = .ok (.getfield 11, 3) := by decide +kernel
theorem dX8_load_55 : decode cX8_load 55 = .ok (.iload_n 2, 1) := by decide +kernel
theorem dX8_load_56 : decode cX8_load 56 = .ok (.aaload, 1) := by decide +kernel
theorem dX8_load_57 : decode cX8_load 57 = .ok (.iload_n 3, 1) := by decide +kernel
theorem dX8_load_58 : decode cX8_load 58 = .ok (.invokestatic 77, 3) := by decide +kernel
theorem dX8_load_61 : decode cX8_load 61 = .ok (.lreturn, 1) := by decide +kernel
set_option maxRecDepth 20000 in
theorem ggX8_store_X8_isNumberType : GoodIn wsX8_store wsX8_isNumberType := goodIn_r _ [9] rfl (by decide +kernel)
set_option maxRecDepth 20000 in
theorem gX8_store_X8_isNumberType : GoodIn wsX8_store (va_wsS RX8 70 yX8_isNumberType wsX8_isNumberType) := goodIn_app (goodIn_of _ (by decide +kernel)) ggX8_store_X8_isNumberType
set_option maxRecDepth 20000 in
theorem ggX8_store_X8_isCell : GoodIn wsX8_store wsX8_isCell := goodIn_r _ [12] rfl (by decide +kernel)
set_option maxRecDepth 20000 in
theorem gX8_store_X8_isCell : GoodIn wsX8_store (va_wsS RX8 38 yX8_isCell wsX8_isCell) := goodIn_app (goodIn_of _ (by decide +kernel)) ggX8_store_X8_isCell
set_option maxRecDepth 20000 in
theorem ggX8_store_X8_elementCause : GoodIn wsX8_store wsX8_elementCause := goodIn_r _ [15, 16, 17, 8, 18, 19, 20, 21, 22, 23, 24, 25, 26, 27, 28, 29, 30, 31, 32, 33, 34, 35, 36, 37, 38, 39, 40, 41, 42, 77, 78, 79, 80, 81, 82, 83, 84, 85, 86, 87, 88, 89, 90, 91] rfl (by decide +kernel)
set_option maxRecDepth 20000 in
theorem gX8_store_X8_elementCause : GoodIn wsX8_store (va_wsS RX8 73 yX8_elementCause wsX8_elementCause) := goodIn_app (goodIn_of _ (by decide +kernel)) ggX8_store_X8_elementCause
set_option maxRecDepth 20000 in
theorem ggX8_store_X8_stops : GoodIn wsX8_store wsX8_stops := goodIn_r _ [46, 47, 48, 73, 74, 75, 76] rfl (by decide +kernel)
set_option maxRecDepth 20000 in
theorem gX8_store_X8_stops : GoodIn wsX8_store (wsV RX8 30 RX8 yX8_stops wsX8_stops) := goodIn_app (goodIn_of _ (by decide +kernel)) ggX8_store_X8_stops
set_option maxRecDepth 20000 in
theorem ggX8_store_X6_holds : GoodIn wsX8_store wsX6_holds := goodIn_r _ [37, 38, 77, 78, 79, 80, 81, 82, 83, 84, 85, 86, 87, 88, 89, 90, 91] rfl (by decide +kernel)
set_option maxRecDepth 20000 in
theorem gX8_store_X6_holds_u81X1 : GoodIn wsX8_store (va_wsU RX8 81 RX1 "ThrowModels$Thing" ⟨"ThrowModels$NumberArray", "holds", "(I)Z"⟩ yX6_holds wsX6_holds) := goodIn_app (goodIn_of _ (by decide +kernel)) ggX8_store_X6_holds
set_option maxRecDepth 20000 in
theorem ggX8_store_X8_cutToWidth : GoodIn wsX8_store wsX8_cutToWidth := goodIn_r _ [54, 55, 56, 57, 58, 59, 60, 61, 62, 63, 64, 65, 66, 67, 68, 69, 70, 71, 72] rfl (by decide +kernel)
set_option maxRecDepth 20000 in
theorem gX8_store_X8_cutToWidth : GoodIn wsX8_store (va_wsS RX8 87 yX8_cutToWidth wsX8_cutToWidth) := goodIn_app (goodIn_of _ (by decide +kernel)) ggX8_store_X8_cutToWidth
theorem dX8_store_0 : decode cX8_store 0 = .ok (.iload_n 1, 1) := by decide +kernel
theorem dX8_store_1 : decode cX8_store 1 = .ok (.invokestatic 70, 3) := by decide +kernel
theorem dX8_store_4 : decode cX8_store 4 = .ok (.ifCond .eq 14, 3) := by decide +kernel
theorem dX8_store_7 : decode cX8_store 7 = .ok (.iload_n 2, 1) := by decide +kernel
theorem dX8_store_8 : decode cX8_store 8 = .ok (.invokestatic 38, 3) := by decide +kernel
theorem dX8_store_11 : decode cX8_store 11 = .ok (.ifCond .eq 7, 3) := by decide +kernel
theorem dX8_store_14 : decode cX8_store 14 = .ok (.iconst 1, 1) := by decide +kernel
theorem dX8_store_15 : decode cX8_store 15 = .ok (.goto 4, 3) := by decide +kernel
theorem dX8_store_18 : decode cX8_store 18 = .ok (.iconst 0, 1) := by decide +kernel
theorem dX8_store_19 : decode cX8_store 19 = .ok (.istore 6, 2) := by decide +kernel
theorem dX8_store_21 : decode cX8_store 21 = .ok (.aload_n 0, 1) := by decide +kernel
theorem dX8_store_22 : decode cX8_store 22 = .ok (.iload 6, 2) := by decide +kernel
theorem dX8_store_24 : decode cX8_store 24 = .ok (.ifCond .eq 17, 3) := by decide +kernel
theorem dX8_store_27 : decode cX8_store 27 = .ok (.iload_n 1, 1) := by decide +kernel
theorem dX8_store_28 : decode cX8_store 28 = .ok (.aload_n 0, 1) := by decide +kernel
theorem dX8_store_29 : decode cX8_store 29 = .ok (.getfield 11, 3) := by decide +kernel
theorem dX8_store_32 : decode cX8_store 32 = .ok (.iload_n 2, 1) := by decide +kernel
theorem dX8_store_33 : decode cX8_store 33 = .ok (.aaload, 1) := by decide +kernel
theorem dX8_store_34 : decode cX8_store 34 = .ok (.iload_n 3, 1) := by decide +kernel
theorem dX8_store_35 : decode cX8_store 35 = .ok (.invokestatic 73, 3) := by decide +kernel
theorem dX8_store_38 : decode cX8_store 38 = .ok (.goto 5, 3) := by decide +kernel
theorem dX8_store_41 : decode cX8_store 41 = .ok (.bipush 8, 2) := by decide +kernel
theorem dX8_store_43 : decode cX8_store 43 = .ok (.invokevirtual 30, 3) := by decide +kernel
theorem dX8_store_46 : decode cX8_store 46 = .ok (.ifCond .eq 5, 3) := by decide +kernel
theorem dX8_store_49 : decode cX8_store 49 = .ok (.iconst 0, 1) := by decide +kernel
theorem dX8_store_50 : decode cX8_store 50 = .ok (.ireturn, 1) := by decide +kernel
theorem dX8_store_51 : decode cX8_store 51 = .ok (.aload_n 0, 1) := by decide +kernel
theorem dX8_store_52 : decode cX8_store 52 = .ok (.getfield 11, 3) := by decide +kernel
theorem dX8_store_55 : decode cX8_store 55 = .ok (.iload_n 2, 1) := by decide +kernel
theorem dX8_store_56 : decode cX8_store 56 = .ok (.aaload, 1) := by decide +kernel
theorem dX8_store_57 : decode cX8_store 57 = .ok (.astore 8, 2) := by decide +kernel
theorem dX8_store_59 : decode cX8_store 59 = .ok (.aload 8, 2) := by decide +kernel
theorem dX8_store_61 : decode cX8_store 61 = .ok (.instanceof 45, 3) := by decide +kernel
theorem dX8_store_64 : decode cX8_store 64 = .ok (.ifCond .eq 36, 3) := by decide +kernel
theorem dX8_store_67 : decode cX8_store 67 = .ok (.aload 8, 2) := by decide +kernel
theorem dX8_store_69 : decode cX8_store 69 = .ok (.checkcast 45, 3) := by decide +kernel
theorem dX8_store_72 : decode cX8_store 72 = .ok (.astore 7, 2) := by decide +kernel
theorem dX8_store_74 : decode cX8_store 74 = .ok (.aload 7, 2) := by decide +kernel
theorem dX8_store_76 : decode cX8_store 76 = .ok (.iload_n 3, 1) := by decide +kernel
theorem dX8_store_77 : decode cX8_store 77 = .ok (.invokevirtual 81, 3) := by decide +kernel
theorem dX8_store_80 : decode cX8_store 80 = .ok (.ifCond .eq 20, 3) := by decide +kernel
theorem dX8_store_83 : decode cX8_store 83 = .ok (.aload 7, 2) := by decide +kernel
theorem dX8_store_85 : decode cX8_store 85 = .ok (.getfield 53, 3) := by decide +kernel
theorem dX8_store_88 : decode cX8_store 88 = .ok (.iload_n 3, 1) := by decide +kernel
theorem dX8_store_89 : decode cX8_store 89 = .ok (.aload 7, 2) := by decide +kernel
theorem dX8_store_91 : decode cX8_store 91 = .ok (.getfield 84, 3) := by decide +kernel
theorem dX8_store_94 : decode cX8_store 94 = .ok (.lload 4, 2) := by decide +kernel
theorem dX8_store_96 : decode cX8_store 96 = .ok (.invokestatic 87, 3) := by decide +kernel
theorem dX8_store_99 : decode cX8_store 99 = .ok (.lastore, 1) := by decide +kernel
theorem dX8_store_100 : decode cX8_store 100 = .ok (.iconst 1, 1) := by decide +kernel
theorem dX8_store_101 : decode cX8_store 101 = .ok (.ireturn, 1) := by decide +kernel
set_option maxRecDepth 20000 in
theorem ggX8_take_X8_isThingArrayType : GoodIn wsX8_take wsX8_isThingArrayType := goodIn_r _ [5] rfl (by decide +kernel)
set_option maxRecDepth 20000 in
theorem gX8_take_X8_isThingArrayType : GoodIn wsX8_take (va_wsS RX8 91 yX8_isThingArrayType wsX8_isThingArrayType) := goodIn_app (goodIn_of _ (by decide +kernel)) ggX8_take_X8_isThingArrayType
set_option maxRecDepth 20000 in
theorem ggX8_take_X8_isCell : GoodIn wsX8_take wsX8_isCell := goodIn_r _ [8] rfl (by decide +kernel)
set_option maxRecDepth 20000 in
theorem gX8_take_X8_isCell : GoodIn wsX8_take (va_wsS RX8 38 yX8_isCell wsX8_isCell) := goodIn_app (goodIn_of _ (by decide +kernel)) ggX8_take_X8_isCell
set_option maxRecDepth 20000 in
theorem ggX8_take_X8_elementCause : GoodIn wsX8_take wsX8_elementCause := goodIn_r _ [11, 12, 13, 4, 14, 15, 16, 17, 18, 19, 20, 21, 22, 23, 24, 25, 26, 27, 28, 29, 30, 31, 32, 33, 34, 35, 36, 37, 38, 57, 58, 59, 60, 61, 62, 63, 64, 65, 66, 67, 68, 69, 70, 71] rfl (by decide +kernel)
set_option maxRecDepth 20000 in
theorem gX8_take_X8_elementCause : GoodIn wsX8_take (va_wsS RX8 73 yX8_elementCause wsX8_elementCause) := goodIn_app (goodIn_of _ (by decide +kernel)) ggX8_take_X8_elementCause
set_option maxRecDepth 20000 in
theorem ggX8_take_X8_stops : GoodIn wsX8_take wsX8_stops := goodIn_r _ [42, 43, 44, 53, 54, 55, 56] rfl (by decide +kernel)
set_option maxRecDepth 20000 in
theorem gX8_take_X8_stops : GoodIn wsX8_take (wsV RX8 30 RX8 yX8_stops wsX8_stops) := goodIn_app (goodIn_of _ (by decide +kernel)) ggX8_take_X8_stops
set_option maxRecDepth 20000 in
theorem ggX8_take_X8_elementAt : GoodIn wsX8_take wsX8_elementAt := goodIn_r _ [47, 48, 49, 50, 51, 52, 32, 22, 33, 34, 69, 70, 71, 57, 58, 59, 60, 61, 62, 63, 64, 65, 66, 67, 68] rfl (by decide +kernel)
set_option maxRecDepth 20000 in
theorem gX8_take_X8_elementAt : GoodIn wsX8_take (va_wsS RX8 94 yX8_elementAt wsX8_elementAt) := goodIn_app (goodIn_of _ (by decide +kernel)) ggX8_take_X8_elementAt
theorem dX8_take_0 : decode cX8_take 0 = .ok (.iload_n 1, 1) := by decide +kernel
theorem dX8_take_1 : decode cX8_take 1 = .ok (.invokestatic 91, 3) := by decide +kernel
theorem dX8_take_4 : decode cX8_take 4 = .ok (.ifCond .eq 22, 3) := by decide +kernel
theorem dX8_take_7 : decode cX8_take 7 = .ok (.iload_n 2, 1) := by decide +kernel
theorem dX8_take_8 : decode cX8_take 8 = .ok (.invokestatic 38, 3) := by decide +kernel
theorem dX8_take_11 : decode cX8_take 11 = .ok (.ifCond .eq 15, 3) := by decide +kernel
theorem dX8_take_14 : decode cX8_take 14 = .ok (.iload 4, 2) := by decide +kernel
theorem dX8_take_16 : decode cX8_take 16 = .ok (.invokestatic 38, 3) := by decide +kernel
theorem dX8_take_19 : decode cX8_take 19 = .ok (.ifCond .eq 7, 3) := by decide +kernel
theorem dX8_take_22 : decode cX8_take 22 = .ok (.iconst 1, 1) := by decide +kernel
theorem dX8_take_23 : decode cX8_take 23 = .ok (.goto 4, 3) := by decide +kernel
theorem dX8_take_26 : decode cX8_take 26 = .ok (.iconst 0, 1) := by decide +kernel
theorem dX8_take_27 : decode cX8_take 27 = .ok (.istore 5, 2) := by decide +kernel
theorem dX8_take_29 : decode cX8_take 29 = .ok (.aload_n 0, 1) := by decide +kernel
theorem dX8_take_30 : decode cX8_take 30 = .ok (.iload 5, 2) := by decide +kernel
theorem dX8_take_32 : decode cX8_take 32 = .ok (.ifCond .eq 17, 3) := by decide +kernel
theorem dX8_take_35 : decode cX8_take 35 = .ok (.iload_n 1, 1) := by decide +kernel
theorem dX8_take_36 : decode cX8_take 36 = .ok (.aload_n 0, 1) := by decide +kernel
theorem dX8_take_37 : decode cX8_take 37 = .ok (.getfield 11, 3) := by decide +kernel
theorem dX8_take_40 : decode cX8_take 40 = .ok (.iload_n 2, 1) := by decide +kernel
theorem dX8_take_41 : decode cX8_take 41 = .ok (.aaload, 1) := by decide +kernel
theorem dX8_take_42 : decode cX8_take 42 = .ok (.iload_n 3, 1) := by decide +kernel
theorem dX8_take_43 : decode cX8_take 43 = .ok (.invokestatic 73, 3) := by decide +kernel
theorem dX8_take_46 : decode cX8_take 46 = .ok (.goto 5, 3) := by decide +kernel
theorem dX8_take_49 : decode cX8_take 49 = .ok (.bipush 8, 2) := by decide +kernel
theorem dX8_take_51 : decode cX8_take 51 = .ok (.invokevirtual 30, 3) := by decide +kernel
theorem dX8_take_54 : decode cX8_take 54 = .ok (.ifCond .eq 5, 3) := by decide +kernel
theorem dX8_take_57 : decode cX8_take 57 = .ok (.iconst 0, 1) := by decide +kernel
theorem dX8_take_58 : decode cX8_take 58 = .ok (.ireturn, 1) := by decide +kernel
theorem dX8_take_59 : decode cX8_take 59 = .ok (.aload_n 0, 1) := by decide +kernel
theorem dX8_take_60 : decode cX8_take 60 = .ok (.getfield 11, 3) := by decide +kernel
theorem dX8_take_63 : decode cX8_take 63 = .ok (.iload 4, 2) := by decide +kernel
theorem dX8_take_65 : decode cX8_take 65 = .ok (.aload_n 0, 1) := by decide +kernel
theorem dX8_take_66 : decode cX8_take 66 = .ok (.getfield 11, 3) := by decide +kernel
theorem dX8_take_69 : decode cX8_take 69 = .ok (.iload_n 2, 1) := by decide +kernel
theorem dX8_take_70 : decode cX8_take 70 = .ok (.aaload, 1) := by decide +kernel
theorem dX8_take_71 : decode cX8_take 71 = .ok (.iload_n 3, 1) := by decide +kernel
theorem dX8_take_72 : decode cX8_take 72 = .ok (.invokestatic 94, 3) := by decide +kernel
theorem dX8_take_75 : decode cX8_take 75 = .ok (.aastore, 1) := by decide +kernel
theorem dX8_take_76 : decode cX8_take 76 = .ok (.iconst 1, 1) := by decide +kernel
theorem dX8_take_77 : decode cX8_take 77 = .ok (.ireturn, 1) := by decide +kernel
set_option maxRecDepth 20000 in
theorem ggX8_put_X8_isThingArrayType : GoodIn wsX8_put wsX8_isThingArrayType := goodIn_r _ [7] rfl (by decide +kernel)
set_option maxRecDepth 20000 in
theorem gX8_put_X8_isThingArrayType : GoodIn wsX8_put (va_wsS RX8 91 yX8_isThingArrayType wsX8_isThingArrayType) := goodIn_app (goodIn_of _ (by decide +kernel)) ggX8_put_X8_isThingArrayType
set_option maxRecDepth 20000 in
theorem ggX8_put_X8_isCell : GoodIn wsX8_put wsX8_isCell := goodIn_r _ [10] rfl (by decide +kernel)
set_option maxRecDepth 20000 in
theorem gX8_put_X8_isCell : GoodIn wsX8_put (va_wsS RX8 38 yX8_isCell wsX8_isCell) := goodIn_app (goodIn_of _ (by decide +kernel)) ggX8_put_X8_isCell
set_option maxRecDepth 20000 in
theorem ggX8_put_X8_putCause : GoodIn wsX8_put wsX8_putCause := goodIn_r _ [13, 14, 15, 16, 6, 17, 18, 19, 20, 21, 22, 23, 24, 25, 26, 27, 28, 29, 30, 31, 32, 33, 34, 35, 36, 37, 38, 39, 40, 41, 42, 43, 44, 61, 62, 63, 64, 65, 66, 67, 68, 69, 70, 71, 72, 58, 59, 60] rfl (by decide +kernel)
set_option maxRecDepth 20000 in
theorem gX8_put_X8_putCause : GoodIn wsX8_put (va_wsS RX8 98 yX8_putCause wsX8_putCause) := goodIn_app (goodIn_of _ (by decide +kernel)) ggX8_put_X8_putCause
set_option maxRecDepth 20000 in
theorem ggX8_put_X8_stops : GoodIn wsX8_put wsX8_stops := goodIn_r _ [48, 49, 50, 54, 55, 56, 57] rfl (by decide +kernel)
set_option maxRecDepth 20000 in
theorem gX8_put_X8_stops : GoodIn wsX8_put (wsV RX8 30 RX8 yX8_stops wsX8_stops) := goodIn_app (goodIn_of _ (by decide +kernel)) ggX8_put_X8_stops
set_option maxRecDepth 20000 in
theorem ggX8_put_X6_holds : GoodIn wsX8_put wsX6_holds := goodIn_r _ [39, 40, 61, 62, 63, 64, 65, 66, 67, 68, 69, 70, 71, 72, 58, 59, 60] rfl (by decide +kernel)
set_option maxRecDepth 20000 in
theorem gX8_put_X6_holds_u104X7 : GoodIn wsX8_put (va_wsU RX8 104 RX7 "ThrowModels$Thing" ⟨"ThrowModels$ThingArray", "holds", "(I)Z"⟩ yX6_holds wsX6_holds) := goodIn_app (goodIn_of _ (by decide +kernel)) ggX8_put_X6_holds
theorem dX8_put_0 : decode cX8_put 0 = .ok (.iload_n 1, 1) := by decide +kernel
theorem dX8_put_1 : decode cX8_put 1 = .ok (.invokestatic 91, 3) := by decide +kernel
theorem dX8_put_4 : decode cX8_put 4 = .ok (.ifCond .eq 22, 3) := by decide +kernel
theorem dX8_put_7 : decode cX8_put 7 = .ok (.iload_n 2, 1) := by decide +kernel
theorem dX8_put_8 : decode cX8_put 8 = .ok (.invokestatic 38, 3) := by decide +kernel
theorem dX8_put_11 : decode cX8_put 11 = .ok (.ifCond .eq 15, 3) := by decide +kernel
theorem dX8_put_14 : decode cX8_put 14 = .ok (.iload 4, 2) := by decide +kernel
theorem dX8_put_16 : decode cX8_put 16 = .ok (.invokestatic 38, 3) := by decide +kernel
theorem dX8_put_19 : decode cX8_put 19 = .ok (.ifCond .eq 7, 3) := by decide +kernel
theorem dX8_put_22 : decode cX8_put 22 = .ok (.iconst 1, 1) := by decide +kernel
theorem dX8_put_23 : decode cX8_put 23 = .ok (.goto 4, 3) := by decide +kernel
theorem dX8_put_26 : decode cX8_put 26 = .ok (.iconst 0, 1) := by decide +kernel
theorem dX8_put_27 : decode cX8_put 27 = .ok (.istore 5, 2) := by decide +kernel
theorem dX8_put_29 : decode cX8_put 29 = .ok (.aload_n 0, 1) := by decide +kernel
theorem dX8_put_30 : decode cX8_put 30 = .ok (.iload 5, 2) := by decide +kernel
theorem dX8_put_32 : decode cX8_put 32 = .ok (.ifCond .eq 24, 3) := by decide +kernel
theorem dX8_put_35 : decode cX8_put 35 = .ok (.iload_n 1, 1) := by decide +kernel
theorem dX8_put_36 : decode cX8_put 36 = .ok (.aload_n 0, 1) := by decide +kernel
theorem dX8_put_37 : decode cX8_put 37 = .ok (.getfield 11, 3) := by decide +kernel
theorem dX8_put_40 : decode cX8_put 40 = .ok (.iload_n 2, 1) := by decide +kernel
theorem dX8_put_41 : decode cX8_put 41 = .ok (.aaload, 1) := by decide +kernel
theorem dX8_put_42 : decode cX8_put 42 = .ok (.iload_n 3, 1) := by decide +kernel
theorem dX8_put_43 : decode cX8_put 43 = .ok (.aload_n 0, 1) := by decide +kernel
theorem dX8_put_44 : decode cX8_put 44 = .ok (.getfield 11, 3) := by decide +kernel
theorem dX8_put_47 : decode cX8_put 47 = .ok (.iload 4, 2) := by decide +kernel
theorem dX8_put_49 : decode cX8_put 49 = .ok (.aaload, 1) := by decide +kernel
theorem dX8_put_50 : decode cX8_put 50 = .ok (.invokestatic 98, 3) := by decide +kernel
theorem dX8_put_53 : decode cX8_put 53 = .ok (.goto 5, 3) := by decide +kernel
theorem dX8_put_56 : decode cX8_put 56 = .ok (.bipush 8, 2) := by decide +kernel
theorem dX8_put_58 : decode cX8_put 58 = .ok (.invokevirtual 30, 3) := by decide +kernel
theorem dX8_put_61 : decode cX8_put 61 = .ok (.ifCond .eq 5, 3) := by decide +kernel
theorem dX8_put_64 : decode cX8_put 64 = .ok (.iconst 0, 1) := by decide +kernel
theorem dX8_put_65 : decode cX8_put 65 = .ok (.ireturn, 1) := by decide +kernel
theorem dX8_put_66 : decode cX8_put 66 = .ok (.aload_n 0, 1) := by decide +kernel
theorem dX8_put_67 : decode cX8_put 67 = .ok (.getfield 11, 3) := by decide +kernel
theorem dX8_put_70 : decode cX8_put 70 = .ok (.iload_n 2, 1) := by decide +kernel
theorem dX8_put_71 : decode cX8_put 71 = .ok (.aaload, 1) := by decide +kernel
theorem dX8_put_72 : decode cX8_put 72 = .ok (.astore 7, 2) := by decide +kernel
theorem dX8_put_74 : decode cX8_put 74 = .ok (.aload 7, 2) := by decide +kernel
theorem dX8_put_76 : decode cX8_put 76 = .ok (.instanceof 102, 3) := by decide +kernel
theorem dX8_put_79 : decode cX8_put 79 = .ok (.ifCond .eq 33, 3) := by decide +kernel
theorem dX8_put_82 : decode cX8_put 82 = .ok (.aload 7, 2) := by decide +kernel
theorem dX8_put_84 : decode cX8_put 84 = .ok (.checkcast 102, 3) := by decide +kernel
theorem dX8_put_87 : decode cX8_put 87 = .ok (.astore 6, 2) := by decide +kernel
theorem dX8_put_89 : decode cX8_put 89 = .ok (.aload 6, 2) := by decide +kernel
theorem dX8_put_91 : decode cX8_put 91 = .ok (.iload_n 3, 1) := by decide +kernel
theorem dX8_put_92 : decode cX8_put 92 = .ok (.invokevirtual 104, 3) := by decide +kernel
theorem dX8_put_95 : decode cX8_put 95 = .ok (.ifCond .eq 17, 3) := by decide +kernel
theorem dX8_put_98 : decode cX8_put 98 = .ok (.aload 6, 2) := by decide +kernel
theorem dX8_put_100 : decode cX8_put 100 = .ok (.getfield 105, 3) := by decide +kernel
theorem dX8_put_103 : decode cX8_put 103 = .ok (.iload_n 3, 1) := by decide +kernel
theorem dX8_put_104 : decode cX8_put 104 = .ok (.aload_n 0, 1) := by decide +kernel
theorem dX8_put_105 : decode cX8_put 105 = .ok (.getfield 11, 3) := by decide +kernel
theorem dX8_put_108 : decode cX8_put 108 = .ok (.iload 4, 2) := by decide +kernel
theorem dX8_put_110 : decode cX8_put 110 = .ok (.aaload, 1) := by decide +kernel
theorem dX8_put_111 : decode cX8_put 111 = .ok (.aastore, 1) := by decide +kernel
theorem dX8_put_112 : decode cX8_put 112 = .ok (.iconst 1, 1) := by decide +kernel
theorem dX8_put_113 : decode cX8_put 113 = .ok (.ireturn, 1) := by decide +kernel
set_option maxRecDepth 20000 in
theorem ggX8_cross_X8_isCell : GoodIn wsX8_cross wsX8_isCell := goodIn_r _ [5] rfl (by decide +kernel)
set_option maxRecDepth 20000 in
theorem gX8_cross_X8_isCell : GoodIn wsX8_cross (va_wsS RX8 38 yX8_isCell wsX8_isCell) := goodIn_app (goodIn_of _ (by decide +kernel)) ggX8_cross_X8_isCell
set_option maxRecDepth 20000 in
theorem ggX8_cross_X8_crossCause : GoodIn wsX8_cross wsX8_crossCause := goodIn_r _ [8, 9, 10, 4, 11, 12, 13, 14, 15, 16, 17, 18, 19, 20, 21, 22, 23, 24, 25, 26, 27, 28, 29, 30, 31, 32, 33, 34, 35, 36, 37, 38, 39, 40, 41, 42, 43, 44, 45, 46, 65, 66, 67, 68, 69, 70, 71, 72, 73, 74, 75, 76, 77, 78, 79] rfl (by decide +kernel)
set_option maxRecDepth 20000 in
theorem gX8_cross_X8_crossCause : GoodIn wsX8_cross (va_wsS RX8 108 yX8_crossCause wsX8_crossCause) := goodIn_app (goodIn_of _ (by decide +kernel)) ggX8_cross_X8_crossCause
set_option maxRecDepth 20000 in
theorem ggX8_cross_X8_stops : GoodIn wsX8_cross wsX8_stops := goodIn_r _ [50, 51, 52, 61, 62, 63, 64] rfl (by decide +kernel)
set_option maxRecDepth 20000 in
theorem gX8_cross_X8_stops : GoodIn wsX8_cross (wsV RX8 30 RX8 yX8_stops wsX8_stops) := goodIn_app (goodIn_of _ (by decide +kernel)) ggX8_cross_X8_stops
set_option maxRecDepth 20000 in
theorem ggX8_cross_X8_elementAt : GoodIn wsX8_cross wsX8_elementAt := goodIn_r _ [41, 42, 43, 44, 45, 46, 32, 22, 33, 34, 77, 78, 79, 65, 66, 67, 68, 69, 70, 71, 72, 73, 74, 75, 76] rfl (by decide +kernel)
set_option maxRecDepth 20000 in
theorem gX8_cross_X8_elementAt : GoodIn wsX8_cross (va_wsS RX8 94 yX8_elementAt wsX8_elementAt) := goodIn_app (goodIn_of _ (by decide +kernel)) ggX8_cross_X8_elementAt
set_option maxRecDepth 20000 in
theorem ggX8_cross_X8_numberAt : GoodIn wsX8_cross wsX8_numberAt := goodIn_r _ [55, 56, 57, 58, 59, 60, 32, 22, 33, 34, 65, 66, 67, 68, 69, 70, 71, 72, 73, 74, 75, 76, 77, 78, 79] rfl (by decide +kernel)
set_option maxRecDepth 20000 in
theorem gX8_cross_X8_numberAt : GoodIn wsX8_cross (va_wsS RX8 77 yX8_numberAt wsX8_numberAt) := goodIn_app (goodIn_of _ (by decide +kernel)) ggX8_cross_X8_numberAt
theorem dX8_cross_0 : decode cX8_cross 0 = .ok (.aload_n 0, 1) := by decide +kernel
theorem dX8_cross_1 : decode cX8_cross 1 = .ok (.iload_n 1, 1) := by decide +kernel
theorem dX8_cross_2 : decode cX8_cross 2 = .ok (.invokestatic 38, 3) := by decide +kernel
theorem dX8_cross_5 : decode cX8_cross 5 = .ok (.ifCond .eq 17, 3) := by decide +kernel
theorem dX8_cross_8 : decode cX8_cross 8 = .ok (.aload_n 0, 1) := by decide +kernel
theorem dX8_cross_9 : decode cX8_cross 9 = .ok (.getfield 11, 3) := by decide +kernel
theorem dX8_cross_12 : decode cX8_cross 12 = .ok (.iload_n 1, 1) := by decide +kernel
theorem dX8_cross_13 : decode cX8_cross 13 = .ok (.aaload, 1) := by decide +kernel
theorem dX8_cross_14 : decode cX8_cross 14 = .ok (.iload_n 2, 1) := by decide +kernel
theorem dX8_cross_15 : decode cX8_cross 15 = .ok (.iload_n 3, 1) := by decide +kernel
theorem dX8_cross_16 : decode cX8_cross 16 = .ok (.invokestatic 108, 3) := by decide +kernel
theorem dX8_cross_19 : decode cX8_cross 19 = .ok (.goto 5, 3) := by decide +kernel
theorem dX8_cross_22 : decode cX8_cross 22 = .ok (.bipush 8, 2) := by decide +kernel
theorem dX8_cross_24 : decode cX8_cross 24 = .ok (.invokevirtual 30, 3) := by decide +kernel
theorem dX8_cross_27 : decode cX8_cross 27 = .ok (.ifCond .eq 5, 3) := by decide +kernel
theorem dX8_cross_30 : decode cX8_cross 30 = .ok (.iconst 0, 1) := by decide +kernel
theorem dX8_cross_31 : decode cX8_cross 31 = .ok (.ireturn, 1) := by decide +kernel
theorem dX8_cross_32 : decode cX8_cross 32 = .ok (.aload_n 0, 1) := by decide +kernel
theorem dX8_cross_33 : decode cX8_cross 33 = .ok (.getfield 11, 3) := by decide +kernel
theorem dX8_cross_36 : decode cX8_cross 36 = .ok (.iload_n 1, 1) := by decide +kernel
theorem dX8_cross_37 : decode cX8_cross 37 = .ok (.aaload, 1) := by decide +kernel
theorem dX8_cross_38 : decode cX8_cross 38 = .ok (.iload_n 2, 1) := by decide +kernel
theorem dX8_cross_39 : decode cX8_cross 39 = .ok (.invokestatic 94, 3) := by decide +kernel
theorem dX8_cross_42 : decode cX8_cross 42 = .ok (.iload_n 3, 1) := by decide +kernel
theorem dX8_cross_43 : decode cX8_cross 43 = .ok (.invokestatic 77, 3) := by decide +kernel
theorem dX8_cross_46 : decode cX8_cross 46 = .ok (.l2i, 1) := by decide +kernel
theorem dX8_cross_47 : decode cX8_cross 47 = .ok (.ireturn, 1) := by decide +kernel
set_option maxRecDepth 20000 in
theorem ggX8_copy_X8_isCell : GoodIn wsX8_copy wsX8_isCell := goodIn_r _ [5] rfl (by decide +kernel)
set_option maxRecDepth 20000 in
theorem gX8_copy_X8_isCell : GoodIn wsX8_copy (va_wsS RX8 38 yX8_isCell wsX8_isCell) := goodIn_app (goodIn_of _ (by decide +kernel)) ggX8_copy_X8_isCell
set_option maxRecDepth 20000 in
theorem ggX8_copy_X8_copyCause : GoodIn wsX8_copy wsX8_copyCause := goodIn_r _ [8, 9, 10, 11, 12, 4, 13, 14, 15, 16, 17, 18, 19, 66, 67, 68, 69, 70, 71, 72, 73, 74, 75, 76, 77, 78, 79, 80] rfl (by decide +kernel)
set_option maxRecDepth 20000 in
theorem gX8_copy_X8_copyCause : GoodIn wsX8_copy (va_wsS RX8 112 yX8_copyCause wsX8_copyCause) := goodIn_app (goodIn_of _ (by decide +kernel)) ggX8_copy_X8_copyCause
set_option maxRecDepth 20000 in
theorem ggX8_copy_X8_copyElements : GoodIn wsX8_copy wsX8_copyElements := goodIn_r _ [22, 23, 24, 25, 26, 27, 28, 29, 30, 31, 4, 32, 33, 34, 35, 36, 37, 38, 39, 40, 41, 42, 43, 44, 45, 46, 47, 48, 49, 50, 51, 52, 53, 54, 55, 66, 67, 68, 69, 70, 71, 72, 73, 74, 75, 76, 77, 78, 79, 80] rfl (by decide +kernel)
set_option maxRecDepth 20000 in
theorem gX8_copy_X8_copyElements : GoodIn wsX8_copy (va_wsS RX8 116 yX8_copyElements wsX8_copyElements) := goodIn_app (goodIn_of _ (by decide +kernel)) ggX8_copy_X8_copyElements
set_option maxRecDepth 20000 in
theorem ggX8_copy_X8_stops : GoodIn wsX8_copy wsX8_stops := goodIn_r _ [59, 60, 61, 62, 63, 64, 65] rfl (by decide +kernel)
set_option maxRecDepth 20000 in
theorem gX8_copy_X8_stops : GoodIn wsX8_copy (wsV RX8 30 RX8 yX8_stops wsX8_stops) := goodIn_app (goodIn_of _ (by decide +kernel)) ggX8_copy_X8_stops
theorem dX8_copy_0 : decode cX8_copy 0 = .ok (.iload_n 1, 1) := by decide +kernel
theorem dX8_copy_1 : decode cX8_copy 1 = .ok (.invokestatic 38, 3) := by decide +kernel
theorem dX8_copy_4 : decode cX8_copy 4 = .ok (.ifCond .eq 14, 3) := by decide +kernel
theorem dX8_copy_7 : decode cX8_copy 7 = .ok (.iload_n 3, 1) := by decide +kernel
theorem dX8_copy_8 : decode cX8_copy 8 = .ok (.invokestatic 38, 3) := by decide +kernel
theorem dX8_copy_11 : decode cX8_copy 11 = .ok (.ifCond .eq 7, 3) := by decide +kernel
theorem dX8_copy_14 : decode cX8_copy 14 = .ok (.iconst 1, 1) := by decide +kernel
theorem dX8_copy_15 : decode cX8_copy 15 = .ok (.goto 4, 3) := by decide +kernel
theorem dX8_copy_18 : decode cX8_copy 18 = .ok (.iconst 0, 1) := by decide +kernel
theorem dX8_copy_19 : decode cX8_copy 19 = .ok (.istore 6, 2) := by decide +kernel
theorem dX8_copy_21 : decode cX8_copy 21 = .ok (.iload 6, 2) := by decide +kernel
theorem dX8_copy_23 : decode cX8_copy 23 = .ok (.ifCond .eq 26, 3) := by decide +kernel
theorem dX8_copy_26 : decode cX8_copy 26 = .ok (.aload_n 0, 1) := by decide +kernel
theorem dX8_copy_27 : decode cX8_copy 27 = .ok (.getfield 11, 3) := by decide +kernel
theorem dX8_copy_30 : decode cX8_copy 30 = .ok (.iload_n 1, 1) := by decide +kernel
theorem dX8_copy_31 : decode cX8_copy 31 = .ok (.aaload, 1) := by decide +kernel
theorem dX8_copy_32 : decode cX8_copy 32 = .ok (.iload_n 2, 1) := by decide +kernel
theorem dX8_copy_33 : decode cX8_copy 33 = .ok (.aload_n 0, 1) := by decide +kernel
theorem dX8_copy_34 : decode cX8_copy 34 = .ok (.getfield 11, 3) := by decide +kernel
theorem dX8_copy_37 : decode cX8_copy 37 = .ok (.iload_n 3, 1) := by decide +kernel
theorem dX8_copy_38 : decode cX8_copy 38 = .ok (.aaload, 1) := by decide +kernel
theorem dX8_copy_39 : decode cX8_copy 39 = .ok (.iload 4, 2) := by decide +kernel
theorem dX8_copy_41 : decode cX8_copy 41 = .ok (.iload 5, 2) := by decide +kernel
theorem dX8_copy_43 : decode cX8_copy 43 = .ok (.invokestatic 112, 3) := by decide +kernel
theorem dX8_copy_46 : decode cX8_copy 46 = .ok (.goto 5, 3) := by decide +kernel
theorem dX8_copy_49 : decode cX8_copy 49 = .ok (.bipush 8, 2) := by decide +kernel
theorem dX8_copy_51 : decode cX8_copy 51 = .ok (.istore 7, 2) := by decide +kernel
theorem dX8_copy_53 : decode cX8_copy 53 = .ok (.iload 7, 2) := by decide +kernel
theorem dX8_copy_55 : decode cX8_copy 55 = .ok (.ifCond .ne 25, 3) := by decide +kernel
theorem dX8_copy_58 : decode cX8_copy 58 = .ok (.aload_n 0, 1) := by decide +kernel
theorem dX8_copy_59 : decode cX8_copy 59 = .ok (.getfield 11, 3) := by decide +kernel
theorem dX8_copy_62 : decode cX8_copy 62 = .ok (.iload_n 1, 1) := by decide +kernel
theorem dX8_copy_63 : decode cX8_copy 63 = .ok (.aaload, 1) := by decide +kernel
theorem dX8_copy_64 : decode cX8_copy 64 = .ok (.iload_n 2, 1) := by decide +kernel
theorem dX8_copy_65 : decode cX8_copy 65 = .ok (.aload_n 0, 1) := by decide +kernel
theorem dX8_copy_66 : decode cX8_copy 66 = .ok (.getfield 11, 3) := by decide +kernel
theorem dX8_copy_69 : decode cX8_copy 69 = .ok (.iload_n 3, 1) := by decide +kernel
theorem dX8_copy_70 : decode cX8_copy 70 = .ok (.aaload, 1) := by decide +kernel
theorem dX8_copy_71 : decode cX8_copy 71 = .ok (.iload 4, 2) := by decide +kernel
theorem dX8_copy_73 : decode cX8_copy 73 = .ok (.iload 5, 2) := by decide +kernel
theorem dX8_copy_75 : decode cX8_copy 75 = .ok (.invokestatic 116, 3) := by decide +kernel
theorem dX8_copy_78 : decode cX8_copy 78 = .ok (.istore 7, 2) := by decide +kernel
theorem dX8_copy_80 : decode cX8_copy 80 = .ok (.aload_n 0, 1) := by decide +kernel
theorem dX8_copy_81 : decode cX8_copy 81 = .ok (.iload 7, 2) := by decide +kernel
theorem dX8_copy_83 : decode cX8_copy 83 = .ok (.invokevirtual 30, 3) := by decide +kernel
theorem dX8_copy_86 : decode cX8_copy 86 = .ok (.ifCond .eq 7, 3) := by decide +kernel
theorem dX8_copy_89 : decode cX8_copy 89 = .ok (.iconst 0, 1) := by decide +kernel
theorem dX8_copy_90 : decode cX8_copy 90 = .ok (.goto 4, 3) := by decide +kernel
theorem dX8_copy_93 : decode cX8_copy 93 = .ok (.iconst 1, 1) := by decide +kernel
theorem dX8_copy_94 : decode cX8_copy 94 = .ok (.ireturn, 1) := by decide +kernel
set_option maxRecDepth 20000 in
theorem ggX8_field_X8_isOwnType : GoodIn wsX8_field wsX8_isOwnType := goodIn_r _ [7] rfl (by decide +kernel)
set_option maxRecDepth 20000 in
theorem gX8_field_X8_isOwnType : GoodIn wsX8_field (va_wsS RX8 119 yX8_isOwnType wsX8_isOwnType) := goodIn_app (goodIn_of _ (by decide +kernel)) ggX8_field_X8_isOwnType
set_option maxRecDepth 20000 in
theorem ggX8_field_X8_isCell : GoodIn wsX8_field wsX8_isCell := goodIn_r _ [10] rfl (by decide +kernel)
set_option maxRecDepth 20000 in
theorem gX8_field_X8_isCell : GoodIn wsX8_field (va_wsS RX8 38 yX8_isCell wsX8_isCell) := goodIn_app (goodIn_of _ (by decide +kernel)) ggX8_field_X8_isCell
set_option maxRecDepth 20000 in
theorem ggX8_field_X8_castCause : GoodIn wsX8_field wsX8_castCause := goodIn_r _ [13, 14, 15, 6, 16, 17, 18, 19, 20, 21, 22, 23, 24, 25, 26, 27, 47, 48, 49, 38, 39, 40, 41, 42, 43, 44, 45, 46, 50, 51, 52] rfl (by decide +kernel)
set_option maxRecDepth 20000 in
theorem gX8_field_X8_castCause : GoodIn wsX8_field (va_wsS RX8 41 yX8_castCause wsX8_castCause) := goodIn_app (goodIn_of _ (by decide +kernel)) ggX8_field_X8_castCause
set_option maxRecDepth 20000 in
theorem ggX8_field_X8_stops : GoodIn wsX8_field wsX8_stops := goodIn_r _ [31, 32, 33, 34, 35, 36, 37] rfl (by decide +kernel)
set_option maxRecDepth 20000 in
theorem gX8_field_X8_stops : GoodIn wsX8_field (wsV RX8 30 RX8 yX8_stops wsX8_stops) := goodIn_app (goodIn_of _ (by decide +kernel)) ggX8_field_X8_stops
theorem dX8_field_0 : decode cX8_field 0 = .ok (.iload_n 1, 1) := by decide +kernel
theorem dX8_field_1 : decode cX8_field 1 = .ok (.invokestatic 119, 3) := by decide +kernel
theorem dX8_field_4 : decode cX8_field 4 = .ok (.ifCond .eq 14, 3) := by decide +kernel
theorem dX8_field_7 : decode cX8_field 7 = .ok (.iload_n 2, 1) := by decide +kernel
theorem dX8_field_8 : decode cX8_field 8 = .ok (.invokestatic 38, 3) := by decide +kernel
theorem dX8_field_11 : decode cX8_field 11 = .ok (.ifCond .eq 7, 3) := by decide +kernel
theorem dX8_field_14 : decode cX8_field 14 = .ok (.iconst 1, 1) := by decide +kernel
theorem dX8_field_15 : decode cX8_field 15 = .ok (.goto 4, 3) := by decide +kernel
theorem dX8_field_18 : decode cX8_field 18 = .ok (.iconst 0, 1) := by decide +kernel
theorem dX8_field_19 : decode cX8_field 19 = .ok (.istore_n 3, 1) := by decide +kernel
theorem dX8_field_20 : decode cX8_field 20 = .ok (.aload_n 0, 1) := by decide +kernel
theorem dX8_field_21 : decode cX8_field 21 = .ok (.iload_n 3, 1) := by decide +kernel
theorem dX8_field_22 : decode cX8_field 22 = .ok (.ifCond .eq 16, 3) := by decide +kernel
theorem dX8_field_25 : decode cX8_field 25 = .ok (.iload_n 1, 1) := by decide +kernel
theorem dX8_field_26 : decode cX8_field 26 = .ok (.aload_n 0, 1) := by decide +kernel
theorem dX8_field_27 : decode cX8_field 27 = .ok (.getfield 11, 3) := by decide +kernel
theorem dX8_field_30 : decode cX8_field 30 = .ok (.iload_n 2, 1) := by decide +kernel
theorem dX8_field_31 : decode cX8_field 31 = .ok (.aaload, 1) := by decide +kernel
theorem dX8_field_32 : decode cX8_field 32 = .ok (.invokestatic 41, 3) := by decide +kernel
theorem dX8_field_35 : decode cX8_field 35 = .ok (.goto 5, 3) := by decide +kernel
theorem dX8_field_38 : decode cX8_field 38 = .ok (.bipush 8, 2) := by decide +kernel
theorem dX8_field_40 : decode cX8_field 40 = .ok (.invokevirtual 30, 3) := by decide +kernel
theorem dX8_field_43 : decode cX8_field 43 = .ok (.ifCond .eq 5, 3) := by decide +kernel
theorem dX8_field_46 : decode cX8_field 46 = .ok (.iconst 0, 1) := by decide +kernel
theorem dX8_field_47 : decode cX8_field 47 = .ok (.ireturn, 1) := by decide +kernel
theorem dX8_field_48 : decode cX8_field 48 = .ok (.aload_n 0, 1) := by decide +kernel
theorem dX8_field_49 : decode cX8_field 49 = .ok (.getfield 11, 3) := by decide +kernel
theorem dX8_field_52 : decode cX8_field 52 = .ok (.iload_n 2, 1) := by decide +kernel
theorem dX8_field_53 : decode cX8_field 53 = .ok (.aaload, 1) := by decide +kernel
theorem dX8_field_54 : decode cX8_field 54 = .ok (.astore 5, 2) := by decide +kernel
theorem dX8_field_56 : decode cX8_field 56 = .ok (.aload 5, 2) := by decide +kernel
theorem dX8_field_58 : decode cX8_field 58 = .ok (.instanceof 122, 3) := by decide +kernel
theorem dX8_field_61 : decode cX8_field 61 = .ok (.ifCond .eq 16, 3) := by decide +kernel
theorem dX8_field_64 : decode cX8_field 64 = .ok (.aload 5, 2) := by decide +kernel
theorem dX8_field_66 : decode cX8_field 66 = .ok (.checkcast 122, 3) := by decide +kernel
theorem dX8_field_69 : decode cX8_field 69 = .ok (.astore 4, 2) := by decide +kernel
theorem dX8_field_71 : decode cX8_field 71 = .ok (.aload 4, 2) := by decide +kernel
theorem dX8_field_73 : decode cX8_field 73 = .ok (.getfield 124, 3) := by decide +kernel
theorem dX8_field_76 : decode cX8_field 76 = .ok (.ireturn, 1) := by decide +kernel
theorem dX8_field_77 : decode cX8_field 77 = .ok (.iconst 0, 1) := by decide +kernel
theorem dX8_field_78 : decode cX8_field 78 = .ok (.ireturn, 1) := by decide +kernel
set_option maxRecDepth 20000 in
theorem ggX8_write_X8_isOwnType : GoodIn wsX8_write wsX8_isOwnType := goodIn_r _ [7] rfl (by decide +kernel)
set_option maxRecDepth 20000 in
theorem gX8_write_X8_isOwnType : GoodIn wsX8_write (va_wsS RX8 119 yX8_isOwnType wsX8_isOwnType) := goodIn_app (goodIn_of _ (by decide +kernel)) ggX8_write_X8_isOwnType
set_option maxRecDepth 20000 in
theorem ggX8_write_X8_isCell : GoodIn wsX8_write wsX8_isCell := goodIn_r _ [10] rfl (by decide +kernel)
set_option maxRecDepth 20000 in
theorem gX8_write_X8_isCell : GoodIn wsX8_write (va_wsS RX8 38 yX8_isCell wsX8_isCell) := goodIn_app (goodIn_of _ (by decide +kernel)) ggX8_write_X8_isCell
set_option maxRecDepth 20000 in
theorem ggX8_write_X8_castCause : GoodIn wsX8_write wsX8_castCause := goodIn_r _ [13, 14, 15, 6, 16, 17, 18, 19, 20, 21, 22, 23, 24, 25, 26, 27, 47, 48, 49, 38, 39, 40, 41, 42, 43, 44, 45, 46, 50, 51, 52] rfl (by decide +kernel)
set_option maxRecDepth 20000 in
theorem gX8_write_X8_castCause : GoodIn wsX8_write (va_wsS RX8 41 yX8_castCause wsX8_castCause) := goodIn_app (goodIn_of _ (by decide +kernel)) ggX8_write_X8_castCause
set_option maxRecDepth 20000 in
theorem ggX8_write_X8_stops : GoodIn wsX8_write wsX8_stops := goodIn_r _ [31, 32, 33, 34, 35, 36, 37] rfl (by decide +kernel)
set_option maxRecDepth 20000 in
theorem gX8_write_X8_stops : GoodIn wsX8_write (wsV RX8 30 RX8 yX8_stops wsX8_stops) := goodIn_app (goodIn_of _ (by decide +kernel)) ggX8_write_X8_stops
theorem dX8_write_0 : decode cX8_write 0 = .ok (.iload_n 1, 1) := by decide +kernel
theorem dX8_write_1 : decode cX8_write 1 = .ok (.invokestatic 119, 3) := by decide +kernel
theorem dX8_write_4 : decode cX8_write 4 = .ok (.ifCond .eq 14, 3) := by decide +kernel
theorem dX8_write_7 : decode cX8_write 7 = .ok (.iload_n 2, 1) := by decide +kernel
theorem dX8_write_8 : decode cX8_write 8 = .ok (.invokestatic 38, 3) := by decide +kernel
theorem dX8_write_11 : decode cX8_write 11 = .ok (.ifCond .eq 7, 3) := by decide +kernel
theorem dX8_write_14 : decode cX8_write 14 = .ok (.iconst 1, 1) := by decide +kernel
theorem dX8_write_15 : decode cX8_write 15 = .ok (.goto 4, 3) := by decide +kernel
theorem dX8_write_18 : decode cX8_write 18 = .ok (.iconst 0, 1) := by decide +kernel
theorem dX8_write_19 : decode cX8_write 19 = .ok (.istore 4, 2) := by decide +kernel
theorem dX8_write_21 : decode cX8_write 21 = .ok (.aload_n 0, 1) := by decide +kernel
theorem dX8_write_22 : decode cX8_write 22 = .ok (.iload 4, 2) := by decide +kernel
theorem dX8_write_24 : decode cX8_write 24 = .ok (.ifCond .eq 16, 3) := by decide +kernel
theorem dX8_write_27 : decode cX8_write 27 = .ok (.iload_n 1, 1) := by decide +kernel
theorem dX8_write_28 : decode cX8_write 28 = .ok (.aload_n 0, 1) := by decide +kernel
theorem dX8_write_29 : decode cX8_write 29 = .ok (.getfield 11, 3) := by decide +kernel
theorem dX8_write_32 : decode cX8_write 32 = .ok (.iload_n 2, 1) := by decide +kernel
theorem dX8_write_33 : decode cX8_write 33 = .ok (.aaload, 1) := by decide +kernel
theorem dX8_write_34 : decode cX8_write 34 = .ok (.invokestatic 41, 3) := by decide +kernel
theorem dX8_write_37 : decode cX8_write 37 = .ok (.goto 5, 3) := by decide +kernel
theorem dX8_write_40 : decode cX8_write 40 = .ok (.bipush 8, 2) := by decide +kernel
theorem dX8_write_42 : decode cX8_write 42 = .ok (.invokevirtual 30, 3) := by decide +kernel
theorem dX8_write_45 : decode cX8_write 45 = .ok (.ifCond .eq 5, 3) := by decide +kernel
theorem dX8_write_48 : decode cX8_write 48 = .ok (.iconst 0, 1) := by decide +kernel
theorem dX8_write_49 : decode cX8_write 49 = .ok (.ireturn, 1) := by decide +kernel
theorem dX8_write_50 : decode cX8_write 50 = .ok (.aload_n 0, 1) := by decide +kernel
theorem dX8_write_51 : decode cX8_write 51 = .ok (.getfield 11, 3) := by decide +kernel
theorem dX8_write_54 : decode cX8_write 54 = .ok (.iload_n 2, 1) := by decide +kernel
theorem dX8_write_55 : decode cX8_write 55 = .ok (.aaload, 1) := by decide +kernel
theorem dX8_write_56 : decode cX8_write 56 = .ok (.astore 6, 2) := by decide +kernel
theorem dX8_write_58 : decode cX8_write 58 = .ok (.aload 6, 2) := by decide +kernel
theorem dX8_write_60 : decode cX8_write 60 = .ok (.instanceof 122, 3) := by decide +kernel
theorem dX8_write_63 : decode cX8_write 63 = .ok (.ifCond .eq 16, 3) := by decide +kernel
theorem dX8_write_66 : decode cX8_write 66 = .ok (.aload 6, 2) := by decide +kernel
theorem dX8_write_68 : decode cX8_write 68 = .ok (.checkcast 122, 3) := by decide +kernel
theorem dX8_write_71 : decode cX8_write 71 = .ok (.astore 5, 2) := by decide +kernel
theorem dX8_write_73 : decode cX8_write 73 = .ok (.aload 5, 2) := by decide +kernel
theorem dX8_write_75 : decode cX8_write 75 = .ok (.iload_n 3, 1) := by decide +kernel
theorem dX8_write_76 : decode cX8_write 76 = .ok (.putfield 124, 3) := by decide +kernel
theorem dX8_write_79 : decode cX8_write 79 = .ok (.iconst 1, 1) := by decide +kernel
theorem dX8_write_80 : decode cX8_write 80 = .ok (.ireturn, 1) := by decide +kernel
set_option maxRecDepth 20000 in
theorem ggX8_call_X8_isCell : GoodIn wsX8_call wsX8_isCell := goodIn_r _ [6] rfl (by decide +kernel)
set_option maxRecDepth 20000 in
theorem gX8_call_X8_isCell : GoodIn wsX8_call (va_wsS RX8 38 yX8_isCell wsX8_isCell) := goodIn_app (goodIn_of _ (by decide +kernel)) ggX8_call_X8_isCell
set_option maxRecDepth 20000 in
theorem ggX8_call_X8_callCause : GoodIn wsX8_call wsX8_callCause := goodIn_r _ [9, 2, 10, 11, 12, 5, 13, 14, 15, 16, 17, 18, 19, 20, 21, 22, 23, 24, 25, 26, 27, 28, 29, 30, 31, 32, 33, 34, 35, 36, 37, 38, 39, 40, 41, 42, 43, 44, 45, 46, 47, 48, 110, 111, 112, 113, 114, 115, 116, 117, 118, 119, 120, 121, 122, 123, 124] rfl (by decide +kernel)
set_option maxRecDepth 20000 in
theorem gX8_call_X8_callCause : GoodIn wsX8_call (va_wsS RX8 127 yX8_callCause wsX8_callCause) := goodIn_app (goodIn_of _ (by decide +kernel)) ggX8_call_X8_callCause
set_option maxRecDepth 20000 in
theorem ggX8_call_X8_stops : GoodIn wsX8_call wsX8_stops := goodIn_r _ [52, 53, 54, 106, 107, 108, 109] rfl (by decide +kernel)
set_option maxRecDepth 20000 in
theorem gX8_call_X8_stops : GoodIn wsX8_call (wsV RX8 30 RX8 yX8_stops wsX8_stops) := goodIn_app (goodIn_of _ (by decide +kernel)) ggX8_call_X8_stops
set_option maxRecDepth 20000 in
theorem ggX8_call_X8_callAnswer : GoodIn wsX8_call wsX8_callAnswer := goodIn_r _ [57, 10, 58, 59, 60, 31, 61, 62, 29, 30, 32, 33, 63, 35, 36, 37, 38, 39, 40, 41, 42, 43, 44, 45, 46, 47, 48, 64, 65, 66, 67, 68, 69, 70, 71, 72, 73, 74, 75, 76, 77, 78, 79, 80, 81, 82, 83, 84, 85, 86, 87, 88, 89, 90, 91, 92, 93, 94, 95, 96, 97, 98, 99, 100, 101, 102, 103, 104, 105, 28, 34, 110, 111, 112, 113, 114, 115, 116, 117, 118] rfl (by decide +kernel)
set_option maxRecDepth 20000 in
theorem gX8_call_X8_callAnswer : GoodIn wsX8_call (va_wsS RX8 131 yX8_callAnswer wsX8_callAnswer) := goodIn_app (goodIn_of _ (by decide +kernel)) ggX8_call_X8_callAnswer
theorem dX8_call_0 : decode cX8_call 0 = .ok (.iload_n 1, 1) := by decide +kernel
theorem dX8_call_1 : decode cX8_call 1 = .ok (.invokestatic 38, 3) := by decide +kernel
theorem dX8_call_4 : decode cX8_call 4 = .ok (.ifCond .eq 17, 3) := by decide +kernel
theorem dX8_call_7 : decode cX8_call 7 = .ok (.iload_n 2, 1) := by decide +kernel
theorem dX8_call_8 : decode cX8_call 8 = .ok (.ifCond .lt 13, 3) := by decide +kernel
theorem dX8_call_11 : decode cX8_call 11 = .ok (.iload_n 2, 1) := by decide +kernel
theorem dX8_call_12 : decode cX8_call 12 = .ok (.bipush 6, 2) := by decide +kernel
theorem dX8_call_14 : decode cX8_call 14 = .ok (.if_icmp .gt 7, 3) := by decide +kernel
theorem dX8_call_17 : decode cX8_call 17 = .ok (.iconst 1, 1) := by decide +kernel
theorem dX8_call_18 : decode cX8_call 18 = .ok (.goto 4, 3) := by decide +kernel
theorem dX8_call_21 : decode cX8_call 21 = .ok (.iconst 0, 1) := by decide +kernel
theorem dX8_call_22 : decode cX8_call 22 = .ok (.istore_n 3, 1) := by decide +kernel
theorem dX8_call_23 : decode cX8_call 23 = .ok (.aload_n 0, 1) := by decide +kernel
theorem dX8_call_24 : decode cX8_call 24 = .ok (.iload_n 3, 1) := by decide +kernel
theorem dX8_call_25 : decode cX8_call 25 = .ok (.ifCond .eq 16, 3) := by decide +kernel
theorem dX8_call_28 : decode cX8_call 28 = .ok (.aload_n 0, 1) := by decide +kernel
theorem dX8_call_29 : decode cX8_call 29 = .ok (.getfield 11, 3) := by decide +kernel
theorem dX8_call_32 : decode cX8_call 32 = .ok (.iload_n 1, 1) := by decide +kernel
theorem dX8_call_33 : decode cX8_call 33 = .ok (.aaload, 1) := by decide +kernel
theorem dX8_call_34 : decode cX8_call 34 = .ok (.iload_n 2, 1) := by decide +kernel
theorem dX8_call_35 : decode cX8_call 35 = .ok (.invokestatic 127, 3) := by decide +kernel
theorem dX8_call_38 : decode cX8_call 38 = .ok (.goto 5, 3) := by decide +kernel
theorem dX8_call_41 : decode cX8_call 41 = .ok (.bipush 8, 2) := by decide +kernel
theorem dX8_call_43 : decode cX8_call 43 = .ok (.invokevirtual 30, 3) := by decide +kernel
theorem dX8_call_46 : decode cX8_call 46 = .ok (.ifCond .eq 5, 3) := by decide +kernel
theorem dX8_call_49 : decode cX8_call 49 = .ok (.iconst 0, 1) := by decide +kernel
theorem dX8_call_50 : decode cX8_call 50 = .ok (.ireturn, 1) := by decide +kernel
theorem dX8_call_51 : decode cX8_call 51 = .ok (.aload_n 0, 1) := by decide +kernel
theorem dX8_call_52 : decode cX8_call 52 = .ok (.getfield 11, 3) := by decide +kernel
theorem dX8_call_55 : decode cX8_call 55 = .ok (.iload_n 1, 1) := by decide +kernel
theorem dX8_call_56 : decode cX8_call 56 = .ok (.aaload, 1) := by decide +kernel
theorem dX8_call_57 : decode cX8_call 57 = .ok (.astore 5, 2) := by decide +kernel
theorem dX8_call_59 : decode cX8_call 59 = .ok (.aload 5, 2) := by decide +kernel
theorem dX8_call_61 : decode cX8_call 61 = .ok (.instanceof 122, 3) := by decide +kernel
theorem dX8_call_64 : decode cX8_call 64 = .ok (.ifCond .eq 17, 3) := by decide +kernel
theorem dX8_call_67 : decode cX8_call 67 = .ok (.aload 5, 2) := by decide +kernel
theorem dX8_call_69 : decode cX8_call 69 = .ok (.checkcast 122, 3) := by decide +kernel
theorem dX8_call_72 : decode cX8_call 72 = .ok (.astore 4, 2) := by decide +kernel
theorem dX8_call_74 : decode cX8_call 74 = .ok (.aload 4, 2) := by decide +kernel
theorem dX8_call_76 : decode cX8_call 76 = .ok (.iload_n 2, 1) := by decide +kernel
theorem dX8_call_77 : decode cX8_call 77 = .ok (.invokestatic 131, 3) := by decide +kernel
theorem dX8_call_80 : decode cX8_call 80 = .ok (.ireturn, 1) := by decide +kernel
theorem dX8_call_81 : decode cX8_call 81 = .ok (.iconst 0, 1) := by decide +kernel
theorem dX8_call_82 : decode cX8_call 82 = .ok (.ireturn, 1) := by decide +kernel
set_option maxRecDepth 20000 in
theorem ggX8_divide_X8_divideCause : GoodIn wsX8_divide wsX8_divideCause := goodIn_r _ [4] rfl (by decide +kernel)
set_option maxRecDepth 20000 in
theorem gX8_divide_X8_divideCause : GoodIn wsX8_divide (va_wsS RX8 135 yX8_divideCause wsX8_divideCause) := goodIn_app (goodIn_of _ (by decide +kernel)) ggX8_divide_X8_divideCause
set_option maxRecDepth 20000 in
theorem ggX8_divide_X8_stops : GoodIn wsX8_divide wsX8_stops := goodIn_r _ [8, 9, 10, 11, 12, 13, 14] rfl (by decide +kernel)
set_option maxRecDepth 20000 in
theorem gX8_divide_X8_stops : GoodIn wsX8_divide (wsV RX8 30 RX8 yX8_stops wsX8_stops) := goodIn_app (goodIn_of _ (by decide +kernel)) ggX8_divide_X8_stops
theorem dX8_divide_0 : decode cX8_divide 0 = .ok (.aload_n 0, 1) := by decide +kernel
theorem dX8_divide_1 : decode cX8_divide 1 = .ok (.iload_n 1, 1) := by decide +kernel
theorem dX8_divide_2 : decode cX8_divide 2 = .ok (.lload 4, 2) := by decide +kernel
theorem dX8_divide_4 : decode cX8_divide 4 = .ok (.invokestatic 135, 3) := by decide +kernel
theorem dX8_divide_7 : decode cX8_divide 7 = .ok (.invokevirtual 30, 3) := by decide +kernel
theorem dX8_divide_10 : decode cX8_divide 10 = .ok (.ifCond .eq 5, 3) := by decide +kernel
theorem dX8_divide_13 : decode cX8_divide 13 = .ok (.lconst 0, 1) := by decide +kernel
theorem dX8_divide_14 : decode cX8_divide 14 = .ok (.lreturn, 1) := by decide +kernel
theorem dX8_divide_15 : decode cX8_divide 15 = .ok (.iload_n 1, 1) := by decide +kernel
theorem dX8_divide_16 : decode cX8_divide 16 = .ok (.tableswitch 49 0 2 #[28, 36, 44], 28) := by decide +kernel
theorem dX8_divide_44 : decode cX8_divide 44 = .ok (.lload_n 2, 1) := by decide +kernel
theorem dX8_divide_45 : decode cX8_divide 45 = .ok (.l2i, 1) := by decide +kernel
theorem dX8_divide_46 : decode cX8_divide 46 = .ok (.lload 4, 2) := by decide +kernel
theorem dX8_divide_48 : decode cX8_divide 48 = .ok (.l2i, 1) := by decide +kernel
theorem dX8_divide_49 : decode cX8_divide 49 = .ok (.idiv, 1) := by decide +kernel
theorem dX8_divide_50 : decode cX8_divide 50 = .ok (.i2l, 1) := by decide +kernel
theorem dX8_divide_51 : decode cX8_divide 51 = .ok (.lreturn, 1) := by decide +kernel
theorem dX8_divide_52 : decode cX8_divide 52 = .ok (.lload_n 2, 1) := by decide +kernel
theorem dX8_divide_53 : decode cX8_divide 53 = .ok (.l2i, 1) := by decide +kernel
theorem dX8_divide_54 : decode cX8_divide 54 = .ok (.lload 4, 2) := by decide +kernel
theorem dX8_divide_56 : decode cX8_divide 56 = .ok (.l2i, 1) := by decide +kernel
theorem dX8_divide_57 : decode cX8_divide 57 = .ok (.irem, 1) := by decide +kernel
theorem dX8_divide_58 : decode cX8_divide 58 = .ok (.i2l, 1) := by decide +kernel
theorem dX8_divide_59 : decode cX8_divide 59 = .ok (.lreturn, 1) := by decide +kernel
theorem dX8_divide_60 : decode cX8_divide 60 = .ok (.lload_n 2, 1) := by decide +kernel
theorem dX8_divide_61 : decode cX8_divide 61 = .ok (.lload 4, 2) := by decide +kernel
theorem dX8_divide_63 : decode cX8_divide 63 = .ok (.ldiv, 1) := by decide +kernel
theorem dX8_divide_64 : decode cX8_divide 64 = .ok (.lreturn, 1) := by decide +kernel
theorem dX8_divide_65 : decode cX8_divide 65 = .ok (.lload_n 2, 1) := by decide +kernel
theorem dX8_divide_66 : decode cX8_divide 66 = .ok (.lload 4, 2) := by decide +kernel
theorem dX8_divide_68 : decode cX8_divide 68 = .ok (.lrem, 1) := by decide +kernel
theorem dX8_divide_69 : decode cX8_divide 69 = .ok (.lreturn, 1) := by decide +kernel
set_option maxRecDepth 20000 in
theorem ggX8_real_X8_stops : GoodIn wsX8_real wsX8_stops := goodIn_r _ [5, 6, 7, 112, 113, 114, 115] rfl (by decide +kernel)
set_option maxRecDepth 20000 in
theorem gX8_real_X8_stops : GoodIn wsX8_real (wsV RX8 30 RX8 yX8_stops wsX8_stops) := goodIn_app (goodIn_of _ (by decide +kernel)) ggX8_real_X8_stops
set_option maxRecDepth 20000 in
theorem ggX8_real_X3_sum : GoodIn wsX8_real wsX3_sum := goodIn_r _ [11, 12, 13, 14, 15, 16, 17, 18, 19, 20, 21, 22, 23, 24, 25, 26, 27, 28, 29, 30, 31, 32, 33, 34, 35, 36, 37, 38, 39, 10, 40, 41, 42, 43, 44, 45, 46, 47, 48, 49, 50, 51, 52, 53, 54, 55, 56, 57, 58, 59, 60, 61, 62, 63, 64, 65, 66, 67, 68, 69, 70] rfl (by decide +kernel)
set_option maxRecDepth 20000 in
theorem gX8_real_X3_sum : GoodIn wsX8_real (va_wsS RX8 139 yX3_sum wsX3_sum) := goodIn_app (goodIn_of _ (by decide +kernel)) ggX8_real_X3_sum
set_option maxRecDepth 20000 in
theorem ggX8_real_X3_difference : GoodIn wsX8_real wsX3_difference := goodIn_r _ [73, 74, 75, 9, 10, 11, 12, 13, 14, 15, 16, 17, 18, 19, 20, 21, 22, 23, 24, 25, 26, 27, 28, 29, 30, 31, 32, 33, 34, 35, 36, 37, 38, 39, 40, 41, 42, 43, 44, 45, 46, 47, 48, 49, 50, 51, 52, 53, 54, 55, 56, 57, 58, 59, 60, 61, 62, 63, 64, 65, 66, 67, 68, 69, 70] rfl (by decide +kernel)
set_option maxRecDepth 20000 in
theorem gX8_real_X3_difference : GoodIn wsX8_real (va_wsS RX8 145 yX3_difference wsX3_difference) := goodIn_app (goodIn_of _ (by decide +kernel)) ggX8_real_X3_difference
set_option maxRecDepth 20000 in
theorem ggX8_real_X3_product : GoodIn wsX8_real wsX3_product := goodIn_r _ [78, 12, 74, 79, 13, 14, 15, 16, 17, 18, 19, 20, 21, 22, 23, 24, 25, 26, 27, 28, 34, 35, 36, 37, 29, 30, 31, 32, 80, 81, 10, 82, 83, 57, 58, 59, 60, 50, 51, 52, 53, 54, 55, 56, 61, 62, 63, 41, 42, 43, 44, 45, 46, 47, 48, 49, 64, 65, 66, 67, 68, 69, 70] rfl (by decide +kernel)
set_option maxRecDepth 20000 in
theorem gX8_real_X3_product : GoodIn wsX8_real (va_wsS RX8 148 yX3_product wsX3_product) := goodIn_app (goodIn_of _ (by decide +kernel)) ggX8_real_X3_product
set_option maxRecDepth 20000 in
theorem ggX8_real_X3_quotient : GoodIn wsX8_real wsX3_quotient := goodIn_r _ [86, 12, 74, 79, 13, 14, 15, 16, 17, 18, 19, 20, 21, 22, 23, 24, 25, 26, 27, 28, 29, 30, 31, 32, 34, 35, 36, 37, 87, 88, 10, 89, 57, 58, 59, 60, 50, 51, 52, 53, 54, 55, 56, 41, 42, 43, 44, 45, 46, 47, 48, 49, 64, 65, 66, 67, 68, 69, 70] rfl (by decide +kernel)
set_option maxRecDepth 20000 in
theorem gX8_real_X3_quotient : GoodIn wsX8_real (va_wsS RX8 151 yX3_quotient wsX3_quotient) := goodIn_app (goodIn_of _ (by decide +kernel)) ggX8_real_X3_quotient
set_option maxRecDepth 20000 in
theorem ggX8_real_X3_remainder : GoodIn wsX8_real wsX3_remainder := goodIn_r _ [92, 12, 13, 14, 15, 16, 17, 18, 19, 20, 21, 22, 23, 29, 30, 31, 32, 34, 35, 36, 37, 24, 25, 26, 27, 28, 33, 93, 94, 10, 95, 96, 97, 48, 98, 57, 58, 59, 60, 50, 51, 52, 53, 54, 55, 56, 41, 42, 43, 44, 45, 46, 47, 49, 64, 65, 66, 67, 68, 69, 70] rfl (by decide +kernel)
set_option maxRecDepth 20000 in
theorem gX8_real_X3_remainder : GoodIn wsX8_real (va_wsS RX8 154 yX3_remainder wsX3_remainder) := goodIn_app (goodIn_of _ (by decide +kernel)) ggX8_real_X3_remainder
set_option maxRecDepth 20000 in
theorem ggX8_real_X3_greater : GoodIn wsX8_real wsX3_greater := goodIn_r _ [101, 12, 13, 14, 15, 16, 17, 18, 19, 20, 21, 22, 23, 24, 25, 26, 27, 28, 102, 103, 10, 104, 105, 33] rfl (by decide +kernel)
set_option maxRecDepth 20000 in
theorem gX8_real_X3_greater : GoodIn wsX8_real (va_wsS RX8 157 yX3_greater wsX3_greater) := goodIn_app (goodIn_of _ (by decide +kernel)) ggX8_real_X3_greater
set_option maxRecDepth 20000 in
theorem ggX8_real_X3_lesser : GoodIn wsX8_real wsX3_lesser := goodIn_r _ [108, 12, 13, 14, 15, 16, 17, 18, 19, 20, 21, 22, 23, 24, 25, 26, 27, 28, 102, 103, 10, 104, 105, 33] rfl (by decide +kernel)
set_option maxRecDepth 20000 in
theorem gX8_real_X3_lesser : GoodIn wsX8_real (va_wsS RX8 160 yX3_lesser wsX3_lesser) := goodIn_app (goodIn_of _ (by decide +kernel)) ggX8_real_X3_lesser
set_option maxRecDepth 20000 in
theorem ggX8_real_X3_withSignOf : GoodIn wsX8_real wsX3_withSignOf := goodIn_r _ [111, 12, 74, 13, 14, 15, 16, 17, 18, 19, 20, 21, 22, 23, 24, 25, 26, 27, 28, 33] rfl (by decide +kernel)
set_option maxRecDepth 20000 in
theorem gX8_real_X3_withSignOf : GoodIn wsX8_real (va_wsS RX8 163 yX3_withSignOf wsX3_withSignOf) := goodIn_app (goodIn_of _ (by decide +kernel)) ggX8_real_X3_withSignOf
theorem dX8_real_0 : decode cX8_real 0 = .ok (.aload_n 0, 1) := by decide +kernel
theorem dX8_real_1 : decode cX8_real 1 = .ok (.iload_n 1, 1) := by decide +kernel
theorem dX8_real_2 : decode cX8_real 2 = .ok (.ifCond .lt 9, 3) := by decide +kernel
theorem dX8_real_5 : decode cX8_real 5 = .ok (.iload_n 1, 1) := by decide +kernel
theorem dX8_real_6 : decode cX8_real 6 = .ok (.bipush 7, 2) := by decide +kernel
theorem dX8_real_8 : decode cX8_real 8 = .ok (.if_icmp .le 8, 3) := by decide +kernel
theorem dX8_real_11 : decode cX8_real 11 = .ok (.bipush 8, 2) := by decide +kernel
theorem dX8_real_13 : decode cX8_real 13 = .ok (.goto 4, 3) := by decide +kernel
theorem dX8_real_16 : decode cX8_real 16 = .ok (.iconst 0, 1) := by decide +kernel
theorem dX8_real_17 : decode cX8_real 17 = .ok (.invokevirtual 30, 3) := by decide +kernel
theorem dX8_real_20 : decode cX8_real 20 = .ok (.ifCond .eq 5, 3) := by decide +kernel
theorem dX8_real_23 : decode cX8_real 23 = .ok (.lconst 0, 1) := by decide +kernel
theorem dX8_real_24 : decode cX8_real 24 = .ok (.lreturn, 1) := by decide +kernel
theorem dX8_real_25 : decode cX8_real 25 = .ok (.iload_n 1, 1) := by decide +kernel
theorem dX8_real_26 : decode cX8_real 26 = .ok (.tableswitch 91 0 6 #[42, 49, 56, 63, 70, 77, 84], 42) := by decide +kernel
theorem dX8_real_68 : decode cX8_real 68 = .ok (.lload_n 2, 1) := by decide +kernel
theorem dX8_real_69 : decode cX8_real 69 = .ok (.lload 4, 2) := by decide +kernel
theorem dX8_real_71 : decode cX8_real 71 = .ok (.invokestatic 139, 3) := by decide +kernel
theorem dX8_real_74 : decode cX8_real 74 = .ok (.lreturn, 1) := by decide +kernel
theorem dX8_real_75 : decode cX8_real 75 = .ok (.lload_n 2, 1) := by decide +kernel
theorem dX8_real_76 : decode cX8_real 76 = .ok (.lload 4, 2) := by decide +kernel
theorem dX8_real_78 : decode cX8_real 78 = .ok (.invokestatic 145, 3) := by decide +kernel
theorem dX8_real_81 : decode cX8_real 81 = .ok (.lreturn, 1) := by decide +kernel
theorem dX8_real_82 : decode cX8_real 82 = .ok (.lload_n 2, 1) := by decide +kernel
theorem dX8_real_83 : decode cX8_real 83 = .ok (.lload 4, 2) := by decide +kernel
theorem dX8_real_85 : decode cX8_real 85 = .ok (.invokestatic 148, 3) := by decide +kernel
theorem dX8_real_88 : decode cX8_real 88 = .ok (.lreturn, 1) := by decide +kernel
theorem dX8_real_89 : decode cX8_real 89 = .ok (.lload_n 2, 1) := by decide +kernel
theorem dX8_real_90 : decode cX8_real 90 = .ok (.lload 4, 2) := by decide +kernel
theorem dX8_real_92 : decode cX8_real 92 = .ok (.invokestatic 151, 3) := by decide +kernel
theorem dX8_real_95 : decode cX8_real 95 = .ok (.lreturn, 1) := by decide +kernel
theorem dX8_real_96 : decode cX8_real 96 = .ok (.lload_n 2, 1) := by decide +kernel
theorem dX8_real_97 : decode cX8_real 97 = .ok (.lload 4, 2) := by decide +kernel
theorem dX8_real_99 : decode cX8_real 99 = .ok (.invokestatic 154, 3) := by decide +kernel
theorem dX8_real_102 : decode cX8_real 102 = .ok (.lreturn, 1) := by decide +kernel
theorem dX8_real_103 : decode cX8_real 103 = .ok (.lload_n 2, 1) := by decide +kernel
theorem dX8_real_104 : decode cX8_real 104 = .ok (.lload 4, 2) := by decide +kernel
theorem dX8_real_106 : decode cX8_real 106 = .ok (.invokestatic 157, 3) := by decide +kernel
theorem dX8_real_109 : decode cX8_real 109 = .ok (.lreturn, 1) := by decide +kernel
theorem dX8_real_110 : decode cX8_real 110 = .ok (.lload_n 2, 1) := by decide +kernel
theorem dX8_real_111 : decode cX8_real 111 = .ok (.lload 4, 2) := by decide +kernel
theorem dX8_real_113 : decode cX8_real 113 = .ok (.invokestatic 160, 3) := by decide +kernel
theorem dX8_real_116 : decode cX8_real 116 = .ok (.lreturn, 1) := by decide +kernel
theorem dX8_real_117 : decode cX8_real 117 = .ok (.lload_n 2, 1) := by decide +kernel
theorem dX8_real_118 : decode cX8_real 118 = .ok (.lload 4, 2) := by decide +kernel
theorem dX8_real_120 : decode cX8_real 120 = .ok (.invokestatic 163, 3) := by decide +kernel
theorem dX8_real_123 : decode cX8_real 123 = .ok (.lreturn, 1) := by decide +kernel
set_option maxRecDepth 20000 in
theorem ggX8_math_X8_stops : GoodIn wsX8_math wsX8_stops := goodIn_r _ [6, 7, 8, 94, 95, 96, 97] rfl (by decide +kernel)
set_option maxRecDepth 20000 in
theorem gX8_math_X8_stops : GoodIn wsX8_math (wsV RX8 30 RX8 yX8_stops wsX8_stops) := goodIn_app (goodIn_of _ (by decide +kernel)) ggX8_math_X8_stops
set_option maxRecDepth 20000 in
theorem ggX8_math_X3_power : GoodIn wsX8_math wsX3_power := goodIn_r _ [12, 13, 14, 15, 16, 17, 18, 19, 20] rfl (by decide +kernel)
set_option maxRecDepth 20000 in
theorem gX8_math_X3_power : GoodIn wsX8_math (va_wsS RX8 166 yX3_power wsX3_power) := goodIn_app (goodIn_of _ (by decide +kernel)) ggX8_math_X3_power
set_option maxRecDepth 20000 in
theorem ggX8_math_X0_isNaN : GoodIn wsX8_math wsX0_isNaN := goodIn_r _ [24, 25, 26, 16, 17, 18, 19, 20] rfl (by decide +kernel)
set_option maxRecDepth 20000 in
theorem gX8_math_X0_isNaN : GoodIn wsX8_math (wsV RX8 176 RX0 yX0_isNaN wsX0_isNaN) := goodIn_app (goodIn_of _ (by decide +kernel)) ggX8_math_X0_isNaN
set_option maxRecDepth 20000 in
theorem ggX8_math_X0_plainNaN : GoodIn wsX8_math wsX0_plainNaN := goodIn_r _ [30, 25, 31] rfl (by decide +kernel)
set_option maxRecDepth 20000 in
theorem gX8_math_X0_plainNaN : GoodIn wsX8_math (wsV RX8 180 RX0 yX0_plainNaN wsX0_plainNaN) := goodIn_app (goodIn_of _ (by decide +kernel)) ggX8_math_X0_plainNaN
set_option maxRecDepth 20000 in
theorem ggX8_math_X3_mathOfNumber : GoodIn wsX8_math wsX3_mathOfNumber := goodIn_r _ [34, 35, 13, 36, 37, 38, 11, 39, 14, 40, 41, 42, 10, 12, 15, 16, 17, 18, 19, 20, 43, 44, 45, 46, 26, 47, 48, 49, 50, 51, 52, 53, 31, 54, 55, 56, 57, 58, 59, 60, 61, 62, 63, 64, 65, 66, 67, 68, 69, 70, 71, 72, 73, 74, 75, 76, 25, 77, 78, 79, 80, 81, 82, 83, 84, 85, 86, 87, 88, 89, 90, 91, 92, 93] rfl (by decide +kernel)
set_option maxRecDepth 20000 in
theorem gX8_math_X3_mathOfNumber : GoodIn wsX8_math (va_wsS RX8 184 yX3_mathOfNumber wsX3_mathOfNumber) := goodIn_app (goodIn_of _ (by decide +kernel)) ggX8_math_X3_mathOfNumber
theorem dX8_math_0 : decode cX8_math 0 = .ok (.aload_n 0, 1) := by decide +kernel
theorem dX8_math_1 : decode cX8_math 1 = .ok (.iload_n 1, 1) := by decide +kernel
theorem dX8_math_2 : decode cX8_math 2 = .ok (.ifCond .lt 9, 3) := by decide +kernel
theorem dX8_math_5 : decode cX8_math 5 = .ok (.iload_n 1, 1) := by decide +kernel
theorem dX8_math_6 : decode cX8_math 6 = .ok (.bipush 9, 2) := by decide +kernel
theorem dX8_math_8 : decode cX8_math 8 = .ok (.if_icmp .le 8, 3) := by decide +kernel
theorem dX8_math_11 : decode cX8_math 11 = .ok (.bipush 8, 2) := by decide +kernel
theorem dX8_math_13 : decode cX8_math 13 = .ok (.goto 4, 3) := by decide +kernel
theorem dX8_math_16 : decode cX8_math 16 = .ok (.iconst 0, 1) := by decide +kernel
theorem dX8_math_17 : decode cX8_math 17 = .ok (.invokevirtual 30, 3) := by decide +kernel
theorem dX8_math_20 : decode cX8_math 20 = .ok (.ifCond .eq 5, 3) := by decide +kernel
theorem dX8_math_23 : decode cX8_math 23 = .ok (.lconst 0, 1) := by decide +kernel
theorem dX8_math_24 : decode cX8_math 24 = .ok (.lreturn, 1) := by decide +kernel
theorem dX8_math_25 : decode cX8_math 25 = .ok (.iload_n 1, 1) := by decide +kernel
theorem dX8_math_26 : decode cX8_math 26 = .ok (.bipush 9, 2) := by decide +kernel
theorem dX8_math_28 : decode cX8_math 28 = .ok (.if_icmp .ne 9, 3) := by decide +kernel
theorem dX8_math_31 : decode cX8_math 31 = .ok (.lload_n 2, 1) := by decide +kernel
theorem dX8_math_32 : decode cX8_math 32 = .ok (.invokestatic 166, 3) := by decide +kernel
theorem dX8_math_35 : decode cX8_math 35 = .ok (.i2l, 1) := by decide +kernel
theorem dX8_math_36 : decode cX8_math 36 = .ok (.lreturn, 1) := by decide +kernel
theorem dX8_math_37 : decode cX8_math 37 = .ok (.getstatic 170, 3) := by decide +kernel
theorem dX8_math_40 : decode cX8_math 40 = .ok (.lload_n 2, 1) := by decide +kernel
theorem dX8_math_41 : decode cX8_math 41 = .ok (.invokevirtual 176, 3) := by decide +kernel
theorem dX8_math_44 : decode cX8_math 44 = .ok (.ifCond .eq 12, 3) := by decide +kernel
theorem dX8_math_47 : decode cX8_math 47 = .ok (.getstatic 170, 3) := by decide +kernel
theorem dX8_math_50 : decode cX8_math 50 = .ok (.invokevirtual 180, 3) := by decide +kernel
theorem dX8_math_53 : decode cX8_math 53 = .ok (.goto 8, 3) := by decide +kernel
theorem dX8_math_56 : decode cX8_math 56 = .ok (.iload_n 1, 1) := by decide +kernel
theorem dX8_math_57 : decode cX8_math 57 = .ok (.lload_n 2, 1) := by decide +kernel
theorem dX8_math_58 : decode cX8_math 58 = .ok (.invokestatic 184, 3) := by decide +kernel
theorem dX8_math_61 : decode cX8_math 61 = .ok (.lreturn, 1) := by decide +kernel
set_option maxRecDepth 20000 in
theorem ggX8_narrow_X8_stops : GoodIn wsX8_narrow wsX8_stops := goodIn_r _ [7, 8, 9, 93, 94, 95, 96] rfl (by decide +kernel)
set_option maxRecDepth 20000 in
theorem gX8_narrow_X8_stops : GoodIn wsX8_narrow (wsV RX8 30 RX8 yX8_stops wsX8_stops) := goodIn_app (goodIn_of _ (by decide +kernel)) ggX8_narrow_X8_stops
set_option maxRecDepth 20000 in
theorem ggX8_narrow_X3_toInt : GoodIn wsX8_narrow wsX3_toInt := goodIn_r _ [13, 14, 15, 16, 17, 18, 19, 20, 21, 22, 23, 24, 12, 25, 26, 27, 28, 29, 30, 31, 32, 33, 34, 35, 36, 37, 38, 39, 40, 41, 42, 43, 44, 45, 46, 47, 48, 49, 50, 51, 52, 53, 54, 55, 56, 57, 58, 59, 60, 61, 62, 63, 64, 65, 66, 67] rfl (by decide +kernel)
set_option maxRecDepth 20000 in
theorem gX8_narrow_X3_toInt : GoodIn wsX8_narrow (va_wsS RX8 187 yX3_toInt wsX3_toInt) := goodIn_app (goodIn_of _ (by decide +kernel)) ggX8_narrow_X3_toInt
set_option maxRecDepth 20000 in
theorem ggX8_narrow_X3_toLong : GoodIn wsX8_narrow wsX3_toLong := goodIn_r _ [25, 26, 27, 28, 29, 30, 17, 31, 32, 33, 34, 35, 36, 37, 38, 39, 40, 41, 42, 43, 44, 12, 45, 46, 47, 48, 49, 50, 51, 52, 53, 54, 55, 56, 57, 58, 59, 60, 61, 62, 63, 64, 65, 66, 67] rfl (by decide +kernel)
set_option maxRecDepth 20000 in
theorem gX8_narrow_X3_toLong : GoodIn wsX8_narrow (va_wsS RX8 190 yX3_toLong wsX3_toLong) := goodIn_app (goodIn_of _ (by decide +kernel)) ggX8_narrow_X3_toLong
set_option maxRecDepth 20000 in
theorem ggX8_narrow_X3_converted : GoodIn wsX8_narrow wsX3_converted := goodIn_r _ [71, 72, 73, 32, 33, 34, 35, 36, 37, 38, 39, 40, 41, 42, 74, 75, 76, 77, 52, 78, 79, 80, 81, 82, 83, 84, 85, 48, 49, 50, 51, 53, 54, 55, 17, 56, 57, 58, 59, 60, 61, 62, 63, 64, 65, 66, 67, 86, 87, 88, 89, 90, 91, 92] rfl (by decide +kernel)
set_option maxRecDepth 20000 in
theorem gX8_narrow_X3_converted : GoodIn wsX8_narrow (va_wsS RX8 197 yX3_converted wsX3_converted) := goodIn_app (goodIn_of _ (by decide +kernel)) ggX8_narrow_X3_converted
theorem dX8_narrow_0 : decode cX8_narrow 0 = .ok (.aload_n 0, 1) := by decide +kernel
theorem dX8_narrow_1 : decode cX8_narrow 1 = .ok (.iload_n 1, 1) := by decide +kernel
theorem dX8_narrow_2 : decode cX8_narrow 2 = .ok (.ifCond .lt 8, 3) := by decide +kernel
theorem dX8_narrow_5 : decode cX8_narrow 5 = .ok (.iload_n 1, 1) := by decide +kernel
theorem dX8_narrow_6 : decode cX8_narrow 6 = .ok (.iconst 5, 1) := by decide +kernel
theorem dX8_narrow_7 : decode cX8_narrow 7 = .ok (.if_icmp .le 8, 3) := by decide +kernel
theorem dX8_narrow_10 : decode cX8_narrow 10 = .ok (.bipush 8, 2) := by decide +kernel
theorem dX8_narrow_12 : decode cX8_narrow 12 = .ok (.goto 4, 3) := by decide +kernel
theorem dX8_narrow_15 : decode cX8_narrow 15 = .ok (.iconst 0, 1) := by decide +kernel
theorem dX8_narrow_16 : decode cX8_narrow 16 = .ok (.invokevirtual 30, 3) := by decide +kernel
theorem dX8_narrow_19 : decode cX8_narrow 19 = .ok (.ifCond .eq 5, 3) := by decide +kernel
theorem dX8_narrow_22 : decode cX8_narrow 22 = .ok (.lconst 0, 1) := by decide +kernel
theorem dX8_narrow_23 : decode cX8_narrow 23 = .ok (.lreturn, 1) := by decide +kernel
theorem dX8_narrow_24 : decode cX8_narrow 24 = .ok (.iload_n 1, 1) := by decide +kernel
theorem dX8_narrow_25 : decode cX8_narrow 25 = .ok (.tableswitch 73 0 4 #[35, 41, 46, 59, 66], 35) := by decide +kernel
theorem dX8_narrow_60 : decode cX8_narrow 60 = .ok (.lload_n 2, 1) := by decide +kernel
theorem dX8_narrow_61 : decode cX8_narrow 61 = .ok (.invokestatic 187, 3) := by decide +kernel
theorem dX8_narrow_64 : decode cX8_narrow 64 = .ok (.i2l, 1) := by decide +kernel
theorem dX8_narrow_65 : decode cX8_narrow 65 = .ok (.lreturn, 1) := by decide +kernel
theorem dX8_narrow_66 : decode cX8_narrow 66 = .ok (.lload_n 2, 1) := by decide +kernel
theorem dX8_narrow_67 : decode cX8_narrow 67 = .ok (.invokestatic 190, 3) := by decide +kernel
theorem dX8_narrow_70 : decode cX8_narrow 70 = .ok (.lreturn, 1) := by decide +kernel
theorem dX8_narrow_71 : decode cX8_narrow 71 = .ok (.getstatic 170, 3) := by decide +kernel
theorem dX8_narrow_74 : decode cX8_narrow 74 = .ok (.getstatic 194, 3) := by decide +kernel
theorem dX8_narrow_77 : decode cX8_narrow 77 = .ok (.lload_n 2, 1) := by decide +kernel
theorem dX8_narrow_78 : decode cX8_narrow 78 = .ok (.invokestatic 197, 3) := by decide +kernel
theorem dX8_narrow_81 : decode cX8_narrow 81 = .ok (.l2i, 1) := by decide +kernel
theorem dX8_narrow_82 : decode cX8_narrow 82 = .ok (.i2l, 1) := by decide +kernel
theorem dX8_narrow_83 : decode cX8_narrow 83 = .ok (.lreturn, 1) := by decide +kernel
theorem dX8_narrow_84 : decode cX8_narrow 84 = .ok (.lload_n 2, 1) := by decide +kernel
theorem dX8_narrow_85 : decode cX8_narrow 85 = .ok (.invokestatic 187, 3) := by decide +kernel
theorem dX8_narrow_88 : decode cX8_narrow 88 = .ok (.i2b, 1) := by decide +kernel
theorem dX8_narrow_89 : decode cX8_narrow 89 = .ok (.i2l, 1) := by decide +kernel
theorem dX8_narrow_90 : decode cX8_narrow 90 = .ok (.lreturn, 1) := by decide +kernel
theorem dX8_narrow_91 : decode cX8_narrow 91 = .ok (.lload_n 2, 1) := by decide +kernel
theorem dX8_narrow_92 : decode cX8_narrow 92 = .ok (.invokestatic 187, 3) := by decide +kernel
theorem dX8_narrow_95 : decode cX8_narrow 95 = .ok (.i2c, 1) := by decide +kernel
theorem dX8_narrow_96 : decode cX8_narrow 96 = .ok (.i2l, 1) := by decide +kernel
theorem dX8_narrow_97 : decode cX8_narrow 97 = .ok (.lreturn, 1) := by decide +kernel
theorem dX8_narrow_98 : decode cX8_narrow 98 = .ok (.lload_n 2, 1) := by decide +kernel
theorem dX8_narrow_99 : decode cX8_narrow 99 = .ok (.invokestatic 187, 3) := by decide +kernel
theorem dX8_narrow_102 : decode cX8_narrow 102 = .ok (.i2s, 1) := by decide +kernel
theorem dX8_narrow_103 : decode cX8_narrow 103 = .ok (.i2l, 1) := by decide +kernel
theorem dX8_narrow_104 : decode cX8_narrow 104 = .ok (.lreturn, 1) := by decide +kernel
set_option maxRecDepth 20000 in
theorem ggX8_widen_X8_stops : GoodIn wsX8_widen wsX8_stops := goodIn_r _ [7, 8, 9, 75, 76, 77, 78] rfl (by decide +kernel)
set_option maxRecDepth 20000 in
theorem gX8_widen_X8_stops : GoodIn wsX8_widen (wsV RX8 30 RX8 yX8_stops wsX8_stops) := goodIn_app (goodIn_of _ (by decide +kernel)) ggX8_widen_X8_stops
set_option maxRecDepth 20000 in
theorem ggX8_widen_X3_fromLong : GoodIn wsX8_widen wsX3_fromLong := goodIn_r _ [13, 14, 15, 16, 17, 18, 19, 20, 21, 22, 23, 24, 25, 26, 27, 28, 29, 30, 31, 32, 33, 34, 35, 36, 37] rfl (by decide +kernel)
set_option maxRecDepth 20000 in
theorem gX8_widen_X3_fromLong : GoodIn wsX8_widen (va_wsS RX8 201 yX3_fromLong wsX3_fromLong) := goodIn_app (goodIn_of _ (by decide +kernel)) ggX8_widen_X3_fromLong
set_option maxRecDepth 20000 in
theorem ggX8_widen_X3_converted : GoodIn wsX8_widen wsX3_converted := goodIn_r _ [40, 41, 42, 43, 44, 45, 23, 46, 31, 47, 48, 49, 50, 25, 51, 52, 53, 54, 26, 55, 56, 57, 58, 59, 60, 61, 62, 63, 64, 65, 66, 27, 28, 29, 18, 30, 67, 68, 69, 70, 32, 33, 34, 71, 72, 73, 74, 20, 21, 22, 24, 35, 36, 37] rfl (by decide +kernel)
set_option maxRecDepth 20000 in
theorem gX8_widen_X3_converted : GoodIn wsX8_widen (va_wsS RX8 197 yX3_converted wsX3_converted) := goodIn_app (goodIn_of _ (by decide +kernel)) ggX8_widen_X3_converted
theorem dX8_widen_0 : decode cX8_widen 0 = .ok (.aload_n 0, 1) := by decide +kernel
theorem dX8_widen_1 : decode cX8_widen 1 = .ok (.iload_n 1, 1) := by decide +kernel
theorem dX8_widen_2 : decode cX8_widen 2 = .ok (.ifCond .lt 8, 3) := by decide +kernel
theorem dX8_widen_5 : decode cX8_widen 5 = .ok (.iload_n 1, 1) := by decide +kernel
theorem dX8_widen_6 : decode cX8_widen 6 = .ok (.iconst 3, 1) := by decide +kernel
theorem dX8_widen_7 : decode cX8_widen 7 = .ok (.if_icmp .le 8, 3) := by decide +kernel
theorem dX8_widen_10 : decode cX8_widen 10 = .ok (.bipush 8, 2) := by decide +kernel
theorem dX8_widen_12 : decode cX8_widen 12 = .ok (.goto 4, 3) := by decide +kernel
theorem dX8_widen_15 : decode cX8_widen 15 = .ok (.iconst 0, 1) := by decide +kernel
theorem dX8_widen_16 : decode cX8_widen 16 = .ok (.invokevirtual 30, 3) := by decide +kernel
theorem dX8_widen_19 : decode cX8_widen 19 = .ok (.ifCond .eq 5, 3) := by decide +kernel
theorem dX8_widen_22 : decode cX8_widen 22 = .ok (.lconst 0, 1) := by decide +kernel
theorem dX8_widen_23 : decode cX8_widen 23 = .ok (.lreturn, 1) := by decide +kernel
theorem dX8_widen_24 : decode cX8_widen 24 = .ok (.iload_n 1, 1) := by decide +kernel
theorem dX8_widen_25 : decode cX8_widen 25 = .ok (.tableswitch 56 0 2 #[27, 35, 45], 27) := by decide +kernel
theorem dX8_widen_52 : decode cX8_widen 52 = .ok (.getstatic 170, 3) := by decide +kernel
theorem dX8_widen_55 : decode cX8_widen 55 = .ok (.lload_n 2, 1) := by decide +kernel
theorem dX8_widen_56 : decode cX8_widen 56 = .ok (.invokestatic 201, 3) := by decide +kernel
theorem dX8_widen_59 : decode cX8_widen 59 = .ok (.lreturn, 1) := by decide +kernel
theorem dX8_widen_60 : decode cX8_widen 60 = .ok (.getstatic 194, 3) := by decide +kernel
theorem dX8_widen_63 : decode cX8_widen 63 = .ok (.lload_n 2, 1) := by decide +kernel
theorem dX8_widen_64 : decode cX8_widen 64 = .ok (.invokestatic 201, 3) := by decide +kernel
theorem dX8_widen_67 : decode cX8_widen 67 = .ok (.l2i, 1) := by decide +kernel
theorem dX8_widen_68 : decode cX8_widen 68 = .ok (.i2l, 1) := by decide +kernel
theorem dX8_widen_69 : decode cX8_widen 69 = .ok (.lreturn, 1) := by decide +kernel
theorem dX8_widen_70 : decode cX8_widen 70 = .ok (.getstatic 194, 3) := by decide +kernel
theorem dX8_widen_73 : decode cX8_widen 73 = .ok (.getstatic 170, 3) := by decide +kernel
theorem dX8_widen_76 : decode cX8_widen 76 = .ok (.lload_n 2, 1) := by decide +kernel
theorem dX8_widen_77 : decode cX8_widen 77 = .ok (.invokestatic 197, 3) := by decide +kernel
theorem dX8_widen_80 : decode cX8_widen 80 = .ok (.lreturn, 1) := by decide +kernel
theorem dX8_widen_81 : decode cX8_widen 81 = .ok (.getstatic 194, 3) := by decide +kernel
theorem dX8_widen_84 : decode cX8_widen 84 = .ok (.lload_n 2, 1) := by decide +kernel
theorem dX8_widen_85 : decode cX8_widen 85 = .ok (.l2i, 1) := by decide +kernel
theorem dX8_widen_86 : decode cX8_widen 86 = .ok (.i2l, 1) := by decide +kernel
theorem dX8_widen_87 : decode cX8_widen 87 = .ok (.invokestatic 201, 3) := by decide +kernel
theorem dX8_widen_90 : decode cX8_widen 90 = .ok (.l2i, 1) := by decide +kernel
theorem dX8_widen_91 : decode cX8_widen 91 = .ok (.i2l, 1) := by decide +kernel
theorem dX8_widen_92 : decode cX8_widen 92 = .ok (.lreturn, 1) := by decide +kernel
set_option maxRecDepth 20000 in
theorem ggX8_compare_X8_stops : GoodIn wsX8_compare wsX8_stops := goodIn_r _ [7, 8, 9, 75, 76, 77, 78] rfl (by decide +kernel)
set_option maxRecDepth 20000 in
theorem gX8_compare_X8_stops : GoodIn wsX8_compare (wsV RX8 30 RX8 yX8_stops wsX8_stops) := goodIn_app (goodIn_of _ (by decide +kernel)) ggX8_compare_X8_stops
set_option maxRecDepth 20000 in
theorem ggX8_compare_X3_isTrue : GoodIn wsX8_compare wsX3_isTrue := goodIn_r _ [13, 14, 15, 16, 17, 18, 19, 20, 21, 22, 23, 24, 25, 26, 27, 12, 28, 29] rfl (by decide +kernel)
set_option maxRecDepth 20000 in
theorem gX8_compare_X3_isTrue : GoodIn wsX8_compare (va_wsS RX8 205 yX3_isTrue wsX3_isTrue) := goodIn_app (goodIn_of _ (by decide +kernel)) ggX8_compare_X3_isTrue
set_option maxRecDepth 20000 in
theorem ggX8_compare_X3_converted : GoodIn wsX8_compare wsX3_converted := goodIn_r _ [32, 33, 34, 15, 16, 17, 18, 19, 20, 21, 22, 23, 24, 25, 35, 36, 37, 38, 39, 40, 41, 42, 43, 44, 45, 46, 47, 48, 49, 50, 51, 52, 53, 54, 55, 56, 57, 58, 59, 60, 61, 62, 63, 64, 65, 66, 67, 68, 69, 70, 71, 72, 73, 74] rfl (by decide +kernel)
set_option maxRecDepth 20000 in
theorem gX8_compare_X3_converted : GoodIn wsX8_compare (va_wsS RX8 197 yX3_converted wsX3_converted) := goodIn_app (goodIn_of _ (by decide +kernel)) ggX8_compare_X3_converted
theorem dX8_compare_0 : decode cX8_compare 0 = .ok (.aload_n 0, 1) := by decide +kernel
theorem dX8_compare_1 : decode cX8_compare 1 = .ok (.iload_n 1, 1) := by decide +kernel
theorem dX8_compare_2 : decode cX8_compare 2 = .ok (.ifCond .lt 9, 3) := by decide +kernel
theorem dX8_compare_5 : decode cX8_compare 5 = .ok (.iload_n 1, 1) := by decide +kernel
theorem dX8_compare_6 : decode cX8_compare 6 = .ok (.bipush 11, 2) := by decide +kernel
theorem dX8_compare_8 : decode cX8_compare 8 = .ok (.if_icmp .le 8, 3) := by decide +kernel
theorem dX8_compare_11 : decode cX8_compare 11 = .ok (.bipush 8, 2) := by decide +kernel
theorem dX8_compare_13 : decode cX8_compare 13 = .ok (.goto 4, 3) := by decide +kernel
theorem dX8_compare_16 : decode cX8_compare 16 = .ok (.iconst 0, 1) := by decide +kernel
theorem dX8_compare_17 : decode cX8_compare 17 = .ok (.invokevirtual 30, 3) := by decide +kernel
theorem dX8_compare_20 : decode cX8_compare 20 = .ok (.ifCond .eq 5, 3) := by decide +kernel
theorem dX8_compare_23 : decode cX8_compare 23 = .ok (.iconst 0, 1) := by decide +kernel
theorem dX8_compare_24 : decode cX8_compare 24 = .ok (.ireturn, 1) := by decide +kernel
theorem dX8_compare_25 : decode cX8_compare 25 = .ok (.iload_n 1, 1) := by decide +kernel
theorem dX8_compare_26 : decode cX8_compare 26 = .ok (.bipush 6, 2) := by decide +kernel
theorem dX8_compare_28 : decode cX8_compare 28 = .ok (.if_icmp .ge 19, 3) := by decide +kernel
theorem dX8_compare_31 : decode cX8_compare 31 = .ok (.iload_n 1, 1) := by decide +kernel
theorem dX8_compare_32 : decode cX8_compare 32 = .ok (.lload_n 2, 1) := by decide +kernel
theorem dX8_compare_33 : decode cX8_compare 33 = .ok (.lload 4, 2) := by decide +kernel
theorem dX8_compare_35 : decode cX8_compare 35 = .ok (.invokestatic 205, 3) := by decide +kernel
theorem dX8_compare_38 : decode cX8_compare 38 = .ok (.ifCond .eq 7, 3) := by decide +kernel
theorem dX8_compare_41 : decode cX8_compare 41 = .ok (.iconst 1, 1) := by decide +kernel
theorem dX8_compare_42 : decode cX8_compare 42 = .ok (.goto 4, 3) := by decide +kernel
theorem dX8_compare_45 : decode cX8_compare 45 = .ok (.iconst 0, 1) := by decide +kernel
theorem dX8_compare_46 : decode cX8_compare 46 = .ok (.ireturn, 1) := by decide +kernel
theorem dX8_compare_47 : decode cX8_compare 47 = .ok (.getstatic 194, 3) := by decide +kernel
theorem dX8_compare_50 : decode cX8_compare 50 = .ok (.getstatic 170, 3) := by decide +kernel
theorem dX8_compare_53 : decode cX8_compare 53 = .ok (.lload_n 2, 1) := by decide +kernel
theorem dX8_compare_54 : decode cX8_compare 54 = .ok (.invokestatic 197, 3) := by decide +kernel
theorem dX8_compare_57 : decode cX8_compare 57 = .ok (.lstore 6, 2) := by decide +kernel
theorem dX8_compare_59 : decode cX8_compare 59 = .ok (.getstatic 194, 3) := by decide +kernel
theorem dX8_compare_62 : decode cX8_compare 62 = .ok (.getstatic 170, 3) := by decide +kernel
theorem dX8_compare_65 : decode cX8_compare 65 = .ok (.lload 4, 2) := by decide +kernel
theorem dX8_compare_67 : decode cX8_compare 67 = .ok (.invokestatic 197, 3) := by decide +kernel
theorem dX8_compare_70 : decode cX8_compare 70 = .ok (.lstore 8, 2) := by decide +kernel
theorem dX8_compare_72 : decode cX8_compare 72 = .ok (.iload_n 1, 1) := by decide +kernel
theorem dX8_compare_73 : decode cX8_compare 73 = .ok (.bipush 6, 2) := by decide +kernel
theorem dX8_compare_75 : decode cX8_compare 75 = .ok (.isub, 1) := by decide +kernel
theorem dX8_compare_76 : decode cX8_compare 76 = .ok (.lload 6, 2) := by decide +kernel
theorem dX8_compare_78 : decode cX8_compare 78 = .ok (.lload 8, 2) := by decide +kernel
theorem dX8_compare_80 : decode cX8_compare 80 = .ok (.invokestatic 205, 3) := by decide +kernel
theorem dX8_compare_83 : decode cX8_compare 83 = .ok (.ifCond .eq 7, 3) := by decide +kernel
theorem dX8_compare_86 : decode cX8_compare 86 = .ok (.iconst 1, 1) := by decide +kernel
theorem dX8_compare_87 : decode cX8_compare 87 = .ok (.goto 4, 3) := by decide +kernel
theorem dX8_compare_90 : decode cX8_compare 90 = .ok (.iconst 0, 1) := by decide +kernel
theorem dX8_compare_91 : decode cX8_compare 91 = .ok (.ireturn, 1) := by decide +kernel
set_option maxRecDepth 20000 in
theorem ggX8_pass_X8_isNumberType : GoodIn wsX8_pass wsX8_isNumberType := goodIn_r _ [8] rfl (by decide +kernel)
set_option maxRecDepth 20000 in
theorem gX8_pass_X8_isNumberType : GoodIn wsX8_pass (va_wsS RX8 70 yX8_isNumberType wsX8_isNumberType) := goodIn_app (goodIn_of _ (by decide +kernel)) ggX8_pass_X8_isNumberType
set_option maxRecDepth 20000 in
theorem ggX8_pass_X8_isCell : GoodIn wsX8_pass wsX8_isCell := goodIn_r _ [11] rfl (by decide +kernel)
set_option maxRecDepth 20000 in
theorem gX8_pass_X8_isCell : GoodIn wsX8_pass (va_wsS RX8 38 yX8_isCell wsX8_isCell) := goodIn_app (goodIn_of _ (by decide +kernel)) ggX8_pass_X8_isCell
set_option maxRecDepth 20000 in
theorem ggX8_pass_X8_stops : GoodIn wsX8_pass wsX8_stops := goodIn_r _ [15, 16, 17, 59, 60, 61, 62] rfl (by decide +kernel)
set_option maxRecDepth 20000 in
theorem gX8_pass_X8_stops : GoodIn wsX8_pass (wsV RX8 30 RX8 yX8_stops wsX8_stops) := goodIn_app (goodIn_of _ (by decide +kernel)) ggX8_pass_X8_stops
set_option maxRecDepth 20000 in
theorem ggX8_pass_X8_elementCause : GoodIn wsX8_pass wsX8_elementCause := goodIn_r _ [20, 21, 22, 7, 23, 24, 25, 26, 27, 28, 29, 30, 31, 32, 33, 34, 35, 36, 37, 38, 39, 40, 41, 42, 43, 44, 45, 46, 47, 63, 64, 65, 66, 67, 68, 69, 70, 71, 72, 73, 74, 75, 76, 77] rfl (by decide +kernel)
set_option maxRecDepth 20000 in
theorem gX8_pass_X8_elementCause : GoodIn wsX8_pass (va_wsS RX8 73 yX8_elementCause wsX8_elementCause) := goodIn_app (goodIn_of _ (by decide +kernel)) ggX8_pass_X8_elementCause
set_option maxRecDepth 20000 in
theorem ggX8_pass_X8_traceOf : GoodIn wsX8_pass wsX8_traceOf := goodIn_r _ [50] rfl (by decide +kernel)
set_option maxRecDepth 20000 in
theorem gX8_pass_X8_traceOf : GoodIn wsX8_pass (va_wsS RX8 209 yX8_traceOf wsX8_traceOf) := goodIn_app (goodIn_of _ (by decide +kernel)) ggX8_pass_X8_traceOf
set_option maxRecDepth 20000 in
theorem ggX8_pass_X8_numberAt : GoodIn wsX8_pass wsX8_numberAt := goodIn_r _ [53, 54, 55, 56, 57, 58, 41, 31, 42, 43, 63, 64, 65, 66, 67, 68, 69, 70, 71, 72, 73, 74, 75, 76, 77] rfl (by decide +kernel)
set_option maxRecDepth 20000 in
theorem gX8_pass_X8_numberAt : GoodIn wsX8_pass (va_wsS RX8 77 yX8_numberAt wsX8_numberAt) := goodIn_app (goodIn_of _ (by decide +kernel)) ggX8_pass_X8_numberAt
theorem dX8_pass_0 : decode cX8_pass 0 = .ok (.iload_n 1, 1) := by decide +kernel
theorem dX8_pass_1 : decode cX8_pass 1 = .ok (.invokestatic 70, 3) := by decide +kernel
theorem dX8_pass_4 : decode cX8_pass 4 = .ok (.ifCond .eq 10, 3) := by decide +kernel
theorem dX8_pass_7 : decode cX8_pass 7 = .ok (.iload_n 2, 1) := by decide +kernel
theorem dX8_pass_8 : decode cX8_pass 8 = .ok (.invokestatic 38, 3) := by decide +kernel
theorem dX8_pass_11 : decode cX8_pass 11 = .ok (.ifCond .ne 12, 3) := by decide +kernel
theorem dX8_pass_14 : decode cX8_pass 14 = .ok (.aload_n 0, 1) := by decide +kernel
theorem dX8_pass_15 : decode cX8_pass 15 = .ok (.bipush 8, 2) := by decide +kernel
theorem dX8_pass_17 : decode cX8_pass 17 = .ok (.invokevirtual 30, 3) := by decide +kernel
theorem dX8_pass_20 : decode cX8_pass 20 = .ok (.pop, 1) := by decide +kernel
theorem dX8_pass_21 : decode cX8_pass 21 = .ok (.lconst 0, 1) := by decide +kernel
theorem dX8_pass_22 : decode cX8_pass 22 = .ok (.lreturn, 1) := by decide +kernel
theorem dX8_pass_23 : decode cX8_pass 23 = .ok (.iload_n 1, 1) := by decide +kernel
theorem dX8_pass_24 : decode cX8_pass 24 = .ok (.aload_n 0, 1) := by decide +kernel
theorem dX8_pass_25 : decode cX8_pass 25 = .ok (.getfield 11, 3) := by decide +kernel
theorem dX8_pass_28 : decode cX8_pass 28 = .ok (.iload_n 2, 1) := by decide +kernel
theorem dX8_pass_29 : decode cX8_pass 29 = .ok (.aaload, 1) := by decide +kernel
theorem dX8_pass_30 : decode cX8_pass 30 = .ok (.iload_n 3, 1) := by decide +kernel
theorem dX8_pass_31 : decode cX8_pass 31 = .ok (.invokestatic 73, 3) := by decide +kernel
theorem dX8_pass_34 : decode cX8_pass 34 = .ok (.istore 4, 2) := by decide +kernel
theorem dX8_pass_36 : decode cX8_pass 36 = .ok (.aload_n 0, 1) := by decide +kernel
theorem dX8_pass_37 : decode cX8_pass 37 = .ok (.iload 4, 2) := by decide +kernel
theorem dX8_pass_39 : decode cX8_pass 39 = .ok (.invokestatic 209, 3) := by decide +kernel
theorem dX8_pass_42 : decode cX8_pass 42 = .ok (.putfield 23, 3) := by decide +kernel
theorem dX8_pass_45 : decode cX8_pass 45 = .ok (.iload 4, 2) := by decide +kernel
theorem dX8_pass_47 : decode cX8_pass 47 = .ok (.iconst 4, 1) := by decide +kernel
theorem dX8_pass_48 : decode cX8_pass 48 = .ok (.if_icmp .eq 9, 3) := by decide +kernel
theorem dX8_pass_51 : decode cX8_pass 51 = .ok (.iload 4, 2) := by decide +kernel
theorem dX8_pass_53 : decode cX8_pass 53 = .ok (.iconst 2, 1) := by decide +kernel
theorem dX8_pass_54 : decode cX8_pass 54 = .ok (.if_icmp .ne 7, 3) := by decide +kernel
theorem dX8_pass_57 : decode cX8_pass 57 = .ok (.iconst 1, 1) := by decide +kernel
theorem dX8_pass_58 : decode cX8_pass 58 = .ok (.goto 4, 3) := by decide +kernel
theorem dX8_pass_61 : decode cX8_pass 61 = .ok (.iconst 0, 1) := by decide +kernel
theorem dX8_pass_62 : decode cX8_pass 62 = .ok (.istore 5, 2) := by decide +kernel
theorem dX8_pass_64 : decode cX8_pass 64 = .ok (.aload_n 0, 1) := by decide +kernel
theorem dX8_pass_65 : decode cX8_pass 65 = .ok (.iload 5, 2) := by decide +kernel
theorem dX8_pass_67 : decode cX8_pass 67 = .ok (.ifCond .eq 7, 3) := by decide +kernel
theorem dX8_pass_70 : decode cX8_pass 70 = .ok (.iconst 0, 1) := by decide +kernel
theorem dX8_pass_71 : decode cX8_pass 71 = .ok (.goto 5, 3) := by decide +kernel
theorem dX8_pass_74 : decode cX8_pass 74 = .ok (.iload 4, 2) := by decide +kernel
theorem dX8_pass_76 : decode cX8_pass 76 = .ok (.invokevirtual 30, 3) := by decide +kernel
theorem dX8_pass_79 : decode cX8_pass 79 = .ok (.ifCond .eq 5, 3) := by decide +kernel
theorem dX8_pass_82 : decode cX8_pass 82 = .ok (.lconst 0, 1) := by decide +kernel
theorem dX8_pass_83 : decode cX8_pass 83 = .ok (.lreturn, 1) := by decide +kernel
theorem dX8_pass_84 : decode cX8_pass 84 = .ok (.iload 5, 2) := by decide +kernel
theorem dX8_pass_86 : decode cX8_pass 86 = .ok (.ifCond .eq 19, 3) := by decide +kernel
theorem dX8_pass_89 : decode cX8_pass 89 = .ok (.iload 4, 2) := by decide +kernel
theorem dX8_pass_91 : decode cX8_pass 91 = .ok (.iconst 4, 1) := by decide +kernel
theorem dX8_pass_92 : decode cX8_pass 92 = .ok (.if_icmp .ne 9, 3) := by decide +kernel
theorem dX8_pass_95 : decode cX8_pass 95 = .ok (.ldc2_w 213, 3) := by decide +kernel
theorem dX8_pass_98 : decode cX8_pass 98 = .ok (.goto 6, 3) := by decide +kernel
theorem dX8_pass_101 : decode cX8_pass 101 = .ok (.ldc2_w 215, 3) := by decide +kernel
theorem dX8_pass_104 : decode cX8_pass 104 = .ok (.lreturn, 1) := by decide +kernel
theorem dX8_pass_105 : decode cX8_pass 105 = .ok (.aload_n 0, 1) := by decide +kernel
theorem dX8_pass_106 : decode cX8_pass 106 = .ok (.getfield 11, 3) := by decide +kernel
theorem dX8_pass_109 : decode cX8_pass 109 = .ok (.iload_n 2, 1) := by decide +kernel
theorem dX8_pass_110 : decode cX8_pass 110 = .ok (.aaload, 1) := by decide +kernel
theorem dX8_pass_111 : decode cX8_pass 111 = .ok (.iload_n 3, 1) := by decide +kernel
theorem dX8_pass_112 : decode cX8_pass 112 = .ok (.invokestatic 77, 3) := by decide +kernel
theorem dX8_pass_115 : decode cX8_pass 115 = .ok (.lreturn, 1) := by decide +kernel
theorem dX8_trace_0 : decode cX8_trace 0 = .ok (.aload_n 0, 1) := by decide +kernel
theorem dX8_trace_1 : decode cX8_trace 1 = .ok (.getfield 23, 3) := by decide +kernel
theorem dX8_trace_4 : decode cX8_trace 4 = .ok (.ireturn, 1) := by decide +kernel
theorem dX8_latest_0 : decode cX8_latest 0 = .ok (.aload_n 0, 1) := by decide +kernel
theorem dX8_latest_1 : decode cX8_latest 1 = .ok (.getfield 19, 3) := by decide +kernel
theorem dX8_latest_4 : decode cX8_latest 4 = .ok (.ireturn, 1) := by decide +kernel
theorem dX8_thrown_0 : decode cX8_thrown 0 = .ok (.iload_n 1, 1) := by decide +kernel
theorem dX8_thrown_1 : decode cX8_thrown 1 = .ok (.iconst 1, 1) := by decide +kernel
theorem dX8_thrown_2 : decode cX8_thrown 2 = .ok (.if_icmp .lt 18, 3) := by decide +kernel
theorem dX8_thrown_5 : decode cX8_thrown 5 = .ok (.iload_n 1, 1) := by decide +kernel
theorem dX8_thrown_6 : decode cX8_thrown 6 = .ok (.bipush 8, 2) := by decide +kernel
theorem dX8_thrown_8 : decode cX8_thrown 8 = .ok (.if_icmp .gt 12, 3) := by decide +kernel
theorem dX8_thrown_11 : decode cX8_thrown 11 = .ok (.aload_n 0, 1) := by decide +kernel
theorem dX8_thrown_12 : decode cX8_thrown 12 = .ok (.getfield 15, 3) := by decide +kernel
theorem dX8_thrown_15 : decode cX8_thrown 15 = .ok (.iload_n 1, 1) := by decide +kernel
theorem dX8_thrown_16 : decode cX8_thrown 16 = .ok (.iaload, 1) := by decide +kernel
theorem dX8_thrown_17 : decode cX8_thrown 17 = .ok (.goto 4, 3) := by decide +kernel
theorem dX8_thrown_20 : decode cX8_thrown 20 = .ok (.iconst 0, 1) := by decide +kernel
theorem dX8_thrown_21 : decode cX8_thrown 21 = .ok (.ireturn, 1) := by decide +kernel
theorem dX8_isCell_0 : decode cX8_isCell 0 = .ok (.iload_n 0, 1) := by decide +kernel
theorem dX8_isCell_1 : decode cX8_isCell 1 = .ok (.ifCond .lt 13, 3) := by decide +kernel
theorem dX8_isCell_4 : decode cX8_isCell 4 = .ok (.iload_n 0, 1) := by decide +kernel
theorem dX8_isCell_5 : decode cX8_isCell 5 = .ok (.bipush 16, 2) := by decide +kernel
theorem dX8_isCell_7 : decode cX8_isCell 7 = .ok (.if_icmp .ge 7, 3) := by decide +kernel
theorem dX8_isCell_10 : decode cX8_isCell 10 = .ok (.iconst 1, 1) := by decide +kernel
theorem dX8_isCell_11 : decode cX8_isCell 11 = .ok (.goto 4, 3) := by decide +kernel
theorem dX8_isCell_14 : decode cX8_isCell 14 = .ok (.iconst 0, 1) := by decide +kernel
theorem dX8_isCell_15 : decode cX8_isCell 15 = .ok (.ireturn, 1) := by decide +kernel
theorem dX8_isNumberType_0 : decode cX8_isNumberType 0 = .ok (.iload_n 0, 1) := by decide +kernel
theorem dX8_isNumberType_1 : decode cX8_isNumberType 1 = .ok (.ifCond .lt 13, 3) := by decide +kernel
theorem dX8_isNumberType_4 : decode cX8_isNumberType 4 = .ok (.iload_n 0, 1) := by decide +kernel
theorem dX8_isNumberType_5 : decode cX8_isNumberType 5 = .ok (.bipush 6, 2) := by decide +kernel
theorem dX8_isNumberType_7 : decode cX8_isNumberType 7 = .ok (.if_icmp .gt 7, 3) := by decide +kernel
theorem dX8_isNumberType_10 : decode cX8_isNumberType 10 = .ok (.iconst 1, 1) := by decide +kernel
theorem dX8_isNumberType_11 : decode cX8_isNumberType 11 = .ok (.goto 4, 3) := by decide +kernel
theorem dX8_isNumberType_14 : decode cX8_isNumberType 14 = .ok (.iconst 0, 1) := by decide +kernel
theorem dX8_isNumberType_15 : decode cX8_isNumberType 15 = .ok (.ireturn, 1) := by decide +kernel
theorem dX8_isThingArrayType_0 : decode cX8_isThingArrayType 0 = .ok (.iload_n 0, 1) := by decide +kernel
theorem dX8_isThingArrayType_1 : decode cX8_isThingArrayType 1 = .ok (.bipush 7, 2) := by decide +kernel
theorem dX8_isThingArrayType_3 : decode cX8_isThingArrayType 3 = .ok (.if_icmp .lt 9, 3) := by decide +kernel
theorem dX8_isThingArrayType_6 : decode cX8_isThingArrayType 6 = .ok (.iload_n 0, 1) := by decide +kernel
theorem dX8_isThingArrayType_7 : decode cX8_isThingArrayType 7 = .ok (.bipush 9, 2) := by decide +kernel
theorem dX8_isThingArrayType_9 : decode cX8_isThingArrayType 9 = .ok (.if_icmp .le 9, 3) := by decide +kernel
theorem dX8_isThingArrayType_12 : decode cX8_isThingArrayType 12 = .ok (.iload_n 0, 1) := by decide +kernel
theorem dX8_isThingArrayType_13 : decode cX8_isThingArrayType 13 = .ok (.bipush 15, 2) := by decide +kernel
theorem dX8_isThingArrayType_15 : decode cX8_isThingArrayType 15 = .ok (.if_icmp .ne 7, 3) := by decide +kernel
theorem dX8_isThingArrayType_18 : decode cX8_isThingArrayType 18 = .ok (.iconst 1, 1) := by decide +kernel
theorem dX8_isThingArrayType_19 : decode cX8_isThingArrayType 19 = .ok (.goto 4, 3) := by decide +kernel
theorem dX8_isThingArrayType_22 : decode cX8_isThingArrayType 22 = .ok (.iconst 0, 1) := by decide +kernel
theorem dX8_isThingArrayType_23 : decode cX8_isThingArrayType 23 = .ok (.ireturn, 1) := by decide +kernel
set_option maxRecDepth 20000 in
theorem ggX8_isArrayType_X8_isNumberType : GoodIn wsX8_isArrayType wsX8_isNumberType := goodIn_r _ [4] rfl (by decide +kernel)
set_option maxRecDepth 20000 in
theorem gX8_isArrayType_X8_isNumberType : GoodIn wsX8_isArrayType (va_wsS RX8 70 yX8_isNumberType wsX8_isNumberType) := goodIn_app (goodIn_of _ (by decide +kernel)) ggX8_isArrayType_X8_isNumberType
set_option maxRecDepth 20000 in
theorem ggX8_isArrayType_X8_isThingArrayType : GoodIn wsX8_isArrayType wsX8_isThingArrayType := goodIn_r _ [7] rfl (by decide +kernel)
set_option maxRecDepth 20000 in
theorem gX8_isArrayType_X8_isThingArrayType : GoodIn wsX8_isArrayType (va_wsS RX8 91 yX8_isThingArrayType wsX8_isThingArrayType) := goodIn_app (goodIn_of _ (by decide +kernel)) ggX8_isArrayType_X8_isThingArrayType
theorem dX8_isArrayType_0 : decode cX8_isArrayType 0 = .ok (.iload_n 0, 1) := by decide +kernel
theorem dX8_isArrayType_1 : decode cX8_isArrayType 1 = .ok (.invokestatic 70, 3) := by decide +kernel
theorem dX8_isArrayType_4 : decode cX8_isArrayType 4 = .ok (.ifCond .ne 10, 3) := by decide +kernel
theorem dX8_isArrayType_7 : decode cX8_isArrayType 7 = .ok (.iload_n 0, 1) := by decide +kernel
theorem dX8_isArrayType_8 : decode cX8_isArrayType 8 = .ok (.invokestatic 91, 3) := by decide +kernel
theorem dX8_isArrayType_11 : decode cX8_isArrayType 11 = .ok (.ifCond .eq 7, 3) := by decide +kernel
theorem dX8_isArrayType_14 : decode cX8_isArrayType 14 = .ok (.iconst 1, 1) := by decide +kernel
theorem dX8_isArrayType_15 : decode cX8_isArrayType 15 = .ok (.goto 4, 3) := by decide +kernel
theorem dX8_isArrayType_18 : decode cX8_isArrayType 18 = .ok (.iconst 0, 1) := by decide +kernel
theorem dX8_isArrayType_19 : decode cX8_isArrayType 19 = .ok (.ireturn, 1) := by decide +kernel
theorem dX8_isOwnType_0 : decode cX8_isOwnType 0 = .ok (.iload_n 0, 1) := by decide +kernel
theorem dX8_isOwnType_1 : decode cX8_isOwnType 1 = .ok (.bipush 10, 2) := by decide +kernel
theorem dX8_isOwnType_3 : decode cX8_isOwnType 3 = .ok (.if_icmp .lt 13, 3) := by decide +kernel
theorem dX8_isOwnType_6 : decode cX8_isOwnType 6 = .ok (.iload_n 0, 1) := by decide +kernel
theorem dX8_isOwnType_7 : decode cX8_isOwnType 7 = .ok (.bipush 12, 2) := by decide +kernel
theorem dX8_isOwnType_9 : decode cX8_isOwnType 9 = .ok (.if_icmp .gt 7, 3) := by decide +kernel
theorem dX8_isOwnType_12 : decode cX8_isOwnType 12 = .ok (.iconst 1, 1) := by decide +kernel
theorem dX8_isOwnType_13 : decode cX8_isOwnType 13 = .ok (.goto 4, 3) := by decide +kernel
theorem dX8_isOwnType_16 : decode cX8_isOwnType 16 = .ok (.iconst 0, 1) := by decide +kernel
theorem dX8_isOwnType_17 : decode cX8_isOwnType 17 = .ok (.ireturn, 1) := by decide +kernel
theorem dX8_stops_0 : decode cX8_stops 0 = .ok (.aload_n 0, 1) := by decide +kernel
theorem dX8_stops_1 : decode cX8_stops 1 = .ok (.iload_n 1, 1) := by decide +kernel
theorem dX8_stops_2 : decode cX8_stops 2 = .ok (.putfield 19, 3) := by decide +kernel
theorem dX8_stops_5 : decode cX8_stops 5 = .ok (.iload_n 1, 1) := by decide +kernel
theorem dX8_stops_6 : decode cX8_stops 6 = .ok (.iconst 1, 1) := by decide +kernel
theorem dX8_stops_7 : decode cX8_stops 7 = .ok (.if_icmp .lt 9, 3) := by decide +kernel
theorem dX8_stops_10 : decode cX8_stops 10 = .ok (.iload_n 1, 1) := by decide +kernel
theorem dX8_stops_11 : decode cX8_stops 11 = .ok (.bipush 8, 2) := by decide +kernel
theorem dX8_stops_13 : decode cX8_stops 13 = .ok (.if_icmp .le 5, 3) := by decide +kernel
theorem dX8_stops_16 : decode cX8_stops 16 = .ok (.iconst 0, 1) := by decide +kernel
theorem dX8_stops_17 : decode cX8_stops 17 = .ok (.ireturn, 1) := by decide +kernel
theorem dX8_stops_18 : decode cX8_stops 18 = .ok (.aload_n 0, 1) := by decide +kernel
theorem dX8_stops_19 : decode cX8_stops 19 = .ok (.getfield 15, 3) := by decide +kernel
theorem dX8_stops_22 : decode cX8_stops 22 = .ok (.iload_n 1, 1) := by decide +kernel
theorem dX8_stops_23 : decode cX8_stops 23 = .ok (.dup2, 1) := by decide +kernel
theorem dX8_stops_24 : decode cX8_stops 24 = .ok (.iaload, 1) := by decide +kernel
theorem dX8_stops_25 : decode cX8_stops 25 = .ok (.iconst 1, 1) := by decide +kernel
theorem dX8_stops_26 : decode cX8_stops 26 = .ok (.iadd, 1) := by decide +kernel
theorem dX8_stops_27 : decode cX8_stops 27 = .ok (.iastore, 1) := by decide +kernel
theorem dX8_stops_28 : decode cX8_stops 28 = .ok (.iconst 1, 1) := by decide +kernel
theorem dX8_stops_29 : decode cX8_stops 29 = .ok (.ireturn, 1) := by decide +kernel
set_option maxRecDepth 20000 in
theorem ggX8_makeCause_X8_isCell : GoodIn wsX8_makeCause wsX8_isCell := goodIn_r _ [4] rfl (by decide +kernel)
set_option maxRecDepth 20000 in
theorem gX8_makeCause_X8_isCell : GoodIn wsX8_makeCause (va_wsS RX8 38 yX8_isCell wsX8_isCell) := goodIn_app (goodIn_of _ (by decide +kernel)) ggX8_makeCause_X8_isCell
theorem dX8_makeCause_0 : decode cX8_makeCause 0 = .ok (.iload_n 0, 1) := by decide +kernel
theorem dX8_makeCause_1 : decode cX8_makeCause 1 = .ok (.ifCond .lt 16, 3) := by decide +kernel
theorem dX8_makeCause_4 : decode cX8_makeCause 4 = .ok (.iload_n 0, 1) := by decide +kernel
theorem dX8_makeCause_5 : decode cX8_makeCause 5 = .ok (.bipush 12, 2) := by decide +kernel
theorem dX8_makeCause_7 : decode cX8_makeCause 7 = .ok (.if_icmp .gt 10, 3) := by decide +kernel
theorem dX8_makeCause_10 : decode cX8_makeCause 10 = .ok (.iload_n 1, 1) := by decide +kernel
theorem dX8_makeCause_11 : decode cX8_makeCause 11 = .ok (.invokestatic 38, 3) := by decide +kernel
theorem dX8_makeCause_14 : decode cX8_makeCause 14 = .ok (.ifCond .ne 6, 3) := by decide +kernel
theorem dX8_makeCause_17 : decode cX8_makeCause 17 = .ok (.bipush 8, 2) := by decide +kernel
theorem dX8_makeCause_19 : decode cX8_makeCause 19 = .ok (.ireturn, 1) := by decide +kernel
theorem dX8_makeCause_20 : decode cX8_makeCause 20 = .ok (.iload_n 0, 1) := by decide +kernel
theorem dX8_makeCause_21 : decode cX8_makeCause 21 = .ok (.bipush 10, 2) := by decide +kernel
theorem dX8_makeCause_23 : decode cX8_makeCause 23 = .ok (.if_icmp .lt 5, 3) := by decide +kernel
theorem dX8_makeCause_26 : decode cX8_makeCause 26 = .ok (.iconst 0, 1) := by decide +kernel
theorem dX8_makeCause_27 : decode cX8_makeCause 27 = .ok (.ireturn, 1) := by decide +kernel
theorem dX8_makeCause_28 : decode cX8_makeCause 28 = .ok (.iload_n 0, 1) := by decide +kernel
theorem dX8_makeCause_29 : decode cX8_makeCause 29 = .ok (.bipush 7, 2) := by decide +kernel
theorem dX8_makeCause_31 : decode cX8_makeCause 31 = .ok (.if_icmp .ne 7, 3) := by decide +kernel
theorem dX8_makeCause_34 : decode cX8_makeCause 34 = .ok (.iconst 1, 1) := by decide +kernel
theorem dX8_makeCause_35 : decode cX8_makeCause 35 = .ok (.goto 4, 3) := by decide +kernel
theorem dX8_makeCause_38 : decode cX8_makeCause 38 = .ok (.iconst 0, 1) := by decide +kernel
theorem dX8_makeCause_39 : decode cX8_makeCause 39 = .ok (.istore 4, 2) := by decide +kernel
theorem dX8_makeCause_41 : decode cX8_makeCause 41 = .ok (.iload_n 2, 1) := by decide +kernel
theorem dX8_makeCause_42 : decode cX8_makeCause 42 = .ok (.bipush 64, 2) := by decide +kernel
theorem dX8_makeCause_44 : decode cX8_makeCause 44 = .ok (.if_icmp .gt 14, 3) := by decide +kernel
theorem dX8_makeCause_47 : decode cX8_makeCause 47 = .ok (.iload 4, 2) := by decide +kernel
theorem dX8_makeCause_49 : decode cX8_makeCause 49 = .ok (.ifCond .eq 12, 3) := by decide +kernel
theorem dX8_makeCause_52 : decode cX8_makeCause 52 = .ok (.iload_n 3, 1) := by decide +kernel
theorem dX8_makeCause_53 : decode cX8_makeCause 53 = .ok (.bipush 64, 2) := by decide +kernel
theorem dX8_makeCause_55 : decode cX8_makeCause 55 = .ok (.if_icmp .le 6, 3) := by decide +kernel
theorem dX8_makeCause_58 : decode cX8_makeCause 58 = .ok (.bipush 8, 2) := by decide +kernel
theorem dX8_makeCause_60 : decode cX8_makeCause 60 = .ok (.ireturn, 1) := by decide +kernel
theorem dX8_makeCause_61 : decode cX8_makeCause 61 = .ok (.iload_n 2, 1) := by decide +kernel
theorem dX8_makeCause_62 : decode cX8_makeCause 62 = .ok (.ifCond .lt 12, 3) := by decide +kernel
theorem dX8_makeCause_65 : decode cX8_makeCause 65 = .ok (.iload 4, 2) := by decide +kernel
theorem dX8_makeCause_67 : decode cX8_makeCause 67 = .ok (.ifCond .eq 11, 3) := by decide +kernel
theorem dX8_makeCause_70 : decode cX8_makeCause 70 = .ok (.iload_n 3, 1) := by decide +kernel
theorem dX8_makeCause_71 : decode cX8_makeCause 71 = .ok (.ifCond .ge 7, 3) := by decide +kernel
theorem dX8_makeCause_74 : decode cX8_makeCause 74 = .ok (.iconst 3, 1) := by decide +kernel
theorem dX8_makeCause_75 : decode cX8_makeCause 75 = .ok (.goto 4, 3) := by decide +kernel
theorem dX8_makeCause_78 : decode cX8_makeCause 78 = .ok (.iconst 0, 1) := by decide +kernel
theorem dX8_makeCause_79 : decode cX8_makeCause 79 = .ok (.ireturn, 1) := by decide +kernel
set_option maxRecDepth 20000 in
theorem ggX8_passesCast_X6_isOf : GoodIn wsX8_passesCast wsX6_isOf := goodIn_r _ [6, 7, 12, 13, 14, 15, 16, 17, 18, 19, 20, 21, 22, 23, 24, 25, 26] rfl (by decide +kernel)
set_option maxRecDepth 20000 in
theorem gX8_passesCast_X6_isOf_u63X1 : GoodIn wsX8_passesCast (va_wsU RX8 63 RX1 "ThrowModels$Thing" ⟨"ThrowModels$Thing", "isOf", "(I)Z"⟩ yX6_isOf wsX6_isOf) := goodIn_app (goodIn_of _ (by decide +kernel)) ggX8_passesCast_X6_isOf
set_option maxRecDepth 20000 in
theorem gX8_passesCast_X6_isOf_u63X2 : GoodIn wsX8_passesCast (va_wsU RX8 63 RX2 "ThrowModels$Thing" ⟨"ThrowModels$Thing", "isOf", "(I)Z"⟩ yX6_isOf wsX6_isOf) := goodIn_app (goodIn_of _ (by decide +kernel)) ggX8_passesCast_X6_isOf
set_option maxRecDepth 20000 in
theorem gX8_passesCast_X6_isOf_u63X4 : GoodIn wsX8_passesCast (va_wsU RX8 63 RX4 "ThrowModels$Thing" ⟨"ThrowModels$Thing", "isOf", "(I)Z"⟩ yX6_isOf wsX6_isOf) := goodIn_app (goodIn_of _ (by decide +kernel)) ggX8_passesCast_X6_isOf
set_option maxRecDepth 20000 in
theorem gX8_passesCast_X6_isOf_u63X5 : GoodIn wsX8_passesCast (va_wsU RX8 63 RX5 "ThrowModels$Thing" ⟨"ThrowModels$Thing", "isOf", "(I)Z"⟩ yX6_isOf wsX6_isOf) := goodIn_app (goodIn_of _ (by decide +kernel)) ggX8_passesCast_X6_isOf
set_option maxRecDepth 20000 in
theorem gX8_passesCast_X6_isOf_u63X7 : GoodIn wsX8_passesCast (va_wsU RX8 63 RX7 "ThrowModels$Thing" ⟨"ThrowModels$Thing", "isOf", "(I)Z"⟩ yX6_isOf wsX6_isOf) := goodIn_app (goodIn_of _ (by decide +kernel)) ggX8_passesCast_X6_isOf
theorem dX8_passesCast_0 : decode cX8_passesCast 0 = .ok (.aload_n 1, 1) := by decide +kernel
theorem dX8_passesCast_1 : decode cX8_passesCast 1 = .ok (.ifnull 11, 3) := by decide +kernel
theorem dX8_passesCast_4 : decode cX8_passesCast 4 = .ok (.aload_n 1, 1) := by decide +kernel
theorem dX8_passesCast_5 : decode cX8_passesCast 5 = .ok (.iload_n 0, 1) := by decide +kernel
theorem dX8_passesCast_6 : decode cX8_passesCast 6 = .ok (.invokevirtual 63, 3) := by decide +kernel
theorem dX8_passesCast_9 : decode cX8_passesCast 9 = .ok (.ifCond .eq 7, 3) := by decide +kernel
theorem dX8_passesCast_12 : decode cX8_passesCast 12 = .ok (.iconst 1, 1) := by decide +kernel
theorem dX8_passesCast_13 : decode cX8_passesCast 13 = .ok (.goto 4, 3) := by decide +kernel
theorem dX8_passesCast_16 : decode cX8_passesCast 16 = .ok (.iconst 0, 1) := by decide +kernel
theorem dX8_passesCast_17 : decode cX8_passesCast 17 = .ok (.ireturn, 1) := by decide +kernel
set_option maxRecDepth 20000 in
theorem ggX8_castCause_X8_passesCast : GoodIn wsX8_castCause wsX8_passesCast := goodIn_r _ [4, 5, 6, 7, 8, 9, 10, 11, 12, 13, 14, 15, 16, 17, 18, 19, 20, 21, 22, 23, 24, 25, 26, 27, 28, 29, 30] rfl (by decide +kernel)
set_option maxRecDepth 20000 in
theorem gX8_castCause_X8_passesCast : GoodIn wsX8_castCause (va_wsS RX8 217 yX8_passesCast wsX8_passesCast) := goodIn_app (goodIn_of _ (by decide +kernel)) ggX8_castCause_X8_passesCast
theorem dX8_castCause_0 : decode cX8_castCause 0 = .ok (.iload_n 0, 1) := by decide +kernel
theorem dX8_castCause_1 : decode cX8_castCause 1 = .ok (.aload_n 1, 1) := by decide +kernel
theorem dX8_castCause_2 : decode cX8_castCause 2 = .ok (.invokestatic 217, 3) := by decide +kernel
theorem dX8_castCause_5 : decode cX8_castCause 5 = .ok (.ifCond .ne 5, 3) := by decide +kernel
theorem dX8_castCause_8 : decode cX8_castCause 8 = .ok (.iconst 4, 1) := by decide +kernel
theorem dX8_castCause_9 : decode cX8_castCause 9 = .ok (.ireturn, 1) := by decide +kernel
theorem dX8_castCause_10 : decode cX8_castCause 10 = .ok (.aload_n 1, 1) := by decide +kernel
theorem dX8_castCause_11 : decode cX8_castCause 11 = .ok (.ifnonnull 7, 3) := by decide +kernel
theorem dX8_castCause_14 : decode cX8_castCause 14 = .ok (.iconst 1, 1) := by decide +kernel
theorem dX8_castCause_15 : decode cX8_castCause 15 = .ok (.goto 4, 3) := by decide +kernel
theorem dX8_castCause_18 : decode cX8_castCause 18 = .ok (.iconst 0, 1) := by decide +kernel
theorem dX8_castCause_19 : decode cX8_castCause 19 = .ok (.ireturn, 1) := by decide +kernel
set_option maxRecDepth 20000 in
theorem ggX8_elementCause_X8_castCause : GoodIn wsX8_elementCause wsX8_castCause := goodIn_r _ [4, 5, 6, 3, 7, 8, 9, 10, 11, 12, 13, 14, 15, 16, 17, 18, 29, 30, 31, 32, 33, 34, 35, 36, 37, 38, 39, 40, 41, 42, 43] rfl (by decide +kernel)
set_option maxRecDepth 20000 in
theorem gX8_elementCause_X8_castCause : GoodIn wsX8_elementCause (va_wsS RX8 41 yX8_castCause wsX8_castCause) := goodIn_app (goodIn_of _ (by decide +kernel)) ggX8_elementCause_X8_castCause
set_option maxRecDepth 20000 in
theorem ggX8_elementCause_X6_holds : GoodIn wsX8_elementCause wsX6_holds := goodIn_r _ [23, 24, 29, 30, 31, 32, 33, 34, 35, 36, 37, 38, 39, 40, 41, 42, 43] rfl (by decide +kernel)
set_option maxRecDepth 20000 in
theorem gX8_elementCause_X6_holds_u221X1 : GoodIn wsX8_elementCause (va_wsU RX8 221 RX1 "ThrowModels$Thing" ⟨"ThrowModels$Thing", "holds", "(I)Z"⟩ yX6_holds wsX6_holds) := goodIn_app (goodIn_of _ (by decide +kernel)) ggX8_elementCause_X6_holds
set_option maxRecDepth 20000 in
theorem gX8_elementCause_X6_holds_u221X2 : GoodIn wsX8_elementCause (va_wsU RX8 221 RX2 "ThrowModels$Thing" ⟨"ThrowModels$Thing", "holds", "(I)Z"⟩ yX6_holds wsX6_holds) := goodIn_app (goodIn_of _ (by decide +kernel)) ggX8_elementCause_X6_holds
set_option maxRecDepth 20000 in
theorem gX8_elementCause_X6_holds_u221X4 : GoodIn wsX8_elementCause (va_wsU RX8 221 RX4 "ThrowModels$Thing" ⟨"ThrowModels$Thing", "holds", "(I)Z"⟩ yX6_holds wsX6_holds) := goodIn_app (goodIn_of _ (by decide +kernel)) ggX8_elementCause_X6_holds
set_option maxRecDepth 20000 in
theorem gX8_elementCause_X6_holds_u221X5 : GoodIn wsX8_elementCause (va_wsU RX8 221 RX5 "ThrowModels$Thing" ⟨"ThrowModels$Thing", "holds", "(I)Z"⟩ yX6_holds wsX6_holds) := goodIn_app (goodIn_of _ (by decide +kernel)) ggX8_elementCause_X6_holds
set_option maxRecDepth 20000 in
theorem gX8_elementCause_X6_holds_u221X7 : GoodIn wsX8_elementCause (va_wsU RX8 221 RX7 "ThrowModels$Thing" ⟨"ThrowModels$Thing", "holds", "(I)Z"⟩ yX6_holds wsX6_holds) := goodIn_app (goodIn_of _ (by decide +kernel)) ggX8_elementCause_X6_holds
theorem dX8_elementCause_0 : decode cX8_elementCause 0 = .ok (.iload_n 0, 1) := by decide +kernel
theorem dX8_elementCause_1 : decode cX8_elementCause 1 = .ok (.aload_n 1, 1) := by decide +kernel
theorem dX8_elementCause_2 : decode cX8_elementCause 2 = .ok (.invokestatic 41, 3) := by decide +kernel
theorem dX8_elementCause_5 : decode cX8_elementCause 5 = .ok (.istore_n 3, 1) := by decide +kernel
theorem dX8_elementCause_6 : decode cX8_elementCause 6 = .ok (.iload_n 3, 1) := by decide +kernel
theorem dX8_elementCause_7 : decode cX8_elementCause 7 = .ok (.ifCond .eq 5, 3) := by decide +kernel
theorem dX8_elementCause_10 : decode cX8_elementCause 10 = .ok (.iload_n 3, 1) := by decide +kernel
theorem dX8_elementCause_11 : decode cX8_elementCause 11 = .ok (.ireturn, 1) := by decide +kernel
theorem dX8_elementCause_12 : decode cX8_elementCause 12 = .ok (.aload_n 1, 1) := by decide +kernel
theorem dX8_elementCause_13 : decode cX8_elementCause 13 = .ok (.ifnull 15, 3) := by decide +kernel
theorem dX8_elementCause_16 : decode cX8_elementCause 16 = .ok (.aload_n 1, 1) := by decide +kernel
theorem dX8_elementCause_17 : decode cX8_elementCause 17 = .ok (.iload_n 2, 1) := by decide +kernel
theorem dX8_elementCause_18 : decode cX8_elementCause 18 = .ok (.invokevirtual 221, 3) := by decide +kernel
theorem dX8_elementCause_21 : decode cX8_elementCause 21 = .ok (.ifCond .eq 7, 3) := by decide +kernel
theorem dX8_elementCause_24 : decode cX8_elementCause 24 = .ok (.iconst 0, 1) := by decide +kernel
theorem dX8_elementCause_25 : decode cX8_elementCause 25 = .ok (.goto 4, 3) := by decide +kernel
theorem dX8_elementCause_28 : decode cX8_elementCause 28 = .ok (.iconst 2, 1) := by decide +kernel
theorem dX8_elementCause_29 : decode cX8_elementCause 29 = .ok (.ireturn, 1) := by decide +kernel
set_option maxRecDepth 20000 in
theorem ggX8_putCause_X8_passesCast : GoodIn wsX8_putCause wsX8_passesCast := goodIn_r _ [5, 6, 7, 8, 9, 10, 11, 12, 13, 14, 15, 16, 33, 34, 35, 36, 37, 38, 39, 40, 41, 42, 43, 44, 45, 46, 47] rfl (by decide +kernel)
set_option maxRecDepth 20000 in
theorem gX8_putCause_X8_passesCast : GoodIn wsX8_putCause (va_wsS RX8 217 yX8_passesCast wsX8_passesCast) := goodIn_app (goodIn_of _ (by decide +kernel)) ggX8_putCause_X8_passesCast
set_option maxRecDepth 20000 in
theorem ggX8_putCause_X8_elementTypeOfType : GoodIn wsX8_putCause wsX8_elementTypeOfType := goodIn_r _ [19, 20, 21, 4, 22] rfl (by decide +kernel)
set_option maxRecDepth 20000 in
theorem gX8_putCause_X8_elementTypeOfType : GoodIn wsX8_putCause (va_wsS RX8 222 yX8_elementTypeOfType wsX8_elementTypeOfType) := goodIn_app (goodIn_of _ (by decide +kernel)) ggX8_putCause_X8_elementTypeOfType
set_option maxRecDepth 20000 in
theorem ggX8_putCause_X6_holds : GoodIn wsX8_putCause wsX6_holds := goodIn_r _ [27, 28, 33, 34, 35, 36, 37, 38, 39, 40, 41, 42, 43, 44, 45, 46, 47] rfl (by decide +kernel)
set_option maxRecDepth 20000 in
theorem gX8_putCause_X6_holds_u221X1 : GoodIn wsX8_putCause (va_wsU RX8 221 RX1 "ThrowModels$Thing" ⟨"ThrowModels$Thing", "holds", "(I)Z"⟩ yX6_holds wsX6_holds) := goodIn_app (goodIn_of _ (by decide +kernel)) ggX8_putCause_X6_holds
set_option maxRecDepth 20000 in
theorem gX8_putCause_X6_holds_u221X2 : GoodIn wsX8_putCause (va_wsU RX8 221 RX2 "ThrowModels$Thing" ⟨"ThrowModels$Thing", "holds", "(I)Z"⟩ yX6_holds wsX6_holds) := goodIn_app (goodIn_of _ (by decide +kernel)) ggX8_putCause_X6_holds
set_option maxRecDepth 20000 in
theorem gX8_putCause_X6_holds_u221X4 : GoodIn wsX8_putCause (va_wsU RX8 221 RX4 "ThrowModels$Thing" ⟨"ThrowModels$Thing", "holds", "(I)Z"⟩ yX6_holds wsX6_holds) := goodIn_app (goodIn_of _ (by decide +kernel)) ggX8_putCause_X6_holds
set_option maxRecDepth 20000 in
theorem gX8_putCause_X6_holds_u221X5 : GoodIn wsX8_putCause (va_wsU RX8 221 RX5 "ThrowModels$Thing" ⟨"ThrowModels$Thing", "holds", "(I)Z"⟩ yX6_holds wsX6_holds) := goodIn_app (goodIn_of _ (by decide +kernel)) ggX8_putCause_X6_holds
set_option maxRecDepth 20000 in
theorem gX8_putCause_X6_holds_u221X7 : GoodIn wsX8_putCause (va_wsU RX8 221 RX7 "ThrowModels$Thing" ⟨"ThrowModels$Thing", "holds", "(I)Z"⟩ yX6_holds wsX6_holds) := goodIn_app (goodIn_of _ (by decide +kernel)) ggX8_putCause_X6_holds
set_option maxRecDepth 20000 in
theorem ggX8_putCause_X8_elementTypeOfKind : GoodIn wsX8_putCause wsX8_elementTypeOfKind := goodIn_r _ [22] rfl (by decide +kernel)
set_option maxRecDepth 20000 in
theorem gX8_putCause_X8_elementTypeOfKind : GoodIn wsX8_putCause (va_wsS RX8 226 yX8_elementTypeOfKind wsX8_elementTypeOfKind) := goodIn_app (goodIn_of _ (by decide +kernel)) ggX8_putCause_X8_elementTypeOfKind
theorem dX8_putCause_0 : decode cX8_putCause 0 = .ok (.iload_n 0, 1) := by decide +kernel
theorem dX8_putCause_1 : decode cX8_putCause 1 = .ok (.aload_n 1, 1) := by decide +kernel
theorem dX8_putCause_2 : decode cX8_putCause 2 = .ok (.invokestatic 217, 3) := by decide +kernel
theorem dX8_putCause_5 : decode cX8_putCause 5 = .ok (.ifCond .eq 14, 3) := by decide +kernel
theorem dX8_putCause_8 : decode cX8_putCause 8 = .ok (.iload_n 0, 1) := by decide +kernel
theorem dX8_putCause_9 : decode cX8_putCause 9 = .ok (.invokestatic 222, 3) := by decide +kernel
theorem dX8_putCause_12 : decode cX8_putCause 12 = .ok (.aload_n 3, 1) := by decide +kernel
theorem dX8_putCause_13 : decode cX8_putCause 13 = .ok (.invokestatic 217, 3) := by decide +kernel
theorem dX8_putCause_16 : decode cX8_putCause 16 = .ok (.ifCond .ne 5, 3) := by decide +kernel
theorem dX8_putCause_19 : decode cX8_putCause 19 = .ok (.iconst 4, 1) := by decide +kernel
theorem dX8_putCause_20 : decode cX8_putCause 20 = .ok (.ireturn, 1) := by decide +kernel
theorem dX8_putCause_21 : decode cX8_putCause 21 = .ok (.aload_n 1, 1) := by decide +kernel
theorem dX8_putCause_22 : decode cX8_putCause 22 = .ok (.ifnonnull 5, 3) := by decide +kernel
theorem dX8_putCause_25 : decode cX8_putCause 25 = .ok (.iconst 1, 1) := by decide +kernel
theorem dX8_putCause_26 : decode cX8_putCause 26 = .ok (.ireturn, 1) := by decide +kernel
theorem dX8_putCause_27 : decode cX8_putCause 27 = .ok (.aload_n 1, 1) := by decide +kernel
theorem dX8_putCause_28 : decode cX8_putCause 28 = .ok (.iload_n 2, 1) := by decide +kernel
theorem dX8_putCause_29 : decode cX8_putCause 29 = .ok (.invokevirtual 221, 3) := by decide +kernel
theorem dX8_putCause_32 : decode cX8_putCause 32 = .ok (.ifCond .ne 5, 3) := by decide +kernel
theorem dX8_putCause_35 : decode cX8_putCause 35 = .ok (.iconst 2, 1) := by decide +kernel
theorem dX8_putCause_36 : decode cX8_putCause 36 = .ok (.ireturn, 1) := by decide +kernel
theorem dX8_putCause_37 : decode cX8_putCause 37 = .ok (.aload_n 1, 1) := by decide +kernel
theorem dX8_putCause_38 : decode cX8_putCause 38 = .ok (.getfield 225, 3) := by decide +kernel
theorem dX8_putCause_41 : decode cX8_putCause 41 = .ok (.invokestatic 226, 3) := by decide +kernel
theorem dX8_putCause_44 : decode cX8_putCause 44 = .ok (.aload_n 3, 1) := by decide +kernel
theorem dX8_putCause_45 : decode cX8_putCause 45 = .ok (.invokestatic 217, 3) := by decide +kernel
theorem dX8_putCause_48 : decode cX8_putCause 48 = .ok (.ifCond .eq 7, 3) := by decide +kernel
theorem dX8_putCause_51 : decode cX8_putCause 51 = .ok (.iconst 0, 1) := by decide +kernel
theorem dX8_putCause_52 : decode cX8_putCause 52 = .ok (.goto 4, 3) := by decide +kernel
theorem dX8_putCause_55 : decode cX8_putCause 55 = .ok (.iconst 5, 1) := by decide +kernel
theorem dX8_putCause_56 : decode cX8_putCause 56 = .ok (.ireturn, 1) := by decide +kernel
set_option maxRecDepth 20000 in
theorem ggX8_crossCause_X8_elementCause : GoodIn wsX8_crossCause wsX8_elementCause := goodIn_r _ [4, 5, 6, 3, 7, 8, 9, 10, 11, 12, 13, 14, 15, 16, 17, 18, 19, 20, 21, 22, 23, 24, 25, 26, 27, 28, 29, 30, 31, 40, 41, 42, 43, 44, 45, 46, 47, 48, 49, 50, 51, 52, 53, 54] rfl (by decide +kernel)
set_option maxRecDepth 20000 in
theorem gX8_crossCause_X8_elementCause : GoodIn wsX8_crossCause (va_wsS RX8 73 yX8_elementCause wsX8_elementCause) := goodIn_app (goodIn_of _ (by decide +kernel)) ggX8_crossCause_X8_elementCause
set_option maxRecDepth 20000 in
theorem ggX8_crossCause_X8_elementAt : GoodIn wsX8_crossCause wsX8_elementAt := goodIn_r _ [34, 35, 36, 37, 38, 39, 25, 15, 26, 27, 52, 53, 54, 40, 41, 42, 43, 44, 45, 46, 47, 48, 49, 50, 51] rfl (by decide +kernel)
set_option maxRecDepth 20000 in
theorem gX8_crossCause_X8_elementAt : GoodIn wsX8_crossCause (va_wsS RX8 94 yX8_elementAt wsX8_elementAt) := goodIn_app (goodIn_of _ (by decide +kernel)) ggX8_crossCause_X8_elementAt
theorem dX8_crossCause_0 : decode cX8_crossCause 0 = .ok (.bipush 7, 2) := by decide +kernel
theorem dX8_crossCause_2 : decode cX8_crossCause 2 = .ok (.aload_n 0, 1) := by decide +kernel
theorem dX8_crossCause_3 : decode cX8_crossCause 3 = .ok (.iload_n 1, 1) := by decide +kernel
theorem dX8_crossCause_4 : decode cX8_crossCause 4 = .ok (.invokestatic 73, 3) := by decide +kernel
theorem dX8_crossCause_7 : decode cX8_crossCause 7 = .ok (.istore_n 3, 1) := by decide +kernel
theorem dX8_crossCause_8 : decode cX8_crossCause 8 = .ok (.iload_n 3, 1) := by decide +kernel
theorem dX8_crossCause_9 : decode cX8_crossCause 9 = .ok (.ifCond .eq 7, 3) := by decide +kernel
theorem dX8_crossCause_12 : decode cX8_crossCause 12 = .ok (.iload_n 3, 1) := by decide +kernel
theorem dX8_crossCause_13 : decode cX8_crossCause 13 = .ok (.goto 13, 3) := by decide +kernel
theorem dX8_crossCause_16 : decode cX8_crossCause 16 = .ok (.iconst 0, 1) := by decide +kernel
theorem dX8_crossCause_17 : decode cX8_crossCause 17 = .ok (.aload_n 0, 1) := by decide +kernel
theorem dX8_crossCause_18 : decode cX8_crossCause 18 = .ok (.iload_n 1, 1) := by decide +kernel
theorem dX8_crossCause_19 : decode cX8_crossCause 19 = .ok (.invokestatic 94, 3) := by decide +kernel
theorem dX8_crossCause_22 : decode cX8_crossCause 22 = .ok (.iload_n 2, 1) := by decide +kernel
theorem dX8_crossCause_23 : decode cX8_crossCause 23 = .ok (.invokestatic 73, 3) := by decide +kernel
theorem dX8_crossCause_26 : decode cX8_crossCause 26 = .ok (.ireturn, 1) := by decide +kernel
set_option maxRecDepth 20000 in
theorem ggX8_copyCause_X8_isThingArrayType : GoodIn wsX8_copyCause wsX8_isThingArrayType := goodIn_r _ [6] rfl (by decide +kernel)
set_option maxRecDepth 20000 in
theorem gX8_copyCause_X8_isThingArrayType : GoodIn wsX8_copyCause (va_wsS RX8 91 yX8_isThingArrayType wsX8_isThingArrayType) := goodIn_app (goodIn_of _ (by decide +kernel)) ggX8_copyCause_X8_isThingArrayType
set_option maxRecDepth 20000 in
theorem ggX8_copyCause_X8_isArrayType : GoodIn wsX8_copyCause wsX8_isArrayType := goodIn_r _ [9, 10, 11, 5, 12, 3, 4, 6] rfl (by decide +kernel)
set_option maxRecDepth 20000 in
theorem gX8_copyCause_X8_isArrayType : GoodIn wsX8_copyCause (va_wsS RX8 66 yX8_isArrayType wsX8_isArrayType) := goodIn_app (goodIn_of _ (by decide +kernel)) ggX8_copyCause_X8_isArrayType
theorem dX8_copyCause_0 : decode cX8_copyCause 0 = .ok (.aload_n 0, 1) := by decide +kernel
theorem dX8_copyCause_1 : decode cX8_copyCause 1 = .ok (.ifnull 7, 3) := by decide +kernel
theorem dX8_copyCause_4 : decode cX8_copyCause 4 = .ok (.aload_n 2, 1) := by decide +kernel
theorem dX8_copyCause_5 : decode cX8_copyCause 5 = .ok (.ifnonnull 5, 3) := by decide +kernel
theorem dX8_copyCause_8 : decode cX8_copyCause 8 = .ok (.iconst 1, 1) := by decide +kernel
theorem dX8_copyCause_9 : decode cX8_copyCause 9 = .ok (.ireturn, 1) := by decide +kernel
theorem dX8_copyCause_10 : decode cX8_copyCause 10 = .ok (.aload_n 0, 1) := by decide +kernel
theorem dX8_copyCause_11 : decode cX8_copyCause 11 = .ok (.getfield 225, 3) := by decide +kernel
theorem dX8_copyCause_14 : decode cX8_copyCause 14 = .ok (.invokestatic 91, 3) := by decide +kernel
theorem dX8_copyCause_17 : decode cX8_copyCause 17 = .ok (.ifCond .eq 17, 3) := by decide +kernel
theorem dX8_copyCause_20 : decode cX8_copyCause 20 = .ok (.aload_n 2, 1) := by decide +kernel
theorem dX8_copyCause_21 : decode cX8_copyCause 21 = .ok (.getfield 225, 3) := by decide +kernel
theorem dX8_copyCause_24 : decode cX8_copyCause 24 = .ok (.invokestatic 91, 3) := by decide +kernel
theorem dX8_copyCause_27 : decode cX8_copyCause 27 = .ok (.ifCond .eq 7, 3) := by decide +kernel
theorem dX8_copyCause_30 : decode cX8_copyCause 30 = .ok (.iconst 1, 1) := by decide +kernel
theorem dX8_copyCause_31 : decode cX8_copyCause 31 = .ok (.goto 4, 3) := by decide +kernel
theorem dX8_copyCause_34 : decode cX8_copyCause 34 = .ok (.iconst 0, 1) := by decide +kernel
theorem dX8_copyCause_35 : decode cX8_copyCause 35 = .ok (.istore 5, 2) := by decide +kernel
theorem dX8_copyCause_37 : decode cX8_copyCause 37 = .ok (.aload_n 0, 1) := by decide +kernel
theorem dX8_copyCause_38 : decode cX8_copyCause 38 = .ok (.getfield 225, 3) := by decide +kernel
theorem dX8_copyCause_41 : decode cX8_copyCause 41 = .ok (.invokestatic 66, 3) := by decide +kernel
theorem dX8_copyCause_44 : decode cX8_copyCause 44 = .ok (.ifCond .eq 18, 3) := by decide +kernel
theorem dX8_copyCause_47 : decode cX8_copyCause 47 = .ok (.aload_n 0, 1) := by decide +kernel
theorem dX8_copyCause_48 : decode cX8_copyCause 48 = .ok (.getfield 225, 3) := by decide +kernel
theorem dX8_copyCause_51 : decode cX8_copyCause 51 = .ok (.aload_n 2, 1) := by decide +kernel
theorem dX8_copyCause_52 : decode cX8_copyCause 52 = .ok (.getfield 225, 3) := by decide +kernel
theorem dX8_copyCause_55 : decode cX8_copyCause 55 = .ok (.if_icmp .ne 7, 3) := by decide +kernel
theorem dX8_copyCause_58 : decode cX8_copyCause 58 = .ok (.iconst 1, 1) := by decide +kernel
theorem dX8_copyCause_59 : decode cX8_copyCause 59 = .ok (.goto 4, 3) := by decide +kernel
theorem dX8_copyCause_62 : decode cX8_copyCause 62 = .ok (.iconst 0, 1) := by decide +kernel
theorem dX8_copyCause_63 : decode cX8_copyCause 63 = .ok (.istore 6, 2) := by decide +kernel
theorem dX8_copyCause_65 : decode cX8_copyCause 65 = .ok (.iload 5, 2) := by decide +kernel
theorem dX8_copyCause_67 : decode cX8_copyCause 67 = .ok (.ifCond .ne 10, 3) := by decide +kernel
theorem dX8_copyCause_70 : decode cX8_copyCause 70 = .ok (.iload 6, 2) := by decide +kernel
theorem dX8_copyCause_72 : decode cX8_copyCause 72 = .ok (.ifCond .ne 5, 3) := by decide +kernel
theorem dX8_copyCause_75 : decode cX8_copyCause 75 = .ok (.iconst 5, 1) := by decide +kernel
theorem dX8_copyCause_76 : decode cX8_copyCause 76 = .ok (.ireturn, 1) := by decide +kernel
theorem dX8_copyCause_77 : decode cX8_copyCause 77 = .ok (.iload_n 1, 1) := by decide +kernel
theorem dX8_copyCause_78 : decode cX8_copyCause 78 = .ok (.ifCond .lt 46, 3) := by decide +kernel
theorem dX8_copyCause_81 : decode cX8_copyCause 81 = .ok (.iload_n 3, 1) := by decide +kernel
theorem dX8_copyCause_82 : decode cX8_copyCause 82 = .ok (.ifCond .lt 42, 3) := by decide +kernel
theorem dX8_copyCause_85 : decode cX8_copyCause 85 = .ok (.iload 4, 2) := by decide +kernel
theorem dX8_copyCause_87 : decode cX8_copyCause 87 = .ok (.ifCond .lt 37, 3) := by decide +kernel
theorem dX8_copyCause_90 : decode cX8_copyCause 90 = .ok (.iload_n 1, 1) := by decide +kernel
theorem dX8_copyCause_91 : decode cX8_copyCause 91 = .ok (.i2l, 1) := by decide +kernel
theorem dX8_copyCause_92 : decode cX8_copyCause 92 = .ok (.iload 4, 2) := by decide +kernel
theorem dX8_copyCause_94 : decode cX8_copyCause 94 = .ok (.i2l, 1) := by decide +kernel
theorem dX8_copyCause_95 : decode cX8_copyCause 95 = .ok (.ladd, 1) := by decide +kernel
theorem dX8_copyCause_96 : decode cX8_copyCause 96 = .ok (.aload_n 0, 1) := by decide +kernel
theorem dX8_copyCause_97 : decode cX8_copyCause 97 = .ok (.getfield 69, 3) := by decide +kernel
theorem dX8_copyCause_100 : decode cX8_copyCause 100 = .ok (.i2l, 1) := by decide +kernel
theorem dX8_copyCause_101 : decode cX8_copyCause 101 = .ok (.lcmp, 1) := by decide +kernel
theorem dX8_copyCause_102 : decode cX8_copyCause 102 = .ok (.ifCond .gt 22, 3) := by decide +kernel
theorem dX8_copyCause_105 : decode cX8_copyCause 105 = .ok (.iload_n 3, 1) := by decide +kernel
theorem dX8_copyCause_106 : decode cX8_copyCause 106 = .ok (.i2l, 1) := by decide +kernel
theorem dX8_copyCause_107 : decode cX8_copyCause 107 = .ok (.iload 4, 2) := by decide +kernel
theorem dX8_copyCause_109 : decode cX8_copyCause 109 = .ok (.i2l, 1) := by decide +kernel
theorem dX8_copyCause_110 : decode cX8_copyCause 110 = .ok (.ladd, 1) := by decide +kernel
theorem dX8_copyCause_111 : decode cX8_copyCause 111 = .ok (.aload_n 2, 1) := by decide +kernel
theorem dX8_copyCause_112 : decode cX8_copyCause 112 = .ok (.getfield 69, 3) := by decide +kernel
theorem dX8_copyCause_115 : decode cX8_copyCause 115 = .ok (.i2l, 1) := by decide +kernel
theorem dX8_copyCause_116 : decode cX8_copyCause 116 = .ok (.lcmp, 1) := by decide +kernel
theorem dX8_copyCause_117 : decode cX8_copyCause 117 = .ok (.ifCond .gt 7, 3) := by decide +kernel
theorem dX8_copyCause_120 : decode cX8_copyCause 120 = .ok (.iconst 1, 1) := by decide +kernel
theorem dX8_copyCause_121 : decode cX8_copyCause 121 = .ok (.goto 4, 3) := by decide +kernel
theorem dX8_copyCause_124 : decode cX8_copyCause 124 = .ok (.iconst 0, 1) := by decide +kernel
theorem dX8_copyCause_125 : decode cX8_copyCause 125 = .ok (.istore 7, 2) := by decide +kernel
theorem dX8_copyCause_127 : decode cX8_copyCause 127 = .ok (.iload 7, 2) := by decide +kernel
theorem dX8_copyCause_129 : decode cX8_copyCause 129 = .ok (.ifCond .eq 7, 3) := by decide +kernel
theorem dX8_copyCause_132 : decode cX8_copyCause 132 = .ok (.iconst 0, 1) := by decide +kernel
theorem dX8_copyCause_133 : decode cX8_copyCause 133 = .ok (.goto 4, 3) := by decide +kernel
theorem dX8_copyCause_136 : decode cX8_copyCause 136 = .ok (.iconst 2, 1) := by decide +kernel
theorem dX8_copyCause_137 : decode cX8_copyCause 137 = .ok (.ireturn, 1) := by decide +kernel
set_option maxRecDepth 20000 in
theorem ggX8_callCause_X8_castCause : GoodIn wsX8_callCause wsX8_castCause := goodIn_r _ [6, 7, 8, 5, 9, 10, 11, 12, 13, 14, 15, 16, 17, 18, 19, 20, 51, 52, 53, 42, 43, 44, 45, 46, 47, 48, 49, 50, 54, 55, 56] rfl (by decide +kernel)
set_option maxRecDepth 20000 in
theorem gX8_callCause_X8_castCause : GoodIn wsX8_callCause (va_wsS RX8 41 yX8_castCause wsX8_castCause) := goodIn_app (goodIn_of _ (by decide +kernel)) ggX8_callCause_X8_castCause
set_option maxRecDepth 20000 in
theorem ggX8_callCause_X2_size : GoodIn wsX8_callCause wsX2_size := goodIn_r _ [25, 26, 42, 43, 44, 45, 46, 47, 48, 49, 50] rfl (by decide +kernel)
set_option maxRecDepth 20000 in
theorem gX8_callCause_X2_size : GoodIn wsX8_callCause (wsV RX8 229 RX2 yX2_size wsX2_size) := goodIn_app (goodIn_of _ (by decide +kernel)) ggX8_callCause_X2_size
set_option maxRecDepth 20000 in
theorem ggX8_callCause_X4_size : GoodIn wsX8_callCause wsX4_size := goodIn_r _ [33, 34, 35, 42, 43, 44, 45, 46, 47, 48, 49, 50] rfl (by decide +kernel)
set_option maxRecDepth 20000 in
theorem gX8_callCause_X4_size_u229X4 : GoodIn wsX8_callCause (va_wsO RX8 229 RX4 "ThrowModels$Plain" ⟨"ThrowModels$Plain", "size", "()I"⟩ yX4_size wsX4_size) := goodIn_app (goodIn_of _ (by decide +kernel)) ggX8_callCause_X4_size
set_option maxRecDepth 20000 in
theorem ggX8_callCause_X5_size : GoodIn wsX8_callCause wsX5_size := goodIn_r _ [39, 40, 41, 42, 43, 44, 45, 46, 47, 48, 49, 50] rfl (by decide +kernel)
set_option maxRecDepth 20000 in
theorem gX8_callCause_X5_size_u229X5 : GoodIn wsX8_callCause (va_wsO RX8 229 RX5 "ThrowModels$Plain" ⟨"ThrowModels$Plain", "size", "()I"⟩ yX5_size wsX5_size) := goodIn_app (goodIn_of _ (by decide +kernel)) ggX8_callCause_X5_size
theorem dX8_callCause_0 : decode cX8_callCause 0 = .ok (.bipush 13, 2) := by decide +kernel
theorem dX8_callCause_2 : decode cX8_callCause 2 = .ok (.aload_n 0, 1) := by decide +kernel
theorem dX8_callCause_3 : decode cX8_callCause 3 = .ok (.invokestatic 41, 3) := by decide +kernel
theorem dX8_callCause_6 : decode cX8_callCause 6 = .ok (.istore_n 2, 1) := by decide +kernel
theorem dX8_callCause_7 : decode cX8_callCause 7 = .ok (.iload_n 2, 1) := by decide +kernel
theorem dX8_callCause_8 : decode cX8_callCause 8 = .ok (.ifCond .ne 46, 3) := by decide +kernel
theorem dX8_callCause_11 : decode cX8_callCause 11 = .ok (.aload_n 0, 1) := by decide +kernel
theorem dX8_callCause_12 : decode cX8_callCause 12 = .ok (.instanceof 122, 3) := by decide +kernel
theorem dX8_callCause_15 : decode cX8_callCause 15 = .ok (.ifCond .eq 39, 3) := by decide +kernel
theorem dX8_callCause_18 : decode cX8_callCause 18 = .ok (.aload_n 0, 1) := by decide +kernel
theorem dX8_callCause_19 : decode cX8_callCause 19 = .ok (.checkcast 122, 3) := by decide +kernel
theorem dX8_callCause_22 : decode cX8_callCause 22 = .ok (.astore_n 3, 1) := by decide +kernel
theorem dX8_callCause_23 : decode cX8_callCause 23 = .ok (.iload_n 1, 1) := by decide +kernel
theorem dX8_callCause_24 : decode cX8_callCause 24 = .ok (.iconst 5, 1) := by decide +kernel
theorem dX8_callCause_25 : decode cX8_callCause 25 = .ok (.if_icmp .ne 13, 3) := by decide +kernel
theorem dX8_callCause_28 : decode cX8_callCause 28 = .ok (.aload_n 3, 1) := by decide +kernel
theorem dX8_callCause_29 : decode cX8_callCause 29 = .ok (.invokevirtual 229, 3) := by decide +kernel
theorem dX8_callCause_32 : decode cX8_callCause 32 = .ok (.ifCond .ge 6, 3) := by decide +kernel
theorem dX8_callCause_35 : decode cX8_callCause 35 = .ok (.bipush 7, 2) := by decide +kernel
theorem dX8_callCause_37 : decode cX8_callCause 37 = .ok (.ireturn, 1) := by decide +kernel
theorem dX8_callCause_38 : decode cX8_callCause 38 = .ok (.iload_n 1, 1) := by decide +kernel
theorem dX8_callCause_39 : decode cX8_callCause 39 = .ok (.bipush 6, 2) := by decide +kernel
theorem dX8_callCause_41 : decode cX8_callCause 41 = .ok (.if_icmp .ne 13, 3) := by decide +kernel
theorem dX8_callCause_44 : decode cX8_callCause 44 = .ok (.aload_n 3, 1) := by decide +kernel
theorem dX8_callCause_45 : decode cX8_callCause 45 = .ok (.getfield 124, 3) := by decide +kernel
theorem dX8_callCause_48 : decode cX8_callCause 48 = .ok (.ifCond .ne 6, 3) := by decide +kernel
theorem dX8_callCause_51 : decode cX8_callCause 51 = .ok (.bipush 6, 2) := by decide +kernel
theorem dX8_callCause_53 : decode cX8_callCause 53 = .ok (.ireturn, 1) := by decide +kernel
theorem dX8_callCause_54 : decode cX8_callCause 54 = .ok (.iload_n 2, 1) := by decide +kernel
theorem dX8_callCause_55 : decode cX8_callCause 55 = .ok (.ireturn, 1) := by decide +kernel
theorem dX8_divideCause_0 : decode cX8_divideCause 0 = .ok (.iload_n 0, 1) := by decide +kernel
theorem dX8_divideCause_1 : decode cX8_divideCause 1 = .ok (.ifCond .lt 8, 3) := by decide +kernel
theorem dX8_divideCause_4 : decode cX8_divideCause 4 = .ok (.iload_n 0, 1) := by decide +kernel
theorem dX8_divideCause_5 : decode cX8_divideCause 5 = .ok (.iconst 3, 1) := by decide +kernel
theorem dX8_divideCause_6 : decode cX8_divideCause 6 = .ok (.if_icmp .le 6, 3) := by decide +kernel
theorem dX8_divideCause_9 : decode cX8_divideCause 9 = .ok (.bipush 8, 2) := by decide +kernel
theorem dX8_divideCause_11 : decode cX8_divideCause 11 = .ok (.ireturn, 1) := by decide +kernel
theorem dX8_divideCause_12 : decode cX8_divideCause 12 = .ok (.iload_n 0, 1) := by decide +kernel
theorem dX8_divideCause_13 : decode cX8_divideCause 13 = .ok (.iconst 2, 1) := by decide +kernel
theorem dX8_divideCause_14 : decode cX8_divideCause 14 = .ok (.if_icmp .ge 16, 3) := by decide +kernel
theorem dX8_divideCause_17 : decode cX8_divideCause 17 = .ok (.lload_n 1, 1) := by decide +kernel
theorem dX8_divideCause_18 : decode cX8_divideCause 18 = .ok (.l2i, 1) := by decide +kernel
theorem dX8_divideCause_19 : decode cX8_divideCause 19 = .ok (.ifCond .ne 7, 3) := by decide +kernel
theorem dX8_divideCause_22 : decode cX8_divideCause 22 = .ok (.iconst 1, 1) := by decide +kernel
theorem dX8_divideCause_23 : decode cX8_divideCause 23 = .ok (.goto 18, 3) := by decide +kernel
theorem dX8_divideCause_26 : decode cX8_divideCause 26 = .ok (.iconst 0, 1) := by decide +kernel
theorem dX8_divideCause_27 : decode cX8_divideCause 27 = .ok (.goto 14, 3) := by decide +kernel
theorem dX8_divideCause_30 : decode cX8_divideCause 30 = .ok (.lload_n 1, 1) := by decide +kernel
theorem dX8_divideCause_31 : decode cX8_divideCause 31 = .ok (.lconst 0, 1) := by decide +kernel
theorem dX8_divideCause_32 : decode cX8_divideCause 32 = .ok (.lcmp, 1) := by decide +kernel
theorem dX8_divideCause_33 : decode cX8_divideCause 33 = .ok (.ifCond .ne 7, 3) := by decide +kernel
theorem dX8_divideCause_36 : decode cX8_divideCause 36 = .ok (.iconst 1, 1) := by decide +kernel
theorem dX8_divideCause_37 : decode cX8_divideCause 37 = .ok (.goto 4, 3) := by decide +kernel
theorem dX8_divideCause_40 : decode cX8_divideCause 40 = .ok (.iconst 0, 1) := by decide +kernel
theorem dX8_divideCause_41 : decode cX8_divideCause 41 = .ok (.istore_n 3, 1) := by decide +kernel
theorem dX8_divideCause_42 : decode cX8_divideCause 42 = .ok (.iload_n 3, 1) := by decide +kernel
theorem dX8_divideCause_43 : decode cX8_divideCause 43 = .ok (.ifCond .eq 8, 3) := by decide +kernel
theorem dX8_divideCause_46 : decode cX8_divideCause 46 = .ok (.bipush 6, 2) := by decide +kernel
theorem dX8_divideCause_48 : decode cX8_divideCause 48 = .ok (.goto 4, 3) := by decide +kernel
theorem dX8_divideCause_51 : decode cX8_divideCause 51 = .ok (.iconst 0, 1) := by decide +kernel
theorem dX8_divideCause_52 : decode cX8_divideCause 52 = .ok (.ireturn, 1) := by decide +kernel
theorem dX8_traceOf_0 : decode cX8_traceOf 0 = .ok (.iload_n 0, 1) := by decide +kernel
theorem dX8_traceOf_1 : decode cX8_traceOf 1 = .ok (.tableswitch 44 0 4 #[35, 44, 41, 44, 38], 35) := by decide +kernel
theorem dX8_traceOf_36 : decode cX8_traceOf 36 = .ok (.bipush 75, 2) := by decide +kernel
theorem dX8_traceOf_38 : decode cX8_traceOf 38 = .ok (.ireturn, 1) := by decide +kernel
theorem dX8_traceOf_39 : decode cX8_traceOf 39 = .ok (.bipush 77, 2) := by decide +kernel
theorem dX8_traceOf_41 : decode cX8_traceOf 41 = .ok (.ireturn, 1) := by decide +kernel
theorem dX8_traceOf_42 : decode cX8_traceOf 42 = .ok (.bipush 25, 2) := by decide +kernel
theorem dX8_traceOf_44 : decode cX8_traceOf 44 = .ok (.ireturn, 1) := by decide +kernel
theorem dX8_traceOf_45 : decode cX8_traceOf 45 = .ok (.bipush 41, 2) := by decide +kernel
theorem dX8_traceOf_47 : decode cX8_traceOf 47 = .ok (.ireturn, 1) := by decide +kernel
set_option maxRecDepth 20000 in
theorem ggX8_newThing_X2_init : GoodIn wsX8_newThing wsX2_init := goodIn_r _ [18, 19, 20, 21, 22, 23, 24, 25, 26, 27, 28, 56, 57, 58, 59, 60, 61, 62, 63, 64, 68, 69, 70, 65, 66, 67] rfl (by decide +kernel)
set_option maxRecDepth 20000 in
theorem gX8_newThing_X2_init : GoodIn wsX8_newThing (wsX2_init) := ggX8_newThing_X2_init
set_option maxRecDepth 20000 in
theorem ggX8_newThing_X4_init : GoodIn wsX8_newThing wsX4_init := goodIn_r _ [31, 32, 17, 3, 18, 19, 20, 21, 22, 23, 24, 25, 26, 27, 28, 56, 57, 58, 59, 60, 61, 62, 63, 64, 68, 69, 70, 65, 66, 67] rfl (by decide +kernel)
set_option maxRecDepth 20000 in
theorem gX8_newThing_X4_init : GoodIn wsX8_newThing (wsX4_init) := ggX8_newThing_X4_init
set_option maxRecDepth 20000 in
theorem ggX8_newThing_X5_init : GoodIn wsX8_newThing wsX5_init := goodIn_r _ [35, 36, 30, 6, 31, 32, 17, 3, 18, 19, 20, 21, 22, 23, 24, 25, 26, 27, 28, 56, 57, 58, 59, 60, 61, 62, 63, 64, 68, 69, 70, 65, 66, 67] rfl (by decide +kernel)
set_option maxRecDepth 20000 in
theorem gX8_newThing_X5_init : GoodIn wsX8_newThing (wsX5_init) := ggX8_newThing_X5_init
set_option maxRecDepth 20000 in
theorem ggX8_newThing_X7_init : GoodIn wsX8_newThing wsX7_init := goodIn_r _ [39, 40, 41, 42, 21, 22, 23, 24, 25, 26, 27, 28, 65, 66, 67, 68, 69, 70, 56, 57, 58, 59, 60, 61, 62, 63, 64] rfl (by decide +kernel)
set_option maxRecDepth 20000 in
theorem gX8_newThing_X7_init : GoodIn wsX8_newThing (wsX7_init) := ggX8_newThing_X7_init
set_option maxRecDepth 20000 in
theorem ggX8_newThing_X8_newRows : GoodIn wsX8_newThing wsX8_newRows := goodIn_r _ [46, 10, 11, 12, 47, 48, 49, 13, 14, 15, 37, 38, 39, 40, 41, 42, 21, 22, 23, 24, 25, 26, 27, 28, 50, 51, 52, 53, 54, 55, 65, 66, 67, 68, 69, 70, 56, 57, 58, 59, 60, 61, 62, 63, 64] rfl (by decide +kernel)
set_option maxRecDepth 20000 in
theorem gX8_newThing_X8_newRows : GoodIn wsX8_newThing (va_wsS RX8 243 yX8_newRows wsX8_newRows) := goodIn_app (goodIn_of _ (by decide +kernel)) ggX8_newThing_X8_newRows
set_option maxRecDepth 20000 in
theorem ggX8_newThing_X1_init : GoodIn wsX8_newThing wsX1_init := goodIn_r _ [52, 53, 54, 55, 21, 22, 23, 24, 25, 26, 27, 28, 68, 69, 70, 56, 57, 58, 59, 60, 61, 62, 63, 64, 65, 66, 67] rfl (by decide +kernel)
set_option maxRecDepth 20000 in
theorem gX8_newThing_X1_init : GoodIn wsX8_newThing (wsX1_init) := ggX8_newThing_X1_init
theorem dX8_newThing_0 : decode cX8_newThing 0 = .ok (.iload_n 0, 1) := by decide +kernel
theorem dX8_newThing_1 : decode cX8_newThing 1 = .ok (.tableswitch 86 7 12 #[80, 70, 70, 39, 50, 61], 39) := by decide +kernel
theorem dX8_newThing_40 : decode cX8_newThing 40 = .ok (.new 122, 3) := by decide +kernel
theorem dX8_newThing_43 : decode cX8_newThing 43 = .ok (.dup, 1) := by decide +kernel
theorem dX8_newThing_44 : decode cX8_newThing 44 = .ok (.bipush 10, 2) := by decide +kernel
theorem dX8_newThing_46 : decode cX8_newThing 46 = .ok (.iload_n 1, 1) := by decide +kernel
theorem dX8_newThing_47 : decode cX8_newThing 47 = .ok (.invokespecial 233, 3) := by decide +kernel
theorem dX8_newThing_50 : decode cX8_newThing 50 = .ok (.areturn, 1) := by decide +kernel
theorem dX8_newThing_51 : decode cX8_newThing 51 = .ok (.new 234, 3) := by decide +kernel
theorem dX8_newThing_54 : decode cX8_newThing 54 = .ok (.dup, 1) := by decide +kernel
theorem dX8_newThing_55 : decode cX8_newThing 55 = .ok (.bipush 11, 2) := by decide +kernel
theorem dX8_newThing_57 : decode cX8_newThing 57 = .ok (.iload_n 1, 1) := by decide +kernel
theorem dX8_newThing_58 : decode cX8_newThing 58 = .ok (.invokespecial 236, 3) := by decide +kernel
theorem dX8_newThing_61 : decode cX8_newThing 61 = .ok (.areturn, 1) := by decide +kernel
theorem dX8_newThing_62 : decode cX8_newThing 62 = .ok (.new 237, 3) := by decide +kernel
theorem dX8_newThing_65 : decode cX8_newThing 65 = .ok (.dup, 1) := by decide +kernel
theorem dX8_newThing_66 : decode cX8_newThing 66 = .ok (.iload_n 1, 1) := by decide +kernel
theorem dX8_newThing_67 : decode cX8_newThing 67 = .ok (.invokespecial 239, 3) := by decide +kernel
theorem dX8_newThing_70 : decode cX8_newThing 70 = .ok (.areturn, 1) := by decide +kernel
theorem dX8_newThing_71 : decode cX8_newThing 71 = .ok (.new 102, 3) := by decide +kernel
theorem dX8_newThing_74 : decode cX8_newThing 74 = .ok (.dup, 1) := by decide +kernel
theorem dX8_newThing_75 : decode cX8_newThing 75 = .ok (.iload_n 0, 1) := by decide +kernel
theorem dX8_newThing_76 : decode cX8_newThing 76 = .ok (.iload_n 1, 1) := by decide +kernel
theorem dX8_newThing_77 : decode cX8_newThing 77 = .ok (.invokespecial 242, 3) := by decide +kernel
theorem dX8_newThing_80 : decode cX8_newThing 80 = .ok (.areturn, 1) := by decide +kernel
theorem dX8_newThing_81 : decode cX8_newThing 81 = .ok (.iload_n 1, 1) := by decide +kernel
theorem dX8_newThing_82 : decode cX8_newThing 82 = .ok (.iload_n 2, 1) := by decide +kernel
theorem dX8_newThing_83 : decode cX8_newThing 83 = .ok (.invokestatic 243, 3) := by decide +kernel
theorem dX8_newThing_86 : decode cX8_newThing 86 = .ok (.areturn, 1) := by decide +kernel
theorem dX8_newThing_87 : decode cX8_newThing 87 = .ok (.new 45, 3) := by decide +kernel
theorem dX8_newThing_90 : decode cX8_newThing 90 = .ok (.dup, 1) := by decide +kernel
theorem dX8_newThing_91 : decode cX8_newThing 91 = .ok (.iload_n 0, 1) := by decide +kernel
theorem dX8_newThing_92 : decode cX8_newThing 92 = .ok (.iload_n 1, 1) := by decide +kernel
theorem dX8_newThing_93 : decode cX8_newThing 93 = .ok (.invokespecial 50, 3) := by decide +kernel
theorem dX8_newThing_96 : decode cX8_newThing 96 = .ok (.areturn, 1) := by decide +kernel
set_option maxRecDepth 20000 in
theorem ggX8_newRows_X7_init : GoodIn wsX8_newRows wsX7_init := goodIn_r _ [12, 13, 14, 15, 16, 17, 18, 19, 20, 21, 22, 23, 30, 31, 32, 33, 34, 35, 36, 37, 38, 39, 40, 41, 42, 43, 44] rfl (by decide +kernel)
set_option maxRecDepth 20000 in
theorem gX8_newRows_X7_init : GoodIn wsX8_newRows (wsX7_init) := ggX8_newRows_X7_init
set_option maxRecDepth 20000 in
theorem ggX8_newRows_X1_init : GoodIn wsX8_newRows wsX1_init := goodIn_r _ [26, 27, 28, 29, 16, 17, 18, 19, 20, 21, 22, 23, 33, 34, 35, 36, 37, 38, 39, 40, 41, 42, 43, 44, 30, 31, 32] rfl (by decide +kernel)
set_option maxRecDepth 20000 in
theorem gX8_newRows_X1_init : GoodIn wsX8_newRows (wsX1_init) := ggX8_newRows_X1_init
theorem dX8_newRows_0 : decode cX8_newRows 0 = .ok (.new 102, 3) := by decide +kernel
theorem dX8_newRows_3 : decode cX8_newRows 3 = .ok (.dup, 1) := by decide +kernel
theorem dX8_newRows_4 : decode cX8_newRows 4 = .ok (.bipush 7, 2) := by decide +kernel
theorem dX8_newRows_6 : decode cX8_newRows 6 = .ok (.iload_n 0, 1) := by decide +kernel
theorem dX8_newRows_7 : decode cX8_newRows 7 = .ok (.invokespecial 242, 3) := by decide +kernel
theorem dX8_newRows_10 : decode cX8_newRows 10 = .ok (.astore_n 2, 1) := by decide +kernel
theorem dX8_newRows_11 : decode cX8_newRows 11 = .ok (.iconst 0, 1) := by decide +kernel
theorem dX8_newRows_12 : decode cX8_newRows 12 = .ok (.istore_n 3, 1) := by decide +kernel
theorem dX8_newRows_13 : decode cX8_newRows 13 = .ok (.iload_n 3, 1) := by decide +kernel
theorem dX8_newRows_14 : decode cX8_newRows 14 = .ok (.aload_n 2, 1) := by decide +kernel
theorem dX8_newRows_15 : decode cX8_newRows 15 = .ok (.getfield 247, 3) := by decide +kernel
theorem dX8_newRows_18 : decode cX8_newRows 18 = .ok (.if_icmp .ge 24, 3) := by decide +kernel
theorem dX8_newRows_21 : decode cX8_newRows 21 = .ok (.aload_n 2, 1) := by decide +kernel
theorem dX8_newRows_22 : decode cX8_newRows 22 = .ok (.getfield 105, 3) := by decide +kernel
theorem dX8_newRows_25 : decode cX8_newRows 25 = .ok (.iload_n 3, 1) := by decide +kernel
theorem dX8_newRows_26 : decode cX8_newRows 26 = .ok (.new 45, 3) := by decide +kernel
theorem dX8_newRows_29 : decode cX8_newRows 29 = .ok (.dup, 1) := by decide +kernel
theorem dX8_newRows_30 : decode cX8_newRows 30 = .ok (.iconst 0, 1) := by decide +kernel
theorem dX8_newRows_31 : decode cX8_newRows 31 = .ok (.iload_n 1, 1) := by decide +kernel
theorem dX8_newRows_32 : decode cX8_newRows 32 = .ok (.invokespecial 50, 3) := by decide +kernel
theorem dX8_newRows_35 : decode cX8_newRows 35 = .ok (.aastore, 1) := by decide +kernel
theorem dX8_newRows_36 : decode cX8_newRows 36 = .ok (.iinc 3 1, 3) := by decide +kernel
theorem dX8_newRows_39 : decode cX8_newRows 39 = .ok (.goto (-26), 3) := by decide +kernel
theorem dX8_newRows_42 : decode cX8_newRows 42 = .ok (.aload_n 2, 1) := by decide +kernel
theorem dX8_newRows_43 : decode cX8_newRows 43 = .ok (.areturn, 1) := by decide +kernel
set_option maxRecDepth 20000 in
theorem ggX8_numberAt_X6_holds : GoodIn wsX8_numberAt wsX6_holds := goodIn_r _ [8, 9, 10, 11, 12, 13, 14, 15, 16, 17, 18, 19, 20, 21, 22, 23, 24] rfl (by decide +kernel)
set_option maxRecDepth 20000 in
theorem gX8_numberAt_X6_holds_u81X1 : GoodIn wsX8_numberAt (va_wsU RX8 81 RX1 "ThrowModels$Thing" ⟨"ThrowModels$NumberArray", "holds", "(I)Z"⟩ yX6_holds wsX6_holds) := goodIn_app (goodIn_of _ (by decide +kernel)) ggX8_numberAt_X6_holds
theorem dX8_numberAt_0 : decode cX8_numberAt 0 = .ok (.aload_n 0, 1) := by decide +kernel
theorem dX8_numberAt_1 : decode cX8_numberAt 1 = .ok (.instanceof 45, 3) := by decide +kernel
theorem dX8_numberAt_4 : decode cX8_numberAt 4 = .ok (.ifCond .eq 23, 3) := by decide +kernel
theorem dX8_numberAt_7 : decode cX8_numberAt 7 = .ok (.aload_n 0, 1) := by decide +kernel
theorem dX8_numberAt_8 : decode cX8_numberAt 8 = .ok (.checkcast 45, 3) := by decide +kernel
theorem dX8_numberAt_11 : decode cX8_numberAt 11 = .ok (.astore_n 2, 1) := by decide +kernel
theorem dX8_numberAt_12 : decode cX8_numberAt 12 = .ok (.aload_n 2, 1) := by decide +kernel
theorem dX8_numberAt_13 : decode cX8_numberAt 13 = .ok (.iload_n 1, 1) := by decide +kernel
theorem dX8_numberAt_14 : decode cX8_numberAt 14 = .ok (.invokevirtual 81, 3) := by decide +kernel
theorem dX8_numberAt_17 : decode cX8_numberAt 17 = .ok (.ifCond .eq 10, 3) := by decide +kernel
theorem dX8_numberAt_20 : decode cX8_numberAt 20 = .ok (.aload_n 2, 1) := by decide +kernel
theorem dX8_numberAt_21 : decode cX8_numberAt 21 = .ok (.getfield 53, 3) := by decide +kernel
theorem dX8_numberAt_24 : decode cX8_numberAt 24 = .ok (.iload_n 1, 1) := by decide +kernel
theorem dX8_numberAt_25 : decode cX8_numberAt 25 = .ok (.laload, 1) := by decide +kernel
theorem dX8_numberAt_26 : decode cX8_numberAt 26 = .ok (.lreturn, 1) := by decide +kernel
theorem dX8_numberAt_27 : decode cX8_numberAt 27 = .ok (.lconst 0, 1) := by decide +kernel
theorem dX8_numberAt_28 : decode cX8_numberAt 28 = .ok (.lreturn, 1) := by decide +kernel
set_option maxRecDepth 20000 in
theorem ggX8_elementAt_X6_holds : GoodIn wsX8_elementAt wsX6_holds := goodIn_r _ [8, 9, 13, 14, 15, 16, 17, 18, 19, 20, 21, 22, 23, 24, 10, 11, 12] rfl (by decide +kernel)
set_option maxRecDepth 20000 in
theorem gX8_elementAt_X6_holds_u104X7 : GoodIn wsX8_elementAt (va_wsU RX8 104 RX7 "ThrowModels$Thing" ⟨"ThrowModels$ThingArray", "holds", "(I)Z"⟩ yX6_holds wsX6_holds) := goodIn_app (goodIn_of _ (by decide +kernel)) ggX8_elementAt_X6_holds
theorem dX8_elementAt_0 : decode cX8_elementAt 0 = .ok (.aload_n 0, 1) := by decide +kernel
theorem dX8_elementAt_1 : decode cX8_elementAt 1 = .ok (.instanceof 102, 3) := by decide +kernel
theorem dX8_elementAt_4 : decode cX8_elementAt 4 = .ok (.ifCond .eq 23, 3) := by decide +kernel
theorem dX8_elementAt_7 : decode cX8_elementAt 7 = .ok (.aload_n 0, 1) := by decide +kernel
theorem dX8_elementAt_8 : decode cX8_elementAt 8 = .ok (.checkcast 102, 3) := by decide +kernel
theorem dX8_elementAt_11 : decode cX8_elementAt 11 = .ok (.astore_n 2, 1) := by decide +kernel
theorem dX8_elementAt_12 : decode cX8_elementAt 12 = .ok (.aload_n 2, 1) := by decide +kernel
theorem dX8_elementAt_13 : decode cX8_elementAt 13 = .ok (.iload_n 1, 1) := by decide +kernel
theorem dX8_elementAt_14 : decode cX8_elementAt 14 = .ok (.invokevirtual 104, 3) := by decide +kernel
theorem dX8_elementAt_17 : decode cX8_elementAt 17 = .ok (.ifCond .eq 10, 3) := by decide +kernel
theorem dX8_elementAt_20 : decode cX8_elementAt 20 = .ok (.aload_n 2, 1) := by decide +kernel
theorem dX8_elementAt_21 : decode cX8_elementAt 21 = .ok (.getfield 105, 3) := by decide +kernel
theorem dX8_elementAt_24 : decode cX8_elementAt 24 = .ok (.iload_n 1, 1) := by decide +kernel
theorem dX8_elementAt_25 : decode cX8_elementAt 25 = .ok (.aaload, 1) := by decide +kernel
theorem dX8_elementAt_26 : decode cX8_elementAt 26 = .ok (.areturn, 1) := by decide +kernel
theorem dX8_elementAt_27 : decode cX8_elementAt 27 = .ok (.aconst_null, 1) := by decide +kernel
theorem dX8_elementAt_28 : decode cX8_elementAt 28 = .ok (.areturn, 1) := by decide +kernel
set_option maxRecDepth 20000 in
theorem ggX8_elementTypeOfType_X8_elementTypeOfKind : GoodIn wsX8_elementTypeOfType wsX8_elementTypeOfKind := goodIn_r _ [4] rfl (by decide +kernel)
set_option maxRecDepth 20000 in
theorem gX8_elementTypeOfType_X8_elementTypeOfKind : GoodIn wsX8_elementTypeOfType (va_wsS RX8 226 yX8_elementTypeOfKind wsX8_elementTypeOfKind) := goodIn_app (goodIn_of _ (by decide +kernel)) ggX8_elementTypeOfType_X8_elementTypeOfKind
theorem dX8_elementTypeOfType_0 : decode cX8_elementTypeOfType 0 = .ok (.iload_n 0, 1) := by decide +kernel
theorem dX8_elementTypeOfType_1 : decode cX8_elementTypeOfType 1 = .ok (.bipush 15, 2) := by decide +kernel
theorem dX8_elementTypeOfType_3 : decode cX8_elementTypeOfType 3 = .ok (.if_icmp .ne 8, 3) := by decide +kernel
theorem dX8_elementTypeOfType_6 : decode cX8_elementTypeOfType 6 = .ok (.bipush 13, 2) := by decide +kernel
theorem dX8_elementTypeOfType_8 : decode cX8_elementTypeOfType 8 = .ok (.goto 7, 3) := by decide +kernel
theorem dX8_elementTypeOfType_11 : decode cX8_elementTypeOfType 11 = .ok (.iload_n 0, 1) := by decide +kernel
theorem dX8_elementTypeOfType_12 : decode cX8_elementTypeOfType 12 = .ok (.invokestatic 226, 3) := by decide +kernel
theorem dX8_elementTypeOfType_15 : decode cX8_elementTypeOfType 15 = .ok (.ireturn, 1) := by decide +kernel
theorem dX8_elementTypeOfKind_0 : decode cX8_elementTypeOfKind 0 = .ok (.iload_n 0, 1) := by decide +kernel
theorem dX8_elementTypeOfKind_1 : decode cX8_elementTypeOfKind 1 = .ok (.lookupswitch 32 #[(7, 27), (8, 29)], 27) := by decide +kernel
theorem dX8_elementTypeOfKind_28 : decode cX8_elementTypeOfKind 28 = .ok (.iconst 0, 1) := by decide +kernel
theorem dX8_elementTypeOfKind_29 : decode cX8_elementTypeOfKind 29 = .ok (.ireturn, 1) := by decide +kernel
theorem dX8_elementTypeOfKind_30 : decode cX8_elementTypeOfKind 30 = .ok (.bipush 10, 2) := by decide +kernel
theorem dX8_elementTypeOfKind_32 : decode cX8_elementTypeOfKind 32 = .ok (.ireturn, 1) := by decide +kernel
theorem dX8_elementTypeOfKind_33 : decode cX8_elementTypeOfKind 33 = .ok (.bipush 11, 2) := by decide +kernel
theorem dX8_elementTypeOfKind_35 : decode cX8_elementTypeOfKind 35 = .ok (.ireturn, 1) := by decide +kernel
set_option maxRecDepth 20000 in
theorem ggX8_cutToWidth_X0_isNaN : GoodIn wsX8_cutToWidth wsX0_isNaN := goodIn_r _ [7, 8, 9, 10, 11, 6, 12, 13] rfl (by decide +kernel)
set_option maxRecDepth 20000 in
theorem gX8_cutToWidth_X0_isNaN : GoodIn wsX8_cutToWidth (wsV RX8 176 RX0 yX0_isNaN wsX0_isNaN) := goodIn_app (goodIn_of _ (by decide +kernel)) ggX8_cutToWidth_X0_isNaN
set_option maxRecDepth 20000 in
theorem ggX8_cutToWidth_X0_plainNaN : GoodIn wsX8_cutToWidth wsX0_plainNaN := goodIn_r _ [17, 8, 18] rfl (by decide +kernel)
set_option maxRecDepth 20000 in
theorem gX8_cutToWidth_X0_plainNaN : GoodIn wsX8_cutToWidth (wsV RX8 180 RX0 yX0_plainNaN wsX0_plainNaN) := goodIn_app (goodIn_of _ (by decide +kernel)) ggX8_cutToWidth_X0_plainNaN
theorem dX8_cutToWidth_0 : decode cX8_cutToWidth 0 = .ok (.iload_n 0, 1) := by decide +kernel
theorem dX8_cutToWidth_1 : decode cX8_cutToWidth 1 = .ok (.tableswitch 100 1 6 #[39, 41, 46, 51, 56, 79], 39) := by decide +kernel
theorem dX8_cutToWidth_40 : decode cX8_cutToWidth 40 = .ok (.lload_n 1, 1) := by decide +kernel
theorem dX8_cutToWidth_41 : decode cX8_cutToWidth 41 = .ok (.lreturn, 1) := by decide +kernel
theorem dX8_cutToWidth_42 : decode cX8_cutToWidth 42 = .ok (.lload_n 1, 1) := by decide +kernel
theorem dX8_cutToWidth_43 : decode cX8_cutToWidth 43 = .ok (.l2i, 1) := by decide +kernel
theorem dX8_cutToWidth_44 : decode cX8_cutToWidth 44 = .ok (.i2b, 1) := by decide +kernel
theorem dX8_cutToWidth_45 : decode cX8_cutToWidth 45 = .ok (.i2l, 1) := by decide +kernel
theorem dX8_cutToWidth_46 : decode cX8_cutToWidth 46 = .ok (.lreturn, 1) := by decide +kernel
theorem dX8_cutToWidth_47 : decode cX8_cutToWidth 47 = .ok (.lload_n 1, 1) := by decide +kernel
theorem dX8_cutToWidth_48 : decode cX8_cutToWidth 48 = .ok (.l2i, 1) := by decide +kernel
theorem dX8_cutToWidth_49 : decode cX8_cutToWidth 49 = .ok (.i2c, 1) := by decide +kernel
theorem dX8_cutToWidth_50 : decode cX8_cutToWidth 50 = .ok (.i2l, 1) := by decide +kernel
theorem dX8_cutToWidth_51 : decode cX8_cutToWidth 51 = .ok (.lreturn, 1) := by decide +kernel
theorem dX8_cutToWidth_52 : decode cX8_cutToWidth 52 = .ok (.lload_n 1, 1) := by decide +kernel
theorem dX8_cutToWidth_53 : decode cX8_cutToWidth 53 = .ok (.l2i, 1) := by decide +kernel
theorem dX8_cutToWidth_54 : decode cX8_cutToWidth 54 = .ok (.i2s, 1) := by decide +kernel
theorem dX8_cutToWidth_55 : decode cX8_cutToWidth 55 = .ok (.i2l, 1) := by decide +kernel
theorem dX8_cutToWidth_56 : decode cX8_cutToWidth 56 = .ok (.lreturn, 1) := by decide +kernel
theorem dX8_cutToWidth_57 : decode cX8_cutToWidth 57 = .ok (.getstatic 194, 3) := by decide +kernel
theorem dX8_cutToWidth_60 : decode cX8_cutToWidth 60 = .ok (.lload_n 1, 1) := by decide +kernel
theorem dX8_cutToWidth_61 : decode cX8_cutToWidth 61 = .ok (.invokevirtual 176, 3) := by decide +kernel
theorem dX8_cutToWidth_64 : decode cX8_cutToWidth 64 = .ok (.ifCond .eq 12, 3) := by decide +kernel
theorem dX8_cutToWidth_67 : decode cX8_cutToWidth 67 = .ok (.getstatic 194, 3) := by decide +kernel
theorem dX8_cutToWidth_70 : decode cX8_cutToWidth 70 = .ok (.invokevirtual 180, 3) := by decide +kernel
theorem dX8_cutToWidth_73 : decode cX8_cutToWidth 73 = .ok (.goto 6, 3) := by decide +kernel
theorem dX8_cutToWidth_76 : decode cX8_cutToWidth 76 = .ok (.lload_n 1, 1) := by decide +kernel
theorem dX8_cutToWidth_77 : decode cX8_cutToWidth 77 = .ok (.l2i, 1) := by decide +kernel
theorem dX8_cutToWidth_78 : decode cX8_cutToWidth 78 = .ok (.i2l, 1) := by decide +kernel
theorem dX8_cutToWidth_79 : decode cX8_cutToWidth 79 = .ok (.lreturn, 1) := by decide +kernel
theorem dX8_cutToWidth_80 : decode cX8_cutToWidth 80 = .ok (.getstatic 170, 3) := by decide +kernel
theorem dX8_cutToWidth_83 : decode cX8_cutToWidth 83 = .ok (.lload_n 1, 1) := by decide +kernel
theorem dX8_cutToWidth_84 : decode cX8_cutToWidth 84 = .ok (.invokevirtual 176, 3) := by decide +kernel
theorem dX8_cutToWidth_87 : decode cX8_cutToWidth 87 = .ok (.ifCond .eq 12, 3) := by decide +kernel
theorem dX8_cutToWidth_90 : decode cX8_cutToWidth 90 = .ok (.getstatic 170, 3) := by decide +kernel
theorem dX8_cutToWidth_93 : decode cX8_cutToWidth 93 = .ok (.invokevirtual 180, 3) := by decide +kernel
theorem dX8_cutToWidth_96 : decode cX8_cutToWidth 96 = .ok (.goto 4, 3) := by decide +kernel
theorem dX8_cutToWidth_99 : decode cX8_cutToWidth 99 = .ok (.lload_n 1, 1) := by decide +kernel
theorem dX8_cutToWidth_100 : decode cX8_cutToWidth 100 = .ok (.lreturn, 1) := by decide +kernel
theorem dX8_cutToWidth_101 : decode cX8_cutToWidth 101 = .ok (.lload_n 1, 1) := by decide +kernel
theorem dX8_cutToWidth_102 : decode cX8_cutToWidth 102 = .ok (.l2i, 1) := by decide +kernel
theorem dX8_cutToWidth_103 : decode cX8_cutToWidth 103 = .ok (.i2l, 1) := by decide +kernel
theorem dX8_cutToWidth_104 : decode cX8_cutToWidth 104 = .ok (.lreturn, 1) := by decide +kernel
set_option maxRecDepth 20000 in
theorem ggX8_copyElements_X8_copyThings : GoodIn wsX8_copyElements wsX8_copyThings := goodIn_r _ [11, 12, 13, 14, 15, 16, 10, 17, 18, 19, 20, 21, 22, 23, 24, 25, 26, 27, 28, 29, 30, 31, 35, 36, 37, 38, 39, 40, 41, 42, 43, 44, 45, 46, 47, 48, 49] rfl (by decide +kernel)
set_option maxRecDepth 20000 in
theorem gX8_copyElements_X8_copyThings : GoodIn wsX8_copyElements (va_wsS RX8 248 yX8_copyThings wsX8_copyThings) := goodIn_app (goodIn_of _ (by decide +kernel)) ggX8_copyElements_X8_copyThings
set_option maxRecDepth 20000 in
theorem ggX8_copyElements_X8_shiftThings : GoodIn wsX8_copyElements wsX8_shiftThings := goodIn_r _ [34, 14, 47, 48, 49] rfl (by decide +kernel)
set_option maxRecDepth 20000 in
theorem gX8_copyElements_X8_shiftThings : GoodIn wsX8_copyElements (va_wsS RX8 252 yX8_shiftThings wsX8_shiftThings) := goodIn_app (goodIn_of _ (by decide +kernel)) ggX8_copyElements_X8_shiftThings
theorem dX8_copyElements_0 : decode cX8_copyElements 0 = .ok (.aload_n 0, 1) := by decide +kernel
theorem dX8_copyElements_1 : decode cX8_copyElements 1 = .ok (.instanceof 45, 3) := by decide +kernel
theorem dX8_copyElements_4 : decode cX8_copyElements 4 = .ok (.ifCond .eq 39, 3) := by decide +kernel
theorem dX8_copyElements_7 : decode cX8_copyElements 7 = .ok (.aload_n 0, 1) := by decide +kernel
theorem dX8_copyElements_8 : decode cX8_copyElements 8 = .ok (.checkcast 45, 3) := by decide +kernel
theorem dX8_copyElements_11 : decode cX8_copyElements 11 = .ok (.astore 5, 2) := by decide +kernel
theorem dX8_copyElements_13 : decode cX8_copyElements 13 = .ok (.aload_n 2, 1) := by decide +kernel
theorem dX8_copyElements_14 : decode cX8_copyElements 14 = .ok (.instanceof 45, 3) := by decide +kernel
theorem dX8_copyElements_17 : decode cX8_copyElements 17 = .ok (.ifCond .eq 26, 3) := by decide +kernel
theorem dX8_copyElements_20 : decode cX8_copyElements 20 = .ok (.aload_n 2, 1) := by decide +kernel
theorem dX8_copyElements_21 : decode cX8_copyElements 21 = .ok (.checkcast 45, 3) := by decide +kernel
theorem dX8_copyElements_24 : decode cX8_copyElements 24 = .ok (.astore 6, 2) := by decide +kernel
theorem dX8_copyElements_26 : decode cX8_copyElements 26 = .ok (.aload 5, 2) := by decide +kernel
theorem dX8_copyElements_28 : decode cX8_copyElements 28 = .ok (.getfield 53, 3) := by decide +kernel
theorem dX8_copyElements_31 : decode cX8_copyElements 31 = .ok (.iload_n 1, 1) := by decide +kernel
theorem dX8_copyElements_32 : decode cX8_copyElements 32 = .ok (.aload 6, 2) := by decide +kernel
theorem dX8_copyElements_34 : decode cX8_copyElements 34 = .ok (.getfield 53, 3) := by decide +kernel
theorem dX8_copyElements_37 : decode cX8_copyElements 37 = .ok (.iload_n 3, 1) := by decide +kernel
theorem dX8_copyElements_38 : decode cX8_copyElements 38 = .ok (.iload 4, 2) := by decide +kernel
theorem dX8_copyElements_40 : decode cX8_copyElements 40 = .ok (.invokestatic 57, 3) := by decide +kernel
theorem dX8_copyElements_43 : decode cX8_copyElements 43 = .ok (.aload_n 0, 1) := by decide +kernel
theorem dX8_copyElements_44 : decode cX8_copyElements 44 = .ok (.instanceof 102, 3) := by decide +kernel
theorem dX8_copyElements_47 : decode cX8_copyElements 47 = .ok (.ifCond .eq 50, 3) := by decide +kernel
theorem dX8_copyElements_50 : decode cX8_copyElements 50 = .ok (.aload_n 0, 1) := by decide +kernel
theorem dX8_copyElements_51 : decode cX8_copyElements 51 = .ok (.checkcast 102, 3) := by decide +kernel
theorem dX8_copyElements_54 : decode cX8_copyElements 54 = .ok (.astore 5, 2) := by decide +kernel
theorem dX8_copyElements_56 : decode cX8_copyElements 56 = .ok (.aload_n 2, 1) := by decide +kernel
theorem dX8_copyElements_57 : decode cX8_copyElements 57 = .ok (.instanceof 102, 3) := by decide +kernel
theorem dX8_copyElements_60 : decode cX8_copyElements 60 = .ok (.ifCond .eq 37, 3) := by decide +kernel
theorem dX8_copyElements_63 : decode cX8_copyElements 63 = .ok (.aload_n 2, 1) := by decide +kernel
theorem dX8_copyElements_64 : decode cX8_copyElements 64 = .ok (.checkcast 102, 3) := by decide +kernel
theorem dX8_copyElements_67 : decode cX8_copyElements 67 = .ok (.astore 6, 2) := by decide +kernel
theorem dX8_copyElements_69 : decode cX8_copyElements 69 = .ok (.aload 5, 2) := by decide +kernel
theorem dX8_copyElements_71 : decode cX8_copyElements 71 = .ok (.aload 6, 2) := by decide +kernel
theorem dX8_copyElements_73 : decode cX8_copyElements 73 = .ok (.if_acmp .eq 15, 3) := by decide +kernel
theorem dX8_copyElements_76 : decode cX8_copyElements 76 = .ok (.aload 5, 2) := by decide +kernel
theorem dX8_copyElements_78 : decode cX8_copyElements 78 = .ok (.iload_n 1, 1) := by decide +kernel
theorem dX8_copyElements_79 : decode cX8_copyElements 79 = .ok (.aload 6, 2) := by decide +kernel
theorem dX8_copyElements_81 : decode cX8_copyElements 81 = .ok (.iload_n 3, 1) := by decide +kernel
theorem dX8_copyElements_82 : decode cX8_copyElements 82 = .ok (.iload 4, 2) := by decide +kernel
theorem dX8_copyElements_84 : decode cX8_copyElements 84 = .ok (.invokestatic 248, 3) := by decide +kernel
theorem dX8_copyElements_87 : decode cX8_copyElements 87 = .ok (.ireturn, 1) := by decide +kernel
theorem dX8_copyElements_88 : decode cX8_copyElements 88 = .ok (.aload 6, 2) := by decide +kernel
theorem dX8_copyElements_90 : decode cX8_copyElements 90 = .ok (.iload_n 1, 1) := by decide +kernel
theorem dX8_copyElements_91 : decode cX8_copyElements 91 = .ok (.iload_n 3, 1) := by decide +kernel
theorem dX8_copyElements_92 : decode cX8_copyElements 92 = .ok (.iload 4, 2) := by decide +kernel
theorem dX8_copyElements_94 : decode cX8_copyElements 94 = .ok (.invokestatic 252, 3) := by decide +kernel
theorem dX8_copyElements_97 : decode cX8_copyElements 97 = .ok (.iconst 0, 1) := by decide +kernel
theorem dX8_copyElements_98 : decode cX8_copyElements 98 = .ok (.ireturn, 1) := by decide +kernel
theorem dX8_shiftThings_0 : decode cX8_shiftThings 0 = .ok (.iconst 0, 1) := by decide +kernel
theorem dX8_shiftThings_1 : decode cX8_shiftThings 1 = .ok (.istore 4, 2) := by decide +kernel
theorem dX8_shiftThings_3 : decode cX8_shiftThings 3 = .ok (.iload 4, 2) := by decide +kernel
theorem dX8_shiftThings_5 : decode cX8_shiftThings 5 = .ok (.iload_n 3, 1) := by decide +kernel
theorem dX8_shiftThings_6 : decode cX8_shiftThings 6 = .ok (.if_icmp .ge 45, 3) := by decide +kernel
theorem dX8_shiftThings_9 : decode cX8_shiftThings 9 = .ok (.iload_n 1, 1) := by decide +kernel
theorem dX8_shiftThings_10 : decode cX8_shiftThings 10 = .ok (.iload_n 2, 1) := by decide +kernel
theorem dX8_shiftThings_11 : decode cX8_shiftThings 11 = .ok (.if_icmp .ge 12, 3) := by decide +kernel
theorem dX8_shiftThings_14 : decode cX8_shiftThings 14 = .ok (.iload_n 3, 1) := by decide +kernel
theorem dX8_shiftThings_15 : decode cX8_shiftThings 15 = .ok (.iconst 1, 1) := by decide +kernel
theorem dX8_shiftThings_16 : decode cX8_shiftThings 16 = .ok (.isub, 1) := by decide +kernel
theorem dX8_shiftThings_17 : decode cX8_shiftThings 17 = .ok (.iload 4, 2) := by decide +kernel
theorem dX8_shiftThings_19 : decode cX8_shiftThings 19 = .ok (.isub, 1) := by decide +kernel
theorem dX8_shiftThings_20 : decode cX8_shiftThings 20 = .ok (.goto 5, 3) := by decide +kernel
theorem dX8_shiftThings_23 : decode cX8_shiftThings 23 = .ok (.iload 4, 2) := by decide +kernel
theorem dX8_shiftThings_25 : decode cX8_shiftThings 25 = .ok (.istore 5, 2) := by decide +kernel
theorem dX8_shiftThings_27 : decode cX8_shiftThings 27 = .ok (.aload_n 0, 1) := by decide +kernel
theorem dX8_shiftThings_28 : decode cX8_shiftThings 28 = .ok (.getfield 105, 3) := by decide +kernel
theorem dX8_shiftThings_31 : decode cX8_shiftThings 31 = .ok (.iload_n 2, 1) := by decide +kernel
theorem dX8_shiftThings_32 : decode cX8_shiftThings 32 = .ok (.iload 5, 2) := by decide +kernel
theorem dX8_shiftThings_34 : decode cX8_shiftThings 34 = .ok (.iadd, 1) := by decide +kernel
theorem dX8_shiftThings_35 : decode cX8_shiftThings 35 = .ok (.aload_n 0, 1) := by decide +kernel
theorem dX8_shiftThings_36 : decode cX8_shiftThings 36 = .ok (.getfield 105, 3) := by decide +kernel
theorem dX8_shiftThings_39 : decode cX8_shiftThings 39 = .ok (.iload_n 1, 1) := by decide +kernel
theorem dX8_shiftThings_40 : decode cX8_shiftThings 40 = .ok (.iload 5, 2) := by decide +kernel
theorem dX8_shiftThings_42 : decode cX8_shiftThings 42 = .ok (.iadd, 1) := by decide +kernel
theorem dX8_shiftThings_43 : decode cX8_shiftThings 43 = .ok (.aaload, 1) := by decide +kernel
theorem dX8_shiftThings_44 : decode cX8_shiftThings 44 = .ok (.aastore, 1) := by decide +kernel
theorem dX8_shiftThings_45 : decode cX8_shiftThings 45 = .ok (.iinc 4 1, 3) := by decide +kernel
theorem dX8_shiftThings_48 : decode cX8_shiftThings 48 = .ok (.goto (-45), 3) := by decide +kernel
theorem dX8_shiftThings_51 : decode cX8_shiftThings 51 = .ok (.return_, 1) := by decide +kernel
set_option maxRecDepth 20000 in
theorem ggX8_copyThings_X8_elementTypeOfKind : GoodIn wsX8_copyThings wsX8_elementTypeOfKind := goodIn_r _ [7] rfl (by decide +kernel)
set_option maxRecDepth 20000 in
theorem gX8_copyThings_X8_elementTypeOfKind : GoodIn wsX8_copyThings (va_wsS RX8 226 yX8_elementTypeOfKind wsX8_elementTypeOfKind) := goodIn_app (goodIn_of _ (by decide +kernel)) ggX8_copyThings_X8_elementTypeOfKind
set_option maxRecDepth 20000 in
theorem ggX8_copyThings_X8_passesCast : GoodIn wsX8_copyThings wsX8_passesCast := goodIn_r _ [10, 11, 12, 13, 14, 15, 16, 17, 18, 19, 20, 21, 22, 23, 24, 25, 26, 27, 28, 29, 30, 31, 32, 33, 34, 35, 36] rfl (by decide +kernel)
set_option maxRecDepth 20000 in
theorem gX8_copyThings_X8_passesCast : GoodIn wsX8_copyThings (va_wsS RX8 217 yX8_passesCast wsX8_passesCast) := goodIn_app (goodIn_of _ (by decide +kernel)) ggX8_copyThings_X8_passesCast
theorem dX8_copyThings_0 : decode cX8_copyThings 0 = .ok (.aload_n 2, 1) := by decide +kernel
theorem dX8_copyThings_1 : decode cX8_copyThings 1 = .ok (.getfield 256, 3) := by decide +kernel
theorem dX8_copyThings_4 : decode cX8_copyThings 4 = .ok (.invokestatic 226, 3) := by decide +kernel
theorem dX8_copyThings_7 : decode cX8_copyThings 7 = .ok (.istore 5, 2) := by decide +kernel
theorem dX8_copyThings_9 : decode cX8_copyThings 9 = .ok (.iconst 0, 1) := by decide +kernel
theorem dX8_copyThings_10 : decode cX8_copyThings 10 = .ok (.istore 6, 2) := by decide +kernel
theorem dX8_copyThings_12 : decode cX8_copyThings 12 = .ok (.iload 6, 2) := by decide +kernel
theorem dX8_copyThings_14 : decode cX8_copyThings 14 = .ok (.iload 4, 2) := by decide +kernel
theorem dX8_copyThings_16 : decode cX8_copyThings 16 = .ok (.if_icmp .ge 43, 3) := by decide +kernel
theorem dX8_copyThings_19 : decode cX8_copyThings 19 = .ok (.aload_n 0, 1) := by decide +kernel
theorem dX8_copyThings_20 : decode cX8_copyThings 20 = .ok (.getfield 105, 3) := by decide +kernel
theorem dX8_copyThings_23 : decode cX8_copyThings 23 = .ok (.iload_n 1, 1) := by decide +kernel
theorem dX8_copyThings_24 : decode cX8_copyThings 24 = .ok (.iload 6, 2) := by decide +kernel
theorem dX8_copyThings_26 : decode cX8_copyThings 26 = .ok (.iadd, 1) := by decide +kernel
theorem dX8_copyThings_27 : decode cX8_copyThings 27 = .ok (.aaload, 1) := by decide +kernel
theorem dX8_copyThings_28 : decode cX8_copyThings 28 = .ok (.astore 7, 2) := by decide +kernel
theorem dX8_copyThings_30 : decode cX8_copyThings 30 = .ok (.iload 5, 2) := by decide +kernel
theorem dX8_copyThings_32 : decode cX8_copyThings 32 = .ok (.aload 7, 2) := by decide +kernel
theorem dX8_copyThings_34 : decode cX8_copyThings 34 = .ok (.invokestatic 217, 3) := by decide +kernel
theorem dX8_copyThings_37 : decode cX8_copyThings 37 = .ok (.ifCond .ne 5, 3) := by decide +kernel
theorem dX8_copyThings_40 : decode cX8_copyThings 40 = .ok (.iconst 5, 1) := by decide +kernel
theorem dX8_copyThings_41 : decode cX8_copyThings 41 = .ok (.ireturn, 1) := by decide +kernel
theorem dX8_copyThings_42 : decode cX8_copyThings 42 = .ok (.aload_n 2, 1) := by decide +kernel
theorem dX8_copyThings_43 : decode cX8_copyThings 43 = .ok (.getfield 105, 3) := by decide +kernel
theorem dX8_copyThings_46 : decode cX8_copyThings 46 = .ok (.iload_n 3, 1) := by decide +kernel
theorem dX8_copyThings_47 : decode cX8_copyThings 47 = .ok (.iload 6, 2) := by decide +kernel
theorem dX8_copyThings_49 : decode cX8_copyThings 49 = .ok (.iadd, 1) := by decide +kernel
theorem dX8_copyThings_50 : decode cX8_copyThings 50 = .ok (.aload 7, 2) := by decide +kernel
theorem dX8_copyThings_52 : decode cX8_copyThings 52 = .ok (.aastore, 1) := by decide +kernel
theorem dX8_copyThings_53 : decode cX8_copyThings 53 = .ok (.iinc 6 1, 3) := by decide +kernel
theorem dX8_copyThings_56 : decode cX8_copyThings 56 = .ok (.goto (-44), 3) := by decide +kernel
theorem dX8_copyThings_59 : decode cX8_copyThings 59 = .ok (.iconst 0, 1) := by decide +kernel
theorem dX8_copyThings_60 : decode cX8_copyThings 60 = .ok (.ireturn, 1) := by decide +kernel
set_option maxRecDepth 20000 in
theorem ggX8_callAnswer_X2_twice : GoodIn wsX8_callAnswer wsX2_twice := goodIn_r _ [6, 7, 8, 9, 5, 10, 11, 12, 13, 14, 15, 16, 17, 18, 19, 20, 21, 22, 23, 24, 25, 26, 71, 72, 73, 74, 75, 76, 77, 78, 79] rfl (by decide +kernel)
set_option maxRecDepth 20000 in
theorem gX8_callAnswer_X2_twice : GoodIn wsX8_callAnswer (wsV RX8 257 RX2 yX2_twice wsX2_twice) := goodIn_app (goodIn_of _ (by decide +kernel)) ggX8_callAnswer_X2_twice
set_option maxRecDepth 20000 in
theorem ggX8_callAnswer_X4_twice : GoodIn wsX8_callAnswer wsX4_twice := goodIn_r _ [32, 33, 16, 34, 17, 18, 19, 20, 35, 36, 37, 38, 22, 23, 24, 25, 26, 71, 72, 73, 74, 75, 76, 77, 78, 79] rfl (by decide +kernel)
set_option maxRecDepth 20000 in
theorem gX8_callAnswer_X4_twice_u257X4 : GoodIn wsX8_callAnswer (va_wsO RX8 257 RX4 "ThrowModels$Plain" ⟨"ThrowModels$Plain", "twice", "()I"⟩ yX4_twice wsX4_twice) := goodIn_app (goodIn_of _ (by decide +kernel)) ggX8_callAnswer_X4_twice
set_option maxRecDepth 20000 in
theorem gX8_callAnswer_X4_twice_u257X5 : GoodIn wsX8_callAnswer (va_wsO RX8 257 RX5 "ThrowModels$Plain" ⟨"ThrowModels$Plain", "twice", "()I"⟩ yX4_twice wsX4_twice) := goodIn_app (goodIn_of _ (by decide +kernel)) ggX8_callAnswer_X4_twice
set_option maxRecDepth 20000 in
theorem ggX8_callAnswer_X2_mark : GoodIn wsX8_callAnswer wsX2_mark := goodIn_r _ [43, 11, 71, 72, 73, 74, 75, 76, 77, 78, 79] rfl (by decide +kernel)
set_option maxRecDepth 20000 in
theorem gX8_callAnswer_X2_mark : GoodIn wsX8_callAnswer (wsV RX8 260 RX2 yX2_mark wsX2_mark) := goodIn_app (goodIn_of _ (by decide +kernel)) ggX8_callAnswer_X2_mark
set_option maxRecDepth 20000 in
theorem gX8_callAnswer_X2_mark_u260X4 : GoodIn wsX8_callAnswer (va_wsU RX8 260 RX4 "ThrowModels$Plain" ⟨"ThrowModels$Plain", "mark", "()I"⟩ yX2_mark wsX2_mark) := goodIn_app (goodIn_of _ (by decide +kernel)) ggX8_callAnswer_X2_mark
set_option maxRecDepth 20000 in
theorem ggX8_callAnswer_X5_mark : GoodIn wsX8_callAnswer wsX5_mark := goodIn_r _ [50] rfl (by decide +kernel)
set_option maxRecDepth 20000 in
theorem gX8_callAnswer_X5_mark_u260X5 : GoodIn wsX8_callAnswer (va_wsO RX8 260 RX5 "ThrowModels$Plain" ⟨"ThrowModels$Plain", "mark", "()I"⟩ yX5_mark wsX5_mark) := goodIn_app (goodIn_of _ (by decide +kernel)) ggX8_callAnswer_X5_mark
set_option maxRecDepth 20000 in
theorem ggX8_callAnswer_X2_step : GoodIn wsX8_callAnswer wsX2_step := goodIn_r _ [54, 11, 71, 72, 73, 74, 75, 76, 77, 78, 79] rfl (by decide +kernel)
set_option maxRecDepth 20000 in
theorem gX8_callAnswer_X2_step : GoodIn wsX8_callAnswer (wsV RX8 263 RX2 yX2_step wsX2_step) := goodIn_app (goodIn_of _ (by decide +kernel)) ggX8_callAnswer_X2_step
set_option maxRecDepth 20000 in
theorem ggX8_callAnswer_X4_step : GoodIn wsX8_callAnswer wsX4_step := goodIn_r _ [60, 61, 56, 62, 52, 5, 54, 11, 71, 72, 73, 74, 75, 76, 77, 78, 79] rfl (by decide +kernel)
set_option maxRecDepth 20000 in
theorem gX8_callAnswer_X4_step_u263X4 : GoodIn wsX8_callAnswer (va_wsO RX8 263 RX4 "ThrowModels$Plain" ⟨"ThrowModels$Plain", "step", "()I"⟩ yX4_step wsX4_step) := goodIn_app (goodIn_of _ (by decide +kernel)) ggX8_callAnswer_X4_step
set_option maxRecDepth 20000 in
theorem ggX8_callAnswer_X5_step : GoodIn wsX8_callAnswer wsX5_step := goodIn_r _ [65, 66, 67, 68, 59, 17, 60, 61, 56, 62, 52, 5, 54, 11, 71, 72, 73, 74, 75, 76, 77, 78, 79] rfl (by decide +kernel)
set_option maxRecDepth 20000 in
theorem gX8_callAnswer_X5_step_u263X5 : GoodIn wsX8_callAnswer (va_wsO RX8 263 RX5 "ThrowModels$Plain" ⟨"ThrowModels$Plain", "step", "()I"⟩ yX5_step wsX5_step) := goodIn_app (goodIn_of _ (by decide +kernel)) ggX8_callAnswer_X5_step
set_option maxRecDepth 20000 in
theorem ggX8_callAnswer_X2_size : GoodIn wsX8_callAnswer wsX2_size := goodIn_r _ [10, 11, 71, 72, 73, 74, 75, 76, 77, 78, 79] rfl (by decide +kernel)
set_option maxRecDepth 20000 in
theorem gX8_callAnswer_X2_size : GoodIn wsX8_callAnswer (wsV RX8 229 RX2 yX2_size wsX2_size) := goodIn_app (goodIn_of _ (by decide +kernel)) ggX8_callAnswer_X2_size
set_option maxRecDepth 20000 in
theorem ggX8_callAnswer_X4_size : GoodIn wsX8_callAnswer wsX4_size := goodIn_r _ [18, 19, 20, 71, 72, 73, 74, 75, 76, 77, 78, 79] rfl (by decide +kernel)
set_option maxRecDepth 20000 in
theorem gX8_callAnswer_X4_size_u229X4 : GoodIn wsX8_callAnswer (va_wsO RX8 229 RX4 "ThrowModels$Plain" ⟨"ThrowModels$Plain", "size", "()I"⟩ yX4_size wsX4_size) := goodIn_app (goodIn_of _ (by decide +kernel)) ggX8_callAnswer_X4_size
set_option maxRecDepth 20000 in
theorem ggX8_callAnswer_X5_size : GoodIn wsX8_callAnswer wsX5_size := goodIn_r _ [24, 25, 26, 71, 72, 73, 74, 75, 76, 77, 78, 79] rfl (by decide +kernel)
set_option maxRecDepth 20000 in
theorem gX8_callAnswer_X5_size_u229X5 : GoodIn wsX8_callAnswer (va_wsO RX8 229 RX5 "ThrowModels$Plain" ⟨"ThrowModels$Plain", "size", "()I"⟩ yX5_size wsX5_size) := goodIn_app (goodIn_of _ (by decide +kernel)) ggX8_callAnswer_X5_size
theorem dX8_callAnswer_0 : decode cX8_callAnswer 0 = .ok (.iload_n 1, 1) := by decide +kernel
theorem dX8_callAnswer_1 : decode cX8_callAnswer 1 = .ok (.tableswitch 81 1 6 #[39, 44, 49, 54, 81, 61], 39) := by decide +kernel
theorem dX8_callAnswer_40 : decode cX8_callAnswer 40 = .ok (.aload_n 0, 1) := by decide +kernel
theorem dX8_callAnswer_41 : decode cX8_callAnswer 41 = .ok (.invokevirtual 257, 3) := by decide +kernel
theorem dX8_callAnswer_44 : decode cX8_callAnswer 44 = .ok (.ireturn, 1) := by decide +kernel
theorem dX8_callAnswer_45 : decode cX8_callAnswer 45 = .ok (.aload_n 0, 1) := by decide +kernel
theorem dX8_callAnswer_46 : decode cX8_callAnswer 46 = .ok (.invokevirtual 260, 3) := by decide +kernel
theorem dX8_callAnswer_49 : decode cX8_callAnswer 49 = .ok (.ireturn, 1) := by decide +kernel
theorem dX8_callAnswer_50 : decode cX8_callAnswer 50 = .ok (.aload_n 0, 1) := by decide +kernel
theorem dX8_callAnswer_51 : decode cX8_callAnswer 51 = .ok (.invokevirtual 263, 3) := by decide +kernel
theorem dX8_callAnswer_54 : decode cX8_callAnswer 54 = .ok (.ireturn, 1) := by decide +kernel
theorem dX8_callAnswer_55 : decode cX8_callAnswer 55 = .ok (.aload_n 0, 1) := by decide +kernel
theorem dX8_callAnswer_56 : decode cX8_callAnswer 56 = .ok (.invokevirtual 229, 3) := by decide +kernel
theorem dX8_callAnswer_59 : decode cX8_callAnswer 59 = .ok (.iconst 5, 1) := by decide +kernel
theorem dX8_callAnswer_60 : decode cX8_callAnswer 60 = .ok (.irem, 1) := by decide +kernel
theorem dX8_callAnswer_61 : decode cX8_callAnswer 61 = .ok (.ireturn, 1) := by decide +kernel
theorem dX8_callAnswer_62 : decode cX8_callAnswer 62 = .ok (.aload_n 0, 1) := by decide +kernel
theorem dX8_callAnswer_63 : decode cX8_callAnswer 63 = .ok (.getfield 124, 3) := by decide +kernel
theorem dX8_callAnswer_66 : decode cX8_callAnswer 66 = .ok (.ifCond .ne 7, 3) := by decide +kernel
theorem dX8_callAnswer_69 : decode cX8_callAnswer 69 = .ok (.iconst 0, 1) := by decide +kernel
theorem dX8_callAnswer_70 : decode cX8_callAnswer 70 = .ok (.goto 11, 3) := by decide +kernel
theorem dX8_callAnswer_73 : decode cX8_callAnswer 73 = .ok (.sipush 1000, 3) := by decide +kernel
theorem dX8_callAnswer_76 : decode cX8_callAnswer 76 = .ok (.aload_n 0, 1) := by decide +kernel
theorem dX8_callAnswer_77 : decode cX8_callAnswer 77 = .ok (.getfield 124, 3) := by decide +kernel
theorem dX8_callAnswer_80 : decode cX8_callAnswer 80 = .ok (.idiv, 1) := by decide +kernel
theorem dX8_callAnswer_81 : decode cX8_callAnswer 81 = .ok (.ireturn, 1) := by decide +kernel
theorem dX8_callAnswer_82 : decode cX8_callAnswer 82 = .ok (.aload_n 0, 1) := by decide +kernel
theorem dX8_callAnswer_83 : decode cX8_callAnswer 83 = .ok (.invokevirtual 229, 3) := by decide +kernel
theorem dX8_callAnswer_86 : decode cX8_callAnswer 86 = .ok (.ireturn, 1) := by decide +kernel
