theorem dX9_init_0 : decode cX9_init 0 = .ok (.aload_n 0, 1) := by decide +kernel
theorem dX9_init_1 : decode cX9_init 1 = .ok (.invokespecial 1, 3) := by decide +kernel
theorem dX9_init_4 : decode cX9_init 4 = .ok (.aload_n 0, 1) := by decide +kernel
theorem dX9_init_5 : decode cX9_init 5 = .ok (.ldc 7, 2) := by decide +kernel
theorem dX9_init_7 : decode cX9_init 7 = .ok (.newarray .int, 2) := by decide +kernel
theorem dX9_init_9 : decode cX9_init 9 = .ok (.putfield 8, 3) := by decide +kernel
theorem dX9_init_12 : decode cX9_init 12 = .ok (.aload_n 0, 1) := by decide +kernel
theorem dX9_init_13 : decode cX9_init 13 = .ok (.ldc 7, 2) := by decide +kernel
theorem dX9_init_15 : decode cX9_init 15 = .ok (.newarray .int, 2) := by decide +kernel
theorem dX9_init_17 : decode cX9_init 17 = .ok (.putfield 14, 3) := by decide +kernel
theorem dX9_init_20 : decode cX9_init 20 = .ok (.aload_n 0, 1) := by decide +kernel
theorem dX9_init_21 : decode cX9_init 21 = .ok (.ldc 7, 2) := by decide +kernel
theorem dX9_init_23 : decode cX9_init 23 = .ok (.newarray .int, 2) := by decide +kernel
theorem dX9_init_25 : decode cX9_init 25 = .ok (.putfield 17, 3) := by decide +kernel
theorem dX9_init_28 : decode cX9_init 28 = .ok (.aload_n 0, 1) := by decide +kernel
theorem dX9_init_29 : decode cX9_init 29 = .ok (.ldc 20, 2) := by decide +kernel
theorem dX9_init_31 : decode cX9_init 31 = .ok (.newarray .int, 2) := by decide +kernel
theorem dX9_init_33 : decode cX9_init 33 = .ok (.putfield 21, 3) := by decide +kernel
theorem dX9_init_36 : decode cX9_init 36 = .ok (.aload_n 0, 1) := by decide +kernel
theorem dX9_init_37 : decode cX9_init 37 = .ok (.ldc 7, 2) := by decide +kernel
theorem dX9_init_39 : decode cX9_init 39 = .ok (.newarray .long, 2) := by decide +kernel
theorem dX9_init_41 : decode cX9_init 41 = .ok (.putfield 24, 3) := by decide +kernel
theorem dX9_init_44 : decode cX9_init 44 = .ok (.aload_n 0, 1) := by decide +kernel
theorem dX9_init_45 : decode cX9_init 45 = .ok (.bipush 16, 2) := by decide +kernel
theorem dX9_init_47 : decode cX9_init 47 = .ok (.newarray .int, 2) := by decide +kernel
theorem dX9_init_49 : decode cX9_init 49 = .ok (.putfield 28, 3) := by decide +kernel
theorem dX9_init_52 : decode cX9_init 52 = .ok (.aload_n 0, 1) := by decide +kernel
theorem dX9_init_53 : decode cX9_init 53 = .ok (.bipush 9, 2) := by decide +kernel
theorem dX9_init_55 : decode cX9_init 55 = .ok (.newarray .int, 2) := by decide +kernel
theorem dX9_init_57 : decode cX9_init 57 = .ok (.putfield 31, 3) := by decide +kernel
theorem dX9_init_60 : decode cX9_init 60 = .ok (.return_, 1) := by decide +kernel
theorem dX9_begin_0 : decode cX9_begin 0 = .ok (.aload_n 0, 1) := by decide +kernel
theorem dX9_begin_1 : decode cX9_begin 1 = .ok (.iconst 0, 1) := by decide +kernel
theorem dX9_begin_2 : decode cX9_begin 2 = .ok (.putfield 34, 3) := by decide +kernel
theorem dX9_begin_5 : decode cX9_begin 5 = .ok (.return_, 1) := by decide +kernel
theorem dX9_fails_0 : decode cX9_fails 0 = .ok (.aload_n 0, 1) := by decide +kernel
theorem dX9_fails_1 : decode cX9_fails 1 = .ok (.iload_n 1, 1) := by decide +kernel
theorem dX9_fails_2 : decode cX9_fails 2 = .ok (.putfield 34, 3) := by decide +kernel
theorem dX9_fails_5 : decode cX9_fails 5 = .ok (.aload_n 0, 1) := by decide +kernel
theorem dX9_fails_6 : decode cX9_fails 6 = .ok (.getfield 31, 3) := by decide +kernel
theorem dX9_fails_9 : decode cX9_fails 9 = .ok (.iload_n 1, 1) := by decide +kernel
theorem dX9_fails_10 : decode cX9_fails 10 = .ok (.dup2, 1) := by decide +kernel
theorem dX9_fails_11 : decode cX9_fails 11 = .ok (.iaload, 1) := by decide +kernel
theorem dX9_fails_12 : decode cX9_fails 12 = .ok (.iconst 1, 1) := by decide +kernel
theorem dX9_fails_13 : decode cX9_fails 13 = .ok (.iadd, 1) := by decide +kernel
theorem dX9_fails_14 : decode cX9_fails 14 = .ok (.iastore, 1) := by decide +kernel
theorem dX9_fails_15 : decode cX9_fails 15 = .ok (.iconst 0, 1) := by decide +kernel
theorem dX9_fails_16 : decode cX9_fails 16 = .ok (.ireturn, 1) := by decide +kernel
theorem dX9_realBits_0 : decode cX9_realBits 0 = .ok (.lload_n 0, 1) := by decide +kernel
theorem dX9_realBits_1 : decode cX9_realBits 1 = .ok (.ldc2_w 38, 3) := by decide +kernel
theorem dX9_realBits_4 : decode cX9_realBits 4 = .ok (.land, 1) := by decide +kernel
theorem dX9_realBits_5 : decode cX9_realBits 5 = .ok (.ldc2_w 40, 3) := by decide +kernel
theorem dX9_realBits_8 : decode cX9_realBits 8 = .ok (.lcmp, 1) := by decide +kernel
theorem dX9_realBits_9 : decode cX9_realBits 9 = .ok (.ifCond .le 9, 3) := by decide +kernel
theorem dX9_realBits_12 : decode cX9_realBits 12 = .ok (.ldc2_w 44, 3) := by decide +kernel
theorem dX9_realBits_15 : decode cX9_realBits 15 = .ok (.goto 7, 3) := by decide +kernel
theorem dX9_realBits_18 : decode cX9_realBits 18 = .ok (.lload_n 0, 1) := by decide +kernel
theorem dX9_realBits_19 : decode cX9_realBits 19 = .ok (.invokestatic 46, 3) := by decide +kernel
theorem dX9_realBits_22 : decode cX9_realBits 22 = .ok (.dreturn, 1) := by decide +kernel
theorem dX9_singleBits_0 : decode cX9_singleBits 0 = .ok (.iload_n 0, 1) := by decide +kernel
theorem dX9_singleBits_1 : decode cX9_singleBits 1 = .ok (.ldc 50, 2) := by decide +kernel
theorem dX9_singleBits_3 : decode cX9_singleBits 3 = .ok (.iand, 1) := by decide +kernel
theorem dX9_singleBits_4 : decode cX9_singleBits 4 = .ok (.ldc 51, 2) := by decide +kernel
theorem dX9_singleBits_6 : decode cX9_singleBits 6 = .ok (.if_icmp .le 8, 3) := by decide +kernel
theorem dX9_singleBits_9 : decode cX9_singleBits 9 = .ok (.ldc 54, 2) := by decide +kernel
theorem dX9_singleBits_11 : decode cX9_singleBits 11 = .ok (.goto 7, 3) := by decide +kernel
theorem dX9_singleBits_14 : decode cX9_singleBits 14 = .ok (.iload_n 0, 1) := by decide +kernel
theorem dX9_singleBits_15 : decode cX9_singleBits 15 = .ok (.invokestatic 55, 3) := by decide +kernel
theorem dX9_singleBits_18 : decode cX9_singleBits 18 = .ok (.freturn, 1) := by decide +kernel
theorem dX9_in_0 : decode cX9_in 0 = .ok (.iload_n 0, 1) := by decide +kernel
theorem dX9_in_1 : decode cX9_in 1 = .ok (.iload_n 1, 1) := by decide +kernel
theorem dX9_in_2 : decode cX9_in 2 = .ok (.if_icmp .lt 12, 3) := by decide +kernel
theorem dX9_in_5 : decode cX9_in 5 = .ok (.iload_n 0, 1) := by decide +kernel
theorem dX9_in_6 : decode cX9_in 6 = .ok (.iload_n 2, 1) := by decide +kernel
theorem dX9_in_7 : decode cX9_in 7 = .ok (.if_icmp .gt 7, 3) := by decide +kernel
theorem dX9_in_10 : decode cX9_in 10 = .ok (.iconst 1, 1) := by decide +kernel
theorem dX9_in_11 : decode cX9_in 11 = .ok (.goto 4, 3) := by decide +kernel
theorem dX9_in_14 : decode cX9_in 14 = .ok (.iconst 0, 1) := by decide +kernel
theorem dX9_in_15 : decode cX9_in 15 = .ok (.ireturn, 1) := by decide +kernel
set_option maxRecDepth 20000 in
theorem ggX9_isCell_X9_in : GoodIn wsX9_isCell wsX9_in := goodIn_r _ [4] rfl (by decide +kernel)
set_option maxRecDepth 20000 in
theorem gX9_isCell_X9_in : GoodIn wsX9_isCell (va_wsS RX9 59 yX9_in wsX9_in) := goodIn_app (goodIn_of _ (by decide +kernel)) ggX9_isCell_X9_in
theorem dX9_isCell_0 : decode cX9_isCell 0 = .ok (.iload_n 0, 1) := by decide +kernel
theorem dX9_isCell_1 : decode cX9_isCell 1 = .ok (.iconst 0, 1) := by decide +kernel
theorem dX9_isCell_2 : decode cX9_isCell 2 = .ok (.bipush 15, 2) := by decide +kernel
theorem dX9_isCell_4 : decode cX9_isCell 4 = .ok (.invokestatic 59, 3) := by decide +kernel
theorem dX9_isCell_7 : decode cX9_isCell 7 = .ok (.ireturn, 1) := by decide +kernel
theorem dX9_isKindOf_0 : decode cX9_isKindOf 0 = .ok (.iload_n 1, 1) := by decide +kernel
theorem dX9_isKindOf_1 : decode cX9_isKindOf 1 = .ok (.tableswitch 107 8 15 #[47, 107, 65, 77, 107, 65, 77, 89], 47) := by decide +kernel
theorem dX9_isKindOf_48 : decode cX9_isKindOf 48 = .ok (.iload_n 0, 1) := by decide +kernel
theorem dX9_isKindOf_49 : decode cX9_isKindOf 49 = .ok (.bipush 8, 2) := by decide +kernel
theorem dX9_isKindOf_51 : decode cX9_isKindOf 51 = .ok (.if_icmp .eq 9, 3) := by decide +kernel
theorem dX9_isKindOf_54 : decode cX9_isKindOf 54 = .ok (.iload_n 0, 1) := by decide +kernel
theorem dX9_isKindOf_55 : decode cX9_isKindOf 55 = .ok (.bipush 9, 2) := by decide +kernel
theorem dX9_isKindOf_57 : decode cX9_isKindOf 57 = .ok (.if_icmp .ne 7, 3) := by decide +kernel
theorem dX9_isKindOf_60 : decode cX9_isKindOf 60 = .ok (.iconst 1, 1) := by decide +kernel
theorem dX9_isKindOf_61 : decode cX9_isKindOf 61 = .ok (.goto 4, 3) := by decide +kernel
theorem dX9_isKindOf_64 : decode cX9_isKindOf 64 = .ok (.iconst 0, 1) := by decide +kernel
theorem dX9_isKindOf_65 : decode cX9_isKindOf 65 = .ok (.ireturn, 1) := by decide +kernel
theorem dX9_isKindOf_66 : decode cX9_isKindOf 66 = .ok (.iload_n 0, 1) := by decide +kernel
theorem dX9_isKindOf_67 : decode cX9_isKindOf 67 = .ok (.bipush 10, 2) := by decide +kernel
theorem dX9_isKindOf_69 : decode cX9_isKindOf 69 = .ok (.if_icmp .lt 7, 3) := by decide +kernel
theorem dX9_isKindOf_72 : decode cX9_isKindOf 72 = .ok (.iconst 1, 1) := by decide +kernel
theorem dX9_isKindOf_73 : decode cX9_isKindOf 73 = .ok (.goto 4, 3) := by decide +kernel
theorem dX9_isKindOf_76 : decode cX9_isKindOf 76 = .ok (.iconst 0, 1) := by decide +kernel
theorem dX9_isKindOf_77 : decode cX9_isKindOf 77 = .ok (.ireturn, 1) := by decide +kernel
theorem dX9_isKindOf_78 : decode cX9_isKindOf 78 = .ok (.iload_n 0, 1) := by decide +kernel
theorem dX9_isKindOf_79 : decode cX9_isKindOf 79 = .ok (.bipush 11, 2) := by decide +kernel
theorem dX9_isKindOf_81 : decode cX9_isKindOf 81 = .ok (.if_icmp .lt 7, 3) := by decide +kernel
theorem dX9_isKindOf_84 : decode cX9_isKindOf 84 = .ok (.iconst 1, 1) := by decide +kernel
theorem dX9_isKindOf_85 : decode cX9_isKindOf 85 = .ok (.goto 4, 3) := by decide +kernel
theorem dX9_isKindOf_88 : decode cX9_isKindOf 88 = .ok (.iconst 0, 1) := by decide +kernel
theorem dX9_isKindOf_89 : decode cX9_isKindOf 89 = .ok (.ireturn, 1) := by decide +kernel
theorem dX9_isKindOf_90 : decode cX9_isKindOf 90 = .ok (.iload_n 0, 1) := by decide +kernel
theorem dX9_isKindOf_91 : decode cX9_isKindOf 91 = .ok (.bipush 8, 2) := by decide +kernel
theorem dX9_isKindOf_93 : decode cX9_isKindOf 93 = .ok (.if_icmp .eq 9, 3) := by decide +kernel
theorem dX9_isKindOf_96 : decode cX9_isKindOf 96 = .ok (.iload_n 0, 1) := by decide +kernel
theorem dX9_isKindOf_97 : decode cX9_isKindOf 97 = .ok (.bipush 9, 2) := by decide +kernel
theorem dX9_isKindOf_99 : decode cX9_isKindOf 99 = .ok (.if_icmp .ne 7, 3) := by decide +kernel
theorem dX9_isKindOf_102 : decode cX9_isKindOf 102 = .ok (.iconst 1, 1) := by decide +kernel
theorem dX9_isKindOf_103 : decode cX9_isKindOf 103 = .ok (.goto 4, 3) := by decide +kernel
theorem dX9_isKindOf_106 : decode cX9_isKindOf 106 = .ok (.iconst 0, 1) := by decide +kernel
theorem dX9_isKindOf_107 : decode cX9_isKindOf 107 = .ok (.ireturn, 1) := by decide +kernel
theorem dX9_isKindOf_108 : decode cX9_isKindOf 108 = .ok (.iload_n 0, 1) := by decide +kernel
theorem dX9_isKindOf_109 : decode cX9_isKindOf 109 = .ok (.iload_n 1, 1) := by decide +kernel
theorem dX9_isKindOf_110 : decode cX9_isKindOf 110 = .ok (.if_icmp .ne 7, 3) := by decide +kernel
theorem dX9_isKindOf_113 : decode cX9_isKindOf 113 = .ok (.iconst 1, 1) := by decide +kernel
theorem dX9_isKindOf_114 : decode cX9_isKindOf 114 = .ok (.goto 4, 3) := by decide +kernel
theorem dX9_isKindOf_117 : decode cX9_isKindOf 117 = .ok (.iconst 0, 1) := by decide +kernel
theorem dX9_isKindOf_118 : decode cX9_isKindOf 118 = .ok (.ireturn, 1) := by decide +kernel
set_option maxRecDepth 20000 in
theorem ggX9_passes_X9_isKindOf : GoodIn wsX9_passes wsX9_isKindOf := goodIn_r _ [5] rfl (by decide +kernel)
set_option maxRecDepth 20000 in
theorem gX9_passes_X9_isKindOf : GoodIn wsX9_passes (va_wsS RX9 63 yX9_isKindOf wsX9_isKindOf) := goodIn_app (goodIn_of _ (by decide +kernel)) ggX9_passes_X9_isKindOf
theorem dX9_passes_0 : decode cX9_passes 0 = .ok (.iload_n 1, 1) := by decide +kernel
theorem dX9_passes_1 : decode cX9_passes 1 = .ok (.ifCond .eq 16, 3) := by decide +kernel
theorem dX9_passes_4 : decode cX9_passes 4 = .ok (.aload_n 0, 1) := by decide +kernel
theorem dX9_passes_5 : decode cX9_passes 5 = .ok (.getfield 8, 3) := by decide +kernel
theorem dX9_passes_8 : decode cX9_passes 8 = .ok (.iload_n 1, 1) := by decide +kernel
theorem dX9_passes_9 : decode cX9_passes 9 = .ok (.iaload, 1) := by decide +kernel
theorem dX9_passes_10 : decode cX9_passes 10 = .ok (.iload_n 2, 1) := by decide +kernel
theorem dX9_passes_11 : decode cX9_passes 11 = .ok (.invokestatic 63, 3) := by decide +kernel
theorem dX9_passes_14 : decode cX9_passes 14 = .ok (.ifCond .eq 7, 3) := by decide +kernel
theorem dX9_passes_17 : decode cX9_passes 17 = .ok (.iconst 1, 1) := by decide +kernel
theorem dX9_passes_18 : decode cX9_passes 18 = .ok (.goto 4, 3) := by decide +kernel
theorem dX9_passes_21 : decode cX9_passes 21 = .ok (.iconst 0, 1) := by decide +kernel
theorem dX9_passes_22 : decode cX9_passes 22 = .ok (.ireturn, 1) := by decide +kernel
theorem dX9_thing_0 : decode cX9_thing 0 = .ok (.aload_n 0, 1) := by decide +kernel
theorem dX9_thing_1 : decode cX9_thing 1 = .ok (.dup, 1) := by decide +kernel
theorem dX9_thing_2 : decode cX9_thing 2 = .ok (.getfield 67, 3) := by decide +kernel
theorem dX9_thing_5 : decode cX9_thing 5 = .ok (.iconst 1, 1) := by decide +kernel
theorem dX9_thing_6 : decode cX9_thing 6 = .ok (.iadd, 1) := by decide +kernel
theorem dX9_thing_7 : decode cX9_thing 7 = .ok (.putfield 67, 3) := by decide +kernel
theorem dX9_thing_10 : decode cX9_thing 10 = .ok (.aload_n 0, 1) := by decide +kernel
theorem dX9_thing_11 : decode cX9_thing 11 = .ok (.getfield 8, 3) := by decide +kernel
theorem dX9_thing_14 : decode cX9_thing 14 = .ok (.aload_n 0, 1) := by decide +kernel
theorem dX9_thing_15 : decode cX9_thing 15 = .ok (.getfield 67, 3) := by decide +kernel
theorem dX9_thing_18 : decode cX9_thing 18 = .ok (.iload_n 1, 1) := by decide +kernel
theorem dX9_thing_19 : decode cX9_thing 19 = .ok (.iastore, 1) := by decide +kernel
theorem dX9_thing_20 : decode cX9_thing 20 = .ok (.aload_n 0, 1) := by decide +kernel
theorem dX9_thing_21 : decode cX9_thing 21 = .ok (.getfield 14, 3) := by decide +kernel
theorem dX9_thing_24 : decode cX9_thing 24 = .ok (.aload_n 0, 1) := by decide +kernel
theorem dX9_thing_25 : decode cX9_thing 25 = .ok (.getfield 67, 3) := by decide +kernel
theorem dX9_thing_28 : decode cX9_thing 28 = .ok (.iload_n 2, 1) := by decide +kernel
theorem dX9_thing_29 : decode cX9_thing 29 = .ok (.iastore, 1) := by decide +kernel
theorem dX9_thing_30 : decode cX9_thing 30 = .ok (.iload_n 1, 1) := by decide +kernel
theorem dX9_thing_31 : decode cX9_thing 31 = .ok (.ifCond .ne 29, 3) := by decide +kernel
theorem dX9_thing_34 : decode cX9_thing 34 = .ok (.aload_n 0, 1) := by decide +kernel
theorem dX9_thing_35 : decode cX9_thing 35 = .ok (.getfield 17, 3) := by decide +kernel
theorem dX9_thing_38 : decode cX9_thing 38 = .ok (.aload_n 0, 1) := by decide +kernel
theorem dX9_thing_39 : decode cX9_thing 39 = .ok (.getfield 67, 3) := by decide +kernel
theorem dX9_thing_42 : decode cX9_thing 42 = .ok (.aload_n 0, 1) := by decide +kernel
theorem dX9_thing_43 : decode cX9_thing 43 = .ok (.getfield 70, 3) := by decide +kernel
theorem dX9_thing_46 : decode cX9_thing 46 = .ok (.iastore, 1) := by decide +kernel
theorem dX9_thing_47 : decode cX9_thing 47 = .ok (.aload_n 0, 1) := by decide +kernel
theorem dX9_thing_48 : decode cX9_thing 48 = .ok (.dup, 1) := by decide +kernel
theorem dX9_thing_49 : decode cX9_thing 49 = .ok (.getfield 70, 3) := by decide +kernel
theorem dX9_thing_52 : decode cX9_thing 52 = .ok (.iload_n 2, 1) := by decide +kernel
theorem dX9_thing_53 : decode cX9_thing 53 = .ok (.iadd, 1) := by decide +kernel
theorem dX9_thing_54 : decode cX9_thing 54 = .ok (.putfield 70, 3) := by decide +kernel
theorem dX9_thing_57 : decode cX9_thing 57 = .ok (.goto 32, 3) := by decide +kernel
theorem dX9_thing_60 : decode cX9_thing 60 = .ok (.iload_n 1, 1) := by decide +kernel
theorem dX9_thing_61 : decode cX9_thing 61 = .ok (.bipush 10, 2) := by decide +kernel
theorem dX9_thing_63 : decode cX9_thing 63 = .ok (.if_icmp .ge 26, 3) := by decide +kernel
theorem dX9_thing_66 : decode cX9_thing 66 = .ok (.aload_n 0, 1) := by decide +kernel
theorem dX9_thing_67 : decode cX9_thing 67 = .ok (.getfield 17, 3) := by decide +kernel
theorem dX9_thing_70 : decode cX9_thing 70 = .ok (.aload_n 0, 1) := by decide +kernel
theorem dX9_thing_71 : decode cX9_thing 71 = .ok (.getfield 67, 3) := by decide +kernel
theorem dX9_thing_74 : decode cX9_thing 74 = .ok (.aload_n 0, 1) := by decide +kernel
theorem dX9_thing_75 : decode cX9_thing 75 = .ok (.getfield 73, 3) := by decide +kernel
theorem dX9_thing_78 : decode cX9_thing 78 = .ok (.iastore, 1) := by decide +kernel
theorem dX9_thing_79 : decode cX9_thing 79 = .ok (.aload_n 0, 1) := by decide +kernel
theorem dX9_thing_80 : decode cX9_thing 80 = .ok (.dup, 1) := by decide +kernel
theorem dX9_thing_81 : decode cX9_thing 81 = .ok (.getfield 73, 3) := by decide +kernel
theorem dX9_thing_84 : decode cX9_thing 84 = .ok (.iload_n 2, 1) := by decide +kernel
theorem dX9_thing_85 : decode cX9_thing 85 = .ok (.iadd, 1) := by decide +kernel
theorem dX9_thing_86 : decode cX9_thing 86 = .ok (.putfield 73, 3) := by decide +kernel
theorem dX9_thing_89 : decode cX9_thing 89 = .ok (.aload_n 0, 1) := by decide +kernel
theorem dX9_thing_90 : decode cX9_thing 90 = .ok (.getfield 67, 3) := by decide +kernel
theorem dX9_thing_93 : decode cX9_thing 93 = .ok (.ireturn, 1) := by decide +kernel
set_option maxRecDepth 20000 in
theorem ggX9_make_X9_begin : GoodIn wsX9_make wsX9_begin := goodIn_r _ [8, 9, 30, 31, 32, 33, 34, 35, 36, 37, 38, 39, 40, 41] rfl (by decide +kernel)
set_option maxRecDepth 20000 in
theorem gX9_make_X9_begin : GoodIn wsX9_make (wsV RX9 76 RX9 yX9_begin wsX9_begin) := goodIn_app (goodIn_of _ (by decide +kernel)) ggX9_make_X9_begin
set_option maxRecDepth 20000 in
theorem ggX9_make_X9_in : GoodIn wsX9_make wsX9_in := goodIn_r _ [12] rfl (by decide +kernel)
set_option maxRecDepth 20000 in
theorem gX9_make_X9_in : GoodIn wsX9_make (va_wsS RX9 59 yX9_in wsX9_in) := goodIn_app (goodIn_of _ (by decide +kernel)) ggX9_make_X9_in
set_option maxRecDepth 20000 in
theorem ggX9_make_X9_isCell : GoodIn wsX9_make wsX9_isCell := goodIn_r _ [15, 10, 11, 7, 12] rfl (by decide +kernel)
set_option maxRecDepth 20000 in
theorem gX9_make_X9_isCell : GoodIn wsX9_make (va_wsS RX9 79 yX9_isCell wsX9_isCell) := goodIn_app (goodIn_of _ (by decide +kernel)) ggX9_make_X9_isCell
set_option maxRecDepth 20000 in
theorem ggX9_make_X9_fails : GoodIn wsX9_make wsX9_fails := goodIn_r _ [19, 9, 20, 30, 31, 32, 33, 34, 35, 36, 37, 38, 39, 40, 41] rfl (by decide +kernel)
set_option maxRecDepth 20000 in
theorem gX9_make_X9_fails : GoodIn wsX9_make (wsV RX9 83 RX9 yX9_fails wsX9_fails) := goodIn_app (goodIn_of _ (by decide +kernel)) ggX9_make_X9_fails
set_option maxRecDepth 20000 in
theorem ggX9_make_X9_thing : GoodIn wsX9_make wsX9_thing := goodIn_r _ [24, 25, 26, 27, 2, 28, 29, 30, 31, 32, 33, 34, 35, 36, 37, 38, 39, 40, 41] rfl (by decide +kernel)
set_option maxRecDepth 20000 in
theorem gX9_make_X9_thing : GoodIn wsX9_make (wsV RX9 87 RX9 yX9_thing wsX9_thing) := goodIn_app (goodIn_of _ (by decide +kernel)) ggX9_make_X9_thing
theorem dX9_make_0 : decode cX9_make 0 = .ok (.aload_n 0, 1) := by decide +kernel
theorem dX9_make_1 : decode cX9_make 1 = .ok (.invokevirtual 76, 3) := by decide +kernel
theorem dX9_make_4 : decode cX9_make 4 = .ok (.iload_n 1, 1) := by decide +kernel
theorem dX9_make_5 : decode cX9_make 5 = .ok (.iconst 0, 1) := by decide +kernel
theorem dX9_make_6 : decode cX9_make 6 = .ok (.bipush 12, 2) := by decide +kernel
theorem dX9_make_8 : decode cX9_make 8 = .ok (.invokestatic 59, 3) := by decide +kernel
theorem dX9_make_11 : decode cX9_make 11 = .ok (.ifCond .eq 35, 3) := by decide +kernel
theorem dX9_make_14 : decode cX9_make 14 = .ok (.iload_n 2, 1) := by decide +kernel
theorem dX9_make_15 : decode cX9_make 15 = .ok (.invokestatic 79, 3) := by decide +kernel
theorem dX9_make_18 : decode cX9_make 18 = .ok (.ifCond .eq 28, 3) := by decide +kernel
theorem dX9_make_21 : decode cX9_make 21 = .ok (.iload_n 1, 1) := by decide +kernel
theorem dX9_make_22 : decode cX9_make 22 = .ok (.bipush 10, 2) := by decide +kernel
theorem dX9_make_24 : decode cX9_make 24 = .ok (.if_icmp .ge 9, 3) := by decide +kernel
theorem dX9_make_27 : decode cX9_make 27 = .ok (.iload_n 3, 1) := by decide +kernel
theorem dX9_make_28 : decode cX9_make 28 = .ok (.bipush 64, 2) := by decide +kernel
theorem dX9_make_30 : decode cX9_make 30 = .ok (.if_icmp .gt 16, 3) := by decide +kernel
theorem dX9_make_33 : decode cX9_make 33 = .ok (.iload_n 1, 1) := by decide +kernel
theorem dX9_make_34 : decode cX9_make 34 = .ok (.bipush 7, 2) := by decide +kernel
theorem dX9_make_36 : decode cX9_make 36 = .ok (.if_icmp .ne 17, 3) := by decide +kernel
theorem dX9_make_39 : decode cX9_make 39 = .ok (.iload 4, 2) := by decide +kernel
theorem dX9_make_41 : decode cX9_make 41 = .ok (.bipush 64, 2) := by decide +kernel
theorem dX9_make_43 : decode cX9_make 43 = .ok (.if_icmp .le 10, 3) := by decide +kernel
theorem dX9_make_46 : decode cX9_make 46 = .ok (.aload_n 0, 1) := by decide +kernel
theorem dX9_make_47 : decode cX9_make 47 = .ok (.bipush 8, 2) := by decide +kernel
theorem dX9_make_49 : decode cX9_make 49 = .ok (.invokevirtual 83, 3) := by decide +kernel
theorem dX9_make_52 : decode cX9_make 52 = .ok (.ireturn, 1) := by decide +kernel
theorem dX9_make_53 : decode cX9_make 53 = .ok (.iload_n 1, 1) := by decide +kernel
theorem dX9_make_54 : decode cX9_make 54 = .ok (.bipush 10, 2) := by decide +kernel
theorem dX9_make_56 : decode cX9_make 56 = .ok (.if_icmp .ge 7, 3) := by decide +kernel
theorem dX9_make_59 : decode cX9_make 59 = .ok (.iload_n 3, 1) := by decide +kernel
theorem dX9_make_60 : decode cX9_make 60 = .ok (.ifCond .lt 14, 3) := by decide +kernel
theorem dX9_make_63 : decode cX9_make 63 = .ok (.iload_n 1, 1) := by decide +kernel
theorem dX9_make_64 : decode cX9_make 64 = .ok (.bipush 7, 2) := by decide +kernel
theorem dX9_make_66 : decode cX9_make 66 = .ok (.if_icmp .ne 14, 3) := by decide +kernel
theorem dX9_make_69 : decode cX9_make 69 = .ok (.iload 4, 2) := by decide +kernel
theorem dX9_make_71 : decode cX9_make 71 = .ok (.ifCond .ge 9, 3) := by decide +kernel
theorem dX9_make_74 : decode cX9_make 74 = .ok (.aload_n 0, 1) := by decide +kernel
theorem dX9_make_75 : decode cX9_make 75 = .ok (.iconst 3, 1) := by decide +kernel
theorem dX9_make_76 : decode cX9_make 76 = .ok (.invokevirtual 83, 3) := by decide +kernel
theorem dX9_make_79 : decode cX9_make 79 = .ok (.ireturn, 1) := by decide +kernel
theorem dX9_make_80 : decode cX9_make 80 = .ok (.aload_n 0, 1) := by decide +kernel
theorem dX9_make_81 : decode cX9_make 81 = .ok (.iload_n 1, 1) := by decide +kernel
theorem dX9_make_82 : decode cX9_make 82 = .ok (.iload_n 3, 1) := by decide +kernel
theorem dX9_make_83 : decode cX9_make 83 = .ok (.invokevirtual 87, 3) := by decide +kernel
theorem dX9_make_86 : decode cX9_make 86 = .ok (.istore 5, 2) := by decide +kernel
theorem dX9_make_88 : decode cX9_make 88 = .ok (.iconst 0, 1) := by decide +kernel
theorem dX9_make_89 : decode cX9_make 89 = .ok (.istore 6, 2) := by decide +kernel
theorem dX9_make_91 : decode cX9_make 91 = .ok (.iload_n 1, 1) := by decide +kernel
theorem dX9_make_92 : decode cX9_make 92 = .ok (.bipush 7, 2) := by decide +kernel
theorem dX9_make_94 : decode cX9_make 94 = .ok (.if_icmp .ne 38, 3) := by decide +kernel
theorem dX9_make_97 : decode cX9_make 97 = .ok (.iload 6, 2) := by decide +kernel
theorem dX9_make_99 : decode cX9_make 99 = .ok (.iload_n 3, 1) := by decide +kernel
theorem dX9_make_100 : decode cX9_make 100 = .ok (.if_icmp .ge 32, 3) := by decide +kernel
theorem dX9_make_103 : decode cX9_make 103 = .ok (.aload_n 0, 1) := by decide +kernel
theorem dX9_make_104 : decode cX9_make 104 = .ok (.getfield 24, 3) := by decide +kernel
theorem dX9_make_107 : decode cX9_make 107 = .ok (.aload_n 0, 1) := by decide +kernel
theorem dX9_make_108 : decode cX9_make 108 = .ok (.getfield 17, 3) := by decide +kernel
theorem dX9_make_111 : decode cX9_make 111 = .ok (.iload 5, 2) := by decide +kernel
theorem dX9_make_113 : decode cX9_make 113 = .ok (.iaload, 1) := by decide +kernel
theorem dX9_make_114 : decode cX9_make 114 = .ok (.iload 6, 2) := by decide +kernel
theorem dX9_make_116 : decode cX9_make 116 = .ok (.iadd, 1) := by decide +kernel
theorem dX9_make_117 : decode cX9_make 117 = .ok (.aload_n 0, 1) := by decide +kernel
theorem dX9_make_118 : decode cX9_make 118 = .ok (.iconst 0, 1) := by decide +kernel
theorem dX9_make_119 : decode cX9_make 119 = .ok (.iload 4, 2) := by decide +kernel
theorem dX9_make_121 : decode cX9_make 121 = .ok (.invokevirtual 87, 3) := by decide +kernel
theorem dX9_make_124 : decode cX9_make 124 = .ok (.i2l, 1) := by decide +kernel
theorem dX9_make_125 : decode cX9_make 125 = .ok (.lastore, 1) := by decide +kernel
theorem dX9_make_126 : decode cX9_make 126 = .ok (.iinc 6 1, 3) := by decide +kernel
theorem dX9_make_129 : decode cX9_make 129 = .ok (.goto (-38), 3) := by decide +kernel
theorem dX9_make_132 : decode cX9_make 132 = .ok (.aload_n 0, 1) := by decide +kernel
theorem dX9_make_133 : decode cX9_make 133 = .ok (.getfield 28, 3) := by decide +kernel
theorem dX9_make_136 : decode cX9_make 136 = .ok (.iload_n 2, 1) := by decide +kernel
theorem dX9_make_137 : decode cX9_make 137 = .ok (.iload 5, 2) := by decide +kernel
theorem dX9_make_139 : decode cX9_make 139 = .ok (.iastore, 1) := by decide +kernel
theorem dX9_make_140 : decode cX9_make 140 = .ok (.iconst 1, 1) := by decide +kernel
theorem dX9_make_141 : decode cX9_make 141 = .ok (.ireturn, 1) := by decide +kernel
set_option maxRecDepth 20000 in
theorem ggX9_move_X9_begin : GoodIn wsX9_move wsX9_begin := goodIn_r _ [6, 7, 19, 20, 21, 22, 23, 24, 25, 26, 27, 28, 29, 30] rfl (by decide +kernel)
set_option maxRecDepth 20000 in
theorem gX9_move_X9_begin : GoodIn wsX9_move (wsV RX9 76 RX9 yX9_begin wsX9_begin) := goodIn_app (goodIn_of _ (by decide +kernel)) ggX9_move_X9_begin
set_option maxRecDepth 20000 in
theorem ggX9_move_X9_in : GoodIn wsX9_move wsX9_in := goodIn_r _ [10] rfl (by decide +kernel)
set_option maxRecDepth 20000 in
theorem gX9_move_X9_in : GoodIn wsX9_move (va_wsS RX9 59 yX9_in wsX9_in) := goodIn_app (goodIn_of _ (by decide +kernel)) ggX9_move_X9_in
set_option maxRecDepth 20000 in
theorem ggX9_move_X9_isCell : GoodIn wsX9_move wsX9_isCell := goodIn_r _ [13, 8, 9, 5, 10] rfl (by decide +kernel)
set_option maxRecDepth 20000 in
theorem gX9_move_X9_isCell : GoodIn wsX9_move (va_wsS RX9 79 yX9_isCell wsX9_isCell) := goodIn_app (goodIn_of _ (by decide +kernel)) ggX9_move_X9_isCell
set_option maxRecDepth 20000 in
theorem ggX9_move_X9_fails : GoodIn wsX9_move wsX9_fails := goodIn_r _ [17, 7, 18, 19, 20, 21, 22, 23, 24, 25, 26, 27, 28, 29, 30] rfl (by decide +kernel)
set_option maxRecDepth 20000 in
theorem gX9_move_X9_fails : GoodIn wsX9_move (wsV RX9 83 RX9 yX9_fails wsX9_fails) := goodIn_app (goodIn_of _ (by decide +kernel)) ggX9_move_X9_fails
theorem dX9_move_0 : decode cX9_move 0 = .ok (.aload_n 0, 1) := by decide +kernel
theorem dX9_move_1 : decode cX9_move 1 = .ok (.invokevirtual 76, 3) := by decide +kernel
theorem dX9_move_4 : decode cX9_move 4 = .ok (.iload_n 1, 1) := by decide +kernel
theorem dX9_move_5 : decode cX9_move 5 = .ok (.iconst (-1), 1) := by decide +kernel
theorem dX9_move_6 : decode cX9_move 6 = .ok (.bipush 15, 2) := by decide +kernel
theorem dX9_move_8 : decode cX9_move 8 = .ok (.invokestatic 59, 3) := by decide +kernel
theorem dX9_move_11 : decode cX9_move 11 = .ok (.ifCond .eq 10, 3) := by decide +kernel
theorem dX9_move_14 : decode cX9_move 14 = .ok (.iload_n 2, 1) := by decide +kernel
theorem dX9_move_15 : decode cX9_move 15 = .ok (.invokestatic 79, 3) := by decide +kernel
theorem dX9_move_18 : decode cX9_move 18 = .ok (.ifCond .ne 10, 3) := by decide +kernel
theorem dX9_move_21 : decode cX9_move 21 = .ok (.aload_n 0, 1) := by decide +kernel
theorem dX9_move_22 : decode cX9_move 22 = .ok (.bipush 8, 2) := by decide +kernel
theorem dX9_move_24 : decode cX9_move 24 = .ok (.invokevirtual 83, 3) := by decide +kernel
theorem dX9_move_27 : decode cX9_move 27 = .ok (.ireturn, 1) := by decide +kernel
theorem dX9_move_28 : decode cX9_move 28 = .ok (.aload_n 0, 1) := by decide +kernel
theorem dX9_move_29 : decode cX9_move 29 = .ok (.getfield 28, 3) := by decide +kernel
theorem dX9_move_32 : decode cX9_move 32 = .ok (.iload_n 2, 1) := by decide +kernel
theorem dX9_move_33 : decode cX9_move 33 = .ok (.iload_n 1, 1) := by decide +kernel
theorem dX9_move_34 : decode cX9_move 34 = .ok (.ifCond .ge 7, 3) := by decide +kernel
theorem dX9_move_37 : decode cX9_move 37 = .ok (.iconst 0, 1) := by decide +kernel
theorem dX9_move_38 : decode cX9_move 38 = .ok (.goto 9, 3) := by decide +kernel
theorem dX9_move_41 : decode cX9_move 41 = .ok (.aload_n 0, 1) := by decide +kernel
theorem dX9_move_42 : decode cX9_move 42 = .ok (.getfield 28, 3) := by decide +kernel
theorem dX9_move_45 : decode cX9_move 45 = .ok (.iload_n 1, 1) := by decide +kernel
theorem dX9_move_46 : decode cX9_move 46 = .ok (.iaload, 1) := by decide +kernel
theorem dX9_move_47 : decode cX9_move 47 = .ok (.iastore, 1) := by decide +kernel
theorem dX9_move_48 : decode cX9_move 48 = .ok (.iconst 1, 1) := by decide +kernel
theorem dX9_move_49 : decode cX9_move 49 = .ok (.ireturn, 1) := by decide +kernel
set_option maxRecDepth 20000 in
theorem ggX9_twin_X9_begin : GoodIn wsX9_twin wsX9_begin := goodIn_r _ [9, 10, 37, 38, 39, 40, 41, 42, 43, 44, 45, 46, 47, 48] rfl (by decide +kernel)
set_option maxRecDepth 20000 in
theorem gX9_twin_X9_begin : GoodIn wsX9_twin (wsV RX9 76 RX9 yX9_begin wsX9_begin) := goodIn_app (goodIn_of _ (by decide +kernel)) ggX9_twin_X9_begin
set_option maxRecDepth 20000 in
theorem ggX9_twin_X9_isCell : GoodIn wsX9_twin wsX9_isCell := goodIn_r _ [13, 14, 15, 8, 16] rfl (by decide +kernel)
set_option maxRecDepth 20000 in
theorem gX9_twin_X9_isCell : GoodIn wsX9_twin (va_wsS RX9 79 yX9_isCell wsX9_isCell) := goodIn_app (goodIn_of _ (by decide +kernel)) ggX9_twin_X9_isCell
set_option maxRecDepth 20000 in
theorem ggX9_twin_X9_fails : GoodIn wsX9_twin wsX9_fails := goodIn_r _ [20, 10, 21, 37, 38, 39, 40, 41, 42, 43, 44, 45, 46, 47, 48] rfl (by decide +kernel)
set_option maxRecDepth 20000 in
theorem gX9_twin_X9_fails : GoodIn wsX9_twin (wsV RX9 83 RX9 yX9_fails wsX9_fails) := goodIn_app (goodIn_of _ (by decide +kernel)) ggX9_twin_X9_fails
set_option maxRecDepth 20000 in
theorem ggX9_twin_X9_passes : GoodIn wsX9_twin wsX9_passes := goodIn_r _ [25, 26, 27, 28, 8, 29, 37, 38, 39, 40, 41, 42, 43, 44, 45, 46, 47, 48] rfl (by decide +kernel)
set_option maxRecDepth 20000 in
theorem gX9_twin_X9_passes : GoodIn wsX9_twin (wsV RX9 91 RX9 yX9_passes wsX9_passes) := goodIn_app (goodIn_of _ (by decide +kernel)) ggX9_twin_X9_passes
set_option maxRecDepth 20000 in
theorem ggX9_twin_X9_thing : GoodIn wsX9_twin wsX9_thing := goodIn_r _ [33, 34, 26, 2, 4, 35, 36, 37, 38, 39, 40, 41, 42, 43, 44, 45, 46, 47, 48] rfl (by decide +kernel)
set_option maxRecDepth 20000 in
theorem gX9_twin_X9_thing : GoodIn wsX9_twin (wsV RX9 87 RX9 yX9_thing wsX9_thing) := goodIn_app (goodIn_of _ (by decide +kernel)) ggX9_twin_X9_thing
theorem dX9_twin_0 : decode cX9_twin 0 = .ok (.aload_n 0, 1) := by decide +kernel
theorem dX9_twin_1 : decode cX9_twin 1 = .ok (.invokevirtual 76, 3) := by decide +kernel
theorem dX9_twin_4 : decode cX9_twin 4 = .ok (.iload_n 1, 1) := by decide +kernel
theorem dX9_twin_5 : decode cX9_twin 5 = .ok (.invokestatic 79, 3) := by decide +kernel
theorem dX9_twin_8 : decode cX9_twin 8 = .ok (.ifCond .eq 10, 3) := by decide +kernel
theorem dX9_twin_11 : decode cX9_twin 11 = .ok (.iload_n 2, 1) := by decide +kernel
theorem dX9_twin_12 : decode cX9_twin 12 = .ok (.invokestatic 79, 3) := by decide +kernel
theorem dX9_twin_15 : decode cX9_twin 15 = .ok (.ifCond .ne 10, 3) := by decide +kernel
theorem dX9_twin_18 : decode cX9_twin 18 = .ok (.aload_n 0, 1) := by decide +kernel
theorem dX9_twin_19 : decode cX9_twin 19 = .ok (.bipush 8, 2) := by decide +kernel
theorem dX9_twin_21 : decode cX9_twin 21 = .ok (.invokevirtual 83, 3) := by decide +kernel
theorem dX9_twin_24 : decode cX9_twin 24 = .ok (.ireturn, 1) := by decide +kernel
theorem dX9_twin_25 : decode cX9_twin 25 = .ok (.aload_n 0, 1) := by decide +kernel
theorem dX9_twin_26 : decode cX9_twin 26 = .ok (.getfield 28, 3) := by decide +kernel
theorem dX9_twin_29 : decode cX9_twin 29 = .ok (.iload_n 1, 1) := by decide +kernel
theorem dX9_twin_30 : decode cX9_twin 30 = .ok (.iaload, 1) := by decide +kernel
theorem dX9_twin_31 : decode cX9_twin 31 = .ok (.istore_n 3, 1) := by decide +kernel
theorem dX9_twin_32 : decode cX9_twin 32 = .ok (.aload_n 0, 1) := by decide +kernel
theorem dX9_twin_33 : decode cX9_twin 33 = .ok (.iload_n 3, 1) := by decide +kernel
theorem dX9_twin_34 : decode cX9_twin 34 = .ok (.iconst 0, 1) := by decide +kernel
theorem dX9_twin_35 : decode cX9_twin 35 = .ok (.invokevirtual 91, 3) := by decide +kernel
theorem dX9_twin_38 : decode cX9_twin 38 = .ok (.ifCond .ne 9, 3) := by decide +kernel
theorem dX9_twin_41 : decode cX9_twin 41 = .ok (.aload_n 0, 1) := by decide +kernel
theorem dX9_twin_42 : decode cX9_twin 42 = .ok (.iconst 4, 1) := by decide +kernel
theorem dX9_twin_43 : decode cX9_twin 43 = .ok (.invokevirtual 83, 3) := by decide +kernel
theorem dX9_twin_46 : decode cX9_twin 46 = .ok (.ireturn, 1) := by decide +kernel
theorem dX9_twin_47 : decode cX9_twin 47 = .ok (.iload_n 3, 1) := by decide +kernel
theorem dX9_twin_48 : decode cX9_twin 48 = .ok (.ifCond .ne 9, 3) := by decide +kernel
theorem dX9_twin_51 : decode cX9_twin 51 = .ok (.aload_n 0, 1) := by decide +kernel
theorem dX9_twin_52 : decode cX9_twin 52 = .ok (.iconst 1, 1) := by decide +kernel
theorem dX9_twin_53 : decode cX9_twin 53 = .ok (.invokevirtual 83, 3) := by decide +kernel
theorem dX9_twin_56 : decode cX9_twin 56 = .ok (.ireturn, 1) := by decide +kernel
theorem dX9_twin_57 : decode cX9_twin 57 = .ok (.aload_n 0, 1) := by decide +kernel
theorem dX9_twin_58 : decode cX9_twin 58 = .ok (.iconst 0, 1) := by decide +kernel
theorem dX9_twin_59 : decode cX9_twin 59 = .ok (.aload_n 0, 1) := by decide +kernel
theorem dX9_twin_60 : decode cX9_twin 60 = .ok (.getfield 14, 3) := by decide +kernel
theorem dX9_twin_63 : decode cX9_twin 63 = .ok (.iload_n 3, 1) := by decide +kernel
theorem dX9_twin_64 : decode cX9_twin 64 = .ok (.iaload, 1) := by decide +kernel
theorem dX9_twin_65 : decode cX9_twin 65 = .ok (.invokevirtual 87, 3) := by decide +kernel
theorem dX9_twin_68 : decode cX9_twin 68 = .ok (.istore 4, 2) := by decide +kernel
theorem dX9_twin_70 : decode cX9_twin 70 = .ok (.iconst 0, 1) := by decide +kernel
theorem dX9_twin_71 : decode cX9_twin 71 = .ok (.istore 5, 2) := by decide +kernel
theorem dX9_twin_73 : decode cX9_twin 73 = .ok (.iload 5, 2) := by decide +kernel
theorem dX9_twin_75 : decode cX9_twin 75 = .ok (.aload_n 0, 1) := by decide +kernel
theorem dX9_twin_76 : decode cX9_twin 76 = .ok (.getfield 14, 3) := by decide +kernel
theorem dX9_twin_79 : decode cX9_twin 79 = .ok (.iload_n 3, 1) := by decide +kernel
theorem dX9_twin_80 : decode cX9_twin 80 = .ok (.iaload, 1) := by decide +kernel
theorem dX9_twin_81 : decode cX9_twin 81 = .ok (.if_icmp .ge 38, 3) := by decide +kernel
theorem dX9_twin_84 : decode cX9_twin 84 = .ok (.aload_n 0, 1) := by decide +kernel
theorem dX9_twin_85 : decode cX9_twin 85 = .ok (.getfield 21, 3) := by decide +kernel
theorem dX9_twin_88 : decode cX9_twin 88 = .ok (.aload_n 0, 1) := by decide +kernel
theorem dX9_twin_89 : decode cX9_twin 89 = .ok (.getfield 17, 3) := by decide +kernel
theorem dX9_twin_92 : decode cX9_twin 92 = .ok (.iload 4, 2) := by decide +kernel
theorem dX9_twin_94 : decode cX9_twin 94 = .ok (.iaload, 1) := by decide +kernel
theorem dX9_twin_95 : decode cX9_twin 95 = .ok (.iload 5, 2) := by decide +kernel
theorem dX9_twin_97 : decode cX9_twin 97 = .ok (.iadd, 1) := by decide +kernel
theorem dX9_twin_98 : decode cX9_twin 98 = .ok (.aload_n 0, 1) := by decide +kernel
theorem dX9_twin_99 : decode cX9_twin 99 = .ok (.getfield 21, 3) := by decide +kernel
theorem dX9_twin_102 : decode cX9_twin 102 = .ok (.aload_n 0, 1) := by decide +kernel
theorem dX9_twin_103 : decode cX9_twin 103 = .ok (.getfield 17, 3) := by decide +kernel
theorem dX9_twin_106 : decode cX9_twin 106 = .ok (.iload_n 3, 1) := by decide +kernel
theorem dX9_twin_107 : decode cX9_twin 107 = .ok (.iaload, 1) := by decide +kernel
theorem dX9_twin_108 : decode cX9_twin 108 = .ok (.iload 5, 2) := by decide +kernel
theorem dX9_twin_110 : decode cX9_twin 110 = .ok (.iadd, 1) := by decide +kernel
theorem dX9_twin_111 : decode cX9_twin 111 = .ok (.iaload, 1) := by decide +kernel
theorem dX9_twin_112 : decode cX9_twin 112 = .ok (.iastore, 1) := by decide +kernel
theorem dX9_twin_113 : decode cX9_twin 113 = .ok (.iinc 5 1, 3) := by decide +kernel
theorem dX9_twin_116 : decode cX9_twin 116 = .ok (.goto (-43), 3) := by decide +kernel
theorem dX9_twin_119 : decode cX9_twin 119 = .ok (.aload_n 0, 1) := by decide +kernel
theorem dX9_twin_120 : decode cX9_twin 120 = .ok (.getfield 28, 3) := by decide +kernel
theorem dX9_twin_123 : decode cX9_twin 123 = .ok (.iload_n 2, 1) := by decide +kernel
theorem dX9_twin_124 : decode cX9_twin 124 = .ok (.iload 4, 2) := by decide +kernel
theorem dX9_twin_126 : decode cX9_twin 126 = .ok (.iastore, 1) := by decide +kernel
theorem dX9_twin_127 : decode cX9_twin 127 = .ok (.iconst 1, 1) := by decide +kernel
theorem dX9_twin_128 : decode cX9_twin 128 = .ok (.ireturn, 1) := by decide +kernel
set_option maxRecDepth 20000 in
theorem ggX9_is_X9_isCell : GoodIn wsX9_is wsX9_isCell := goodIn_r _ [6, 7, 8, 5, 9] rfl (by decide +kernel)
set_option maxRecDepth 20000 in
theorem gX9_is_X9_isCell : GoodIn wsX9_is (va_wsS RX9 79 yX9_isCell wsX9_isCell) := goodIn_app (goodIn_of _ (by decide +kernel)) ggX9_is_X9_isCell
set_option maxRecDepth 20000 in
theorem ggX9_is_X9_in : GoodIn wsX9_is wsX9_in := goodIn_r _ [9] rfl (by decide +kernel)
set_option maxRecDepth 20000 in
theorem gX9_is_X9_in : GoodIn wsX9_is (va_wsS RX9 59 yX9_in wsX9_in) := goodIn_app (goodIn_of _ (by decide +kernel)) ggX9_is_X9_in
set_option maxRecDepth 20000 in
theorem ggX9_is_X9_isKindOf : GoodIn wsX9_is wsX9_isKindOf := goodIn_r _ [12] rfl (by decide +kernel)
set_option maxRecDepth 20000 in
theorem gX9_is_X9_isKindOf : GoodIn wsX9_is (va_wsS RX9 63 yX9_isKindOf wsX9_isKindOf) := goodIn_app (goodIn_of _ (by decide +kernel)) ggX9_is_X9_isKindOf
theorem dX9_is_0 : decode cX9_is 0 = .ok (.iload_n 1, 1) := by decide +kernel
theorem dX9_is_1 : decode cX9_is 1 = .ok (.invokestatic 79, 3) := by decide +kernel
theorem dX9_is_4 : decode cX9_is 4 = .ok (.ifCond .eq 13, 3) := by decide +kernel
theorem dX9_is_7 : decode cX9_is 7 = .ok (.iload_n 2, 1) := by decide +kernel
theorem dX9_is_8 : decode cX9_is 8 = .ok (.iconst 0, 1) := by decide +kernel
theorem dX9_is_9 : decode cX9_is 9 = .ok (.bipush 15, 2) := by decide +kernel
theorem dX9_is_11 : decode cX9_is 11 = .ok (.invokestatic 59, 3) := by decide +kernel
theorem dX9_is_14 : decode cX9_is 14 = .ok (.ifCond .ne 7, 3) := by decide +kernel
theorem dX9_is_17 : decode cX9_is 17 = .ok (.iconst (-1), 1) := by decide +kernel
theorem dX9_is_18 : decode cX9_is 18 = .ok (.goto 35, 3) := by decide +kernel
theorem dX9_is_21 : decode cX9_is 21 = .ok (.aload_n 0, 1) := by decide +kernel
theorem dX9_is_22 : decode cX9_is 22 = .ok (.getfield 28, 3) := by decide +kernel
theorem dX9_is_25 : decode cX9_is 25 = .ok (.iload_n 1, 1) := by decide +kernel
theorem dX9_is_26 : decode cX9_is 26 = .ok (.iaload, 1) := by decide +kernel
theorem dX9_is_27 : decode cX9_is 27 = .ok (.ifCond .eq 25, 3) := by decide +kernel
theorem dX9_is_30 : decode cX9_is 30 = .ok (.aload_n 0, 1) := by decide +kernel
theorem dX9_is_31 : decode cX9_is 31 = .ok (.getfield 8, 3) := by decide +kernel
theorem dX9_is_34 : decode cX9_is 34 = .ok (.aload_n 0, 1) := by decide +kernel
theorem dX9_is_35 : decode cX9_is 35 = .ok (.getfield 28, 3) := by decide +kernel
theorem dX9_is_38 : decode cX9_is 38 = .ok (.iload_n 1, 1) := by decide +kernel
theorem dX9_is_39 : decode cX9_is 39 = .ok (.iaload, 1) := by decide +kernel
theorem dX9_is_40 : decode cX9_is 40 = .ok (.iaload, 1) := by decide +kernel
theorem dX9_is_41 : decode cX9_is 41 = .ok (.iload_n 2, 1) := by decide +kernel
theorem dX9_is_42 : decode cX9_is 42 = .ok (.invokestatic 63, 3) := by decide +kernel
theorem dX9_is_45 : decode cX9_is 45 = .ok (.ifCond .eq 7, 3) := by decide +kernel
theorem dX9_is_48 : decode cX9_is 48 = .ok (.iconst 1, 1) := by decide +kernel
theorem dX9_is_49 : decode cX9_is 49 = .ok (.goto 4, 3) := by decide +kernel
theorem dX9_is_52 : decode cX9_is 52 = .ok (.iconst 0, 1) := by decide +kernel
theorem dX9_is_53 : decode cX9_is 53 = .ok (.ireturn, 1) := by decide +kernel
set_option maxRecDepth 20000 in
theorem ggX9_same_X9_isCell : GoodIn wsX9_same wsX9_isCell := goodIn_r _ [5, 6, 7, 4, 8] rfl (by decide +kernel)
set_option maxRecDepth 20000 in
theorem gX9_same_X9_isCell : GoodIn wsX9_same (va_wsS RX9 79 yX9_isCell wsX9_isCell) := goodIn_app (goodIn_of _ (by decide +kernel)) ggX9_same_X9_isCell
theorem dX9_same_0 : decode cX9_same 0 = .ok (.iload_n 1, 1) := by decide +kernel
theorem dX9_same_1 : decode cX9_same 1 = .ok (.invokestatic 79, 3) := by decide +kernel
theorem dX9_same_4 : decode cX9_same 4 = .ok (.ifCond .eq 10, 3) := by decide +kernel
theorem dX9_same_7 : decode cX9_same 7 = .ok (.iload_n 2, 1) := by decide +kernel
theorem dX9_same_8 : decode cX9_same 8 = .ok (.invokestatic 79, 3) := by decide +kernel
theorem dX9_same_11 : decode cX9_same 11 = .ok (.ifCond .ne 7, 3) := by decide +kernel
theorem dX9_same_14 : decode cX9_same 14 = .ok (.iconst (-1), 1) := by decide +kernel
theorem dX9_same_15 : decode cX9_same 15 = .ok (.goto 23, 3) := by decide +kernel
theorem dX9_same_18 : decode cX9_same 18 = .ok (.aload_n 0, 1) := by decide +kernel
theorem dX9_same_19 : decode cX9_same 19 = .ok (.getfield 28, 3) := by decide +kernel
theorem dX9_same_22 : decode cX9_same 22 = .ok (.iload_n 1, 1) := by decide +kernel
theorem dX9_same_23 : decode cX9_same 23 = .ok (.iaload, 1) := by decide +kernel
theorem dX9_same_24 : decode cX9_same 24 = .ok (.aload_n 0, 1) := by decide +kernel
theorem dX9_same_25 : decode cX9_same 25 = .ok (.getfield 28, 3) := by decide +kernel
theorem dX9_same_28 : decode cX9_same 28 = .ok (.iload_n 2, 1) := by decide +kernel
theorem dX9_same_29 : decode cX9_same 29 = .ok (.iaload, 1) := by decide +kernel
theorem dX9_same_30 : decode cX9_same 30 = .ok (.if_icmp .ne 7, 3) := by decide +kernel
theorem dX9_same_33 : decode cX9_same 33 = .ok (.iconst 1, 1) := by decide +kernel
theorem dX9_same_34 : decode cX9_same 34 = .ok (.goto 4, 3) := by decide +kernel
theorem dX9_same_37 : decode cX9_same 37 = .ok (.iconst 0, 1) := by decide +kernel
theorem dX9_same_38 : decode cX9_same 38 = .ok (.ireturn, 1) := by decide +kernel
set_option maxRecDepth 20000 in
theorem ggX9_length_X9_begin : GoodIn wsX9_length wsX9_begin := goodIn_r _ [7, 8, 28, 29, 30, 31, 32, 33, 34, 35, 36, 37, 38, 39] rfl (by decide +kernel)
set_option maxRecDepth 20000 in
theorem gX9_length_X9_begin : GoodIn wsX9_length (wsV RX9 76 RX9 yX9_begin wsX9_begin) := goodIn_app (goodIn_of _ (by decide +kernel)) ggX9_length_X9_begin
set_option maxRecDepth 20000 in
theorem ggX9_length_X9_in : GoodIn wsX9_length wsX9_in := goodIn_r _ [11] rfl (by decide +kernel)
set_option maxRecDepth 20000 in
theorem gX9_length_X9_in : GoodIn wsX9_length (va_wsS RX9 59 yX9_in wsX9_in) := goodIn_app (goodIn_of _ (by decide +kernel)) ggX9_length_X9_in
set_option maxRecDepth 20000 in
theorem ggX9_length_X9_isCell : GoodIn wsX9_length wsX9_isCell := goodIn_r _ [14, 9, 10, 6, 11] rfl (by decide +kernel)
set_option maxRecDepth 20000 in
theorem gX9_length_X9_isCell : GoodIn wsX9_length (va_wsS RX9 79 yX9_isCell wsX9_isCell) := goodIn_app (goodIn_of _ (by decide +kernel)) ggX9_length_X9_isCell
set_option maxRecDepth 20000 in
theorem ggX9_length_X9_fails : GoodIn wsX9_length wsX9_fails := goodIn_r _ [18, 8, 19, 28, 29, 30, 31, 32, 33, 34, 35, 36, 37, 38, 39] rfl (by decide +kernel)
set_option maxRecDepth 20000 in
theorem gX9_length_X9_fails : GoodIn wsX9_length (wsV RX9 83 RX9 yX9_fails wsX9_fails) := goodIn_app (goodIn_of _ (by decide +kernel)) ggX9_length_X9_fails
set_option maxRecDepth 20000 in
theorem ggX9_length_X9_passes : GoodIn wsX9_length wsX9_passes := goodIn_r _ [23, 24, 25, 26, 6, 27, 28, 29, 30, 31, 32, 33, 34, 35, 36, 37, 38, 39] rfl (by decide +kernel)
set_option maxRecDepth 20000 in
theorem gX9_length_X9_passes : GoodIn wsX9_length (wsV RX9 91 RX9 yX9_passes wsX9_passes) := goodIn_app (goodIn_of _ (by decide +kernel)) ggX9_length_X9_passes
theorem dX9_length_0 : decode cX9_length 0 = .ok (.aload_n 0, 1) := by decide +kernel
theorem dX9_length_1 : decode cX9_length 1 = .ok (.invokevirtual 76, 3) := by decide +kernel
theorem dX9_length_4 : decode cX9_length 4 = .ok (.iload_n 1, 1) := by decide +kernel
theorem dX9_length_5 : decode cX9_length 5 = .ok (.iconst 0, 1) := by decide +kernel
theorem dX9_length_6 : decode cX9_length 6 = .ok (.bipush 9, 2) := by decide +kernel
theorem dX9_length_8 : decode cX9_length 8 = .ok (.invokestatic 59, 3) := by decide +kernel
theorem dX9_length_11 : decode cX9_length 11 = .ok (.ifCond .ne 9, 3) := by decide +kernel
theorem dX9_length_14 : decode cX9_length 14 = .ok (.iload_n 1, 1) := by decide +kernel
theorem dX9_length_15 : decode cX9_length 15 = .ok (.bipush 15, 2) := by decide +kernel
theorem dX9_length_17 : decode cX9_length 17 = .ok (.if_icmp .ne 10, 3) := by decide +kernel
theorem dX9_length_20 : decode cX9_length 20 = .ok (.iload_n 2, 1) := by decide +kernel
theorem dX9_length_21 : decode cX9_length 21 = .ok (.invokestatic 79, 3) := by decide +kernel
theorem dX9_length_24 : decode cX9_length 24 = .ok (.ifCond .ne 10, 3) := by decide +kernel
theorem dX9_length_27 : decode cX9_length 27 = .ok (.aload_n 0, 1) := by decide +kernel
theorem dX9_length_28 : decode cX9_length 28 = .ok (.bipush 8, 2) := by decide +kernel
theorem dX9_length_30 : decode cX9_length 30 = .ok (.invokevirtual 83, 3) := by decide +kernel
theorem dX9_length_33 : decode cX9_length 33 = .ok (.ireturn, 1) := by decide +kernel
theorem dX9_length_34 : decode cX9_length 34 = .ok (.aload_n 0, 1) := by decide +kernel
theorem dX9_length_35 : decode cX9_length 35 = .ok (.getfield 28, 3) := by decide +kernel
theorem dX9_length_38 : decode cX9_length 38 = .ok (.iload_n 2, 1) := by decide +kernel
theorem dX9_length_39 : decode cX9_length 39 = .ok (.iaload, 1) := by decide +kernel
theorem dX9_length_40 : decode cX9_length 40 = .ok (.istore_n 3, 1) := by decide +kernel
theorem dX9_length_41 : decode cX9_length 41 = .ok (.aload_n 0, 1) := by decide +kernel
theorem dX9_length_42 : decode cX9_length 42 = .ok (.iload_n 3, 1) := by decide +kernel
theorem dX9_length_43 : decode cX9_length 43 = .ok (.iload_n 1, 1) := by decide +kernel
theorem dX9_length_44 : decode cX9_length 44 = .ok (.invokevirtual 91, 3) := by decide +kernel
theorem dX9_length_47 : decode cX9_length 47 = .ok (.ifCond .ne 11, 3) := by decide +kernel
theorem dX9_length_50 : decode cX9_length 50 = .ok (.aload_n 0, 1) := by decide +kernel
theorem dX9_length_51 : decode cX9_length 51 = .ok (.iconst 4, 1) := by decide +kernel
theorem dX9_length_52 : decode cX9_length 52 = .ok (.invokevirtual 83, 3) := by decide +kernel
theorem dX9_length_55 : decode cX9_length 55 = .ok (.goto 21, 3) := by decide +kernel
theorem dX9_length_58 : decode cX9_length 58 = .ok (.iload_n 3, 1) := by decide +kernel
theorem dX9_length_59 : decode cX9_length 59 = .ok (.ifCond .ne 11, 3) := by decide +kernel
theorem dX9_length_62 : decode cX9_length 62 = .ok (.aload_n 0, 1) := by decide +kernel
theorem dX9_length_63 : decode cX9_length 63 = .ok (.iconst 1, 1) := by decide +kernel
theorem dX9_length_64 : decode cX9_length 64 = .ok (.invokevirtual 83, 3) := by decide +kernel
theorem dX9_length_67 : decode cX9_length 67 = .ok (.goto 9, 3) := by decide +kernel
theorem dX9_length_70 : decode cX9_length 70 = .ok (.aload_n 0, 1) := by decide +kernel
theorem dX9_length_71 : decode cX9_length 71 = .ok (.getfield 14, 3) := by decide +kernel
theorem dX9_length_74 : decode cX9_length 74 = .ok (.iload_n 3, 1) := by decide +kernel
theorem dX9_length_75 : decode cX9_length 75 = .ok (.iaload, 1) := by decide +kernel
theorem dX9_length_76 : decode cX9_length 76 = .ok (.ireturn, 1) := by decide +kernel
set_option maxRecDepth 20000 in
theorem ggX9_doubleBits_Jxe99ae_doubleToLongBits_ccdee : GoodIn wsX9_doubleBits wsJxe99ae_doubleToLongBits_ccdee := goodIn_r _ [5, 6, 7, 8, 9, 10, 11, 12, 4, 13] rfl (by decide +kernel)
set_option maxRecDepth 20000 in
theorem gX9_doubleBits_Jxe99ae_doubleToLongBits_ccdee : GoodIn wsX9_doubleBits (va_wsS RX9 96 yJxe99ae_doubleToLongBits_ccdee wsJxe99ae_doubleToLongBits_ccdee) := goodIn_app (goodIn_of _ (by decide +kernel)) ggX9_doubleBits_Jxe99ae_doubleToLongBits_ccdee
theorem dX9_doubleBits_0 : decode cX9_doubleBits 0 = .ok (.dload_n 0, 1) := by decide +kernel
theorem dX9_doubleBits_1 : decode cX9_doubleBits 1 = .ok (.dload_n 0, 1) := by decide +kernel
theorem dX9_doubleBits_2 : decode cX9_doubleBits 2 = .ok (.dcmp .l, 1) := by decide +kernel
theorem dX9_doubleBits_3 : decode cX9_doubleBits 3 = .ok (.ifCond .eq 9, 3) := by decide +kernel
theorem dX9_doubleBits_6 : decode cX9_doubleBits 6 = .ok (.ldc2_w 94, 3) := by decide +kernel
theorem dX9_doubleBits_9 : decode cX9_doubleBits 9 = .ok (.goto 7, 3) := by decide +kernel
theorem dX9_doubleBits_12 : decode cX9_doubleBits 12 = .ok (.dload_n 0, 1) := by decide +kernel
theorem dX9_doubleBits_13 : decode cX9_doubleBits 13 = .ok (.invokestatic 96, 3) := by decide +kernel
theorem dX9_doubleBits_16 : decode cX9_doubleBits 16 = .ok (.lreturn, 1) := by decide +kernel
set_option maxRecDepth 20000 in
theorem ggX9_floatBits_Jxf58ca_floatToIntBits_5c35a : GoodIn wsX9_floatBits wsJxf58ca_floatToIntBits_5c35a := goodIn_r _ [5, 6, 7, 8, 9, 10, 11, 12, 4, 13] rfl (by decide +kernel)
set_option maxRecDepth 20000 in
theorem gX9_floatBits_Jxf58ca_floatToIntBits_5c35a : GoodIn wsX9_floatBits (va_wsS RX9 102 yJxf58ca_floatToIntBits_5c35a wsJxf58ca_floatToIntBits_5c35a) := goodIn_app (goodIn_of _ (by decide +kernel)) ggX9_floatBits_Jxf58ca_floatToIntBits_5c35a
theorem dX9_floatBits_0 : decode cX9_floatBits 0 = .ok (.fload_n 0, 1) := by decide +kernel
theorem dX9_floatBits_1 : decode cX9_floatBits 1 = .ok (.fload_n 0, 1) := by decide +kernel
theorem dX9_floatBits_2 : decode cX9_floatBits 2 = .ok (.fcmp .l, 1) := by decide +kernel
theorem dX9_floatBits_3 : decode cX9_floatBits 3 = .ok (.ifCond .eq 9, 3) := by decide +kernel
theorem dX9_floatBits_6 : decode cX9_floatBits 6 = .ok (.ldc2_w 100, 3) := by decide +kernel
theorem dX9_floatBits_9 : decode cX9_floatBits 9 = .ok (.goto 8, 3) := by decide +kernel
theorem dX9_floatBits_12 : decode cX9_floatBits 12 = .ok (.fload_n 0, 1) := by decide +kernel
theorem dX9_floatBits_13 : decode cX9_floatBits 13 = .ok (.invokestatic 102, 3) := by decide +kernel
theorem dX9_floatBits_16 : decode cX9_floatBits 16 = .ok (.i2l, 1) := by decide +kernel
theorem dX9_floatBits_17 : decode cX9_floatBits 17 = .ok (.lreturn, 1) := by decide +kernel
set_option maxRecDepth 20000 in
theorem ggX9_cut_X9_singleBits : GoodIn wsX9_cut wsX9_singleBits := goodIn_r _ [4, 5, 6, 7, 8, 9, 10, 11] rfl (by decide +kernel)
set_option maxRecDepth 20000 in
theorem gX9_cut_X9_singleBits : GoodIn wsX9_cut (va_wsS RX9 106 yX9_singleBits wsX9_singleBits) := goodIn_app (goodIn_of _ (by decide +kernel)) ggX9_cut_X9_singleBits
set_option maxRecDepth 20000 in
theorem ggX9_cut_X9_floatBits : GoodIn wsX9_cut wsX9_floatBits := goodIn_r _ [14, 15, 16, 17, 18, 19, 20, 21, 22, 11, 23, 24, 25, 26] rfl (by decide +kernel)
set_option maxRecDepth 20000 in
theorem gX9_cut_X9_floatBits : GoodIn wsX9_cut (va_wsS RX9 109 yX9_floatBits wsX9_floatBits) := goodIn_app (goodIn_of _ (by decide +kernel)) ggX9_cut_X9_floatBits
set_option maxRecDepth 20000 in
theorem ggX9_cut_X9_realBits : GoodIn wsX9_cut wsX9_realBits := goodIn_r _ [29, 30, 31, 32, 33, 34, 35, 36] rfl (by decide +kernel)
set_option maxRecDepth 20000 in
theorem gX9_cut_X9_realBits : GoodIn wsX9_cut (va_wsS RX9 113 yX9_realBits wsX9_realBits) := goodIn_app (goodIn_of _ (by decide +kernel)) ggX9_cut_X9_realBits
set_option maxRecDepth 20000 in
theorem ggX9_cut_X9_doubleBits : GoodIn wsX9_cut wsX9_doubleBits := goodIn_r _ [39, 40, 41, 42, 43, 44, 45, 46, 47, 36, 48, 49, 50, 51] rfl (by decide +kernel)
set_option maxRecDepth 20000 in
theorem gX9_cut_X9_doubleBits : GoodIn wsX9_cut (va_wsS RX9 116 yX9_doubleBits wsX9_doubleBits) := goodIn_app (goodIn_of _ (by decide +kernel)) ggX9_cut_X9_doubleBits
theorem dX9_cut_0 : decode cX9_cut 0 = .ok (.iload_n 0, 1) := by decide +kernel
theorem dX9_cut_1 : decode cX9_cut 1 = .ok (.tableswitch 79 0 6 #[43, 79, 47, 52, 57, 62, 71], 43) := by decide +kernel
theorem dX9_cut_44 : decode cX9_cut 44 = .ok (.lload_n 1, 1) := by decide +kernel
theorem dX9_cut_45 : decode cX9_cut 45 = .ok (.l2i, 1) := by decide +kernel
theorem dX9_cut_46 : decode cX9_cut 46 = .ok (.i2l, 1) := by decide +kernel
theorem dX9_cut_47 : decode cX9_cut 47 = .ok (.lreturn, 1) := by decide +kernel
theorem dX9_cut_48 : decode cX9_cut 48 = .ok (.lload_n 1, 1) := by decide +kernel
theorem dX9_cut_49 : decode cX9_cut 49 = .ok (.l2i, 1) := by decide +kernel
theorem dX9_cut_50 : decode cX9_cut 50 = .ok (.i2b, 1) := by decide +kernel
theorem dX9_cut_51 : decode cX9_cut 51 = .ok (.i2l, 1) := by decide +kernel
theorem dX9_cut_52 : decode cX9_cut 52 = .ok (.lreturn, 1) := by decide +kernel
theorem dX9_cut_53 : decode cX9_cut 53 = .ok (.lload_n 1, 1) := by decide +kernel
theorem dX9_cut_54 : decode cX9_cut 54 = .ok (.l2i, 1) := by decide +kernel
theorem dX9_cut_55 : decode cX9_cut 55 = .ok (.i2c, 1) := by decide +kernel
theorem dX9_cut_56 : decode cX9_cut 56 = .ok (.i2l, 1) := by decide +kernel
theorem dX9_cut_57 : decode cX9_cut 57 = .ok (.lreturn, 1) := by decide +kernel
theorem dX9_cut_58 : decode cX9_cut 58 = .ok (.lload_n 1, 1) := by decide +kernel
theorem dX9_cut_59 : decode cX9_cut 59 = .ok (.l2i, 1) := by decide +kernel
theorem dX9_cut_60 : decode cX9_cut 60 = .ok (.i2s, 1) := by decide +kernel
theorem dX9_cut_61 : decode cX9_cut 61 = .ok (.i2l, 1) := by decide +kernel
theorem dX9_cut_62 : decode cX9_cut 62 = .ok (.lreturn, 1) := by decide +kernel
theorem dX9_cut_63 : decode cX9_cut 63 = .ok (.lload_n 1, 1) := by decide +kernel
theorem dX9_cut_64 : decode cX9_cut 64 = .ok (.l2i, 1) := by decide +kernel
theorem dX9_cut_65 : decode cX9_cut 65 = .ok (.invokestatic 106, 3) := by decide +kernel
theorem dX9_cut_68 : decode cX9_cut 68 = .ok (.invokestatic 109, 3) := by decide +kernel
theorem dX9_cut_71 : decode cX9_cut 71 = .ok (.lreturn, 1) := by decide +kernel
theorem dX9_cut_72 : decode cX9_cut 72 = .ok (.lload_n 1, 1) := by decide +kernel
theorem dX9_cut_73 : decode cX9_cut 73 = .ok (.invokestatic 113, 3) := by decide +kernel
theorem dX9_cut_76 : decode cX9_cut 76 = .ok (.invokestatic 116, 3) := by decide +kernel
theorem dX9_cut_79 : decode cX9_cut 79 = .ok (.lreturn, 1) := by decide +kernel
theorem dX9_cut_80 : decode cX9_cut 80 = .ok (.lload_n 1, 1) := by decide +kernel
theorem dX9_cut_81 : decode cX9_cut 81 = .ok (.lreturn, 1) := by decide +kernel
set_option maxRecDepth 20000 in
theorem ggX9_against_X9_passes : GoodIn wsX9_against wsX9_passes := goodIn_r _ [6, 7, 8, 9, 5, 10, 14, 15, 16, 17, 18, 19, 20, 21, 22, 23, 24, 25] rfl (by decide +kernel)
set_option maxRecDepth 20000 in
theorem gX9_against_X9_passes : GoodIn wsX9_against (wsV RX9 91 RX9 yX9_passes wsX9_passes) := goodIn_app (goodIn_of _ (by decide +kernel)) ggX9_against_X9_passes
set_option maxRecDepth 20000 in
theorem ggX9_against_X9_in : GoodIn wsX9_against wsX9_in := goodIn_r _ [13] rfl (by decide +kernel)
set_option maxRecDepth 20000 in
theorem gX9_against_X9_in : GoodIn wsX9_against (va_wsS RX9 59 yX9_in wsX9_in) := goodIn_app (goodIn_of _ (by decide +kernel)) ggX9_against_X9_in
theorem dX9_against_0 : decode cX9_against 0 = .ok (.aload_n 0, 1) := by decide +kernel
theorem dX9_against_1 : decode cX9_against 1 = .ok (.iload_n 2, 1) := by decide +kernel
theorem dX9_against_2 : decode cX9_against 2 = .ok (.iload_n 1, 1) := by decide +kernel
theorem dX9_against_3 : decode cX9_against 3 = .ok (.invokevirtual 91, 3) := by decide +kernel
theorem dX9_against_6 : decode cX9_against 6 = .ok (.ifCond .ne 7, 3) := by decide +kernel
theorem dX9_against_9 : decode cX9_against 9 = .ok (.iconst 4, 1) := by decide +kernel
theorem dX9_against_10 : decode cX9_against 10 = .ok (.goto 32, 3) := by decide +kernel
theorem dX9_against_13 : decode cX9_against 13 = .ok (.iload_n 2, 1) := by decide +kernel
theorem dX9_against_14 : decode cX9_against 14 = .ok (.ifCond .ne 7, 3) := by decide +kernel
theorem dX9_against_17 : decode cX9_against 17 = .ok (.iconst 1, 1) := by decide +kernel
theorem dX9_against_18 : decode cX9_against 18 = .ok (.goto 24, 3) := by decide +kernel
theorem dX9_against_21 : decode cX9_against 21 = .ok (.iload_n 3, 1) := by decide +kernel
theorem dX9_against_22 : decode cX9_against 22 = .ok (.iconst 0, 1) := by decide +kernel
theorem dX9_against_23 : decode cX9_against 23 = .ok (.aload_n 0, 1) := by decide +kernel
theorem dX9_against_24 : decode cX9_against 24 = .ok (.getfield 14, 3) := by decide +kernel
theorem dX9_against_27 : decode cX9_against 27 = .ok (.iload_n 2, 1) := by decide +kernel
theorem dX9_against_28 : decode cX9_against 28 = .ok (.iaload, 1) := by decide +kernel
theorem dX9_against_29 : decode cX9_against 29 = .ok (.iconst 1, 1) := by decide +kernel
theorem dX9_against_30 : decode cX9_against 30 = .ok (.isub, 1) := by decide +kernel
theorem dX9_against_31 : decode cX9_against 31 = .ok (.invokestatic 59, 3) := by decide +kernel
theorem dX9_against_34 : decode cX9_against 34 = .ok (.ifCond .ne 7, 3) := by decide +kernel
theorem dX9_against_37 : decode cX9_against 37 = .ok (.iconst 2, 1) := by decide +kernel
theorem dX9_against_38 : decode cX9_against 38 = .ok (.goto 4, 3) := by decide +kernel
theorem dX9_against_41 : decode cX9_against 41 = .ok (.iconst 0, 1) := by decide +kernel
theorem dX9_against_42 : decode cX9_against 42 = .ok (.ireturn, 1) := by decide +kernel
theorem dX9_element_0 : decode cX9_element 0 = .ok (.aload_n 0, 1) := by decide +kernel
theorem dX9_element_1 : decode cX9_element 1 = .ok (.getfield 8, 3) := by decide +kernel
theorem dX9_element_4 : decode cX9_element 4 = .ok (.iload_n 1, 1) := by decide +kernel
theorem dX9_element_5 : decode cX9_element 5 = .ok (.iaload, 1) := by decide +kernel
theorem dX9_element_6 : decode cX9_element 6 = .ok (.ifCond .ne 20, 3) := by decide +kernel
theorem dX9_element_9 : decode cX9_element 9 = .ok (.aload_n 0, 1) := by decide +kernel
theorem dX9_element_10 : decode cX9_element 10 = .ok (.getfield 21, 3) := by decide +kernel
theorem dX9_element_13 : decode cX9_element 13 = .ok (.aload_n 0, 1) := by decide +kernel
theorem dX9_element_14 : decode cX9_element 14 = .ok (.getfield 17, 3) := by decide +kernel
theorem dX9_element_17 : decode cX9_element 17 = .ok (.iload_n 1, 1) := by decide +kernel
theorem dX9_element_18 : decode cX9_element 18 = .ok (.iaload, 1) := by decide +kernel
theorem dX9_element_19 : decode cX9_element 19 = .ok (.iload_n 2, 1) := by decide +kernel
theorem dX9_element_20 : decode cX9_element 20 = .ok (.iadd, 1) := by decide +kernel
theorem dX9_element_21 : decode cX9_element 21 = .ok (.iaload, 1) := by decide +kernel
theorem dX9_element_22 : decode cX9_element 22 = .ok (.i2l, 1) := by decide +kernel
theorem dX9_element_23 : decode cX9_element 23 = .ok (.goto 16, 3) := by decide +kernel
theorem dX9_element_26 : decode cX9_element 26 = .ok (.aload_n 0, 1) := by decide +kernel
theorem dX9_element_27 : decode cX9_element 27 = .ok (.getfield 24, 3) := by decide +kernel
theorem dX9_element_30 : decode cX9_element 30 = .ok (.aload_n 0, 1) := by decide +kernel
theorem dX9_element_31 : decode cX9_element 31 = .ok (.getfield 17, 3) := by decide +kernel
theorem dX9_element_34 : decode cX9_element 34 = .ok (.iload_n 1, 1) := by decide +kernel
theorem dX9_element_35 : decode cX9_element 35 = .ok (.iaload, 1) := by decide +kernel
theorem dX9_element_36 : decode cX9_element 36 = .ok (.iload_n 2, 1) := by decide +kernel
theorem dX9_element_37 : decode cX9_element 37 = .ok (.iadd, 1) := by decide +kernel
theorem dX9_element_38 : decode cX9_element 38 = .ok (.laload, 1) := by decide +kernel
theorem dX9_element_39 : decode cX9_element 39 = .ok (.lreturn, 1) := by decide +kernel
theorem dX9_set_0 : decode cX9_set 0 = .ok (.aload_n 0, 1) := by decide +kernel
theorem dX9_set_1 : decode cX9_set 1 = .ok (.getfield 8, 3) := by decide +kernel
theorem dX9_set_4 : decode cX9_set 4 = .ok (.iload_n 1, 1) := by decide +kernel
theorem dX9_set_5 : decode cX9_set 5 = .ok (.iaload, 1) := by decide +kernel
theorem dX9_set_6 : decode cX9_set 6 = .ok (.ifCond .ne 21, 3) := by decide +kernel
theorem dX9_set_9 : decode cX9_set 9 = .ok (.aload_n 0, 1) := by decide +kernel
theorem dX9_set_10 : decode cX9_set 10 = .ok (.getfield 21, 3) := by decide +kernel
theorem dX9_set_13 : decode cX9_set 13 = .ok (.aload_n 0, 1) := by decide +kernel
theorem dX9_set_14 : decode cX9_set 14 = .ok (.getfield 17, 3) := by decide +kernel
theorem dX9_set_17 : decode cX9_set 17 = .ok (.iload_n 1, 1) := by decide +kernel
theorem dX9_set_18 : decode cX9_set 18 = .ok (.iaload, 1) := by decide +kernel
theorem dX9_set_19 : decode cX9_set 19 = .ok (.iload_n 2, 1) := by decide +kernel
theorem dX9_set_20 : decode cX9_set 20 = .ok (.iadd, 1) := by decide +kernel
theorem dX9_set_21 : decode cX9_set 21 = .ok (.lload_n 3, 1) := by decide +kernel
theorem dX9_set_22 : decode cX9_set 22 = .ok (.l2i, 1) := by decide +kernel
theorem dX9_set_23 : decode cX9_set 23 = .ok (.iastore, 1) := by decide +kernel
theorem dX9_set_24 : decode cX9_set 24 = .ok (.goto 17, 3) := by decide +kernel
theorem dX9_set_27 : decode cX9_set 27 = .ok (.aload_n 0, 1) := by decide +kernel
theorem dX9_set_28 : decode cX9_set 28 = .ok (.getfield 24, 3) := by decide +kernel
theorem dX9_set_31 : decode cX9_set 31 = .ok (.aload_n 0, 1) := by decide +kernel
theorem dX9_set_32 : decode cX9_set 32 = .ok (.getfield 17, 3) := by decide +kernel
theorem dX9_set_35 : decode cX9_set 35 = .ok (.iload_n 1, 1) := by decide +kernel
theorem dX9_set_36 : decode cX9_set 36 = .ok (.iaload, 1) := by decide +kernel
theorem dX9_set_37 : decode cX9_set 37 = .ok (.iload_n 2, 1) := by decide +kernel
theorem dX9_set_38 : decode cX9_set 38 = .ok (.iadd, 1) := by decide +kernel
theorem dX9_set_39 : decode cX9_set 39 = .ok (.lload_n 3, 1) := by decide +kernel
theorem dX9_set_40 : decode cX9_set 40 = .ok (.lastore, 1) := by decide +kernel
theorem dX9_set_41 : decode cX9_set 41 = .ok (.return_, 1) := by decide +kernel
set_option maxRecDepth 20000 in
theorem ggX9_load_X9_begin : GoodIn wsX9_load wsX9_begin := goodIn_r _ [6, 7, 39, 40, 41, 42, 43, 44, 45, 46, 47, 48, 49, 50] rfl (by decide +kernel)
set_option maxRecDepth 20000 in
theorem gX9_load_X9_begin : GoodIn wsX9_load (wsV RX9 76 RX9 yX9_begin wsX9_begin) := goodIn_app (goodIn_of _ (by decide +kernel)) ggX9_load_X9_begin
set_option maxRecDepth 20000 in
theorem ggX9_load_X9_in : GoodIn wsX9_load wsX9_in := goodIn_r _ [10] rfl (by decide +kernel)
set_option maxRecDepth 20000 in
theorem gX9_load_X9_in : GoodIn wsX9_load (va_wsS RX9 59 yX9_in wsX9_in) := goodIn_app (goodIn_of _ (by decide +kernel)) ggX9_load_X9_in
set_option maxRecDepth 20000 in
theorem ggX9_load_X9_isCell : GoodIn wsX9_load wsX9_isCell := goodIn_r _ [13, 8, 9, 5, 10] rfl (by decide +kernel)
set_option maxRecDepth 20000 in
theorem gX9_load_X9_isCell : GoodIn wsX9_load (va_wsS RX9 79 yX9_isCell wsX9_isCell) := goodIn_app (goodIn_of _ (by decide +kernel)) ggX9_load_X9_isCell
set_option maxRecDepth 20000 in
theorem ggX9_load_X9_fails : GoodIn wsX9_load wsX9_fails := goodIn_r _ [17, 7, 18, 39, 40, 41, 42, 43, 44, 45, 46, 47, 48, 49, 50] rfl (by decide +kernel)
set_option maxRecDepth 20000 in
theorem gX9_load_X9_fails : GoodIn wsX9_load (wsV RX9 83 RX9 yX9_fails wsX9_fails) := goodIn_app (goodIn_of _ (by decide +kernel)) ggX9_load_X9_fails
set_option maxRecDepth 20000 in
theorem ggX9_load_X9_against : GoodIn wsX9_load wsX9_against := goodIn_r _ [22, 23, 24, 25, 26, 5, 27, 28, 29, 30, 31, 8, 9, 10, 39, 40, 41, 42, 43, 44, 45, 46, 47, 48, 49, 50] rfl (by decide +kernel)
set_option maxRecDepth 20000 in
theorem gX9_load_X9_against : GoodIn wsX9_load (wsV RX9 119 RX9 yX9_against wsX9_against) := goodIn_app (goodIn_of _ (by decide +kernel)) ggX9_load_X9_against
set_option maxRecDepth 20000 in
theorem ggX9_load_X9_element : GoodIn wsX9_load wsX9_element := goodIn_r _ [35, 28, 36, 37, 38, 39, 40, 41, 42, 43, 44, 45, 46, 47, 48, 49, 50] rfl (by decide +kernel)
set_option maxRecDepth 20000 in
theorem gX9_load_X9_element : GoodIn wsX9_load (wsV RX9 123 RX9 yX9_element wsX9_element) := goodIn_app (goodIn_of _ (by decide +kernel)) ggX9_load_X9_element
theorem dX9_load_0 : decode cX9_load 0 = .ok (.aload_n 0, 1) := by decide +kernel
theorem dX9_load_1 : decode cX9_load 1 = .ok (.invokevirtual 76, 3) := by decide +kernel
theorem dX9_load_4 : decode cX9_load 4 = .ok (.iload_n 1, 1) := by decide +kernel
theorem dX9_load_5 : decode cX9_load 5 = .ok (.iconst 0, 1) := by decide +kernel
theorem dX9_load_6 : decode cX9_load 6 = .ok (.bipush 6, 2) := by decide +kernel
theorem dX9_load_8 : decode cX9_load 8 = .ok (.invokestatic 59, 3) := by decide +kernel
theorem dX9_load_11 : decode cX9_load 11 = .ok (.ifCond .eq 10, 3) := by decide +kernel
theorem dX9_load_14 : decode cX9_load 14 = .ok (.iload_n 2, 1) := by decide +kernel
theorem dX9_load_15 : decode cX9_load 15 = .ok (.invokestatic 79, 3) := by decide +kernel
theorem dX9_load_18 : decode cX9_load 18 = .ok (.ifCond .ne 11, 3) := by decide +kernel
theorem dX9_load_21 : decode cX9_load 21 = .ok (.aload_n 0, 1) := by decide +kernel
theorem dX9_load_22 : decode cX9_load 22 = .ok (.bipush 8, 2) := by decide +kernel
theorem dX9_load_24 : decode cX9_load 24 = .ok (.invokevirtual 83, 3) := by decide +kernel
theorem dX9_load_27 : decode cX9_load 27 = .ok (.i2l, 1) := by decide +kernel
theorem dX9_load_28 : decode cX9_load 28 = .ok (.lreturn, 1) := by decide +kernel
theorem dX9_load_29 : decode cX9_load 29 = .ok (.aload_n 0, 1) := by decide +kernel
theorem dX9_load_30 : decode cX9_load 30 = .ok (.iload_n 1, 1) := by decide +kernel
theorem dX9_load_31 : decode cX9_load 31 = .ok (.aload_n 0, 1) := by decide +kernel
theorem dX9_load_32 : decode cX9_load 32 = .ok (.getfield 28, 3) := by decide +kernel
theorem dX9_load_35 : decode cX9_load 35 = .ok (.iload_n 2, 1) := by decide +kernel
theorem dX9_load_36 : decode cX9_load 36 = .ok (.iaload, 1) := by decide +kernel
theorem dX9_load_37 : decode cX9_load 37 = .ok (.iload_n 3, 1) := by decide +kernel
theorem dX9_load_38 : decode cX9_load 38 = .ok (.invokevirtual 119, 3) := by decide +kernel
theorem dX9_load_41 : decode cX9_load 41 = .ok (.istore 4, 2) := by decide +kernel
theorem dX9_load_43 : decode cX9_load 43 = .ok (.iload 4, 2) := by decide +kernel
theorem dX9_load_45 : decode cX9_load 45 = .ok (.ifCond .le 13, 3) := by decide +kernel
theorem dX9_load_48 : decode cX9_load 48 = .ok (.aload_n 0, 1) := by decide +kernel
theorem dX9_load_49 : decode cX9_load 49 = .ok (.iload 4, 2) := by decide +kernel
theorem dX9_load_51 : decode cX9_load 51 = .ok (.invokevirtual 83, 3) := by decide +kernel
theorem dX9_load_54 : decode cX9_load 54 = .ok (.i2l, 1) := by decide +kernel
theorem dX9_load_55 : decode cX9_load 55 = .ok (.goto 14, 3) := by decide +kernel
theorem dX9_load_58 : decode cX9_load 58 = .ok (.aload_n 0, 1) := by decide +kernel
theorem dX9_load_59 : decode cX9_load 59 = .ok (.aload_n 0, 1) := by decide +kernel
theorem dX9_load_60 : decode cX9_load 60 = .ok (.getfield 28, 3) := by decide +kernel
theorem dX9_load_63 : decode cX9_load 63 = .ok (.iload_n 2, 1) := by decide +kernel
theorem dX9_load_64 : decode cX9_load 64 = .ok (.iaload, 1) := by decide +kernel
theorem dX9_load_65 : decode cX9_load 65 = .ok (.iload_n 3, 1) := by decide +kernel
theorem dX9_load_66 : decode cX9_load 66 = .ok (.invokevirtual 123, 3) := by decide +kernel
theorem dX9_load_69 : decode cX9_load 69 = .ok (.lreturn, 1) := by decide +kernel
set_option maxRecDepth 20000 in
theorem ggX9_store_X9_begin : GoodIn wsX9_store wsX9_begin := goodIn_r _ [6, 7, 92, 93, 94, 95, 96, 97, 98, 99, 100, 101, 102, 103] rfl (by decide +kernel)
set_option maxRecDepth 20000 in
theorem gX9_store_X9_begin : GoodIn wsX9_store (wsV RX9 76 RX9 yX9_begin wsX9_begin) := goodIn_app (goodIn_of _ (by decide +kernel)) ggX9_store_X9_begin
set_option maxRecDepth 20000 in
theorem ggX9_store_X9_in : GoodIn wsX9_store wsX9_in := goodIn_r _ [10] rfl (by decide +kernel)
set_option maxRecDepth 20000 in
theorem gX9_store_X9_in : GoodIn wsX9_store (va_wsS RX9 59 yX9_in wsX9_in) := goodIn_app (goodIn_of _ (by decide +kernel)) ggX9_store_X9_in
set_option maxRecDepth 20000 in
theorem ggX9_store_X9_isCell : GoodIn wsX9_store wsX9_isCell := goodIn_r _ [13, 8, 9, 5, 10] rfl (by decide +kernel)
set_option maxRecDepth 20000 in
theorem gX9_store_X9_isCell : GoodIn wsX9_store (va_wsS RX9 79 yX9_isCell wsX9_isCell) := goodIn_app (goodIn_of _ (by decide +kernel)) ggX9_store_X9_isCell
set_option maxRecDepth 20000 in
theorem ggX9_store_X9_fails : GoodIn wsX9_store wsX9_fails := goodIn_r _ [17, 7, 18, 92, 93, 94, 95, 96, 97, 98, 99, 100, 101, 102, 103] rfl (by decide +kernel)
set_option maxRecDepth 20000 in
theorem gX9_store_X9_fails : GoodIn wsX9_store (wsV RX9 83 RX9 yX9_fails wsX9_fails) := goodIn_app (goodIn_of _ (by decide +kernel)) ggX9_store_X9_fails
set_option maxRecDepth 20000 in
theorem ggX9_store_X9_against : GoodIn wsX9_store wsX9_against := goodIn_r _ [22, 23, 24, 25, 26, 5, 27, 28, 29, 30, 31, 8, 9, 10, 92, 93, 94, 95, 96, 97, 98, 99, 100, 101, 102, 103] rfl (by decide +kernel)
set_option maxRecDepth 20000 in
theorem gX9_store_X9_against : GoodIn wsX9_store (wsV RX9 119 RX9 yX9_against wsX9_against) := goodIn_app (goodIn_of _ (by decide +kernel)) ggX9_store_X9_against
set_option maxRecDepth 20000 in
theorem ggX9_store_X9_cut : GoodIn wsX9_store wsX9_cut := goodIn_r _ [34, 35, 36, 5, 37, 38, 39, 40, 41, 42, 43, 44, 45, 46, 47, 48, 49, 50, 51, 52, 53, 54, 55, 56, 57, 58, 59, 60, 61, 62, 63, 64, 65, 66, 67, 68, 69, 70, 71, 72, 73, 74, 75, 76, 77, 78, 79, 80, 81, 82, 83, 84] rfl (by decide +kernel)
set_option maxRecDepth 20000 in
theorem gX9_store_X9_cut : GoodIn wsX9_store (va_wsS RX9 127 yX9_cut wsX9_cut) := goodIn_app (goodIn_of _ (by decide +kernel)) ggX9_store_X9_cut
set_option maxRecDepth 20000 in
theorem ggX9_store_X9_set : GoodIn wsX9_store wsX9_set := goodIn_r _ [88, 28, 89, 90, 91, 92, 93, 94, 95, 96, 97, 98, 99, 100, 101, 102, 103] rfl (by decide +kernel)
set_option maxRecDepth 20000 in
theorem gX9_store_X9_set : GoodIn wsX9_store (wsV RX9 131 RX9 yX9_set wsX9_set) := goodIn_app (goodIn_of _ (by decide +kernel)) ggX9_store_X9_set
theorem dX9_store_0 : decode cX9_store 0 = .ok (.aload_n 0, 1) := by decide +kernel
theorem dX9_store_1 : decode cX9_store 1 = .ok (.invokevirtual 76, 3) := by decide +kernel
theorem dX9_store_4 : decode cX9_store 4 = .ok (.iload_n 1, 1) := by decide +kernel
theorem dX9_store_5 : decode cX9_store 5 = .ok (.iconst 0, 1) := by decide +kernel
theorem dX9_store_6 : decode cX9_store 6 = .ok (.bipush 6, 2) := by decide +kernel
theorem dX9_store_8 : decode cX9_store 8 = .ok (.invokestatic 59, 3) := by decide +kernel
theorem dX9_store_11 : decode cX9_store 11 = .ok (.ifCond .eq 10, 3) := by decide +kernel
theorem dX9_store_14 : decode cX9_store 14 = .ok (.iload_n 2, 1) := by decide +kernel
theorem dX9_store_15 : decode cX9_store 15 = .ok (.invokestatic 79, 3) := by decide +kernel
theorem dX9_store_18 : decode cX9_store 18 = .ok (.ifCond .ne 10, 3) := by decide +kernel
theorem dX9_store_21 : decode cX9_store 21 = .ok (.aload_n 0, 1) := by decide +kernel
theorem dX9_store_22 : decode cX9_store 22 = .ok (.bipush 8, 2) := by decide +kernel
theorem dX9_store_24 : decode cX9_store 24 = .ok (.invokevirtual 83, 3) := by decide +kernel
theorem dX9_store_27 : decode cX9_store 27 = .ok (.ireturn, 1) := by decide +kernel
theorem dX9_store_28 : decode cX9_store 28 = .ok (.aload_n 0, 1) := by decide +kernel
theorem dX9_store_29 : decode cX9_store 29 = .ok (.iload_n 1, 1) := by decide +kernel
theorem dX9_store_30 : decode cX9_store 30 = .ok (.aload_n 0, 1) := by decide +kernel
theorem dX9_store_31 : decode cX9_store 31 = .ok (.getfield 28, 3) := by decide +kernel
theorem dX9_store_34 : decode cX9_store 34 = .ok (.iload_n 2, 1) := by decide +kernel
theorem dX9_store_35 : decode cX9_store 35 = .ok (.iaload, 1) := by decide +kernel
theorem dX9_store_36 : decode cX9_store 36 = .ok (.iload_n 3, 1) := by decide +kernel
theorem dX9_store_37 : decode cX9_store 37 = .ok (.invokevirtual 119, 3) := by decide +kernel
theorem dX9_store_40 : decode cX9_store 40 = .ok (.istore 6, 2) := by decide +kernel
theorem dX9_store_42 : decode cX9_store 42 = .ok (.iload 6, 2) := by decide +kernel
theorem dX9_store_44 : decode cX9_store 44 = .ok (.ifCond .le 10, 3) := by decide +kernel
theorem dX9_store_47 : decode cX9_store 47 = .ok (.aload_n 0, 1) := by decide +kernel
theorem dX9_store_48 : decode cX9_store 48 = .ok (.iload 6, 2) := by decide +kernel
theorem dX9_store_50 : decode cX9_store 50 = .ok (.invokevirtual 83, 3) := by decide +kernel
theorem dX9_store_53 : decode cX9_store 53 = .ok (.ireturn, 1) := by decide +kernel
theorem dX9_store_54 : decode cX9_store 54 = .ok (.aload_n 0, 1) := by decide +kernel
theorem dX9_store_55 : decode cX9_store 55 = .ok (.aload_n 0, 1) := by decide +kernel
theorem dX9_store_56 : decode cX9_store 56 = .ok (.getfield 28, 3) := by decide +kernel
theorem dX9_store_59 : decode cX9_store 59 = .ok (.iload_n 2, 1) := by decide +kernel
theorem dX9_store_60 : decode cX9_store 60 = .ok (.iaload, 1) := by decide +kernel
theorem dX9_store_61 : decode cX9_store 61 = .ok (.iload_n 3, 1) := by decide +kernel
theorem dX9_store_62 : decode cX9_store 62 = .ok (.iload_n 1, 1) := by decide +kernel
theorem dX9_store_63 : decode cX9_store 63 = .ok (.lload 4, 2) := by decide +kernel
theorem dX9_store_65 : decode cX9_store 65 = .ok (.invokestatic 127, 3) := by decide +kernel
theorem dX9_store_68 : decode cX9_store 68 = .ok (.invokevirtual 131, 3) := by decide +kernel
theorem dX9_store_71 : decode cX9_store 71 = .ok (.iconst 1, 1) := by decide +kernel
theorem dX9_store_72 : decode cX9_store 72 = .ok (.ireturn, 1) := by decide +kernel
set_option maxRecDepth 20000 in
theorem ggX9_isHolder_X9_in : GoodIn wsX9_isHolder wsX9_in := goodIn_r _ [4] rfl (by decide +kernel)
set_option maxRecDepth 20000 in
theorem gX9_isHolder_X9_in : GoodIn wsX9_isHolder (va_wsS RX9 59 yX9_in wsX9_in) := goodIn_app (goodIn_of _ (by decide +kernel)) ggX9_isHolder_X9_in
theorem dX9_isHolder_0 : decode cX9_isHolder 0 = .ok (.iload_n 0, 1) := by decide +kernel
theorem dX9_isHolder_1 : decode cX9_isHolder 1 = .ok (.bipush 7, 2) := by decide +kernel
theorem dX9_isHolder_3 : decode cX9_isHolder 3 = .ok (.bipush 9, 2) := by decide +kernel
theorem dX9_isHolder_5 : decode cX9_isHolder 5 = .ok (.invokestatic 59, 3) := by decide +kernel
theorem dX9_isHolder_8 : decode cX9_isHolder 8 = .ok (.ifCond .ne 9, 3) := by decide +kernel
theorem dX9_isHolder_11 : decode cX9_isHolder 11 = .ok (.iload_n 0, 1) := by decide +kernel
theorem dX9_isHolder_12 : decode cX9_isHolder 12 = .ok (.bipush 15, 2) := by decide +kernel
theorem dX9_isHolder_14 : decode cX9_isHolder 14 = .ok (.if_icmp .ne 7, 3) := by decide +kernel
theorem dX9_isHolder_17 : decode cX9_isHolder 17 = .ok (.iconst 1, 1) := by decide +kernel
theorem dX9_isHolder_18 : decode cX9_isHolder 18 = .ok (.goto 4, 3) := by decide +kernel
theorem dX9_isHolder_21 : decode cX9_isHolder 21 = .ok (.iconst 0, 1) := by decide +kernel
theorem dX9_isHolder_22 : decode cX9_isHolder 22 = .ok (.ireturn, 1) := by decide +kernel
set_option maxRecDepth 20000 in
theorem ggX9_take_X9_begin : GoodIn wsX9_take wsX9_begin := goodIn_r _ [8, 9, 37, 38, 39, 40, 41, 42, 43, 44, 45, 46, 47, 48] rfl (by decide +kernel)
set_option maxRecDepth 20000 in
theorem gX9_take_X9_begin : GoodIn wsX9_take (wsV RX9 76 RX9 yX9_begin wsX9_begin) := goodIn_app (goodIn_of _ (by decide +kernel)) ggX9_take_X9_begin
set_option maxRecDepth 20000 in
theorem ggX9_take_X9_isHolder : GoodIn wsX9_take wsX9_isHolder := goodIn_r _ [12, 13, 14, 7, 15] rfl (by decide +kernel)
set_option maxRecDepth 20000 in
theorem gX9_take_X9_isHolder : GoodIn wsX9_take (va_wsS RX9 135 yX9_isHolder wsX9_isHolder) := goodIn_app (goodIn_of _ (by decide +kernel)) ggX9_take_X9_isHolder
set_option maxRecDepth 20000 in
theorem ggX9_take_X9_isCell : GoodIn wsX9_take wsX9_isCell := goodIn_r _ [18, 13, 14, 7, 15] rfl (by decide +kernel)
set_option maxRecDepth 20000 in
theorem gX9_take_X9_isCell : GoodIn wsX9_take (va_wsS RX9 79 yX9_isCell wsX9_isCell) := goodIn_app (goodIn_of _ (by decide +kernel)) ggX9_take_X9_isCell
set_option maxRecDepth 20000 in
theorem ggX9_take_X9_fails : GoodIn wsX9_take wsX9_fails := goodIn_r _ [22, 9, 23, 37, 38, 39, 40, 41, 42, 43, 44, 45, 46, 47, 48] rfl (by decide +kernel)
set_option maxRecDepth 20000 in
theorem gX9_take_X9_fails : GoodIn wsX9_take (wsV RX9 83 RX9 yX9_fails wsX9_fails) := goodIn_app (goodIn_of _ (by decide +kernel)) ggX9_take_X9_fails
set_option maxRecDepth 20000 in
theorem ggX9_take_X9_against : GoodIn wsX9_take wsX9_against := goodIn_r _ [27, 28, 29, 30, 31, 7, 32, 33, 34, 35, 36, 13, 14, 15, 37, 38, 39, 40, 41, 42, 43, 44, 45, 46, 47, 48] rfl (by decide +kernel)
set_option maxRecDepth 20000 in
theorem gX9_take_X9_against : GoodIn wsX9_take (wsV RX9 119 RX9 yX9_against wsX9_against) := goodIn_app (goodIn_of _ (by decide +kernel)) ggX9_take_X9_against
theorem dX9_take_0 : decode cX9_take 0 = .ok (.aload_n 0, 1) := by decide +kernel
theorem dX9_take_1 : decode cX9_take 1 = .ok (.invokevirtual 76, 3) := by decide +kernel
theorem dX9_take_4 : decode cX9_take 4 = .ok (.iload_n 1, 1) := by decide +kernel
theorem dX9_take_5 : decode cX9_take 5 = .ok (.invokestatic 135, 3) := by decide +kernel
theorem dX9_take_8 : decode cX9_take 8 = .ok (.ifCond .eq 18, 3) := by decide +kernel
theorem dX9_take_11 : decode cX9_take 11 = .ok (.iload_n 2, 1) := by decide +kernel
theorem dX9_take_12 : decode cX9_take 12 = .ok (.invokestatic 79, 3) := by decide +kernel
theorem dX9_take_15 : decode cX9_take 15 = .ok (.ifCond .eq 11, 3) := by decide +kernel
theorem dX9_take_18 : decode cX9_take 18 = .ok (.iload 4, 2) := by decide +kernel
theorem dX9_take_20 : decode cX9_take 20 = .ok (.invokestatic 79, 3) := by decide +kernel
theorem dX9_take_23 : decode cX9_take 23 = .ok (.ifCond .ne 10, 3) := by decide +kernel
theorem dX9_take_26 : decode cX9_take 26 = .ok (.aload_n 0, 1) := by decide +kernel
theorem dX9_take_27 : decode cX9_take 27 = .ok (.bipush 8, 2) := by decide +kernel
theorem dX9_take_29 : decode cX9_take 29 = .ok (.invokevirtual 83, 3) := by decide +kernel
theorem dX9_take_32 : decode cX9_take 32 = .ok (.ireturn, 1) := by decide +kernel
theorem dX9_take_33 : decode cX9_take 33 = .ok (.aload_n 0, 1) := by decide +kernel
theorem dX9_take_34 : decode cX9_take 34 = .ok (.iload_n 1, 1) := by decide +kernel
theorem dX9_take_35 : decode cX9_take 35 = .ok (.aload_n 0, 1) := by decide +kernel
theorem dX9_take_36 : decode cX9_take 36 = .ok (.getfield 28, 3) := by decide +kernel
theorem dX9_take_39 : decode cX9_take 39 = .ok (.iload_n 2, 1) := by decide +kernel
theorem dX9_take_40 : decode cX9_take 40 = .ok (.iaload, 1) := by decide +kernel
theorem dX9_take_41 : decode cX9_take 41 = .ok (.iload_n 3, 1) := by decide +kernel
theorem dX9_take_42 : decode cX9_take 42 = .ok (.invokevirtual 119, 3) := by decide +kernel
theorem dX9_take_45 : decode cX9_take 45 = .ok (.istore 5, 2) := by decide +kernel
theorem dX9_take_47 : decode cX9_take 47 = .ok (.iload 5, 2) := by decide +kernel
theorem dX9_take_49 : decode cX9_take 49 = .ok (.ifCond .le 10, 3) := by decide +kernel
theorem dX9_take_52 : decode cX9_take 52 = .ok (.aload_n 0, 1) := by decide +kernel
theorem dX9_take_53 : decode cX9_take 53 = .ok (.iload 5, 2) := by decide +kernel
theorem dX9_take_55 : decode cX9_take 55 = .ok (.invokevirtual 83, 3) := by decide +kernel
theorem dX9_take_58 : decode cX9_take 58 = .ok (.ireturn, 1) := by decide +kernel
theorem dX9_take_59 : decode cX9_take 59 = .ok (.aload_n 0, 1) := by decide +kernel
theorem dX9_take_60 : decode cX9_take 60 = .ok (.getfield 28, 3) := by decide +kernel
theorem dX9_take_63 : decode cX9_take 63 = .ok (.iload 4, 2) := by decide +kernel
theorem dX9_take_65 : decode cX9_take 65 = .ok (.aload_n 0, 1) := by decide +kernel
theorem dX9_take_66 : decode cX9_take 66 = .ok (.getfield 24, 3) := by decide +kernel
theorem dX9_take_69 : decode cX9_take 69 = .ok (.aload_n 0, 1) := by decide +kernel
theorem dX9_take_70 : decode cX9_take 70 = .ok (.getfield 17, 3) := by decide +kernel
theorem dX9_take_73 : decode cX9_take 73 = .ok (.aload_n 0, 1) := by decide +kernel
theorem dX9_take_74 : decode cX9_take 74 = .ok (.getfield 28, 3) := by decide +kernel
theorem dX9_take_77 : decode cX9_take 77 = .ok (.iload_n 2, 1) := by decide +kernel
theorem dX9_take_78 : decode cX9_take 78 = .ok (.iaload, 1) := by decide +kernel
theorem dX9_take_79 : decode cX9_take 79 = .ok (.iaload, 1) := by decide +kernel
theorem dX9_take_80 : decode cX9_take 80 = .ok (.iload_n 3, 1) := by decide +kernel
theorem dX9_take_81 : decode cX9_take 81 = .ok (.iadd, 1) := by decide +kernel
theorem dX9_take_82 : decode cX9_take 82 = .ok (.laload, 1) := by decide +kernel
theorem dX9_take_83 : decode cX9_take 83 = .ok (.l2i, 1) := by decide +kernel
theorem dX9_take_84 : decode cX9_take 84 = .ok (.iastore, 1) := by decide +kernel
theorem dX9_take_85 : decode cX9_take 85 = .ok (.iconst 1, 1) := by decide +kernel
theorem dX9_take_86 : decode cX9_take 86 = .ok (.ireturn, 1) := by decide +kernel
theorem dX9_elementType_0 : decode cX9_elementType 0 = .ok (.iload_n 0, 1) := by decide +kernel
theorem dX9_elementType_1 : decode cX9_elementType 1 = .ok (.bipush 7, 2) := by decide +kernel
theorem dX9_elementType_3 : decode cX9_elementType 3 = .ok (.if_icmp .ne 7, 3) := by decide +kernel
theorem dX9_elementType_6 : decode cX9_elementType 6 = .ok (.iconst 0, 1) := by decide +kernel
theorem dX9_elementType_7 : decode cX9_elementType 7 = .ok (.goto 16, 3) := by decide +kernel
theorem dX9_elementType_10 : decode cX9_elementType 10 = .ok (.iload_n 0, 1) := by decide +kernel
theorem dX9_elementType_11 : decode cX9_elementType 11 = .ok (.bipush 8, 2) := by decide +kernel
theorem dX9_elementType_13 : decode cX9_elementType 13 = .ok (.if_icmp .ne 8, 3) := by decide +kernel
theorem dX9_elementType_16 : decode cX9_elementType 16 = .ok (.bipush 10, 2) := by decide +kernel
theorem dX9_elementType_18 : decode cX9_elementType 18 = .ok (.goto 5, 3) := by decide +kernel
theorem dX9_elementType_21 : decode cX9_elementType 21 = .ok (.bipush 11, 2) := by decide +kernel
theorem dX9_elementType_23 : decode cX9_elementType 23 = .ok (.ireturn, 1) := by decide +kernel
set_option maxRecDepth 20000 in
theorem ggX9_put_X9_begin : GoodIn wsX9_put wsX9_begin := goodIn_r _ [9, 10, 40, 41, 42, 43, 44, 45, 46, 47, 48, 49, 50, 51] rfl (by decide +kernel)
set_option maxRecDepth 20000 in
theorem gX9_put_X9_begin : GoodIn wsX9_put (wsV RX9 76 RX9 yX9_begin wsX9_begin) := goodIn_app (goodIn_of _ (by decide +kernel)) ggX9_put_X9_begin
set_option maxRecDepth 20000 in
theorem ggX9_put_X9_isHolder : GoodIn wsX9_put wsX9_isHolder := goodIn_r _ [13, 14, 15, 8, 16] rfl (by decide +kernel)
set_option maxRecDepth 20000 in
theorem gX9_put_X9_isHolder : GoodIn wsX9_put (va_wsS RX9 135 yX9_isHolder wsX9_isHolder) := goodIn_app (goodIn_of _ (by decide +kernel)) ggX9_put_X9_isHolder
set_option maxRecDepth 20000 in
theorem ggX9_put_X9_isCell : GoodIn wsX9_put wsX9_isCell := goodIn_r _ [19, 14, 15, 8, 16] rfl (by decide +kernel)
set_option maxRecDepth 20000 in
theorem gX9_put_X9_isCell : GoodIn wsX9_put (va_wsS RX9 79 yX9_isCell wsX9_isCell) := goodIn_app (goodIn_of _ (by decide +kernel)) ggX9_put_X9_isCell
set_option maxRecDepth 20000 in
theorem ggX9_put_X9_fails : GoodIn wsX9_put wsX9_fails := goodIn_r _ [23, 10, 24, 40, 41, 42, 43, 44, 45, 46, 47, 48, 49, 50, 51] rfl (by decide +kernel)
set_option maxRecDepth 20000 in
theorem gX9_put_X9_fails : GoodIn wsX9_put (wsV RX9 83 RX9 yX9_fails wsX9_fails) := goodIn_app (goodIn_of _ (by decide +kernel)) ggX9_put_X9_fails
set_option maxRecDepth 20000 in
theorem ggX9_put_X9_passes : GoodIn wsX9_put wsX9_passes := goodIn_r _ [28, 2, 29, 30, 8, 31, 40, 41, 42, 43, 44, 45, 46, 47, 48, 49, 50, 51] rfl (by decide +kernel)
set_option maxRecDepth 20000 in
theorem gX9_put_X9_passes : GoodIn wsX9_put (wsV RX9 91 RX9 yX9_passes wsX9_passes) := goodIn_app (goodIn_of _ (by decide +kernel)) ggX9_put_X9_passes
set_option maxRecDepth 20000 in
theorem ggX9_put_X9_elementType : GoodIn wsX9_put wsX9_elementType := goodIn_r _ [34] rfl (by decide +kernel)
set_option maxRecDepth 20000 in
theorem gX9_put_X9_elementType : GoodIn wsX9_put (va_wsS RX9 138 yX9_elementType wsX9_elementType) := goodIn_app (goodIn_of _ (by decide +kernel)) ggX9_put_X9_elementType
set_option maxRecDepth 20000 in
theorem ggX9_put_X9_against : GoodIn wsX9_put wsX9_against := goodIn_r _ [38, 39, 25, 26, 27, 8, 28, 2, 29, 30, 31, 14, 15, 16, 40, 41, 42, 43, 44, 45, 46, 47, 48, 49, 50, 51] rfl (by decide +kernel)
set_option maxRecDepth 20000 in
theorem gX9_put_X9_against : GoodIn wsX9_put (wsV RX9 119 RX9 yX9_against wsX9_against) := goodIn_app (goodIn_of _ (by decide +kernel)) ggX9_put_X9_against
theorem dX9_put_0 : decode cX9_put 0 = .ok (.aload_n 0, 1) := by decide +kernel
theorem dX9_put_1 : decode cX9_put 1 = .ok (.invokevirtual 76, 3) := by decide +kernel
theorem dX9_put_4 : decode cX9_put 4 = .ok (.iload_n 1, 1) := by decide +kernel
theorem dX9_put_5 : decode cX9_put 5 = .ok (.invokestatic 135, 3) := by decide +kernel
theorem dX9_put_8 : decode cX9_put 8 = .ok (.ifCond .eq 18, 3) := by decide +kernel
theorem dX9_put_11 : decode cX9_put 11 = .ok (.iload_n 2, 1) := by decide +kernel
theorem dX9_put_12 : decode cX9_put 12 = .ok (.invokestatic 79, 3) := by decide +kernel
theorem dX9_put_15 : decode cX9_put 15 = .ok (.ifCond .eq 11, 3) := by decide +kernel
theorem dX9_put_18 : decode cX9_put 18 = .ok (.iload 4, 2) := by decide +kernel
theorem dX9_put_20 : decode cX9_put 20 = .ok (.invokestatic 79, 3) := by decide +kernel
theorem dX9_put_23 : decode cX9_put 23 = .ok (.ifCond .ne 10, 3) := by decide +kernel
theorem dX9_put_26 : decode cX9_put 26 = .ok (.aload_n 0, 1) := by decide +kernel
theorem dX9_put_27 : decode cX9_put 27 = .ok (.bipush 8, 2) := by decide +kernel
theorem dX9_put_29 : decode cX9_put 29 = .ok (.invokevirtual 83, 3) := by decide +kernel
theorem dX9_put_32 : decode cX9_put 32 = .ok (.ireturn, 1) := by decide +kernel
theorem dX9_put_33 : decode cX9_put 33 = .ok (.aload_n 0, 1) := by decide +kernel
theorem dX9_put_34 : decode cX9_put 34 = .ok (.getfield 28, 3) := by decide +kernel
theorem dX9_put_37 : decode cX9_put 37 = .ok (.iload_n 2, 1) := by decide +kernel
theorem dX9_put_38 : decode cX9_put 38 = .ok (.iaload, 1) := by decide +kernel
theorem dX9_put_39 : decode cX9_put 39 = .ok (.istore 5, 2) := by decide +kernel
theorem dX9_put_41 : decode cX9_put 41 = .ok (.aload_n 0, 1) := by decide +kernel
theorem dX9_put_42 : decode cX9_put 42 = .ok (.getfield 28, 3) := by decide +kernel
theorem dX9_put_45 : decode cX9_put 45 = .ok (.iload 4, 2) := by decide +kernel
theorem dX9_put_47 : decode cX9_put 47 = .ok (.iaload, 1) := by decide +kernel
theorem dX9_put_48 : decode cX9_put 48 = .ok (.istore 6, 2) := by decide +kernel
theorem dX9_put_50 : decode cX9_put 50 = .ok (.aload_n 0, 1) := by decide +kernel
theorem dX9_put_51 : decode cX9_put 51 = .ok (.iload 5, 2) := by decide +kernel
theorem dX9_put_53 : decode cX9_put 53 = .ok (.iload_n 1, 1) := by decide +kernel
theorem dX9_put_54 : decode cX9_put 54 = .ok (.invokevirtual 91, 3) := by decide +kernel
theorem dX9_put_57 : decode cX9_put 57 = .ok (.ifCond .eq 27, 3) := by decide +kernel
theorem dX9_put_60 : decode cX9_put 60 = .ok (.aload_n 0, 1) := by decide +kernel
theorem dX9_put_61 : decode cX9_put 61 = .ok (.iload 6, 2) := by decide +kernel
theorem dX9_put_63 : decode cX9_put 63 = .ok (.iload_n 1, 1) := by decide +kernel
theorem dX9_put_64 : decode cX9_put 64 = .ok (.bipush 15, 2) := by decide +kernel
theorem dX9_put_66 : decode cX9_put 66 = .ok (.if_icmp .ne 8, 3) := by decide +kernel
theorem dX9_put_69 : decode cX9_put 69 = .ok (.bipush 13, 2) := by decide +kernel
theorem dX9_put_71 : decode cX9_put 71 = .ok (.goto 7, 3) := by decide +kernel
theorem dX9_put_74 : decode cX9_put 74 = .ok (.iload_n 1, 1) := by decide +kernel
theorem dX9_put_75 : decode cX9_put 75 = .ok (.invokestatic 138, 3) := by decide +kernel
theorem dX9_put_78 : decode cX9_put 78 = .ok (.invokevirtual 91, 3) := by decide +kernel
theorem dX9_put_81 : decode cX9_put 81 = .ok (.ifCond .ne 9, 3) := by decide +kernel
theorem dX9_put_84 : decode cX9_put 84 = .ok (.aload_n 0, 1) := by decide +kernel
theorem dX9_put_85 : decode cX9_put 85 = .ok (.iconst 4, 1) := by decide +kernel
theorem dX9_put_86 : decode cX9_put 86 = .ok (.invokevirtual 83, 3) := by decide +kernel
theorem dX9_put_89 : decode cX9_put 89 = .ok (.ireturn, 1) := by decide +kernel
theorem dX9_put_90 : decode cX9_put 90 = .ok (.aload_n 0, 1) := by decide +kernel
theorem dX9_put_91 : decode cX9_put 91 = .ok (.iload_n 1, 1) := by decide +kernel
theorem dX9_put_92 : decode cX9_put 92 = .ok (.iload 5, 2) := by decide +kernel
theorem dX9_put_94 : decode cX9_put 94 = .ok (.iload_n 3, 1) := by decide +kernel
theorem dX9_put_95 : decode cX9_put 95 = .ok (.invokevirtual 119, 3) := by decide +kernel
theorem dX9_put_98 : decode cX9_put 98 = .ok (.istore 7, 2) := by decide +kernel
theorem dX9_put_100 : decode cX9_put 100 = .ok (.iload 7, 2) := by decide +kernel
theorem dX9_put_102 : decode cX9_put 102 = .ok (.ifCond .le 10, 3) := by decide +kernel
theorem dX9_put_105 : decode cX9_put 105 = .ok (.aload_n 0, 1) := by decide +kernel
theorem dX9_put_106 : decode cX9_put 106 = .ok (.iload 7, 2) := by decide +kernel
theorem dX9_put_108 : decode cX9_put 108 = .ok (.invokevirtual 83, 3) := by decide +kernel
theorem dX9_put_111 : decode cX9_put 111 = .ok (.ireturn, 1) := by decide +kernel
theorem dX9_put_112 : decode cX9_put 112 = .ok (.aload_n 0, 1) := by decide +kernel
theorem dX9_put_113 : decode cX9_put 113 = .ok (.iload 6, 2) := by decide +kernel
theorem dX9_put_115 : decode cX9_put 115 = .ok (.aload_n 0, 1) := by decide +kernel
theorem dX9_put_116 : decode cX9_put 116 = .ok (.getfield 8, 3) := by decide +kernel
theorem dX9_put_119 : decode cX9_put 119 = .ok (.iload 5, 2) := by decide +kernel
theorem dX9_put_121 : decode cX9_put 121 = .ok (.iaload, 1) := by decide +kernel
theorem dX9_put_122 : decode cX9_put 122 = .ok (.invokestatic 138, 3) := by decide +kernel
theorem dX9_put_125 : decode cX9_put 125 = .ok (.invokevirtual 91, 3) := by decide +kernel
theorem dX9_put_128 : decode cX9_put 128 = .ok (.ifCond .ne 9, 3) := by decide +kernel
theorem dX9_put_131 : decode cX9_put 131 = .ok (.aload_n 0, 1) := by decide +kernel
theorem dX9_put_132 : decode cX9_put 132 = .ok (.iconst 5, 1) := by decide +kernel
theorem dX9_put_133 : decode cX9_put 133 = .ok (.invokevirtual 83, 3) := by decide +kernel
theorem dX9_put_136 : decode cX9_put 136 = .ok (.ireturn, 1) := by decide +kernel
theorem dX9_put_137 : decode cX9_put 137 = .ok (.aload_n 0, 1) := by decide +kernel
theorem dX9_put_138 : decode cX9_put 138 = .ok (.getfield 24, 3) := by decide +kernel
theorem dX9_put_141 : decode cX9_put 141 = .ok (.aload_n 0, 1) := by decide +kernel
theorem dX9_put_142 : decode cX9_put 142 = .ok (.getfield 17, 3) := by decide +kernel
theorem dX9_put_145 : decode cX9_put 145 = .ok (.iload 5, 2) := by decide +kernel
theorem dX9_put_147 : decode cX9_put 147 = .ok (.iaload, 1) := by decide +kernel
theorem dX9_put_148 : decode cX9_put 148 = .ok (.iload_n 3, 1) := by decide +kernel
theorem dX9_put_149 : decode cX9_put 149 = .ok (.iadd, 1) := by decide +kernel
theorem dX9_put_150 : decode cX9_put 150 = .ok (.iload 6, 2) := by decide +kernel
theorem dX9_put_152 : decode cX9_put 152 = .ok (.i2l, 1) := by decide +kernel
theorem dX9_put_153 : decode cX9_put 153 = .ok (.lastore, 1) := by decide +kernel
theorem dX9_put_154 : decode cX9_put 154 = .ok (.iconst 1, 1) := by decide +kernel
theorem dX9_put_155 : decode cX9_put 155 = .ok (.ireturn, 1) := by decide +kernel
set_option maxRecDepth 20000 in
theorem ggX9_cross_X9_begin : GoodIn wsX9_cross wsX9_begin := goodIn_r _ [9, 10, 35, 36, 37, 38, 39, 40, 41, 42, 43, 44, 45, 46] rfl (by decide +kernel)
set_option maxRecDepth 20000 in
theorem gX9_cross_X9_begin : GoodIn wsX9_cross (wsV RX9 76 RX9 yX9_begin wsX9_begin) := goodIn_app (goodIn_of _ (by decide +kernel)) ggX9_cross_X9_begin
set_option maxRecDepth 20000 in
theorem ggX9_cross_X9_isCell : GoodIn wsX9_cross wsX9_isCell := goodIn_r _ [13, 14, 15, 8, 16] rfl (by decide +kernel)
set_option maxRecDepth 20000 in
theorem gX9_cross_X9_isCell : GoodIn wsX9_cross (va_wsS RX9 79 yX9_isCell wsX9_isCell) := goodIn_app (goodIn_of _ (by decide +kernel)) ggX9_cross_X9_isCell
set_option maxRecDepth 20000 in
theorem ggX9_cross_X9_fails : GoodIn wsX9_cross wsX9_fails := goodIn_r _ [20, 10, 21, 35, 36, 37, 38, 39, 40, 41, 42, 43, 44, 45, 46] rfl (by decide +kernel)
set_option maxRecDepth 20000 in
theorem gX9_cross_X9_fails : GoodIn wsX9_cross (wsV RX9 83 RX9 yX9_fails wsX9_fails) := goodIn_app (goodIn_of _ (by decide +kernel)) ggX9_cross_X9_fails
set_option maxRecDepth 20000 in
theorem ggX9_cross_X9_against : GoodIn wsX9_cross wsX9_against := goodIn_r _ [25, 26, 27, 28, 29, 8, 30, 31, 32, 33, 34, 14, 15, 16, 35, 36, 37, 38, 39, 40, 41, 42, 43, 44, 45, 46] rfl (by decide +kernel)
set_option maxRecDepth 20000 in
theorem gX9_cross_X9_against : GoodIn wsX9_cross (wsV RX9 119 RX9 yX9_against wsX9_against) := goodIn_app (goodIn_of _ (by decide +kernel)) ggX9_cross_X9_against
theorem dX9_cross_0 : decode cX9_cross 0 = .ok (.aload_n 0, 1) := by decide +kernel
theorem dX9_cross_1 : decode cX9_cross 1 = .ok (.invokevirtual 76, 3) := by decide +kernel
theorem dX9_cross_4 : decode cX9_cross 4 = .ok (.iload_n 1, 1) := by decide +kernel
theorem dX9_cross_5 : decode cX9_cross 5 = .ok (.invokestatic 79, 3) := by decide +kernel
theorem dX9_cross_8 : decode cX9_cross 8 = .ok (.ifCond .ne 10, 3) := by decide +kernel
theorem dX9_cross_11 : decode cX9_cross 11 = .ok (.aload_n 0, 1) := by decide +kernel
theorem dX9_cross_12 : decode cX9_cross 12 = .ok (.bipush 8, 2) := by decide +kernel
theorem dX9_cross_14 : decode cX9_cross 14 = .ok (.invokevirtual 83, 3) := by decide +kernel
theorem dX9_cross_17 : decode cX9_cross 17 = .ok (.ireturn, 1) := by decide +kernel
theorem dX9_cross_18 : decode cX9_cross 18 = .ok (.aload_n 0, 1) := by decide +kernel
theorem dX9_cross_19 : decode cX9_cross 19 = .ok (.bipush 7, 2) := by decide +kernel
theorem dX9_cross_21 : decode cX9_cross 21 = .ok (.aload_n 0, 1) := by decide +kernel
theorem dX9_cross_22 : decode cX9_cross 22 = .ok (.getfield 28, 3) := by decide +kernel
theorem dX9_cross_25 : decode cX9_cross 25 = .ok (.iload_n 1, 1) := by decide +kernel
theorem dX9_cross_26 : decode cX9_cross 26 = .ok (.iaload, 1) := by decide +kernel
theorem dX9_cross_27 : decode cX9_cross 27 = .ok (.iload_n 2, 1) := by decide +kernel
theorem dX9_cross_28 : decode cX9_cross 28 = .ok (.invokevirtual 119, 3) := by decide +kernel
theorem dX9_cross_31 : decode cX9_cross 31 = .ok (.istore 4, 2) := by decide +kernel
theorem dX9_cross_33 : decode cX9_cross 33 = .ok (.iload 4, 2) := by decide +kernel
theorem dX9_cross_35 : decode cX9_cross 35 = .ok (.ifCond .le 10, 3) := by decide +kernel
theorem dX9_cross_38 : decode cX9_cross 38 = .ok (.aload_n 0, 1) := by decide +kernel
theorem dX9_cross_39 : decode cX9_cross 39 = .ok (.iload 4, 2) := by decide +kernel
theorem dX9_cross_41 : decode cX9_cross 41 = .ok (.invokevirtual 83, 3) := by decide +kernel
theorem dX9_cross_44 : decode cX9_cross 44 = .ok (.ireturn, 1) := by decide +kernel
theorem dX9_cross_45 : decode cX9_cross 45 = .ok (.aload_n 0, 1) := by decide +kernel
theorem dX9_cross_46 : decode cX9_cross 46 = .ok (.getfield 24, 3) := by decide +kernel
theorem dX9_cross_49 : decode cX9_cross 49 = .ok (.aload_n 0, 1) := by decide +kernel
theorem dX9_cross_50 : decode cX9_cross 50 = .ok (.getfield 17, 3) := by decide +kernel
theorem dX9_cross_53 : decode cX9_cross 53 = .ok (.aload_n 0, 1) := by decide +kernel
theorem dX9_cross_54 : decode cX9_cross 54 = .ok (.getfield 28, 3) := by decide +kernel
theorem dX9_cross_57 : decode cX9_cross 57 = .ok (.iload_n 1, 1) := by decide +kernel
theorem dX9_cross_58 : decode cX9_cross 58 = .ok (.iaload, 1) := by decide +kernel
theorem dX9_cross_59 : decode cX9_cross 59 = .ok (.iaload, 1) := by decide +kernel
theorem dX9_cross_60 : decode cX9_cross 60 = .ok (.iload_n 2, 1) := by decide +kernel
theorem dX9_cross_61 : decode cX9_cross 61 = .ok (.iadd, 1) := by decide +kernel
theorem dX9_cross_62 : decode cX9_cross 62 = .ok (.laload, 1) := by decide +kernel
theorem dX9_cross_63 : decode cX9_cross 63 = .ok (.l2i, 1) := by decide +kernel
theorem dX9_cross_64 : decode cX9_cross 64 = .ok (.istore 5, 2) := by decide +kernel
theorem dX9_cross_66 : decode cX9_cross 66 = .ok (.aload_n 0, 1) := by decide +kernel
theorem dX9_cross_67 : decode cX9_cross 67 = .ok (.iconst 0, 1) := by decide +kernel
theorem dX9_cross_68 : decode cX9_cross 68 = .ok (.iload 5, 2) := by decide +kernel
theorem dX9_cross_70 : decode cX9_cross 70 = .ok (.iload_n 3, 1) := by decide +kernel
theorem dX9_cross_71 : decode cX9_cross 71 = .ok (.invokevirtual 119, 3) := by decide +kernel
theorem dX9_cross_74 : decode cX9_cross 74 = .ok (.istore 4, 2) := by decide +kernel
theorem dX9_cross_76 : decode cX9_cross 76 = .ok (.iload 4, 2) := by decide +kernel
theorem dX9_cross_78 : decode cX9_cross 78 = .ok (.ifCond .le 12, 3) := by decide +kernel
theorem dX9_cross_81 : decode cX9_cross 81 = .ok (.aload_n 0, 1) := by decide +kernel
theorem dX9_cross_82 : decode cX9_cross 82 = .ok (.iload 4, 2) := by decide +kernel
theorem dX9_cross_84 : decode cX9_cross 84 = .ok (.invokevirtual 83, 3) := by decide +kernel
theorem dX9_cross_87 : decode cX9_cross 87 = .ok (.goto 17, 3) := by decide +kernel
theorem dX9_cross_90 : decode cX9_cross 90 = .ok (.aload_n 0, 1) := by decide +kernel
theorem dX9_cross_91 : decode cX9_cross 91 = .ok (.getfield 21, 3) := by decide +kernel
theorem dX9_cross_94 : decode cX9_cross 94 = .ok (.aload_n 0, 1) := by decide +kernel
theorem dX9_cross_95 : decode cX9_cross 95 = .ok (.getfield 17, 3) := by decide +kernel
theorem dX9_cross_98 : decode cX9_cross 98 = .ok (.iload 5, 2) := by decide +kernel
theorem dX9_cross_100 : decode cX9_cross 100 = .ok (.iaload, 1) := by decide +kernel
theorem dX9_cross_101 : decode cX9_cross 101 = .ok (.iload_n 3, 1) := by decide +kernel
theorem dX9_cross_102 : decode cX9_cross 102 = .ok (.iadd, 1) := by decide +kernel
theorem dX9_cross_103 : decode cX9_cross 103 = .ok (.iaload, 1) := by decide +kernel
theorem dX9_cross_104 : decode cX9_cross 104 = .ok (.ireturn, 1) := by decide +kernel
set_option maxRecDepth 20000 in
theorem ggX9_isFamily_X9_in : GoodIn wsX9_isFamily wsX9_in := goodIn_r _ [4] rfl (by decide +kernel)
set_option maxRecDepth 20000 in
theorem gX9_isFamily_X9_in : GoodIn wsX9_isFamily (va_wsS RX9 59 yX9_in wsX9_in) := goodIn_app (goodIn_of _ (by decide +kernel)) ggX9_isFamily_X9_in
theorem dX9_isFamily_0 : decode cX9_isFamily 0 = .ok (.iload_n 0, 1) := by decide +kernel
theorem dX9_isFamily_1 : decode cX9_isFamily 1 = .ok (.bipush 7, 2) := by decide +kernel
theorem dX9_isFamily_3 : decode cX9_isFamily 3 = .ok (.bipush 9, 2) := by decide +kernel
theorem dX9_isFamily_5 : decode cX9_isFamily 5 = .ok (.invokestatic 59, 3) := by decide +kernel
theorem dX9_isFamily_8 : decode cX9_isFamily 8 = .ok (.ireturn, 1) := by decide +kernel
theorem dX9_isBeyond_0 : decode cX9_isBeyond 0 = .ok (.iload_n 2, 1) := by decide +kernel
theorem dX9_isBeyond_1 : decode cX9_isBeyond 1 = .ok (.ifCond .lt 23, 3) := by decide +kernel
theorem dX9_isBeyond_4 : decode cX9_isBeyond 4 = .ok (.iload_n 3, 1) := by decide +kernel
theorem dX9_isBeyond_5 : decode cX9_isBeyond 5 = .ok (.ifCond .lt 19, 3) := by decide +kernel
theorem dX9_isBeyond_8 : decode cX9_isBeyond 8 = .ok (.iload_n 2, 1) := by decide +kernel
theorem dX9_isBeyond_9 : decode cX9_isBeyond 9 = .ok (.i2l, 1) := by decide +kernel
theorem dX9_isBeyond_10 : decode cX9_isBeyond 10 = .ok (.iload_n 3, 1) := by decide +kernel
theorem dX9_isBeyond_11 : decode cX9_isBeyond 11 = .ok (.i2l, 1) := by decide +kernel
theorem dX9_isBeyond_12 : decode cX9_isBeyond 12 = .ok (.ladd, 1) := by decide +kernel
theorem dX9_isBeyond_13 : decode cX9_isBeyond 13 = .ok (.aload_n 0, 1) := by decide +kernel
theorem dX9_isBeyond_14 : decode cX9_isBeyond 14 = .ok (.getfield 14, 3) := by decide +kernel
theorem dX9_isBeyond_17 : decode cX9_isBeyond 17 = .ok (.iload_n 1, 1) := by decide +kernel
theorem dX9_isBeyond_18 : decode cX9_isBeyond 18 = .ok (.iaload, 1) := by decide +kernel
theorem dX9_isBeyond_19 : decode cX9_isBeyond 19 = .ok (.i2l, 1) := by decide +kernel
theorem dX9_isBeyond_20 : decode cX9_isBeyond 20 = .ok (.lcmp, 1) := by decide +kernel
theorem dX9_isBeyond_21 : decode cX9_isBeyond 21 = .ok (.ifCond .le 7, 3) := by decide +kernel
theorem dX9_isBeyond_24 : decode cX9_isBeyond 24 = .ok (.iconst 1, 1) := by decide +kernel
theorem dX9_isBeyond_25 : decode cX9_isBeyond 25 = .ok (.goto 4, 3) := by decide +kernel
theorem dX9_isBeyond_28 : decode cX9_isBeyond 28 = .ok (.iconst 0, 1) := by decide +kernel
theorem dX9_isBeyond_29 : decode cX9_isBeyond 29 = .ok (.ireturn, 1) := by decide +kernel
set_option maxRecDepth 20000 in
theorem ggX9_copy_X9_begin : GoodIn wsX9_copy wsX9_begin := goodIn_r _ [7, 8, 49, 50, 51, 52, 53, 54, 55, 56, 57, 58, 59, 60] rfl (by decide +kernel)
set_option maxRecDepth 20000 in
theorem gX9_copy_X9_begin : GoodIn wsX9_copy (wsV RX9 76 RX9 yX9_begin wsX9_begin) := goodIn_app (goodIn_of _ (by decide +kernel)) ggX9_copy_X9_begin
set_option maxRecDepth 20000 in
theorem ggX9_copy_X9_isCell : GoodIn wsX9_copy wsX9_isCell := goodIn_r _ [11, 12, 13, 6, 14] rfl (by decide +kernel)
set_option maxRecDepth 20000 in
theorem gX9_copy_X9_isCell : GoodIn wsX9_copy (va_wsS RX9 79 yX9_isCell wsX9_isCell) := goodIn_app (goodIn_of _ (by decide +kernel)) ggX9_copy_X9_isCell
set_option maxRecDepth 20000 in
theorem ggX9_copy_X9_fails : GoodIn wsX9_copy wsX9_fails := goodIn_r _ [18, 8, 19, 49, 50, 51, 52, 53, 54, 55, 56, 57, 58, 59, 60] rfl (by decide +kernel)
set_option maxRecDepth 20000 in
theorem gX9_copy_X9_fails : GoodIn wsX9_copy (wsV RX9 83 RX9 yX9_fails wsX9_fails) := goodIn_app (goodIn_of _ (by decide +kernel)) ggX9_copy_X9_fails
set_option maxRecDepth 20000 in
theorem ggX9_copy_X9_isFamily : GoodIn wsX9_copy wsX9_isFamily := goodIn_r _ [22, 12, 13, 6, 14] rfl (by decide +kernel)
set_option maxRecDepth 20000 in
theorem gX9_copy_X9_isFamily : GoodIn wsX9_copy (va_wsS RX9 141 yX9_isFamily wsX9_isFamily) := goodIn_app (goodIn_of _ (by decide +kernel)) ggX9_copy_X9_isFamily
set_option maxRecDepth 20000 in
theorem ggX9_copy_X9_isBeyond : GoodIn wsX9_copy wsX9_isBeyond := goodIn_r _ [26, 27, 49, 50, 51, 52, 53, 54, 55, 56, 57, 58, 59, 60] rfl (by decide +kernel)
set_option maxRecDepth 20000 in
theorem gX9_copy_X9_isBeyond : GoodIn wsX9_copy (wsV RX9 144 RX9 yX9_isBeyond wsX9_isBeyond) := goodIn_app (goodIn_of _ (by decide +kernel)) ggX9_copy_X9_isBeyond
set_option maxRecDepth 20000 in
theorem ggX9_copy_X9_element : GoodIn wsX9_copy wsX9_element := goodIn_r _ [31, 2, 32, 33, 34, 49, 50, 51, 52, 53, 54, 55, 56, 57, 58, 59, 60] rfl (by decide +kernel)
set_option maxRecDepth 20000 in
theorem gX9_copy_X9_element : GoodIn wsX9_copy (wsV RX9 123 RX9 yX9_element wsX9_element) := goodIn_app (goodIn_of _ (by decide +kernel)) ggX9_copy_X9_element
set_option maxRecDepth 20000 in
theorem ggX9_copy_X9_set : GoodIn wsX9_copy wsX9_set := goodIn_r _ [38, 2, 32, 33, 34, 49, 50, 51, 52, 53, 54, 55, 56, 57, 58, 59, 60] rfl (by decide +kernel)
set_option maxRecDepth 20000 in
theorem gX9_copy_X9_set : GoodIn wsX9_copy (wsV RX9 131 RX9 yX9_set wsX9_set) := goodIn_app (goodIn_of _ (by decide +kernel)) ggX9_copy_X9_set
set_option maxRecDepth 20000 in
theorem ggX9_copy_X9_elementType : GoodIn wsX9_copy wsX9_elementType := goodIn_r _ [41] rfl (by decide +kernel)
set_option maxRecDepth 20000 in
theorem gX9_copy_X9_elementType : GoodIn wsX9_copy (va_wsS RX9 138 yX9_elementType wsX9_elementType) := goodIn_app (goodIn_of _ (by decide +kernel)) ggX9_copy_X9_elementType
set_option maxRecDepth 20000 in
theorem ggX9_copy_X9_passes : GoodIn wsX9_copy wsX9_passes := goodIn_r _ [45, 2, 46, 47, 6, 48, 49, 50, 51, 52, 53, 54, 55, 56, 57, 58, 59, 60] rfl (by decide +kernel)
set_option maxRecDepth 20000 in
theorem gX9_copy_X9_passes : GoodIn wsX9_copy (wsV RX9 91 RX9 yX9_passes wsX9_passes) := goodIn_app (goodIn_of _ (by decide +kernel)) ggX9_copy_X9_passes
theorem dX9_copy_0 : decode cX9_copy 0 = .ok (.aload_n 0, 1) := by decide +kernel
theorem dX9_copy_1 : decode cX9_copy 1 = .ok (.invokevirtual 76, 3) := by decide +kernel
theorem dX9_copy_4 : decode cX9_copy 4 = .ok (.iload_n 1, 1) := by decide +kernel
theorem dX9_copy_5 : decode cX9_copy 5 = .ok (.invokestatic 79, 3) := by decide +kernel
theorem dX9_copy_8 : decode cX9_copy 8 = .ok (.ifCond .eq 10, 3) := by decide +kernel
theorem dX9_copy_11 : decode cX9_copy 11 = .ok (.iload_n 3, 1) := by decide +kernel
theorem dX9_copy_12 : decode cX9_copy 12 = .ok (.invokestatic 79, 3) := by decide +kernel
theorem dX9_copy_15 : decode cX9_copy 15 = .ok (.ifCond .ne 10, 3) := by decide +kernel
theorem dX9_copy_18 : decode cX9_copy 18 = .ok (.aload_n 0, 1) := by decide +kernel
theorem dX9_copy_19 : decode cX9_copy 19 = .ok (.bipush 8, 2) := by decide +kernel
theorem dX9_copy_21 : decode cX9_copy 21 = .ok (.invokevirtual 83, 3) := by decide +kernel
theorem dX9_copy_24 : decode cX9_copy 24 = .ok (.ireturn, 1) := by decide +kernel
theorem dX9_copy_25 : decode cX9_copy 25 = .ok (.aload_n 0, 1) := by decide +kernel
theorem dX9_copy_26 : decode cX9_copy 26 = .ok (.getfield 28, 3) := by decide +kernel
theorem dX9_copy_29 : decode cX9_copy 29 = .ok (.iload_n 1, 1) := by decide +kernel
theorem dX9_copy_30 : decode cX9_copy 30 = .ok (.iaload, 1) := by decide +kernel
theorem dX9_copy_31 : decode cX9_copy 31 = .ok (.istore 6, 2) := by decide +kernel
theorem dX9_copy_33 : decode cX9_copy 33 = .ok (.aload_n 0, 1) := by decide +kernel
theorem dX9_copy_34 : decode cX9_copy 34 = .ok (.getfield 28, 3) := by decide +kernel
theorem dX9_copy_37 : decode cX9_copy 37 = .ok (.iload_n 3, 1) := by decide +kernel
theorem dX9_copy_38 : decode cX9_copy 38 = .ok (.iaload, 1) := by decide +kernel
theorem dX9_copy_39 : decode cX9_copy 39 = .ok (.istore 7, 2) := by decide +kernel
theorem dX9_copy_41 : decode cX9_copy 41 = .ok (.iload 6, 2) := by decide +kernel
theorem dX9_copy_43 : decode cX9_copy 43 = .ok (.ifCond .eq 8, 3) := by decide +kernel
theorem dX9_copy_46 : decode cX9_copy 46 = .ok (.iload 7, 2) := by decide +kernel
theorem dX9_copy_48 : decode cX9_copy 48 = .ok (.ifCond .ne 9, 3) := by decide +kernel
theorem dX9_copy_51 : decode cX9_copy 51 = .ok (.aload_n 0, 1) := by decide +kernel
theorem dX9_copy_52 : decode cX9_copy 52 = .ok (.iconst 1, 1) := by decide +kernel
theorem dX9_copy_53 : decode cX9_copy 53 = .ok (.invokevirtual 83, 3) := by decide +kernel
theorem dX9_copy_56 : decode cX9_copy 56 = .ok (.ireturn, 1) := by decide +kernel
theorem dX9_copy_57 : decode cX9_copy 57 = .ok (.aload_n 0, 1) := by decide +kernel
theorem dX9_copy_58 : decode cX9_copy 58 = .ok (.getfield 8, 3) := by decide +kernel
theorem dX9_copy_61 : decode cX9_copy 61 = .ok (.iload 6, 2) := by decide +kernel
theorem dX9_copy_63 : decode cX9_copy 63 = .ok (.iaload, 1) := by decide +kernel
theorem dX9_copy_64 : decode cX9_copy 64 = .ok (.bipush 9, 2) := by decide +kernel
theorem dX9_copy_66 : decode cX9_copy 66 = .ok (.if_icmp .gt 58, 3) := by decide +kernel
theorem dX9_copy_69 : decode cX9_copy 69 = .ok (.aload_n 0, 1) := by decide +kernel
theorem dX9_copy_70 : decode cX9_copy 70 = .ok (.getfield 8, 3) := by decide +kernel
theorem dX9_copy_73 : decode cX9_copy 73 = .ok (.iload 7, 2) := by decide +kernel
theorem dX9_copy_75 : decode cX9_copy 75 = .ok (.iaload, 1) := by decide +kernel
theorem dX9_copy_76 : decode cX9_copy 76 = .ok (.bipush 9, 2) := by decide +kernel
theorem dX9_copy_78 : decode cX9_copy 78 = .ok (.if_icmp .gt 46, 3) := by decide +kernel
theorem dX9_copy_81 : decode cX9_copy 81 = .ok (.aload_n 0, 1) := by decide +kernel
theorem dX9_copy_82 : decode cX9_copy 82 = .ok (.getfield 8, 3) := by decide +kernel
theorem dX9_copy_85 : decode cX9_copy 85 = .ok (.iload 6, 2) := by decide +kernel
theorem dX9_copy_87 : decode cX9_copy 87 = .ok (.iaload, 1) := by decide +kernel
theorem dX9_copy_88 : decode cX9_copy 88 = .ok (.aload_n 0, 1) := by decide +kernel
theorem dX9_copy_89 : decode cX9_copy 89 = .ok (.getfield 8, 3) := by decide +kernel
theorem dX9_copy_92 : decode cX9_copy 92 = .ok (.iload 7, 2) := by decide +kernel
theorem dX9_copy_94 : decode cX9_copy 94 = .ok (.iaload, 1) := by decide +kernel
theorem dX9_copy_95 : decode cX9_copy 95 = .ok (.if_icmp .eq 35, 3) := by decide +kernel
theorem dX9_copy_98 : decode cX9_copy 98 = .ok (.aload_n 0, 1) := by decide +kernel
theorem dX9_copy_99 : decode cX9_copy 99 = .ok (.getfield 8, 3) := by decide +kernel
theorem dX9_copy_102 : decode cX9_copy 102 = .ok (.iload 6, 2) := by decide +kernel
theorem dX9_copy_104 : decode cX9_copy 104 = .ok (.iaload, 1) := by decide +kernel
theorem dX9_copy_105 : decode cX9_copy 105 = .ok (.invokestatic 141, 3) := by decide +kernel
theorem dX9_copy_108 : decode cX9_copy 108 = .ok (.ifCond .eq 16, 3) := by decide +kernel
theorem dX9_copy_111 : decode cX9_copy 111 = .ok (.aload_n 0, 1) := by decide +kernel
theorem dX9_copy_112 : decode cX9_copy 112 = .ok (.getfield 8, 3) := by decide +kernel
theorem dX9_copy_115 : decode cX9_copy 115 = .ok (.iload 7, 2) := by decide +kernel
theorem dX9_copy_117 : decode cX9_copy 117 = .ok (.iaload, 1) := by decide +kernel
theorem dX9_copy_118 : decode cX9_copy 118 = .ok (.invokestatic 141, 3) := by decide +kernel
theorem dX9_copy_121 : decode cX9_copy 121 = .ok (.ifCond .ne 9, 3) := by decide +kernel
theorem dX9_copy_124 : decode cX9_copy 124 = .ok (.aload_n 0, 1) := by decide +kernel
theorem dX9_copy_125 : decode cX9_copy 125 = .ok (.iconst 5, 1) := by decide +kernel
theorem dX9_copy_126 : decode cX9_copy 126 = .ok (.invokevirtual 83, 3) := by decide +kernel
theorem dX9_copy_129 : decode cX9_copy 129 = .ok (.ireturn, 1) := by decide +kernel
theorem dX9_copy_130 : decode cX9_copy 130 = .ok (.aload_n 0, 1) := by decide +kernel
theorem dX9_copy_131 : decode cX9_copy 131 = .ok (.iload 6, 2) := by decide +kernel
theorem dX9_copy_133 : decode cX9_copy 133 = .ok (.iload_n 2, 1) := by decide +kernel
theorem dX9_copy_134 : decode cX9_copy 134 = .ok (.iload 5, 2) := by decide +kernel
theorem dX9_copy_136 : decode cX9_copy 136 = .ok (.invokevirtual 144, 3) := by decide +kernel
theorem dX9_copy_139 : decode cX9_copy 139 = .ok (.ifCond .ne 16, 3) := by decide +kernel
theorem dX9_copy_142 : decode cX9_copy 142 = .ok (.aload_n 0, 1) := by decide +kernel
theorem dX9_copy_143 : decode cX9_copy 143 = .ok (.iload 7, 2) := by decide +kernel
theorem dX9_copy_145 : decode cX9_copy 145 = .ok (.iload 4, 2) := by decide +kernel
theorem dX9_copy_147 : decode cX9_copy 147 = .ok (.iload 5, 2) := by decide +kernel
theorem dX9_copy_149 : decode cX9_copy 149 = .ok (.invokevirtual 144, 3) := by decide +kernel
theorem dX9_copy_152 : decode cX9_copy 152 = .ok (.ifCond .eq 9, 3) := by decide +kernel
theorem dX9_copy_155 : decode cX9_copy 155 = .ok (.aload_n 0, 1) := by decide +kernel
theorem dX9_copy_156 : decode cX9_copy 156 = .ok (.iconst 2, 1) := by decide +kernel
theorem dX9_copy_157 : decode cX9_copy 157 = .ok (.invokevirtual 83, 3) := by decide +kernel
theorem dX9_copy_160 : decode cX9_copy 160 = .ok (.ireturn, 1) := by decide +kernel
theorem dX9_copy_161 : decode cX9_copy 161 = .ok (.iload 6, 2) := by decide +kernel
theorem dX9_copy_163 : decode cX9_copy 163 = .ok (.iload 7, 2) := by decide +kernel
theorem dX9_copy_165 : decode cX9_copy 165 = .ok (.if_icmp .ne 49, 3) := by decide +kernel
theorem dX9_copy_168 : decode cX9_copy 168 = .ok (.iload_n 2, 1) := by decide +kernel
theorem dX9_copy_169 : decode cX9_copy 169 = .ok (.iload 4, 2) := by decide +kernel
theorem dX9_copy_171 : decode cX9_copy 171 = .ok (.if_icmp .ge 43, 3) := by decide +kernel
theorem dX9_copy_174 : decode cX9_copy 174 = .ok (.iload 5, 2) := by decide +kernel
theorem dX9_copy_176 : decode cX9_copy 176 = .ok (.iconst 1, 1) := by decide +kernel
theorem dX9_copy_177 : decode cX9_copy 177 = .ok (.isub, 1) := by decide +kernel
theorem dX9_copy_178 : decode cX9_copy 178 = .ok (.istore 8, 2) := by decide +kernel
theorem dX9_copy_180 : decode cX9_copy 180 = .ok (.iload 8, 2) := by decide +kernel
theorem dX9_copy_182 : decode cX9_copy 182 = .ok (.ifCond .lt 30, 3) := by decide +kernel
theorem dX9_copy_185 : decode cX9_copy 185 = .ok (.aload_n 0, 1) := by decide +kernel
theorem dX9_copy_186 : decode cX9_copy 186 = .ok (.iload 7, 2) := by decide +kernel
theorem dX9_copy_188 : decode cX9_copy 188 = .ok (.iload 4, 2) := by decide +kernel
theorem dX9_copy_190 : decode cX9_copy 190 = .ok (.iload 8, 2) := by decide +kernel
theorem dX9_copy_192 : decode cX9_copy 192 = .ok (.iadd, 1) := by decide +kernel
theorem dX9_copy_193 : decode cX9_copy 193 = .ok (.aload_n 0, 1) := by decide +kernel
theorem dX9_copy_194 : decode cX9_copy 194 = .ok (.iload 6, 2) := by decide +kernel
theorem dX9_copy_196 : decode cX9_copy 196 = .ok (.iload_n 2, 1) := by decide +kernel
theorem dX9_copy_197 : decode cX9_copy 197 = .ok (.iload 8, 2) := by decide +kernel
theorem dX9_copy_199 : decode cX9_copy 199 = .ok (.iadd, 1) := by decide +kernel
theorem dX9_copy_200 : decode cX9_copy 200 = .ok (.invokevirtual 123, 3) := by decide +kernel
theorem dX9_copy_203 : decode cX9_copy 203 = .ok (.invokevirtual 131, 3) := by decide +kernel
theorem dX9_copy_206 : decode cX9_copy 206 = .ok (.iinc 8 (-1), 3) := by decide +kernel
theorem dX9_copy_209 : decode cX9_copy 209 = .ok (.goto (-29), 3) := by decide +kernel
theorem dX9_copy_212 : decode cX9_copy 212 = .ok (.iconst 1, 1) := by decide +kernel
theorem dX9_copy_213 : decode cX9_copy 213 = .ok (.ireturn, 1) := by decide +kernel
theorem dX9_copy_214 : decode cX9_copy 214 = .ok (.iconst 0, 1) := by decide +kernel
theorem dX9_copy_215 : decode cX9_copy 215 = .ok (.istore 8, 2) := by decide +kernel
theorem dX9_copy_217 : decode cX9_copy 217 = .ok (.iload 8, 2) := by decide +kernel
theorem dX9_copy_219 : decode cX9_copy 219 = .ok (.iload 5, 2) := by decide +kernel
theorem dX9_copy_221 : decode cX9_copy 221 = .ok (.if_icmp .ge 73, 3) := by decide +kernel
theorem dX9_copy_224 : decode cX9_copy 224 = .ok (.aload_n 0, 1) := by decide +kernel
theorem dX9_copy_225 : decode cX9_copy 225 = .ok (.iload 6, 2) := by decide +kernel
theorem dX9_copy_227 : decode cX9_copy 227 = .ok (.iload_n 2, 1) := by decide +kernel
theorem dX9_copy_228 : decode cX9_copy 228 = .ok (.iload 8, 2) := by decide +kernel
theorem dX9_copy_230 : decode cX9_copy 230 = .ok (.iadd, 1) := by decide +kernel
theorem dX9_copy_231 : decode cX9_copy 231 = .ok (.invokevirtual 123, 3) := by decide +kernel
theorem dX9_copy_234 : decode cX9_copy 234 = .ok (.lstore 9, 2) := by decide +kernel
theorem dX9_copy_236 : decode cX9_copy 236 = .ok (.aload_n 0, 1) := by decide +kernel
theorem dX9_copy_237 : decode cX9_copy 237 = .ok (.getfield 8, 3) := by decide +kernel
theorem dX9_copy_240 : decode cX9_copy 240 = .ok (.iload 7, 2) := by decide +kernel
theorem dX9_copy_242 : decode cX9_copy 242 = .ok (.iaload, 1) := by decide +kernel
theorem dX9_copy_243 : decode cX9_copy 243 = .ok (.invokestatic 141, 3) := by decide +kernel
theorem dX9_copy_246 : decode cX9_copy 246 = .ok (.ifCond .eq 29, 3) := by decide +kernel
theorem dX9_copy_249 : decode cX9_copy 249 = .ok (.aload_n 0, 1) := by decide +kernel
theorem dX9_copy_250 : decode cX9_copy 250 = .ok (.lload 9, 2) := by decide +kernel
theorem dX9_copy_252 : decode cX9_copy 252 = .ok (.l2i, 1) := by decide +kernel
theorem dX9_copy_253 : decode cX9_copy 253 = .ok (.aload_n 0, 1) := by decide +kernel
theorem dX9_copy_254 : decode cX9_copy 254 = .ok (.getfield 8, 3) := by decide +kernel
theorem dX9_copy_257 : decode cX9_copy 257 = .ok (.iload 7, 2) := by decide +kernel
theorem dX9_copy_259 : decode cX9_copy 259 = .ok (.iaload, 1) := by decide +kernel
theorem dX9_copy_260 : decode cX9_copy 260 = .ok (.invokestatic 138, 3) := by decide +kernel
theorem dX9_copy_263 : decode cX9_copy 263 = .ok (.invokevirtual 91, 3) := by decide +kernel
theorem dX9_copy_266 : decode cX9_copy 266 = .ok (.ifCond .ne 9, 3) := by decide +kernel
theorem dX9_copy_269 : decode cX9_copy 269 = .ok (.aload_n 0, 1) := by decide +kernel
theorem dX9_copy_270 : decode cX9_copy 270 = .ok (.iconst 5, 1) := by decide +kernel
theorem dX9_copy_271 : decode cX9_copy 271 = .ok (.invokevirtual 83, 3) := by decide +kernel
theorem dX9_copy_274 : decode cX9_copy 274 = .ok (.ireturn, 1) := by decide +kernel
theorem dX9_copy_275 : decode cX9_copy 275 = .ok (.aload_n 0, 1) := by decide +kernel
theorem dX9_copy_276 : decode cX9_copy 276 = .ok (.iload 7, 2) := by decide +kernel
theorem dX9_copy_278 : decode cX9_copy 278 = .ok (.iload 4, 2) := by decide +kernel
theorem dX9_copy_280 : decode cX9_copy 280 = .ok (.iload 8, 2) := by decide +kernel
theorem dX9_copy_282 : decode cX9_copy 282 = .ok (.iadd, 1) := by decide +kernel
theorem dX9_copy_283 : decode cX9_copy 283 = .ok (.lload 9, 2) := by decide +kernel
theorem dX9_copy_285 : decode cX9_copy 285 = .ok (.invokevirtual 131, 3) := by decide +kernel
theorem dX9_copy_288 : decode cX9_copy 288 = .ok (.iinc 8 1, 3) := by decide +kernel
theorem dX9_copy_291 : decode cX9_copy 291 = .ok (.goto (-74), 3) := by decide +kernel
theorem dX9_copy_294 : decode cX9_copy 294 = .ok (.iconst 1, 1) := by decide +kernel
theorem dX9_copy_295 : decode cX9_copy 295 = .ok (.ireturn, 1) := by decide +kernel
set_option maxRecDepth 20000 in
theorem ggX9_field_X9_begin : GoodIn wsX9_field wsX9_begin := goodIn_r _ [7, 8, 28, 29, 30, 31, 32, 33, 34, 35, 36, 37, 38, 39] rfl (by decide +kernel)
set_option maxRecDepth 20000 in
theorem gX9_field_X9_begin : GoodIn wsX9_field (wsV RX9 76 RX9 yX9_begin wsX9_begin) := goodIn_app (goodIn_of _ (by decide +kernel)) ggX9_field_X9_begin
set_option maxRecDepth 20000 in
theorem ggX9_field_X9_in : GoodIn wsX9_field wsX9_in := goodIn_r _ [11] rfl (by decide +kernel)
set_option maxRecDepth 20000 in
theorem gX9_field_X9_in : GoodIn wsX9_field (va_wsS RX9 59 yX9_in wsX9_in) := goodIn_app (goodIn_of _ (by decide +kernel)) ggX9_field_X9_in
set_option maxRecDepth 20000 in
theorem ggX9_field_X9_isCell : GoodIn wsX9_field wsX9_isCell := goodIn_r _ [14, 9, 10, 6, 11] rfl (by decide +kernel)
set_option maxRecDepth 20000 in
theorem gX9_field_X9_isCell : GoodIn wsX9_field (va_wsS RX9 79 yX9_isCell wsX9_isCell) := goodIn_app (goodIn_of _ (by decide +kernel)) ggX9_field_X9_isCell
set_option maxRecDepth 20000 in
theorem ggX9_field_X9_fails : GoodIn wsX9_field wsX9_fails := goodIn_r _ [18, 8, 19, 28, 29, 30, 31, 32, 33, 34, 35, 36, 37, 38, 39] rfl (by decide +kernel)
set_option maxRecDepth 20000 in
theorem gX9_field_X9_fails : GoodIn wsX9_field (wsV RX9 83 RX9 yX9_fails wsX9_fails) := goodIn_app (goodIn_of _ (by decide +kernel)) ggX9_field_X9_fails
set_option maxRecDepth 20000 in
theorem ggX9_field_X9_passes : GoodIn wsX9_field wsX9_passes := goodIn_r _ [23, 24, 25, 26, 6, 27, 28, 29, 30, 31, 32, 33, 34, 35, 36, 37, 38, 39] rfl (by decide +kernel)
set_option maxRecDepth 20000 in
theorem gX9_field_X9_passes : GoodIn wsX9_field (wsV RX9 91 RX9 yX9_passes wsX9_passes) := goodIn_app (goodIn_of _ (by decide +kernel)) ggX9_field_X9_passes
theorem dX9_field_0 : decode cX9_field 0 = .ok (.aload_n 0, 1) := by decide +kernel
theorem dX9_field_1 : decode cX9_field 1 = .ok (.invokevirtual 76, 3) := by decide +kernel
theorem dX9_field_4 : decode cX9_field 4 = .ok (.iload_n 1, 1) := by decide +kernel
theorem dX9_field_5 : decode cX9_field 5 = .ok (.bipush 10, 2) := by decide +kernel
theorem dX9_field_7 : decode cX9_field 7 = .ok (.bipush 12, 2) := by decide +kernel
theorem dX9_field_9 : decode cX9_field 9 = .ok (.invokestatic 59, 3) := by decide +kernel
theorem dX9_field_12 : decode cX9_field 12 = .ok (.ifCond .eq 10, 3) := by decide +kernel
theorem dX9_field_15 : decode cX9_field 15 = .ok (.iload_n 2, 1) := by decide +kernel
theorem dX9_field_16 : decode cX9_field 16 = .ok (.invokestatic 79, 3) := by decide +kernel
theorem dX9_field_19 : decode cX9_field 19 = .ok (.ifCond .ne 10, 3) := by decide +kernel
theorem dX9_field_22 : decode cX9_field 22 = .ok (.aload_n 0, 1) := by decide +kernel
theorem dX9_field_23 : decode cX9_field 23 = .ok (.bipush 8, 2) := by decide +kernel
theorem dX9_field_25 : decode cX9_field 25 = .ok (.invokevirtual 83, 3) := by decide +kernel
theorem dX9_field_28 : decode cX9_field 28 = .ok (.ireturn, 1) := by decide +kernel
theorem dX9_field_29 : decode cX9_field 29 = .ok (.aload_n 0, 1) := by decide +kernel
theorem dX9_field_30 : decode cX9_field 30 = .ok (.getfield 28, 3) := by decide +kernel
theorem dX9_field_33 : decode cX9_field 33 = .ok (.iload_n 2, 1) := by decide +kernel
theorem dX9_field_34 : decode cX9_field 34 = .ok (.iaload, 1) := by decide +kernel
theorem dX9_field_35 : decode cX9_field 35 = .ok (.istore_n 3, 1) := by decide +kernel
theorem dX9_field_36 : decode cX9_field 36 = .ok (.aload_n 0, 1) := by decide +kernel
theorem dX9_field_37 : decode cX9_field 37 = .ok (.iload_n 3, 1) := by decide +kernel
theorem dX9_field_38 : decode cX9_field 38 = .ok (.iload_n 1, 1) := by decide +kernel
theorem dX9_field_39 : decode cX9_field 39 = .ok (.invokevirtual 91, 3) := by decide +kernel
theorem dX9_field_42 : decode cX9_field 42 = .ok (.ifCond .ne 11, 3) := by decide +kernel
theorem dX9_field_45 : decode cX9_field 45 = .ok (.aload_n 0, 1) := by decide +kernel
theorem dX9_field_46 : decode cX9_field 46 = .ok (.iconst 4, 1) := by decide +kernel
theorem dX9_field_47 : decode cX9_field 47 = .ok (.invokevirtual 83, 3) := by decide +kernel
theorem dX9_field_50 : decode cX9_field 50 = .ok (.goto 21, 3) := by decide +kernel
theorem dX9_field_53 : decode cX9_field 53 = .ok (.iload_n 3, 1) := by decide +kernel
theorem dX9_field_54 : decode cX9_field 54 = .ok (.ifCond .ne 11, 3) := by decide +kernel
theorem dX9_field_57 : decode cX9_field 57 = .ok (.aload_n 0, 1) := by decide +kernel
theorem dX9_field_58 : decode cX9_field 58 = .ok (.iconst 1, 1) := by decide +kernel
theorem dX9_field_59 : decode cX9_field 59 = .ok (.invokevirtual 83, 3) := by decide +kernel
theorem dX9_field_62 : decode cX9_field 62 = .ok (.goto 9, 3) := by decide +kernel
theorem dX9_field_65 : decode cX9_field 65 = .ok (.aload_n 0, 1) := by decide +kernel
theorem dX9_field_66 : decode cX9_field 66 = .ok (.getfield 14, 3) := by decide +kernel
theorem dX9_field_69 : decode cX9_field 69 = .ok (.iload_n 3, 1) := by decide +kernel
theorem dX9_field_70 : decode cX9_field 70 = .ok (.iaload, 1) := by decide +kernel
theorem dX9_field_71 : decode cX9_field 71 = .ok (.ireturn, 1) := by decide +kernel
set_option maxRecDepth 20000 in
theorem ggX9_write_X9_begin : GoodIn wsX9_write wsX9_begin := goodIn_r _ [7, 8, 28, 29, 30, 31, 32, 33, 34, 35, 36, 37, 38, 39] rfl (by decide +kernel)
set_option maxRecDepth 20000 in
theorem gX9_write_X9_begin : GoodIn wsX9_write (wsV RX9 76 RX9 yX9_begin wsX9_begin) := goodIn_app (goodIn_of _ (by decide +kernel)) ggX9_write_X9_begin
set_option maxRecDepth 20000 in
theorem ggX9_write_X9_in : GoodIn wsX9_write wsX9_in := goodIn_r _ [11] rfl (by decide +kernel)
set_option maxRecDepth 20000 in
theorem gX9_write_X9_in : GoodIn wsX9_write (va_wsS RX9 59 yX9_in wsX9_in) := goodIn_app (goodIn_of _ (by decide +kernel)) ggX9_write_X9_in
set_option maxRecDepth 20000 in
theorem ggX9_write_X9_isCell : GoodIn wsX9_write wsX9_isCell := goodIn_r _ [14, 9, 10, 6, 11] rfl (by decide +kernel)
set_option maxRecDepth 20000 in
theorem gX9_write_X9_isCell : GoodIn wsX9_write (va_wsS RX9 79 yX9_isCell wsX9_isCell) := goodIn_app (goodIn_of _ (by decide +kernel)) ggX9_write_X9_isCell
set_option maxRecDepth 20000 in
theorem ggX9_write_X9_fails : GoodIn wsX9_write wsX9_fails := goodIn_r _ [18, 8, 19, 28, 29, 30, 31, 32, 33, 34, 35, 36, 37, 38, 39] rfl (by decide +kernel)
set_option maxRecDepth 20000 in
theorem gX9_write_X9_fails : GoodIn wsX9_write (wsV RX9 83 RX9 yX9_fails wsX9_fails) := goodIn_app (goodIn_of _ (by decide +kernel)) ggX9_write_X9_fails
set_option maxRecDepth 20000 in
theorem ggX9_write_X9_passes : GoodIn wsX9_write wsX9_passes := goodIn_r _ [23, 24, 25, 26, 6, 27, 28, 29, 30, 31, 32, 33, 34, 35, 36, 37, 38, 39] rfl (by decide +kernel)
set_option maxRecDepth 20000 in
theorem gX9_write_X9_passes : GoodIn wsX9_write (wsV RX9 91 RX9 yX9_passes wsX9_passes) := goodIn_app (goodIn_of _ (by decide +kernel)) ggX9_write_X9_passes
theorem dX9_write_0 : decode cX9_write 0 = .ok (.aload_n 0, 1) := by decide +kernel
theorem dX9_write_1 : decode cX9_write 1 = .ok (.invokevirtual 76, 3) := by decide +kernel
theorem dX9_write_4 : decode cX9_write 4 = .ok (.iload_n 1, 1) := by decide +kernel
theorem dX9_write_5 : decode cX9_write 5 = .ok (.bipush 10, 2) := by decide +kernel
theorem dX9_write_7 : decode cX9_write 7 = .ok (.bipush 12, 2) := by decide +kernel
theorem dX9_write_9 : decode cX9_write 9 = .ok (.invokestatic 59, 3) := by decide +kernel
theorem dX9_write_12 : decode cX9_write 12 = .ok (.ifCond .eq 10, 3) := by decide +kernel
theorem dX9_write_15 : decode cX9_write 15 = .ok (.iload_n 2, 1) := by decide +kernel
theorem dX9_write_16 : decode cX9_write 16 = .ok (.invokestatic 79, 3) := by decide +kernel
theorem dX9_write_19 : decode cX9_write 19 = .ok (.ifCond .ne 10, 3) := by decide +kernel
theorem dX9_write_22 : decode cX9_write 22 = .ok (.aload_n 0, 1) := by decide +kernel
theorem dX9_write_23 : decode cX9_write 23 = .ok (.bipush 8, 2) := by decide +kernel
theorem dX9_write_25 : decode cX9_write 25 = .ok (.invokevirtual 83, 3) := by decide +kernel
theorem dX9_write_28 : decode cX9_write 28 = .ok (.ireturn, 1) := by decide +kernel
theorem dX9_write_29 : decode cX9_write 29 = .ok (.aload_n 0, 1) := by decide +kernel
theorem dX9_write_30 : decode cX9_write 30 = .ok (.getfield 28, 3) := by decide +kernel
theorem dX9_write_33 : decode cX9_write 33 = .ok (.iload_n 2, 1) := by decide +kernel
theorem dX9_write_34 : decode cX9_write 34 = .ok (.iaload, 1) := by decide +kernel
theorem dX9_write_35 : decode cX9_write 35 = .ok (.istore 4, 2) := by decide +kernel
theorem dX9_write_37 : decode cX9_write 37 = .ok (.aload_n 0, 1) := by decide +kernel
theorem dX9_write_38 : decode cX9_write 38 = .ok (.iload 4, 2) := by decide +kernel
theorem dX9_write_40 : decode cX9_write 40 = .ok (.iload_n 1, 1) := by decide +kernel
theorem dX9_write_41 : decode cX9_write 41 = .ok (.invokevirtual 91, 3) := by decide +kernel
theorem dX9_write_44 : decode cX9_write 44 = .ok (.ifCond .ne 9, 3) := by decide +kernel
theorem dX9_write_47 : decode cX9_write 47 = .ok (.aload_n 0, 1) := by decide +kernel
theorem dX9_write_48 : decode cX9_write 48 = .ok (.iconst 4, 1) := by decide +kernel
theorem dX9_write_49 : decode cX9_write 49 = .ok (.invokevirtual 83, 3) := by decide +kernel
theorem dX9_write_52 : decode cX9_write 52 = .ok (.ireturn, 1) := by decide +kernel
theorem dX9_write_53 : decode cX9_write 53 = .ok (.iload 4, 2) := by decide +kernel
theorem dX9_write_55 : decode cX9_write 55 = .ok (.ifCond .ne 9, 3) := by decide +kernel
theorem dX9_write_58 : decode cX9_write 58 = .ok (.aload_n 0, 1) := by decide +kernel
theorem dX9_write_59 : decode cX9_write 59 = .ok (.iconst 1, 1) := by decide +kernel
theorem dX9_write_60 : decode cX9_write 60 = .ok (.invokevirtual 83, 3) := by decide +kernel
theorem dX9_write_63 : decode cX9_write 63 = .ok (.ireturn, 1) := by decide +kernel
theorem dX9_write_64 : decode cX9_write 64 = .ok (.aload_n 0, 1) := by decide +kernel
theorem dX9_write_65 : decode cX9_write 65 = .ok (.getfield 14, 3) := by decide +kernel
theorem dX9_write_68 : decode cX9_write 68 = .ok (.iload 4, 2) := by decide +kernel
theorem dX9_write_70 : decode cX9_write 70 = .ok (.iload_n 3, 1) := by decide +kernel
theorem dX9_write_71 : decode cX9_write 71 = .ok (.iastore, 1) := by decide +kernel
theorem dX9_write_72 : decode cX9_write 72 = .ok (.iconst 1, 1) := by decide +kernel
theorem dX9_write_73 : decode cX9_write 73 = .ok (.ireturn, 1) := by decide +kernel
set_option maxRecDepth 20000 in
theorem ggX9_call_X9_begin : GoodIn wsX9_call wsX9_begin := goodIn_r _ [8, 9, 28, 29, 30, 31, 32, 33, 34, 35, 36, 37, 38, 39] rfl (by decide +kernel)
set_option maxRecDepth 20000 in
theorem gX9_call_X9_begin : GoodIn wsX9_call (wsV RX9 76 RX9 yX9_begin wsX9_begin) := goodIn_app (goodIn_of _ (by decide +kernel)) ggX9_call_X9_begin
set_option maxRecDepth 20000 in
theorem ggX9_call_X9_isCell : GoodIn wsX9_call wsX9_isCell := goodIn_r _ [12, 13, 14, 7, 15] rfl (by decide +kernel)
set_option maxRecDepth 20000 in
theorem gX9_call_X9_isCell : GoodIn wsX9_call (va_wsS RX9 79 yX9_isCell wsX9_isCell) := goodIn_app (goodIn_of _ (by decide +kernel)) ggX9_call_X9_isCell
set_option maxRecDepth 20000 in
theorem ggX9_call_X9_in : GoodIn wsX9_call wsX9_in := goodIn_r _ [15] rfl (by decide +kernel)
set_option maxRecDepth 20000 in
theorem gX9_call_X9_in : GoodIn wsX9_call (va_wsS RX9 59 yX9_in wsX9_in) := goodIn_app (goodIn_of _ (by decide +kernel)) ggX9_call_X9_in
set_option maxRecDepth 20000 in
theorem ggX9_call_X9_fails : GoodIn wsX9_call wsX9_fails := goodIn_r _ [19, 9, 20, 28, 29, 30, 31, 32, 33, 34, 35, 36, 37, 38, 39] rfl (by decide +kernel)
set_option maxRecDepth 20000 in
theorem gX9_call_X9_fails : GoodIn wsX9_call (wsV RX9 83 RX9 yX9_fails wsX9_fails) := goodIn_app (goodIn_of _ (by decide +kernel)) ggX9_call_X9_fails
set_option maxRecDepth 20000 in
theorem ggX9_call_X9_passes : GoodIn wsX9_call wsX9_passes := goodIn_r _ [24, 2, 25, 26, 7, 27, 28, 29, 30, 31, 32, 33, 34, 35, 36, 37, 38, 39] rfl (by decide +kernel)
set_option maxRecDepth 20000 in
theorem gX9_call_X9_passes : GoodIn wsX9_call (wsV RX9 91 RX9 yX9_passes wsX9_passes) := goodIn_app (goodIn_of _ (by decide +kernel)) ggX9_call_X9_passes
theorem dX9_call_0 : decode cX9_call 0 = .ok (.aload_n 0, 1) := by decide +kernel
theorem dX9_call_1 : decode cX9_call 1 = .ok (.invokevirtual 76, 3) := by decide +kernel
theorem dX9_call_4 : decode cX9_call 4 = .ok (.iload_n 1, 1) := by decide +kernel
theorem dX9_call_5 : decode cX9_call 5 = .ok (.invokestatic 79, 3) := by decide +kernel
theorem dX9_call_8 : decode cX9_call 8 = .ok (.ifCond .eq 13, 3) := by decide +kernel
theorem dX9_call_11 : decode cX9_call 11 = .ok (.iload_n 2, 1) := by decide +kernel
theorem dX9_call_12 : decode cX9_call 12 = .ok (.iconst 0, 1) := by decide +kernel
theorem dX9_call_13 : decode cX9_call 13 = .ok (.bipush 6, 2) := by decide +kernel
theorem dX9_call_15 : decode cX9_call 15 = .ok (.invokestatic 59, 3) := by decide +kernel
theorem dX9_call_18 : decode cX9_call 18 = .ok (.ifCond .ne 10, 3) := by decide +kernel
theorem dX9_call_21 : decode cX9_call 21 = .ok (.aload_n 0, 1) := by decide +kernel
theorem dX9_call_22 : decode cX9_call 22 = .ok (.bipush 8, 2) := by decide +kernel
theorem dX9_call_24 : decode cX9_call 24 = .ok (.invokevirtual 83, 3) := by decide +kernel
theorem dX9_call_27 : decode cX9_call 27 = .ok (.ireturn, 1) := by decide +kernel
theorem dX9_call_28 : decode cX9_call 28 = .ok (.aload_n 0, 1) := by decide +kernel
theorem dX9_call_29 : decode cX9_call 29 = .ok (.getfield 28, 3) := by decide +kernel
theorem dX9_call_32 : decode cX9_call 32 = .ok (.iload_n 1, 1) := by decide +kernel
theorem dX9_call_33 : decode cX9_call 33 = .ok (.iaload, 1) := by decide +kernel
theorem dX9_call_34 : decode cX9_call 34 = .ok (.istore_n 3, 1) := by decide +kernel
theorem dX9_call_35 : decode cX9_call 35 = .ok (.aload_n 0, 1) := by decide +kernel
theorem dX9_call_36 : decode cX9_call 36 = .ok (.iload_n 3, 1) := by decide +kernel
theorem dX9_call_37 : decode cX9_call 37 = .ok (.bipush 13, 2) := by decide +kernel
theorem dX9_call_39 : decode cX9_call 39 = .ok (.invokevirtual 91, 3) := by decide +kernel
theorem dX9_call_42 : decode cX9_call 42 = .ok (.ifCond .ne 9, 3) := by decide +kernel
theorem dX9_call_45 : decode cX9_call 45 = .ok (.aload_n 0, 1) := by decide +kernel
theorem dX9_call_46 : decode cX9_call 46 = .ok (.iconst 4, 1) := by decide +kernel
theorem dX9_call_47 : decode cX9_call 47 = .ok (.invokevirtual 83, 3) := by decide +kernel
theorem dX9_call_50 : decode cX9_call 50 = .ok (.ireturn, 1) := by decide +kernel
theorem dX9_call_51 : decode cX9_call 51 = .ok (.iload_n 3, 1) := by decide +kernel
theorem dX9_call_52 : decode cX9_call 52 = .ok (.ifCond .ne 9, 3) := by decide +kernel
theorem dX9_call_55 : decode cX9_call 55 = .ok (.aload_n 0, 1) := by decide +kernel
theorem dX9_call_56 : decode cX9_call 56 = .ok (.iconst 1, 1) := by decide +kernel
theorem dX9_call_57 : decode cX9_call 57 = .ok (.invokevirtual 83, 3) := by decide +kernel
theorem dX9_call_60 : decode cX9_call 60 = .ok (.ireturn, 1) := by decide +kernel
theorem dX9_call_61 : decode cX9_call 61 = .ok (.aload_n 0, 1) := by decide +kernel
theorem dX9_call_62 : decode cX9_call 62 = .ok (.getfield 8, 3) := by decide +kernel
theorem dX9_call_65 : decode cX9_call 65 = .ok (.iload_n 3, 1) := by decide +kernel
theorem dX9_call_66 : decode cX9_call 66 = .ok (.iaload, 1) := by decide +kernel
theorem dX9_call_67 : decode cX9_call 67 = .ok (.istore 4, 2) := by decide +kernel
theorem dX9_call_69 : decode cX9_call 69 = .ok (.aload_n 0, 1) := by decide +kernel
theorem dX9_call_70 : decode cX9_call 70 = .ok (.getfield 14, 3) := by decide +kernel
theorem dX9_call_73 : decode cX9_call 73 = .ok (.iload_n 3, 1) := by decide +kernel
theorem dX9_call_74 : decode cX9_call 74 = .ok (.iaload, 1) := by decide +kernel
theorem dX9_call_75 : decode cX9_call 75 = .ok (.istore 5, 2) := by decide +kernel
theorem dX9_call_77 : decode cX9_call 77 = .ok (.iload 4, 2) := by decide +kernel
theorem dX9_call_79 : decode cX9_call 79 = .ok (.bipush 10, 2) := by decide +kernel
theorem dX9_call_81 : decode cX9_call 81 = .ok (.if_icmp .ne 8, 3) := by decide +kernel
theorem dX9_call_84 : decode cX9_call 84 = .ok (.iload 5, 2) := by decide +kernel
theorem dX9_call_86 : decode cX9_call 86 = .ok (.goto 23, 3) := by decide +kernel
theorem dX9_call_89 : decode cX9_call 89 = .ok (.iload 4, 2) := by decide +kernel
theorem dX9_call_91 : decode cX9_call 91 = .ok (.bipush 11, 2) := by decide +kernel
theorem dX9_call_93 : decode cX9_call 93 = .ok (.if_icmp .ne 10, 3) := by decide +kernel
theorem dX9_call_96 : decode cX9_call 96 = .ok (.iconst 2, 1) := by decide +kernel
theorem dX9_call_97 : decode cX9_call 97 = .ok (.iload 5, 2) := by decide +kernel
theorem dX9_call_99 : decode cX9_call 99 = .ok (.imul, 1) := by decide +kernel
theorem dX9_call_100 : decode cX9_call 100 = .ok (.goto 9, 3) := by decide +kernel
theorem dX9_call_103 : decode cX9_call 103 = .ok (.iconst 2, 1) := by decide +kernel
theorem dX9_call_104 : decode cX9_call 104 = .ok (.iload 5, 2) := by decide +kernel
theorem dX9_call_106 : decode cX9_call 106 = .ok (.imul, 1) := by decide +kernel
theorem dX9_call_107 : decode cX9_call 107 = .ok (.iconst 1, 1) := by decide +kernel
theorem dX9_call_108 : decode cX9_call 108 = .ok (.iadd, 1) := by decide +kernel
theorem dX9_call_109 : decode cX9_call 109 = .ok (.istore 6, 2) := by decide +kernel
theorem dX9_call_111 : decode cX9_call 111 = .ok (.iload_n 2, 1) := by decide +kernel
theorem dX9_call_112 : decode cX9_call 112 = .ok (.tableswitch 142 0 5 #[40, 43, 65, 87, 120, 125], 40) := by decide +kernel
theorem dX9_call_152 : decode cX9_call 152 = .ok (.iload 6, 2) := by decide +kernel
theorem dX9_call_154 : decode cX9_call 154 = .ok (.ireturn, 1) := by decide +kernel
theorem dX9_call_155 : decode cX9_call 155 = .ok (.iload 4, 2) := by decide +kernel
theorem dX9_call_157 : decode cX9_call 157 = .ok (.bipush 10, 2) := by decide +kernel
theorem dX9_call_159 : decode cX9_call 159 = .ok (.if_icmp .ne 10, 3) := by decide +kernel
theorem dX9_call_162 : decode cX9_call 162 = .ok (.iconst 2, 1) := by decide +kernel
theorem dX9_call_163 : decode cX9_call 163 = .ok (.iload 6, 2) := by decide +kernel
theorem dX9_call_165 : decode cX9_call 165 = .ok (.imul, 1) := by decide +kernel
theorem dX9_call_166 : decode cX9_call 166 = .ok (.goto 10, 3) := by decide +kernel
theorem dX9_call_169 : decode cX9_call 169 = .ok (.iconst 3, 1) := by decide +kernel
theorem dX9_call_170 : decode cX9_call 170 = .ok (.iload 6, 2) := by decide +kernel
theorem dX9_call_172 : decode cX9_call 172 = .ok (.imul, 1) := by decide +kernel
theorem dX9_call_173 : decode cX9_call 173 = .ok (.bipush 100, 2) := by decide +kernel
theorem dX9_call_175 : decode cX9_call 175 = .ok (.iadd, 1) := by decide +kernel
theorem dX9_call_176 : decode cX9_call 176 = .ok (.ireturn, 1) := by decide +kernel
theorem dX9_call_177 : decode cX9_call 177 = .ok (.bipush 7, 2) := by decide +kernel
theorem dX9_call_179 : decode cX9_call 179 = .ok (.iload 5, 2) := by decide +kernel
theorem dX9_call_181 : decode cX9_call 181 = .ok (.imul, 1) := by decide +kernel
theorem dX9_call_182 : decode cX9_call 182 = .ok (.iconst 1, 1) := by decide +kernel
theorem dX9_call_183 : decode cX9_call 183 = .ok (.iadd, 1) := by decide +kernel
theorem dX9_call_184 : decode cX9_call 184 = .ok (.iload 4, 2) := by decide +kernel
theorem dX9_call_186 : decode cX9_call 186 = .ok (.bipush 12, 2) := by decide +kernel
theorem dX9_call_188 : decode cX9_call 188 = .ok (.if_icmp .ne 8, 3) := by decide +kernel
theorem dX9_call_191 : decode cX9_call 191 = .ok (.bipush 10, 2) := by decide +kernel
theorem dX9_call_193 : decode cX9_call 193 = .ok (.goto 4, 3) := by decide +kernel
theorem dX9_call_196 : decode cX9_call 196 = .ok (.iconst 1, 1) := by decide +kernel
theorem dX9_call_197 : decode cX9_call 197 = .ok (.imul, 1) := by decide +kernel
theorem dX9_call_198 : decode cX9_call 198 = .ok (.ireturn, 1) := by decide +kernel
theorem dX9_call_199 : decode cX9_call 199 = .ok (.sipush 1000, 3) := by decide +kernel
theorem dX9_call_202 : decode cX9_call 202 = .ok (.iload 5, 2) := by decide +kernel
theorem dX9_call_204 : decode cX9_call 204 = .ok (.iadd, 1) := by decide +kernel
theorem dX9_call_205 : decode cX9_call 205 = .ok (.iload 4, 2) := by decide +kernel
theorem dX9_call_207 : decode cX9_call 207 = .ok (.bipush 10, 2) := by decide +kernel
theorem dX9_call_209 : decode cX9_call 209 = .ok (.if_icmp .ne 7, 3) := by decide +kernel
theorem dX9_call_212 : decode cX9_call 212 = .ok (.iconst 0, 1) := by decide +kernel
theorem dX9_call_213 : decode cX9_call 213 = .ok (.goto 17, 3) := by decide +kernel
theorem dX9_call_216 : decode cX9_call 216 = .ok (.iload 4, 2) := by decide +kernel
theorem dX9_call_218 : decode cX9_call 218 = .ok (.bipush 11, 2) := by decide +kernel
theorem dX9_call_220 : decode cX9_call 220 = .ok (.if_icmp .ne 8, 3) := by decide +kernel
theorem dX9_call_223 : decode cX9_call 223 = .ok (.bipush 20, 2) := by decide +kernel
theorem dX9_call_225 : decode cX9_call 225 = .ok (.goto 5, 3) := by decide +kernel
theorem dX9_call_228 : decode cX9_call 228 = .ok (.bipush 23, 2) := by decide +kernel
theorem dX9_call_230 : decode cX9_call 230 = .ok (.iadd, 1) := by decide +kernel
theorem dX9_call_231 : decode cX9_call 231 = .ok (.ireturn, 1) := by decide +kernel
theorem dX9_call_232 : decode cX9_call 232 = .ok (.iload 6, 2) := by decide +kernel
theorem dX9_call_234 : decode cX9_call 234 = .ok (.iconst 5, 1) := by decide +kernel
theorem dX9_call_235 : decode cX9_call 235 = .ok (.irem, 1) := by decide +kernel
theorem dX9_call_236 : decode cX9_call 236 = .ok (.ireturn, 1) := by decide +kernel
theorem dX9_call_237 : decode cX9_call 237 = .ok (.iload 6, 2) := by decide +kernel
theorem dX9_call_239 : decode cX9_call 239 = .ok (.ifCond .ge 12, 3) := by decide +kernel
theorem dX9_call_242 : decode cX9_call 242 = .ok (.aload_n 0, 1) := by decide +kernel
theorem dX9_call_243 : decode cX9_call 243 = .ok (.bipush 7, 2) := by decide +kernel
theorem dX9_call_245 : decode cX9_call 245 = .ok (.invokevirtual 83, 3) := by decide +kernel
theorem dX9_call_248 : decode cX9_call 248 = .ok (.goto 5, 3) := by decide +kernel
theorem dX9_call_251 : decode cX9_call 251 = .ok (.iload 6, 2) := by decide +kernel
theorem dX9_call_253 : decode cX9_call 253 = .ok (.ireturn, 1) := by decide +kernel
theorem dX9_call_254 : decode cX9_call 254 = .ok (.iload 5, 2) := by decide +kernel
theorem dX9_call_256 : decode cX9_call 256 = .ok (.ifCond .ne 12, 3) := by decide +kernel
theorem dX9_call_259 : decode cX9_call 259 = .ok (.aload_n 0, 1) := by decide +kernel
theorem dX9_call_260 : decode cX9_call 260 = .ok (.bipush 6, 2) := by decide +kernel
theorem dX9_call_262 : decode cX9_call 262 = .ok (.invokevirtual 83, 3) := by decide +kernel
theorem dX9_call_265 : decode cX9_call 265 = .ok (.goto 9, 3) := by decide +kernel
theorem dX9_call_268 : decode cX9_call 268 = .ok (.sipush 1000, 3) := by decide +kernel
theorem dX9_call_271 : decode cX9_call 271 = .ok (.iload 5, 2) := by decide +kernel
theorem dX9_call_273 : decode cX9_call 273 = .ok (.idiv, 1) := by decide +kernel
theorem dX9_call_274 : decode cX9_call 274 = .ok (.ireturn, 1) := by decide +kernel
set_option maxRecDepth 20000 in
theorem ggX9_divide_X9_begin : GoodIn wsX9_divide wsX9_begin := goodIn_r _ [5, 6, 15, 16, 17, 18, 19, 20, 21, 22, 23, 24, 25, 26] rfl (by decide +kernel)
set_option maxRecDepth 20000 in
theorem gX9_divide_X9_begin : GoodIn wsX9_divide (wsV RX9 76 RX9 yX9_begin wsX9_begin) := goodIn_app (goodIn_of _ (by decide +kernel)) ggX9_divide_X9_begin
set_option maxRecDepth 20000 in
theorem ggX9_divide_X9_in : GoodIn wsX9_divide wsX9_in := goodIn_r _ [9] rfl (by decide +kernel)
set_option maxRecDepth 20000 in
theorem gX9_divide_X9_in : GoodIn wsX9_divide (va_wsS RX9 59 yX9_in wsX9_in) := goodIn_app (goodIn_of _ (by decide +kernel)) ggX9_divide_X9_in
set_option maxRecDepth 20000 in
theorem ggX9_divide_X9_fails : GoodIn wsX9_divide wsX9_fails := goodIn_r _ [13, 6, 14, 15, 16, 17, 18, 19, 20, 21, 22, 23, 24, 25, 26] rfl (by decide +kernel)
set_option maxRecDepth 20000 in
theorem gX9_divide_X9_fails : GoodIn wsX9_divide (wsV RX9 83 RX9 yX9_fails wsX9_fails) := goodIn_app (goodIn_of _ (by decide +kernel)) ggX9_divide_X9_fails
theorem dX9_divide_0 : decode cX9_divide 0 = .ok (.aload_n 0, 1) := by decide +kernel
theorem dX9_divide_1 : decode cX9_divide 1 = .ok (.invokevirtual 76, 3) := by decide +kernel
theorem dX9_divide_4 : decode cX9_divide 4 = .ok (.iload_n 1, 1) := by decide +kernel
theorem dX9_divide_5 : decode cX9_divide 5 = .ok (.iconst 0, 1) := by decide +kernel
theorem dX9_divide_6 : decode cX9_divide 6 = .ok (.iconst 3, 1) := by decide +kernel
theorem dX9_divide_7 : decode cX9_divide 7 = .ok (.invokestatic 59, 3) := by decide +kernel
theorem dX9_divide_10 : decode cX9_divide 10 = .ok (.ifCond .ne 11, 3) := by decide +kernel
theorem dX9_divide_13 : decode cX9_divide 13 = .ok (.aload_n 0, 1) := by decide +kernel
theorem dX9_divide_14 : decode cX9_divide 14 = .ok (.bipush 8, 2) := by decide +kernel
theorem dX9_divide_16 : decode cX9_divide 16 = .ok (.invokevirtual 83, 3) := by decide +kernel
theorem dX9_divide_19 : decode cX9_divide 19 = .ok (.i2l, 1) := by decide +kernel
theorem dX9_divide_20 : decode cX9_divide 20 = .ok (.lreturn, 1) := by decide +kernel
theorem dX9_divide_21 : decode cX9_divide 21 = .ok (.lload_n 2, 1) := by decide +kernel
theorem dX9_divide_22 : decode cX9_divide 22 = .ok (.l2i, 1) := by decide +kernel
theorem dX9_divide_23 : decode cX9_divide 23 = .ok (.istore 6, 2) := by decide +kernel
theorem dX9_divide_25 : decode cX9_divide 25 = .ok (.lload 4, 2) := by decide +kernel
theorem dX9_divide_27 : decode cX9_divide 27 = .ok (.l2i, 1) := by decide +kernel
theorem dX9_divide_28 : decode cX9_divide 28 = .ok (.istore 7, 2) := by decide +kernel
theorem dX9_divide_30 : decode cX9_divide 30 = .ok (.iload_n 1, 1) := by decide +kernel
theorem dX9_divide_31 : decode cX9_divide 31 = .ok (.iconst 2, 1) := by decide +kernel
theorem dX9_divide_32 : decode cX9_divide 32 = .ok (.if_icmp .ge 11, 3) := by decide +kernel
theorem dX9_divide_35 : decode cX9_divide 35 = .ok (.iload 7, 2) := by decide +kernel
theorem dX9_divide_37 : decode cX9_divide 37 = .ok (.ifCond .ne 21, 3) := by decide +kernel
theorem dX9_divide_40 : decode cX9_divide 40 = .ok (.goto 10, 3) := by decide +kernel
theorem dX9_divide_43 : decode cX9_divide 43 = .ok (.lload 4, 2) := by decide +kernel
theorem dX9_divide_45 : decode cX9_divide 45 = .ok (.lconst 0, 1) := by decide +kernel
theorem dX9_divide_46 : decode cX9_divide 46 = .ok (.lcmp, 1) := by decide +kernel
theorem dX9_divide_47 : decode cX9_divide 47 = .ok (.ifCond .ne 11, 3) := by decide +kernel
theorem dX9_divide_50 : decode cX9_divide 50 = .ok (.aload_n 0, 1) := by decide +kernel
theorem dX9_divide_51 : decode cX9_divide 51 = .ok (.bipush 6, 2) := by decide +kernel
theorem dX9_divide_53 : decode cX9_divide 53 = .ok (.invokevirtual 83, 3) := by decide +kernel
theorem dX9_divide_56 : decode cX9_divide 56 = .ok (.i2l, 1) := by decide +kernel
theorem dX9_divide_57 : decode cX9_divide 57 = .ok (.lreturn, 1) := by decide +kernel
theorem dX9_divide_58 : decode cX9_divide 58 = .ok (.iload_n 1, 1) := by decide +kernel
theorem dX9_divide_59 : decode cX9_divide 59 = .ok (.ifCond .ne 12, 3) := by decide +kernel
theorem dX9_divide_62 : decode cX9_divide 62 = .ok (.iload 6, 2) := by decide +kernel
theorem dX9_divide_64 : decode cX9_divide 64 = .ok (.iload 7, 2) := by decide +kernel
theorem dX9_divide_66 : decode cX9_divide 66 = .ok (.idiv, 1) := by decide +kernel
theorem dX9_divide_67 : decode cX9_divide 67 = .ok (.i2l, 1) := by decide +kernel
theorem dX9_divide_68 : decode cX9_divide 68 = .ok (.goto 33, 3) := by decide +kernel
theorem dX9_divide_71 : decode cX9_divide 71 = .ok (.iload_n 1, 1) := by decide +kernel
theorem dX9_divide_72 : decode cX9_divide 72 = .ok (.iconst 1, 1) := by decide +kernel
theorem dX9_divide_73 : decode cX9_divide 73 = .ok (.if_icmp .ne 12, 3) := by decide +kernel
theorem dX9_divide_76 : decode cX9_divide 76 = .ok (.iload 6, 2) := by decide +kernel
theorem dX9_divide_78 : decode cX9_divide 78 = .ok (.iload 7, 2) := by decide +kernel
theorem dX9_divide_80 : decode cX9_divide 80 = .ok (.irem, 1) := by decide +kernel
theorem dX9_divide_81 : decode cX9_divide 81 = .ok (.i2l, 1) := by decide +kernel
theorem dX9_divide_82 : decode cX9_divide 82 = .ok (.goto 19, 3) := by decide +kernel
theorem dX9_divide_85 : decode cX9_divide 85 = .ok (.iload_n 1, 1) := by decide +kernel
theorem dX9_divide_86 : decode cX9_divide 86 = .ok (.iconst 2, 1) := by decide +kernel
theorem dX9_divide_87 : decode cX9_divide 87 = .ok (.if_icmp .ne 10, 3) := by decide +kernel
theorem dX9_divide_90 : decode cX9_divide 90 = .ok (.lload_n 2, 1) := by decide +kernel
theorem dX9_divide_91 : decode cX9_divide 91 = .ok (.lload 4, 2) := by decide +kernel
theorem dX9_divide_93 : decode cX9_divide 93 = .ok (.ldiv, 1) := by decide +kernel
theorem dX9_divide_94 : decode cX9_divide 94 = .ok (.goto 7, 3) := by decide +kernel
theorem dX9_divide_97 : decode cX9_divide 97 = .ok (.lload_n 2, 1) := by decide +kernel
theorem dX9_divide_98 : decode cX9_divide 98 = .ok (.lload 4, 2) := by decide +kernel
theorem dX9_divide_100 : decode cX9_divide 100 = .ok (.lrem, 1) := by decide +kernel
theorem dX9_divide_101 : decode cX9_divide 101 = .ok (.lreturn, 1) := by decide +kernel
theorem dX9_isEndless_0 : decode cX9_isEndless 0 = .ok (.dload_n 0, 1) := by decide +kernel
theorem dX9_isEndless_1 : decode cX9_isEndless 1 = .ok (.ldc2_w 147, 3) := by decide +kernel
theorem dX9_isEndless_4 : decode cX9_isEndless 4 = .ok (.dcmp .l, 1) := by decide +kernel
theorem dX9_isEndless_5 : decode cX9_isEndless 5 = .ok (.ifCond .gt 11, 3) := by decide +kernel
theorem dX9_isEndless_8 : decode cX9_isEndless 8 = .ok (.dload_n 0, 1) := by decide +kernel
theorem dX9_isEndless_9 : decode cX9_isEndless 9 = .ok (.ldc2_w 149, 3) := by decide +kernel
theorem dX9_isEndless_12 : decode cX9_isEndless 12 = .ok (.dcmp .g, 1) := by decide +kernel
theorem dX9_isEndless_13 : decode cX9_isEndless 13 = .ok (.ifCond .ge 7, 3) := by decide +kernel
theorem dX9_isEndless_16 : decode cX9_isEndless 16 = .ok (.iconst 1, 1) := by decide +kernel
theorem dX9_isEndless_17 : decode cX9_isEndless 17 = .ok (.goto 4, 3) := by decide +kernel
theorem dX9_isEndless_20 : decode cX9_isEndless 20 = .ok (.iconst 0, 1) := by decide +kernel
theorem dX9_isEndless_21 : decode cX9_isEndless 21 = .ok (.ireturn, 1) := by decide +kernel
set_option maxRecDepth 20000 in
theorem ggX9_sumOf_X9_isEndless : GoodIn wsX9_sumOf wsX9_isEndless := goodIn_r _ [5, 6, 7] rfl (by decide +kernel)
set_option maxRecDepth 20000 in
theorem gX9_sumOf_X9_isEndless : GoodIn wsX9_sumOf (va_wsS RX9 151 yX9_isEndless wsX9_isEndless) := goodIn_app (goodIn_of _ (by decide +kernel)) ggX9_sumOf_X9_isEndless
theorem dX9_sumOf_0 : decode cX9_sumOf 0 = .ok (.dload_n 0, 1) := by decide +kernel
theorem dX9_sumOf_1 : decode cX9_sumOf 1 = .ok (.dload_n 0, 1) := by decide +kernel
theorem dX9_sumOf_2 : decode cX9_sumOf 2 = .ok (.dcmp .l, 1) := by decide +kernel
theorem dX9_sumOf_3 : decode cX9_sumOf 3 = .ok (.ifCond .ne 29, 3) := by decide +kernel
theorem dX9_sumOf_6 : decode cX9_sumOf 6 = .ok (.dload_n 2, 1) := by decide +kernel
theorem dX9_sumOf_7 : decode cX9_sumOf 7 = .ok (.dload_n 2, 1) := by decide +kernel
theorem dX9_sumOf_8 : decode cX9_sumOf 8 = .ok (.dcmp .l, 1) := by decide +kernel
theorem dX9_sumOf_9 : decode cX9_sumOf 9 = .ok (.ifCond .ne 23, 3) := by decide +kernel
theorem dX9_sumOf_12 : decode cX9_sumOf 12 = .ok (.dload_n 0, 1) := by decide +kernel
theorem dX9_sumOf_13 : decode cX9_sumOf 13 = .ok (.invokestatic 151, 3) := by decide +kernel
theorem dX9_sumOf_16 : decode cX9_sumOf 16 = .ok (.ifCond .eq 22, 3) := by decide +kernel
theorem dX9_sumOf_19 : decode cX9_sumOf 19 = .ok (.dload_n 2, 1) := by decide +kernel
theorem dX9_sumOf_20 : decode cX9_sumOf 20 = .ok (.invokestatic 151, 3) := by decide +kernel
theorem dX9_sumOf_23 : decode cX9_sumOf 23 = .ok (.ifCond .eq 15, 3) := by decide +kernel
theorem dX9_sumOf_26 : decode cX9_sumOf 26 = .ok (.dload_n 0, 1) := by decide +kernel
theorem dX9_sumOf_27 : decode cX9_sumOf 27 = .ok (.dload_n 2, 1) := by decide +kernel
theorem dX9_sumOf_28 : decode cX9_sumOf 28 = .ok (.dcmp .l, 1) := by decide +kernel
theorem dX9_sumOf_29 : decode cX9_sumOf 29 = .ok (.ifCond .eq 9, 3) := by decide +kernel
theorem dX9_sumOf_32 : decode cX9_sumOf 32 = .ok (.ldc2_w 44, 3) := by decide +kernel
theorem dX9_sumOf_35 : decode cX9_sumOf 35 = .ok (.goto 6, 3) := by decide +kernel
theorem dX9_sumOf_38 : decode cX9_sumOf 38 = .ok (.dload_n 0, 1) := by decide +kernel
theorem dX9_sumOf_39 : decode cX9_sumOf 39 = .ok (.dload_n 2, 1) := by decide +kernel
theorem dX9_sumOf_40 : decode cX9_sumOf 40 = .ok (.dadd, 1) := by decide +kernel
theorem dX9_sumOf_41 : decode cX9_sumOf 41 = .ok (.dreturn, 1) := by decide +kernel
set_option maxRecDepth 20000 in
theorem ggX9_lessOf_X9_isEndless : GoodIn wsX9_lessOf wsX9_isEndless := goodIn_r _ [5, 6, 7] rfl (by decide +kernel)
set_option maxRecDepth 20000 in
theorem gX9_lessOf_X9_isEndless : GoodIn wsX9_lessOf (va_wsS RX9 151 yX9_isEndless wsX9_isEndless) := goodIn_app (goodIn_of _ (by decide +kernel)) ggX9_lessOf_X9_isEndless
theorem dX9_lessOf_0 : decode cX9_lessOf 0 = .ok (.dload_n 0, 1) := by decide +kernel
theorem dX9_lessOf_1 : decode cX9_lessOf 1 = .ok (.dload_n 0, 1) := by decide +kernel
theorem dX9_lessOf_2 : decode cX9_lessOf 2 = .ok (.dcmp .l, 1) := by decide +kernel
theorem dX9_lessOf_3 : decode cX9_lessOf 3 = .ok (.ifCond .ne 22, 3) := by decide +kernel
theorem dX9_lessOf_6 : decode cX9_lessOf 6 = .ok (.dload_n 2, 1) := by decide +kernel
theorem dX9_lessOf_7 : decode cX9_lessOf 7 = .ok (.dload_n 2, 1) := by decide +kernel
theorem dX9_lessOf_8 : decode cX9_lessOf 8 = .ok (.dcmp .l, 1) := by decide +kernel
theorem dX9_lessOf_9 : decode cX9_lessOf 9 = .ok (.ifCond .ne 16, 3) := by decide +kernel
theorem dX9_lessOf_12 : decode cX9_lessOf 12 = .ok (.dload_n 0, 1) := by decide +kernel
theorem dX9_lessOf_13 : decode cX9_lessOf 13 = .ok (.invokestatic 151, 3) := by decide +kernel
theorem dX9_lessOf_16 : decode cX9_lessOf 16 = .ok (.ifCond .eq 15, 3) := by decide +kernel
theorem dX9_lessOf_19 : decode cX9_lessOf 19 = .ok (.dload_n 0, 1) := by decide +kernel
theorem dX9_lessOf_20 : decode cX9_lessOf 20 = .ok (.dload_n 2, 1) := by decide +kernel
theorem dX9_lessOf_21 : decode cX9_lessOf 21 = .ok (.dcmp .l, 1) := by decide +kernel
theorem dX9_lessOf_22 : decode cX9_lessOf 22 = .ok (.ifCond .ne 9, 3) := by decide +kernel
theorem dX9_lessOf_25 : decode cX9_lessOf 25 = .ok (.ldc2_w 44, 3) := by decide +kernel
theorem dX9_lessOf_28 : decode cX9_lessOf 28 = .ok (.goto 6, 3) := by decide +kernel
theorem dX9_lessOf_31 : decode cX9_lessOf 31 = .ok (.dload_n 0, 1) := by decide +kernel
theorem dX9_lessOf_32 : decode cX9_lessOf 32 = .ok (.dload_n 2, 1) := by decide +kernel
theorem dX9_lessOf_33 : decode cX9_lessOf 33 = .ok (.dsub, 1) := by decide +kernel
theorem dX9_lessOf_34 : decode cX9_lessOf 34 = .ok (.dreturn, 1) := by decide +kernel
set_option maxRecDepth 20000 in
theorem ggX9_timesOf_X9_isEndless : GoodIn wsX9_timesOf wsX9_isEndless := goodIn_r _ [5, 6, 7] rfl (by decide +kernel)
set_option maxRecDepth 20000 in
theorem gX9_timesOf_X9_isEndless : GoodIn wsX9_timesOf (va_wsS RX9 151 yX9_isEndless wsX9_isEndless) := goodIn_app (goodIn_of _ (by decide +kernel)) ggX9_timesOf_X9_isEndless
theorem dX9_timesOf_0 : decode cX9_timesOf 0 = .ok (.dload_n 0, 1) := by decide +kernel
theorem dX9_timesOf_1 : decode cX9_timesOf 1 = .ok (.dload_n 0, 1) := by decide +kernel
theorem dX9_timesOf_2 : decode cX9_timesOf 2 = .ok (.dcmp .l, 1) := by decide +kernel
theorem dX9_timesOf_3 : decode cX9_timesOf 3 = .ok (.ifCond .ne 35, 3) := by decide +kernel
theorem dX9_timesOf_6 : decode cX9_timesOf 6 = .ok (.dload_n 2, 1) := by decide +kernel
theorem dX9_timesOf_7 : decode cX9_timesOf 7 = .ok (.dload_n 2, 1) := by decide +kernel
theorem dX9_timesOf_8 : decode cX9_timesOf 8 = .ok (.dcmp .l, 1) := by decide +kernel
theorem dX9_timesOf_9 : decode cX9_timesOf 9 = .ok (.ifCond .ne 29, 3) := by decide +kernel
theorem dX9_timesOf_12 : decode cX9_timesOf 12 = .ok (.dload_n 0, 1) := by decide +kernel
theorem dX9_timesOf_13 : decode cX9_timesOf 13 = .ok (.dconst 0, 1) := by decide +kernel
theorem dX9_timesOf_14 : decode cX9_timesOf 14 = .ok (.dcmp .l, 1) := by decide +kernel
theorem dX9_timesOf_15 : decode cX9_timesOf 15 = .ok (.ifCond .ne 10, 3) := by decide +kernel
theorem dX9_timesOf_18 : decode cX9_timesOf 18 = .ok (.dload_n 2, 1) := by decide +kernel
theorem dX9_timesOf_19 : decode cX9_timesOf 19 = .ok (.invokestatic 151, 3) := by decide +kernel
theorem dX9_timesOf_22 : decode cX9_timesOf 22 = .ok (.ifCond .ne 16, 3) := by decide +kernel
theorem dX9_timesOf_25 : decode cX9_timesOf 25 = .ok (.dload_n 2, 1) := by decide +kernel
theorem dX9_timesOf_26 : decode cX9_timesOf 26 = .ok (.dconst 0, 1) := by decide +kernel
theorem dX9_timesOf_27 : decode cX9_timesOf 27 = .ok (.dcmp .l, 1) := by decide +kernel
theorem dX9_timesOf_28 : decode cX9_timesOf 28 = .ok (.ifCond .ne 16, 3) := by decide +kernel
theorem dX9_timesOf_31 : decode cX9_timesOf 31 = .ok (.dload_n 0, 1) := by decide +kernel
theorem dX9_timesOf_32 : decode cX9_timesOf 32 = .ok (.invokestatic 151, 3) := by decide +kernel
theorem dX9_timesOf_35 : decode cX9_timesOf 35 = .ok (.ifCond .eq 9, 3) := by decide +kernel
theorem dX9_timesOf_38 : decode cX9_timesOf 38 = .ok (.ldc2_w 44, 3) := by decide +kernel
theorem dX9_timesOf_41 : decode cX9_timesOf 41 = .ok (.goto 6, 3) := by decide +kernel
theorem dX9_timesOf_44 : decode cX9_timesOf 44 = .ok (.dload_n 0, 1) := by decide +kernel
theorem dX9_timesOf_45 : decode cX9_timesOf 45 = .ok (.dload_n 2, 1) := by decide +kernel
theorem dX9_timesOf_46 : decode cX9_timesOf 46 = .ok (.dmul, 1) := by decide +kernel
theorem dX9_timesOf_47 : decode cX9_timesOf 47 = .ok (.dreturn, 1) := by decide +kernel
set_option maxRecDepth 20000 in
theorem ggX9_overOf_X9_isEndless : GoodIn wsX9_overOf wsX9_isEndless := goodIn_r _ [5, 6, 7] rfl (by decide +kernel)
set_option maxRecDepth 20000 in
theorem gX9_overOf_X9_isEndless : GoodIn wsX9_overOf (va_wsS RX9 151 yX9_isEndless wsX9_isEndless) := goodIn_app (goodIn_of _ (by decide +kernel)) ggX9_overOf_X9_isEndless
theorem dX9_overOf_0 : decode cX9_overOf 0 = .ok (.dload_n 0, 1) := by decide +kernel
theorem dX9_overOf_1 : decode cX9_overOf 1 = .ok (.dload_n 0, 1) := by decide +kernel
theorem dX9_overOf_2 : decode cX9_overOf 2 = .ok (.dcmp .l, 1) := by decide +kernel
theorem dX9_overOf_3 : decode cX9_overOf 3 = .ok (.ifCond .ne 35, 3) := by decide +kernel
theorem dX9_overOf_6 : decode cX9_overOf 6 = .ok (.dload_n 2, 1) := by decide +kernel
theorem dX9_overOf_7 : decode cX9_overOf 7 = .ok (.dload_n 2, 1) := by decide +kernel
theorem dX9_overOf_8 : decode cX9_overOf 8 = .ok (.dcmp .l, 1) := by decide +kernel
theorem dX9_overOf_9 : decode cX9_overOf 9 = .ok (.ifCond .ne 29, 3) := by decide +kernel
theorem dX9_overOf_12 : decode cX9_overOf 12 = .ok (.dload_n 0, 1) := by decide +kernel
theorem dX9_overOf_13 : decode cX9_overOf 13 = .ok (.dconst 0, 1) := by decide +kernel
theorem dX9_overOf_14 : decode cX9_overOf 14 = .ok (.dcmp .l, 1) := by decide +kernel
theorem dX9_overOf_15 : decode cX9_overOf 15 = .ok (.ifCond .ne 9, 3) := by decide +kernel
theorem dX9_overOf_18 : decode cX9_overOf 18 = .ok (.dload_n 2, 1) := by decide +kernel
theorem dX9_overOf_19 : decode cX9_overOf 19 = .ok (.dconst 0, 1) := by decide +kernel
theorem dX9_overOf_20 : decode cX9_overOf 20 = .ok (.dcmp .l, 1) := by decide +kernel
theorem dX9_overOf_21 : decode cX9_overOf 21 = .ok (.ifCond .eq 17, 3) := by decide +kernel
theorem dX9_overOf_24 : decode cX9_overOf 24 = .ok (.dload_n 0, 1) := by decide +kernel
theorem dX9_overOf_25 : decode cX9_overOf 25 = .ok (.invokestatic 151, 3) := by decide +kernel
theorem dX9_overOf_28 : decode cX9_overOf 28 = .ok (.ifCond .eq 16, 3) := by decide +kernel
theorem dX9_overOf_31 : decode cX9_overOf 31 = .ok (.dload_n 2, 1) := by decide +kernel
theorem dX9_overOf_32 : decode cX9_overOf 32 = .ok (.invokestatic 151, 3) := by decide +kernel
theorem dX9_overOf_35 : decode cX9_overOf 35 = .ok (.ifCond .eq 9, 3) := by decide +kernel
theorem dX9_overOf_38 : decode cX9_overOf 38 = .ok (.ldc2_w 44, 3) := by decide +kernel
theorem dX9_overOf_41 : decode cX9_overOf 41 = .ok (.goto 6, 3) := by decide +kernel
theorem dX9_overOf_44 : decode cX9_overOf 44 = .ok (.dload_n 0, 1) := by decide +kernel
theorem dX9_overOf_45 : decode cX9_overOf 45 = .ok (.dload_n 2, 1) := by decide +kernel
theorem dX9_overOf_46 : decode cX9_overOf 46 = .ok (.ddiv, 1) := by decide +kernel
theorem dX9_overOf_47 : decode cX9_overOf 47 = .ok (.dreturn, 1) := by decide +kernel
set_option maxRecDepth 20000 in
theorem ggX9_wide_X9_singleBits : GoodIn wsX9_wide wsX9_singleBits := goodIn_r _ [5, 6, 7, 8, 9, 10, 11, 12] rfl (by decide +kernel)
set_option maxRecDepth 20000 in
theorem gX9_wide_X9_singleBits : GoodIn wsX9_wide (va_wsS RX9 106 yX9_singleBits wsX9_singleBits) := goodIn_app (goodIn_of _ (by decide +kernel)) ggX9_wide_X9_singleBits
theorem dX9_wide_0 : decode cX9_wide 0 = .ok (.iload_n 0, 1) := by decide +kernel
theorem dX9_wide_1 : decode cX9_wide 1 = .ok (.invokestatic 106, 3) := by decide +kernel
theorem dX9_wide_4 : decode cX9_wide 4 = .ok (.fstore_n 1, 1) := by decide +kernel
theorem dX9_wide_5 : decode cX9_wide 5 = .ok (.fload_n 1, 1) := by decide +kernel
theorem dX9_wide_6 : decode cX9_wide 6 = .ok (.fload_n 1, 1) := by decide +kernel
theorem dX9_wide_7 : decode cX9_wide 7 = .ok (.fcmp .l, 1) := by decide +kernel
theorem dX9_wide_8 : decode cX9_wide 8 = .ok (.ifCond .eq 9, 3) := by decide +kernel
theorem dX9_wide_11 : decode cX9_wide 11 = .ok (.ldc2_w 44, 3) := by decide +kernel
theorem dX9_wide_14 : decode cX9_wide 14 = .ok (.goto 5, 3) := by decide +kernel
theorem dX9_wide_17 : decode cX9_wide 17 = .ok (.fload_n 1, 1) := by decide +kernel
theorem dX9_wide_18 : decode cX9_wide 18 = .ok (.f2d, 1) := by decide +kernel
theorem dX9_wide_19 : decode cX9_wide 19 = .ok (.dreturn, 1) := by decide +kernel
set_option maxRecDepth 20000 in
theorem ggX9_real_X9_begin : GoodIn wsX9_real wsX9_begin := goodIn_r _ [9, 10, 58, 59, 60, 61, 62, 63, 64, 65, 66, 67, 68, 69] rfl (by decide +kernel)
set_option maxRecDepth 20000 in
theorem gX9_real_X9_begin : GoodIn wsX9_real (wsV RX9 76 RX9 yX9_begin wsX9_begin) := goodIn_app (goodIn_of _ (by decide +kernel)) ggX9_real_X9_begin
set_option maxRecDepth 20000 in
theorem ggX9_real_X9_in : GoodIn wsX9_real wsX9_in := goodIn_r _ [13] rfl (by decide +kernel)
set_option maxRecDepth 20000 in
theorem gX9_real_X9_in : GoodIn wsX9_real (va_wsS RX9 59 yX9_in wsX9_in) := goodIn_app (goodIn_of _ (by decide +kernel)) ggX9_real_X9_in
set_option maxRecDepth 20000 in
theorem ggX9_real_X9_fails : GoodIn wsX9_real wsX9_fails := goodIn_r _ [17, 10, 18, 58, 59, 60, 61, 62, 63, 64, 65, 66, 67, 68, 69] rfl (by decide +kernel)
set_option maxRecDepth 20000 in
theorem gX9_real_X9_fails : GoodIn wsX9_real (wsV RX9 83 RX9 yX9_fails wsX9_fails) := goodIn_app (goodIn_of _ (by decide +kernel)) ggX9_real_X9_fails
set_option maxRecDepth 20000 in
theorem ggX9_real_X9_realBits : GoodIn wsX9_real wsX9_realBits := goodIn_r _ [21, 3, 22, 1, 23, 24, 25, 26] rfl (by decide +kernel)
set_option maxRecDepth 20000 in
theorem gX9_real_X9_realBits : GoodIn wsX9_real (va_wsS RX9 113 yX9_realBits wsX9_realBits) := goodIn_app (goodIn_of _ (by decide +kernel)) ggX9_real_X9_realBits
set_option maxRecDepth 20000 in
theorem ggX9_real_X9_sumOf : GoodIn wsX9_real wsX9_sumOf := goodIn_r _ [29, 1, 30, 31, 8, 32, 33, 34] rfl (by decide +kernel)
set_option maxRecDepth 20000 in
theorem gX9_real_X9_sumOf : GoodIn wsX9_real (va_wsS RX9 155 yX9_sumOf wsX9_sumOf) := goodIn_app (goodIn_of _ (by decide +kernel)) ggX9_real_X9_sumOf
set_option maxRecDepth 20000 in
theorem ggX9_real_X9_doubleBits : GoodIn wsX9_real wsX9_doubleBits := goodIn_r _ [37, 2, 38, 39, 40, 41, 42, 43, 44, 26, 45, 46, 47, 48] rfl (by decide +kernel)
set_option maxRecDepth 20000 in
theorem gX9_real_X9_doubleBits : GoodIn wsX9_real (va_wsS RX9 116 yX9_doubleBits wsX9_doubleBits) := goodIn_app (goodIn_of _ (by decide +kernel)) ggX9_real_X9_doubleBits
set_option maxRecDepth 20000 in
theorem ggX9_real_X9_lessOf : GoodIn wsX9_real wsX9_lessOf := goodIn_r _ [51, 1, 30, 31, 8, 32, 33, 34] rfl (by decide +kernel)
set_option maxRecDepth 20000 in
theorem gX9_real_X9_lessOf : GoodIn wsX9_real (va_wsS RX9 159 yX9_lessOf wsX9_lessOf) := goodIn_app (goodIn_of _ (by decide +kernel)) ggX9_real_X9_lessOf
set_option maxRecDepth 20000 in
theorem ggX9_real_X9_timesOf : GoodIn wsX9_real wsX9_timesOf := goodIn_r _ [54, 1, 30, 31, 8, 32, 33, 34] rfl (by decide +kernel)
set_option maxRecDepth 20000 in
theorem gX9_real_X9_timesOf : GoodIn wsX9_real (va_wsS RX9 162 yX9_timesOf wsX9_timesOf) := goodIn_app (goodIn_of _ (by decide +kernel)) ggX9_real_X9_timesOf
set_option maxRecDepth 20000 in
theorem ggX9_real_X9_overOf : GoodIn wsX9_real wsX9_overOf := goodIn_r _ [57, 1, 30, 31, 8, 32, 33, 34] rfl (by decide +kernel)
set_option maxRecDepth 20000 in
theorem gX9_real_X9_overOf : GoodIn wsX9_real (va_wsS RX9 165 yX9_overOf wsX9_overOf) := goodIn_app (goodIn_of _ (by decide +kernel)) ggX9_real_X9_overOf
set_option maxRecDepth 20000 in
theorem ggX9_real_X9_isEndless : GoodIn wsX9_real wsX9_isEndless := goodIn_r _ [32, 33, 34] rfl (by decide +kernel)
set_option maxRecDepth 20000 in
theorem gX9_real_X9_isEndless : GoodIn wsX9_real (va_wsS RX9 151 yX9_isEndless wsX9_isEndless) := goodIn_app (goodIn_of _ (by decide +kernel)) ggX9_real_X9_isEndless
theorem dX9_real_0 : decode cX9_real 0 = .ok (.aload_n 0, 1) := by decide +kernel
theorem dX9_real_1 : decode cX9_real 1 = .ok (.invokevirtual 76, 3) := by decide +kernel
theorem dX9_real_4 : decode cX9_real 4 = .ok (.iload_n 1, 1) := by decide +kernel
theorem dX9_real_5 : decode cX9_real 5 = .ok (.iconst 0, 1) := by decide +kernel
theorem dX9_real_6 : decode cX9_real 6 = .ok (.bipush 7, 2) := by decide +kernel
theorem dX9_real_8 : decode cX9_real 8 = .ok (.invokestatic 59, 3) := by decide +kernel
theorem dX9_real_11 : decode cX9_real 11 = .ok (.ifCond .ne 11, 3) := by decide +kernel
theorem dX9_real_14 : decode cX9_real 14 = .ok (.aload_n 0, 1) := by decide +kernel
theorem dX9_real_15 : decode cX9_real 15 = .ok (.bipush 8, 2) := by decide +kernel
theorem dX9_real_17 : decode cX9_real 17 = .ok (.invokevirtual 83, 3) := by decide +kernel
theorem dX9_real_20 : decode cX9_real 20 = .ok (.i2l, 1) := by decide +kernel
theorem dX9_real_21 : decode cX9_real 21 = .ok (.lreturn, 1) := by decide +kernel
theorem dX9_real_22 : decode cX9_real 22 = .ok (.lload_n 2, 1) := by decide +kernel
theorem dX9_real_23 : decode cX9_real 23 = .ok (.invokestatic 113, 3) := by decide +kernel
theorem dX9_real_26 : decode cX9_real 26 = .ok (.dstore 6, 2) := by decide +kernel
theorem dX9_real_28 : decode cX9_real 28 = .ok (.lload 4, 2) := by decide +kernel
theorem dX9_real_30 : decode cX9_real 30 = .ok (.invokestatic 113, 3) := by decide +kernel
theorem dX9_real_33 : decode cX9_real 33 = .ok (.dstore 8, 2) := by decide +kernel
theorem dX9_real_35 : decode cX9_real 35 = .ok (.iload_n 1, 1) := by decide +kernel
theorem dX9_real_36 : decode cX9_real 36 = .ok (.tableswitch 236 0 6 #[44, 55, 66, 77, 88, 134, 185], 44) := by decide +kernel
theorem dX9_real_80 : decode cX9_real 80 = .ok (.dload 6, 2) := by decide +kernel
theorem dX9_real_82 : decode cX9_real 82 = .ok (.dload 8, 2) := by decide +kernel
theorem dX9_real_84 : decode cX9_real 84 = .ok (.invokestatic 155, 3) := by decide +kernel
theorem dX9_real_87 : decode cX9_real 87 = .ok (.invokestatic 116, 3) := by decide +kernel
theorem dX9_real_90 : decode cX9_real 90 = .ok (.lreturn, 1) := by decide +kernel
theorem dX9_real_91 : decode cX9_real 91 = .ok (.dload 6, 2) := by decide +kernel
theorem dX9_real_93 : decode cX9_real 93 = .ok (.dload 8, 2) := by decide +kernel
theorem dX9_real_95 : decode cX9_real 95 = .ok (.invokestatic 159, 3) := by decide +kernel
theorem dX9_real_98 : decode cX9_real 98 = .ok (.invokestatic 116, 3) := by decide +kernel
theorem dX9_real_101 : decode cX9_real 101 = .ok (.lreturn, 1) := by decide +kernel
theorem dX9_real_102 : decode cX9_real 102 = .ok (.dload 6, 2) := by decide +kernel
theorem dX9_real_104 : decode cX9_real 104 = .ok (.dload 8, 2) := by decide +kernel
theorem dX9_real_106 : decode cX9_real 106 = .ok (.invokestatic 162, 3) := by decide +kernel
theorem dX9_real_109 : decode cX9_real 109 = .ok (.invokestatic 116, 3) := by decide +kernel
theorem dX9_real_112 : decode cX9_real 112 = .ok (.lreturn, 1) := by decide +kernel
theorem dX9_real_113 : decode cX9_real 113 = .ok (.dload 6, 2) := by decide +kernel
theorem dX9_real_115 : decode cX9_real 115 = .ok (.dload 8, 2) := by decide +kernel
theorem dX9_real_117 : decode cX9_real 117 = .ok (.invokestatic 165, 3) := by decide +kernel
theorem dX9_real_120 : decode cX9_real 120 = .ok (.invokestatic 116, 3) := by decide +kernel
theorem dX9_real_123 : decode cX9_real 123 = .ok (.lreturn, 1) := by decide +kernel
theorem dX9_real_124 : decode cX9_real 124 = .ok (.dload 6, 2) := by decide +kernel
theorem dX9_real_126 : decode cX9_real 126 = .ok (.dload 6, 2) := by decide +kernel
theorem dX9_real_128 : decode cX9_real 128 = .ok (.dcmp .l, 1) := by decide +kernel
theorem dX9_real_129 : decode cX9_real 129 = .ok (.ifCond .ne 26, 3) := by decide +kernel
theorem dX9_real_132 : decode cX9_real 132 = .ok (.dload 8, 2) := by decide +kernel
theorem dX9_real_134 : decode cX9_real 134 = .ok (.dload 8, 2) := by decide +kernel
theorem dX9_real_136 : decode cX9_real 136 = .ok (.dcmp .l, 1) := by decide +kernel
theorem dX9_real_137 : decode cX9_real 137 = .ok (.ifCond .ne 18, 3) := by decide +kernel
theorem dX9_real_140 : decode cX9_real 140 = .ok (.dload 8, 2) := by decide +kernel
theorem dX9_real_142 : decode cX9_real 142 = .ok (.dconst 0, 1) := by decide +kernel
theorem dX9_real_143 : decode cX9_real 143 = .ok (.dcmp .l, 1) := by decide +kernel
theorem dX9_real_144 : decode cX9_real 144 = .ok (.ifCond .eq 11, 3) := by decide +kernel
theorem dX9_real_147 : decode cX9_real 147 = .ok (.dload 6, 2) := by decide +kernel
theorem dX9_real_149 : decode cX9_real 149 = .ok (.invokestatic 151, 3) := by decide +kernel
theorem dX9_real_152 : decode cX9_real 152 = .ok (.ifCond .eq 9, 3) := by decide +kernel
theorem dX9_real_155 : decode cX9_real 155 = .ok (.ldc2_w 44, 3) := by decide +kernel
theorem dX9_real_158 : decode cX9_real 158 = .ok (.goto 8, 3) := by decide +kernel
theorem dX9_real_161 : decode cX9_real 161 = .ok (.dload 6, 2) := by decide +kernel
theorem dX9_real_163 : decode cX9_real 163 = .ok (.dload 8, 2) := by decide +kernel
theorem dX9_real_165 : decode cX9_real 165 = .ok (.drem, 1) := by decide +kernel
theorem dX9_real_166 : decode cX9_real 166 = .ok (.invokestatic 116, 3) := by decide +kernel
theorem dX9_real_169 : decode cX9_real 169 = .ok (.lreturn, 1) := by decide +kernel
theorem dX9_real_170 : decode cX9_real 170 = .ok (.dload 6, 2) := by decide +kernel
theorem dX9_real_172 : decode cX9_real 172 = .ok (.dload 6, 2) := by decide +kernel
theorem dX9_real_174 : decode cX9_real 174 = .ok (.dcmp .l, 1) := by decide +kernel
theorem dX9_real_175 : decode cX9_real 175 = .ok (.ifCond .ne 11, 3) := by decide +kernel
theorem dX9_real_178 : decode cX9_real 178 = .ok (.dload 8, 2) := by decide +kernel
theorem dX9_real_180 : decode cX9_real 180 = .ok (.dload 8, 2) := by decide +kernel
theorem dX9_real_182 : decode cX9_real 182 = .ok (.dcmp .l, 1) := by decide +kernel
theorem dX9_real_183 : decode cX9_real 183 = .ok (.ifCond .eq 9, 3) := by decide +kernel
theorem dX9_real_186 : decode cX9_real 186 = .ok (.ldc2_w 94, 3) := by decide +kernel
theorem dX9_real_189 : decode cX9_real 189 = .ok (.goto 31, 3) := by decide +kernel
theorem dX9_real_192 : decode cX9_real 192 = .ok (.dload 6, 2) := by decide +kernel
theorem dX9_real_194 : decode cX9_real 194 = .ok (.dload 8, 2) := by decide +kernel
theorem dX9_real_196 : decode cX9_real 196 = .ok (.dcmp .l, 1) := by decide +kernel
theorem dX9_real_197 : decode cX9_real 197 = .ok (.ifCond .gt 17, 3) := by decide +kernel
theorem dX9_real_200 : decode cX9_real 200 = .ok (.dload 6, 2) := by decide +kernel
theorem dX9_real_202 : decode cX9_real 202 = .ok (.dload 8, 2) := by decide +kernel
theorem dX9_real_204 : decode cX9_real 204 = .ok (.dcmp .l, 1) := by decide +kernel
theorem dX9_real_205 : decode cX9_real 205 = .ok (.ifCond .ne 13, 3) := by decide +kernel
theorem dX9_real_208 : decode cX9_real 208 = .ok (.lload_n 2, 1) := by decide +kernel
theorem dX9_real_209 : decode cX9_real 209 = .ok (.lconst 0, 1) := by decide +kernel
theorem dX9_real_210 : decode cX9_real 210 = .ok (.lcmp, 1) := by decide +kernel
theorem dX9_real_211 : decode cX9_real 211 = .ok (.ifCond .lt 7, 3) := by decide +kernel
theorem dX9_real_214 : decode cX9_real 214 = .ok (.lload_n 2, 1) := by decide +kernel
theorem dX9_real_215 : decode cX9_real 215 = .ok (.goto 5, 3) := by decide +kernel
theorem dX9_real_218 : decode cX9_real 218 = .ok (.lload 4, 2) := by decide +kernel
theorem dX9_real_220 : decode cX9_real 220 = .ok (.lreturn, 1) := by decide +kernel
theorem dX9_real_221 : decode cX9_real 221 = .ok (.dload 6, 2) := by decide +kernel
theorem dX9_real_223 : decode cX9_real 223 = .ok (.dload 6, 2) := by decide +kernel
theorem dX9_real_225 : decode cX9_real 225 = .ok (.dcmp .l, 1) := by decide +kernel
theorem dX9_real_226 : decode cX9_real 226 = .ok (.ifCond .ne 11, 3) := by decide +kernel
theorem dX9_real_229 : decode cX9_real 229 = .ok (.dload 8, 2) := by decide +kernel
theorem dX9_real_231 : decode cX9_real 231 = .ok (.dload 8, 2) := by decide +kernel
theorem dX9_real_233 : decode cX9_real 233 = .ok (.dcmp .l, 1) := by decide +kernel
theorem dX9_real_234 : decode cX9_real 234 = .ok (.ifCond .eq 9, 3) := by decide +kernel
theorem dX9_real_237 : decode cX9_real 237 = .ok (.ldc2_w 94, 3) := by decide +kernel
theorem dX9_real_240 : decode cX9_real 240 = .ok (.goto 31, 3) := by decide +kernel
theorem dX9_real_243 : decode cX9_real 243 = .ok (.dload 6, 2) := by decide +kernel
theorem dX9_real_245 : decode cX9_real 245 = .ok (.dload 8, 2) := by decide +kernel
theorem dX9_real_247 : decode cX9_real 247 = .ok (.dcmp .g, 1) := by decide +kernel
theorem dX9_real_248 : decode cX9_real 248 = .ok (.ifCond .lt 17, 3) := by decide +kernel
theorem dX9_real_251 : decode cX9_real 251 = .ok (.dload 6, 2) := by decide +kernel
theorem dX9_real_253 : decode cX9_real 253 = .ok (.dload 8, 2) := by decide +kernel
theorem dX9_real_255 : decode cX9_real 255 = .ok (.dcmp .l, 1) := by decide +kernel
theorem dX9_real_256 : decode cX9_real 256 = .ok (.ifCond .ne 13, 3) := by decide +kernel
theorem dX9_real_259 : decode cX9_real 259 = .ok (.lload_n 2, 1) := by decide +kernel
theorem dX9_real_260 : decode cX9_real 260 = .ok (.lconst 0, 1) := by decide +kernel
theorem dX9_real_261 : decode cX9_real 261 = .ok (.lcmp, 1) := by decide +kernel
theorem dX9_real_262 : decode cX9_real 262 = .ok (.ifCond .ge 7, 3) := by decide +kernel
theorem dX9_real_265 : decode cX9_real 265 = .ok (.lload_n 2, 1) := by decide +kernel
theorem dX9_real_266 : decode cX9_real 266 = .ok (.goto 5, 3) := by decide +kernel
theorem dX9_real_269 : decode cX9_real 269 = .ok (.lload 4, 2) := by decide +kernel
theorem dX9_real_271 : decode cX9_real 271 = .ok (.lreturn, 1) := by decide +kernel
theorem dX9_real_272 : decode cX9_real 272 = .ok (.dload 6, 2) := by decide +kernel
theorem dX9_real_274 : decode cX9_real 274 = .ok (.dload 6, 2) := by decide +kernel
theorem dX9_real_276 : decode cX9_real 276 = .ok (.dcmp .l, 1) := by decide +kernel
theorem dX9_real_277 : decode cX9_real 277 = .ok (.ifCond .eq 11, 3) := by decide +kernel
theorem dX9_real_280 : decode cX9_real 280 = .ok (.dload 6, 2) := by decide +kernel
theorem dX9_real_282 : decode cX9_real 282 = .ok (.invokestatic 116, 3) := by decide +kernel
theorem dX9_real_285 : decode cX9_real 285 = .ok (.goto 27, 3) := by decide +kernel
theorem dX9_real_288 : decode cX9_real 288 = .ok (.lload_n 2, 1) := by decide +kernel
theorem dX9_real_289 : decode cX9_real 289 = .ok (.ldc2_w 38, 3) := by decide +kernel
theorem dX9_real_292 : decode cX9_real 292 = .ok (.land, 1) := by decide +kernel
theorem dX9_real_293 : decode cX9_real 293 = .ok (.dload 8, 2) := by decide +kernel
theorem dX9_real_295 : decode cX9_real 295 = .ok (.dload 8, 2) := by decide +kernel
theorem dX9_real_297 : decode cX9_real 297 = .ok (.dcmp .l, 1) := by decide +kernel
theorem dX9_real_298 : decode cX9_real 298 = .ok (.ifCond .eq 7, 3) := by decide +kernel
theorem dX9_real_301 : decode cX9_real 301 = .ok (.lconst 0, 1) := by decide +kernel
theorem dX9_real_302 : decode cX9_real 302 = .ok (.goto 9, 3) := by decide +kernel
theorem dX9_real_305 : decode cX9_real 305 = .ok (.lload 4, 2) := by decide +kernel
theorem dX9_real_307 : decode cX9_real 307 = .ok (.ldc2_w 168, 3) := by decide +kernel
theorem dX9_real_310 : decode cX9_real 310 = .ok (.land, 1) := by decide +kernel
theorem dX9_real_311 : decode cX9_real 311 = .ok (.lor, 1) := by decide +kernel
theorem dX9_real_312 : decode cX9_real 312 = .ok (.lreturn, 1) := by decide +kernel
theorem dX9_isWhole_0 : decode cX9_isWhole 0 = .ok (.dload_n 0, 1) := by decide +kernel
theorem dX9_isWhole_1 : decode cX9_isWhole 1 = .ok (.dload_n 0, 1) := by decide +kernel
theorem dX9_isWhole_2 : decode cX9_isWhole 2 = .ok (.dcmp .l, 1) := by decide +kernel
theorem dX9_isWhole_3 : decode cX9_isWhole 3 = .ok (.ifCond .ne 19, 3) := by decide +kernel
theorem dX9_isWhole_6 : decode cX9_isWhole 6 = .ok (.dload_n 0, 1) := by decide +kernel
theorem dX9_isWhole_7 : decode cX9_isWhole 7 = .ok (.ldc2_w 170, 3) := by decide +kernel
theorem dX9_isWhole_10 : decode cX9_isWhole 10 = .ok (.dcmp .l, 1) := by decide +kernel
theorem dX9_isWhole_11 : decode cX9_isWhole 11 = .ok (.ifCond .ge 11, 3) := by decide +kernel
theorem dX9_isWhole_14 : decode cX9_isWhole 14 = .ok (.dload_n 0, 1) := by decide +kernel
theorem dX9_isWhole_15 : decode cX9_isWhole 15 = .ok (.ldc2_w 172, 3) := by decide +kernel
theorem dX9_isWhole_18 : decode cX9_isWhole 18 = .ok (.dcmp .g, 1) := by decide +kernel
theorem dX9_isWhole_19 : decode cX9_isWhole 19 = .ok (.ifCond .gt 7, 3) := by decide +kernel
theorem dX9_isWhole_22 : decode cX9_isWhole 22 = .ok (.iconst 1, 1) := by decide +kernel
theorem dX9_isWhole_23 : decode cX9_isWhole 23 = .ok (.goto 4, 3) := by decide +kernel
theorem dX9_isWhole_26 : decode cX9_isWhole 26 = .ok (.iconst 0, 1) := by decide +kernel
theorem dX9_isWhole_27 : decode cX9_isWhole 27 = .ok (.ireturn, 1) := by decide +kernel
set_option maxRecDepth 20000 in
theorem ggX9_signed_Jxe99ae_doubleToLongBits_ccdee : GoodIn wsX9_signed wsJxe99ae_doubleToLongBits_ccdee := goodIn_r _ [6, 7, 8, 9, 10, 11, 12, 13, 5, 14] rfl (by decide +kernel)
set_option maxRecDepth 20000 in
theorem gX9_signed_Jxe99ae_doubleToLongBits_ccdee : GoodIn wsX9_signed (va_wsS RX9 96 yJxe99ae_doubleToLongBits_ccdee wsJxe99ae_doubleToLongBits_ccdee) := goodIn_app (goodIn_of _ (by decide +kernel)) ggX9_signed_Jxe99ae_doubleToLongBits_ccdee
theorem dX9_signed_0 : decode cX9_signed 0 = .ok (.dload_n 0, 1) := by decide +kernel
theorem dX9_signed_1 : decode cX9_signed 1 = .ok (.invokestatic 96, 3) := by decide +kernel
theorem dX9_signed_4 : decode cX9_signed 4 = .ok (.ldc2_w 38, 3) := by decide +kernel
theorem dX9_signed_7 : decode cX9_signed 7 = .ok (.land, 1) := by decide +kernel
theorem dX9_signed_8 : decode cX9_signed 8 = .ok (.lload_n 2, 1) := by decide +kernel
theorem dX9_signed_9 : decode cX9_signed 9 = .ok (.ldc2_w 168, 3) := by decide +kernel
theorem dX9_signed_12 : decode cX9_signed 12 = .ok (.land, 1) := by decide +kernel
theorem dX9_signed_13 : decode cX9_signed 13 = .ok (.lor, 1) := by decide +kernel
theorem dX9_signed_14 : decode cX9_signed 14 = .ok (.lreturn, 1) := by decide +kernel
theorem dX9_rounded_0 : decode cX9_rounded 0 = .ok (.dload_n 0, 1) := by decide +kernel
theorem dX9_rounded_1 : decode cX9_rounded 1 = .ok (.d2l, 1) := by decide +kernel
theorem dX9_rounded_2 : decode cX9_rounded 2 = .ok (.l2d, 1) := by decide +kernel
theorem dX9_rounded_3 : decode cX9_rounded 3 = .ok (.dstore_n 3, 1) := by decide +kernel
theorem dX9_rounded_4 : decode cX9_rounded 4 = .ok (.iload_n 2, 1) := by decide +kernel
theorem dX9_rounded_5 : decode cX9_rounded 5 = .ok (.ifCond .ne 17, 3) := by decide +kernel
theorem dX9_rounded_8 : decode cX9_rounded 8 = .ok (.dload_n 3, 1) := by decide +kernel
theorem dX9_rounded_9 : decode cX9_rounded 9 = .ok (.dload_n 0, 1) := by decide +kernel
theorem dX9_rounded_10 : decode cX9_rounded 10 = .ok (.dcmp .l, 1) := by decide +kernel
theorem dX9_rounded_11 : decode cX9_rounded 11 = .ok (.ifCond .le 9, 3) := by decide +kernel
theorem dX9_rounded_14 : decode cX9_rounded 14 = .ok (.dload_n 3, 1) := by decide +kernel
theorem dX9_rounded_15 : decode cX9_rounded 15 = .ok (.dconst 1, 1) := by decide +kernel
theorem dX9_rounded_16 : decode cX9_rounded 16 = .ok (.dsub, 1) := by decide +kernel
theorem dX9_rounded_17 : decode cX9_rounded 17 = .ok (.goto 4, 3) := by decide +kernel
theorem dX9_rounded_20 : decode cX9_rounded 20 = .ok (.dload_n 3, 1) := by decide +kernel
theorem dX9_rounded_21 : decode cX9_rounded 21 = .ok (.dreturn, 1) := by decide +kernel
theorem dX9_rounded_22 : decode cX9_rounded 22 = .ok (.iload_n 2, 1) := by decide +kernel
theorem dX9_rounded_23 : decode cX9_rounded 23 = .ok (.iconst 1, 1) := by decide +kernel
theorem dX9_rounded_24 : decode cX9_rounded 24 = .ok (.if_icmp .ne 17, 3) := by decide +kernel
theorem dX9_rounded_27 : decode cX9_rounded 27 = .ok (.dload_n 3, 1) := by decide +kernel
theorem dX9_rounded_28 : decode cX9_rounded 28 = .ok (.dload_n 0, 1) := by decide +kernel
theorem dX9_rounded_29 : decode cX9_rounded 29 = .ok (.dcmp .g, 1) := by decide +kernel
theorem dX9_rounded_30 : decode cX9_rounded 30 = .ok (.ifCond .ge 9, 3) := by decide +kernel
theorem dX9_rounded_33 : decode cX9_rounded 33 = .ok (.dload_n 3, 1) := by decide +kernel
theorem dX9_rounded_34 : decode cX9_rounded 34 = .ok (.dconst 1, 1) := by decide +kernel
theorem dX9_rounded_35 : decode cX9_rounded 35 = .ok (.dadd, 1) := by decide +kernel
theorem dX9_rounded_36 : decode cX9_rounded 36 = .ok (.goto 4, 3) := by decide +kernel
theorem dX9_rounded_39 : decode cX9_rounded 39 = .ok (.dload_n 3, 1) := by decide +kernel
theorem dX9_rounded_40 : decode cX9_rounded 40 = .ok (.dreturn, 1) := by decide +kernel
theorem dX9_rounded_41 : decode cX9_rounded 41 = .ok (.dload_n 0, 1) := by decide +kernel
theorem dX9_rounded_42 : decode cX9_rounded 42 = .ok (.dconst 0, 1) := by decide +kernel
theorem dX9_rounded_43 : decode cX9_rounded 43 = .ok (.dcmp .g, 1) := by decide +kernel
theorem dX9_rounded_44 : decode cX9_rounded 44 = .ok (.ifCond .ge 8, 3) := by decide +kernel
theorem dX9_rounded_47 : decode cX9_rounded 47 = .ok (.dload_n 0, 1) := by decide +kernel
theorem dX9_rounded_48 : decode cX9_rounded 48 = .ok (.dneg, 1) := by decide +kernel
theorem dX9_rounded_49 : decode cX9_rounded 49 = .ok (.goto 4, 3) := by decide +kernel
theorem dX9_rounded_52 : decode cX9_rounded 52 = .ok (.dload_n 0, 1) := by decide +kernel
theorem dX9_rounded_53 : decode cX9_rounded 53 = .ok (.dstore 5, 2) := by decide +kernel
theorem dX9_rounded_55 : decode cX9_rounded 55 = .ok (.dload 5, 2) := by decide +kernel
theorem dX9_rounded_57 : decode cX9_rounded 57 = .ok (.ldc2_w 170, 3) := by decide +kernel
theorem dX9_rounded_60 : decode cX9_rounded 60 = .ok (.dadd, 1) := by decide +kernel
theorem dX9_rounded_61 : decode cX9_rounded 61 = .ok (.ldc2_w 170, 3) := by decide +kernel
theorem dX9_rounded_64 : decode cX9_rounded 64 = .ok (.dsub, 1) := by decide +kernel
theorem dX9_rounded_65 : decode cX9_rounded 65 = .ok (.dstore 7, 2) := by decide +kernel
theorem dX9_rounded_67 : decode cX9_rounded 67 = .ok (.dload_n 0, 1) := by decide +kernel
theorem dX9_rounded_68 : decode cX9_rounded 68 = .ok (.dconst 0, 1) := by decide +kernel
theorem dX9_rounded_69 : decode cX9_rounded 69 = .ok (.dcmp .g, 1) := by decide +kernel
theorem dX9_rounded_70 : decode cX9_rounded 70 = .ok (.ifCond .ge 9, 3) := by decide +kernel
theorem dX9_rounded_73 : decode cX9_rounded 73 = .ok (.dload 7, 2) := by decide +kernel
theorem dX9_rounded_75 : decode cX9_rounded 75 = .ok (.dneg, 1) := by decide +kernel
theorem dX9_rounded_76 : decode cX9_rounded 76 = .ok (.goto 5, 3) := by decide +kernel
theorem dX9_rounded_79 : decode cX9_rounded 79 = .ok (.dload 7, 2) := by decide +kernel
theorem dX9_rounded_81 : decode cX9_rounded 81 = .ok (.dreturn, 1) := by decide +kernel
set_option maxRecDepth 20000 in
theorem ggX9_math_X9_begin : GoodIn wsX9_math wsX9_begin := goodIn_r _ [11, 12, 56, 57, 58, 59, 60, 61, 62, 63, 64, 65, 66, 67] rfl (by decide +kernel)
set_option maxRecDepth 20000 in
theorem gX9_math_X9_begin : GoodIn wsX9_math (wsV RX9 76 RX9 yX9_begin wsX9_begin) := goodIn_app (goodIn_of _ (by decide +kernel)) ggX9_math_X9_begin
set_option maxRecDepth 20000 in
theorem ggX9_math_X9_in : GoodIn wsX9_math wsX9_in := goodIn_r _ [15] rfl (by decide +kernel)
set_option maxRecDepth 20000 in
theorem gX9_math_X9_in : GoodIn wsX9_math (va_wsS RX9 59 yX9_in wsX9_in) := goodIn_app (goodIn_of _ (by decide +kernel)) ggX9_math_X9_in
set_option maxRecDepth 20000 in
theorem ggX9_math_X9_fails : GoodIn wsX9_math wsX9_fails := goodIn_r _ [19, 12, 20, 56, 57, 58, 59, 60, 61, 62, 63, 64, 65, 66, 67] rfl (by decide +kernel)
set_option maxRecDepth 20000 in
theorem gX9_math_X9_fails : GoodIn wsX9_math (wsV RX9 83 RX9 yX9_fails wsX9_fails) := goodIn_app (goodIn_of _ (by decide +kernel)) ggX9_math_X9_fails
set_option maxRecDepth 20000 in
theorem ggX9_math_X9_realBits : GoodIn wsX9_math wsX9_realBits := goodIn_r _ [23, 3, 4, 24, 25, 26, 27, 28] rfl (by decide +kernel)
set_option maxRecDepth 20000 in
theorem gX9_math_X9_realBits : GoodIn wsX9_math (va_wsS RX9 113 yX9_realBits wsX9_realBits) := goodIn_app (goodIn_of _ (by decide +kernel)) ggX9_math_X9_realBits
set_option maxRecDepth 20000 in
theorem ggX9_math_X9_doubleBits : GoodIn wsX9_math wsX9_doubleBits := goodIn_r _ [31, 32, 33, 34, 35, 36, 37, 38, 39, 28, 40, 41, 42, 43] rfl (by decide +kernel)
set_option maxRecDepth 20000 in
theorem gX9_math_X9_doubleBits : GoodIn wsX9_math (va_wsS RX9 116 yX9_doubleBits wsX9_doubleBits) := goodIn_app (goodIn_of _ (by decide +kernel)) ggX9_math_X9_doubleBits
set_option maxRecDepth 20000 in
theorem ggX9_math_X9_isWhole : GoodIn wsX9_math wsX9_isWhole := goodIn_r _ [46, 47, 48] rfl (by decide +kernel)
set_option maxRecDepth 20000 in
theorem gX9_math_X9_isWhole : GoodIn wsX9_math (va_wsS RX9 178 yX9_isWhole wsX9_isWhole) := goodIn_app (goodIn_of _ (by decide +kernel)) ggX9_math_X9_isWhole
set_option maxRecDepth 20000 in
theorem ggX9_math_X9_rounded : GoodIn wsX9_math wsX9_rounded := goodIn_r _ [51, 47] rfl (by decide +kernel)
set_option maxRecDepth 20000 in
theorem gX9_math_X9_rounded : GoodIn wsX9_math (va_wsS RX9 181 yX9_rounded wsX9_rounded) := goodIn_app (goodIn_of _ (by decide +kernel)) ggX9_math_X9_rounded
set_option maxRecDepth 20000 in
theorem ggX9_math_X9_signed : GoodIn wsX9_math wsX9_signed := goodIn_r _ [54, 3, 55, 33, 34, 35, 36, 37, 38, 39, 28, 40, 41, 42, 43] rfl (by decide +kernel)
set_option maxRecDepth 20000 in
theorem gX9_math_X9_signed : GoodIn wsX9_math (va_wsS RX9 185 yX9_signed wsX9_signed) := goodIn_app (goodIn_of _ (by decide +kernel)) ggX9_math_X9_signed
theorem dX9_math_0 : decode cX9_math 0 = .ok (.aload_n 0, 1) := by decide +kernel
theorem dX9_math_1 : decode cX9_math 1 = .ok (.invokevirtual 76, 3) := by decide +kernel
theorem dX9_math_4 : decode cX9_math 4 = .ok (.iload_n 1, 1) := by decide +kernel
theorem dX9_math_5 : decode cX9_math 5 = .ok (.iconst 0, 1) := by decide +kernel
theorem dX9_math_6 : decode cX9_math 6 = .ok (.bipush 9, 2) := by decide +kernel
theorem dX9_math_8 : decode cX9_math 8 = .ok (.invokestatic 59, 3) := by decide +kernel
theorem dX9_math_11 : decode cX9_math 11 = .ok (.ifCond .ne 11, 3) := by decide +kernel
theorem dX9_math_14 : decode cX9_math 14 = .ok (.aload_n 0, 1) := by decide +kernel
theorem dX9_math_15 : decode cX9_math 15 = .ok (.bipush 8, 2) := by decide +kernel
theorem dX9_math_17 : decode cX9_math 17 = .ok (.invokevirtual 83, 3) := by decide +kernel
theorem dX9_math_20 : decode cX9_math 20 = .ok (.i2l, 1) := by decide +kernel
theorem dX9_math_21 : decode cX9_math 21 = .ok (.lreturn, 1) := by decide +kernel
theorem dX9_math_22 : decode cX9_math 22 = .ok (.lload_n 2, 1) := by decide +kernel
theorem dX9_math_23 : decode cX9_math 23 = .ok (.invokestatic 113, 3) := by decide +kernel
theorem dX9_math_26 : decode cX9_math 26 = .ok (.dstore 4, 2) := by decide +kernel
theorem dX9_math_28 : decode cX9_math 28 = .ok (.lload_n 2, 1) := by decide +kernel
theorem dX9_math_29 : decode cX9_math 29 = .ok (.bipush 52, 2) := by decide +kernel
theorem dX9_math_31 : decode cX9_math 31 = .ok (.lushr, 1) := by decide +kernel
theorem dX9_math_32 : decode cX9_math 32 = .ok (.ldc2_w 174, 3) := by decide +kernel
theorem dX9_math_35 : decode cX9_math 35 = .ok (.land, 1) := by decide +kernel
theorem dX9_math_36 : decode cX9_math 36 = .ok (.l2i, 1) := by decide +kernel
theorem dX9_math_37 : decode cX9_math 37 = .ok (.istore 6, 2) := by decide +kernel
theorem dX9_math_39 : decode cX9_math 39 = .ok (.iload_n 1, 1) := by decide +kernel
theorem dX9_math_40 : decode cX9_math 40 = .ok (.bipush 9, 2) := by decide +kernel
theorem dX9_math_42 : decode cX9_math 42 = .ok (.if_icmp .ne 25, 3) := by decide +kernel
theorem dX9_math_45 : decode cX9_math 45 = .ok (.iload 6, 2) := by decide +kernel
theorem dX9_math_47 : decode cX9_math 47 = .ok (.sipush 2047, 3) := by decide +kernel
theorem dX9_math_50 : decode cX9_math 50 = .ok (.if_icmp .ne 9, 3) := by decide +kernel
theorem dX9_math_53 : decode cX9_math 53 = .ok (.ldc2_w 176, 3) := by decide +kernel
theorem dX9_math_56 : decode cX9_math 56 = .ok (.goto 10, 3) := by decide +kernel
theorem dX9_math_59 : decode cX9_math 59 = .ok (.iload 6, 2) := by decide +kernel
theorem dX9_math_61 : decode cX9_math 61 = .ok (.sipush 1023, 3) := by decide +kernel
theorem dX9_math_64 : decode cX9_math 64 = .ok (.isub, 1) := by decide +kernel
theorem dX9_math_65 : decode cX9_math 65 = .ok (.i2l, 1) := by decide +kernel
theorem dX9_math_66 : decode cX9_math 66 = .ok (.lreturn, 1) := by decide +kernel
theorem dX9_math_67 : decode cX9_math 67 = .ok (.dload 4, 2) := by decide +kernel
theorem dX9_math_69 : decode cX9_math 69 = .ok (.dload 4, 2) := by decide +kernel
theorem dX9_math_71 : decode cX9_math 71 = .ok (.dcmp .l, 1) := by decide +kernel
theorem dX9_math_72 : decode cX9_math 72 = .ok (.ifCond .eq 9, 3) := by decide +kernel
theorem dX9_math_75 : decode cX9_math 75 = .ok (.dload 4, 2) := by decide +kernel
theorem dX9_math_77 : decode cX9_math 77 = .ok (.invokestatic 116, 3) := by decide +kernel
theorem dX9_math_80 : decode cX9_math 80 = .ok (.lreturn, 1) := by decide +kernel
theorem dX9_math_81 : decode cX9_math 81 = .ok (.iload_n 1, 1) := by decide +kernel
theorem dX9_math_82 : decode cX9_math 82 = .ok (.tableswitch 191 0 7 #[46, 46, 46, 69, 86, 92, 142, 181], 46) := by decide +kernel
theorem dX9_math_128 : decode cX9_math 128 = .ok (.dload 4, 2) := by decide +kernel
theorem dX9_math_130 : decode cX9_math 130 = .ok (.invokestatic 178, 3) := by decide +kernel
theorem dX9_math_133 : decode cX9_math 133 = .ok (.ifCond .eq 7, 3) := by decide +kernel
theorem dX9_math_136 : decode cX9_math 136 = .ok (.lload_n 2, 1) := by decide +kernel
theorem dX9_math_137 : decode cX9_math 137 = .ok (.goto 13, 3) := by decide +kernel
theorem dX9_math_140 : decode cX9_math 140 = .ok (.dload 4, 2) := by decide +kernel
theorem dX9_math_142 : decode cX9_math 142 = .ok (.iload_n 1, 1) := by decide +kernel
theorem dX9_math_143 : decode cX9_math 143 = .ok (.invokestatic 181, 3) := by decide +kernel
theorem dX9_math_146 : decode cX9_math 146 = .ok (.lload_n 2, 1) := by decide +kernel
theorem dX9_math_147 : decode cX9_math 147 = .ok (.invokestatic 185, 3) := by decide +kernel
theorem dX9_math_150 : decode cX9_math 150 = .ok (.lreturn, 1) := by decide +kernel
theorem dX9_math_151 : decode cX9_math 151 = .ok (.dload 4, 2) := by decide +kernel
theorem dX9_math_153 : decode cX9_math 153 = .ok (.dconst 0, 1) := by decide +kernel
theorem dX9_math_154 : decode cX9_math 154 = .ok (.dcmp .l, 1) := by decide +kernel
theorem dX9_math_155 : decode cX9_math 155 = .ok (.ifCond .ne 7, 3) := by decide +kernel
theorem dX9_math_158 : decode cX9_math 158 = .ok (.lload_n 2, 1) := by decide +kernel
theorem dX9_math_159 : decode cX9_math 159 = .ok (.goto 8, 3) := by decide +kernel
theorem dX9_math_162 : decode cX9_math 162 = .ok (.dconst 1, 1) := by decide +kernel
theorem dX9_math_163 : decode cX9_math 163 = .ok (.lload_n 2, 1) := by decide +kernel
theorem dX9_math_164 : decode cX9_math 164 = .ok (.invokestatic 185, 3) := by decide +kernel
theorem dX9_math_167 : decode cX9_math 167 = .ok (.lreturn, 1) := by decide +kernel
theorem dX9_math_168 : decode cX9_math 168 = .ok (.lload_n 2, 1) := by decide +kernel
theorem dX9_math_169 : decode cX9_math 169 = .ok (.ldc2_w 38, 3) := by decide +kernel
theorem dX9_math_172 : decode cX9_math 172 = .ok (.land, 1) := by decide +kernel
theorem dX9_math_173 : decode cX9_math 173 = .ok (.lreturn, 1) := by decide +kernel
theorem dX9_math_174 : decode cX9_math 174 = .ok (.iload 6, 2) := by decide +kernel
theorem dX9_math_176 : decode cX9_math 176 = .ok (.sipush 2047, 3) := by decide +kernel
theorem dX9_math_179 : decode cX9_math 179 = .ok (.if_icmp .ne 9, 3) := by decide +kernel
theorem dX9_math_182 : decode cX9_math 182 = .ok (.ldc2_w 40, 3) := by decide +kernel
theorem dX9_math_185 : decode cX9_math 185 = .ok (.goto 38, 3) := by decide +kernel
theorem dX9_math_188 : decode cX9_math 188 = .ok (.iload 6, 2) := by decide +kernel
theorem dX9_math_190 : decode cX9_math 190 = .ok (.iconst 2, 1) := by decide +kernel
theorem dX9_math_191 : decode cX9_math 191 = .ok (.if_icmp .ge 7, 3) := by decide +kernel
theorem dX9_math_194 : decode cX9_math 194 = .ok (.lconst 1, 1) := by decide +kernel
theorem dX9_math_195 : decode cX9_math 195 = .ok (.goto 28, 3) := by decide +kernel
theorem dX9_math_198 : decode cX9_math 198 = .ok (.iload 6, 2) := by decide +kernel
theorem dX9_math_200 : decode cX9_math 200 = .ok (.bipush 52, 2) := by decide +kernel
theorem dX9_math_202 : decode cX9_math 202 = .ok (.if_icmp .le 15, 3) := by decide +kernel
theorem dX9_math_205 : decode cX9_math 205 = .ok (.iload 6, 2) := by decide +kernel
theorem dX9_math_207 : decode cX9_math 207 = .ok (.bipush 52, 2) := by decide +kernel
theorem dX9_math_209 : decode cX9_math 209 = .ok (.isub, 1) := by decide +kernel
theorem dX9_math_210 : decode cX9_math 210 = .ok (.i2l, 1) := by decide +kernel
theorem dX9_math_211 : decode cX9_math 211 = .ok (.bipush 52, 2) := by decide +kernel
theorem dX9_math_213 : decode cX9_math 213 = .ok (.lshl, 1) := by decide +kernel
theorem dX9_math_214 : decode cX9_math 214 = .ok (.goto 9, 3) := by decide +kernel
theorem dX9_math_217 : decode cX9_math 217 = .ok (.lconst 1, 1) := by decide +kernel
theorem dX9_math_218 : decode cX9_math 218 = .ok (.iload 6, 2) := by decide +kernel
theorem dX9_math_220 : decode cX9_math 220 = .ok (.iconst 1, 1) := by decide +kernel
theorem dX9_math_221 : decode cX9_math 221 = .ok (.isub, 1) := by decide +kernel
theorem dX9_math_222 : decode cX9_math 222 = .ok (.lshl, 1) := by decide +kernel
theorem dX9_math_223 : decode cX9_math 223 = .ok (.lreturn, 1) := by decide +kernel
theorem dX9_math_224 : decode cX9_math 224 = .ok (.lload_n 2, 1) := by decide +kernel
theorem dX9_math_225 : decode cX9_math 225 = .ok (.ldc2_w 40, 3) := by decide +kernel
theorem dX9_math_228 : decode cX9_math 228 = .ok (.lcmp, 1) := by decide +kernel
theorem dX9_math_229 : decode cX9_math 229 = .ok (.ifCond .ne 7, 3) := by decide +kernel
theorem dX9_math_232 : decode cX9_math 232 = .ok (.lload_n 2, 1) := by decide +kernel
theorem dX9_math_233 : decode cX9_math 233 = .ok (.goto 29, 3) := by decide +kernel
theorem dX9_math_236 : decode cX9_math 236 = .ok (.dload 4, 2) := by decide +kernel
theorem dX9_math_238 : decode cX9_math 238 = .ok (.dconst 0, 1) := by decide +kernel
theorem dX9_math_239 : decode cX9_math 239 = .ok (.dcmp .l, 1) := by decide +kernel
theorem dX9_math_240 : decode cX9_math 240 = .ok (.ifCond .ne 7, 3) := by decide +kernel
theorem dX9_math_243 : decode cX9_math 243 = .ok (.lconst 1, 1) := by decide +kernel
theorem dX9_math_244 : decode cX9_math 244 = .ok (.goto 18, 3) := by decide +kernel
theorem dX9_math_247 : decode cX9_math 247 = .ok (.lload_n 2, 1) := by decide +kernel
theorem dX9_math_248 : decode cX9_math 248 = .ok (.lconst 0, 1) := by decide +kernel
theorem dX9_math_249 : decode cX9_math 249 = .ok (.lcmp, 1) := by decide +kernel
theorem dX9_math_250 : decode cX9_math 250 = .ok (.ifCond .lt 9, 3) := by decide +kernel
theorem dX9_math_253 : decode cX9_math 253 = .ok (.lload_n 2, 1) := by decide +kernel
theorem dX9_math_254 : decode cX9_math 254 = .ok (.lconst 1, 1) := by decide +kernel
theorem dX9_math_255 : decode cX9_math 255 = .ok (.ladd, 1) := by decide +kernel
theorem dX9_math_256 : decode cX9_math 256 = .ok (.goto 6, 3) := by decide +kernel
theorem dX9_math_259 : decode cX9_math 259 = .ok (.lload_n 2, 1) := by decide +kernel
theorem dX9_math_260 : decode cX9_math 260 = .ok (.lconst 1, 1) := by decide +kernel
theorem dX9_math_261 : decode cX9_math 261 = .ok (.lsub, 1) := by decide +kernel
theorem dX9_math_262 : decode cX9_math 262 = .ok (.lreturn, 1) := by decide +kernel
theorem dX9_math_263 : decode cX9_math 263 = .ok (.dload 4, 2) := by decide +kernel
theorem dX9_math_265 : decode cX9_math 265 = .ok (.ldc2_w 189, 3) := by decide +kernel
theorem dX9_math_268 : decode cX9_math 268 = .ok (.dmul, 1) := by decide +kernel
theorem dX9_math_269 : decode cX9_math 269 = .ok (.invokestatic 116, 3) := by decide +kernel
theorem dX9_math_272 : decode cX9_math 272 = .ok (.lreturn, 1) := by decide +kernel
theorem dX9_math_273 : decode cX9_math 273 = .ok (.dload 4, 2) := by decide +kernel
theorem dX9_math_275 : decode cX9_math 275 = .ok (.ldc2_w 191, 3) := by decide +kernel
theorem dX9_math_278 : decode cX9_math 278 = .ok (.dmul, 1) := by decide +kernel
theorem dX9_math_279 : decode cX9_math 279 = .ok (.invokestatic 116, 3) := by decide +kernel
theorem dX9_math_282 : decode cX9_math 282 = .ok (.lreturn, 1) := by decide +kernel
set_option maxRecDepth 20000 in
theorem ggX9_narrow_X9_begin : GoodIn wsX9_narrow wsX9_begin := goodIn_r _ [6, 7, 41, 42, 43, 44, 45, 46, 47, 48, 49, 50, 51, 52] rfl (by decide +kernel)
set_option maxRecDepth 20000 in
theorem gX9_narrow_X9_begin : GoodIn wsX9_narrow (wsV RX9 76 RX9 yX9_begin wsX9_begin) := goodIn_app (goodIn_of _ (by decide +kernel)) ggX9_narrow_X9_begin
set_option maxRecDepth 20000 in
theorem ggX9_narrow_X9_in : GoodIn wsX9_narrow wsX9_in := goodIn_r _ [10] rfl (by decide +kernel)
set_option maxRecDepth 20000 in
theorem gX9_narrow_X9_in : GoodIn wsX9_narrow (va_wsS RX9 59 yX9_in wsX9_in) := goodIn_app (goodIn_of _ (by decide +kernel)) ggX9_narrow_X9_in
set_option maxRecDepth 20000 in
theorem ggX9_narrow_X9_fails : GoodIn wsX9_narrow wsX9_fails := goodIn_r _ [14, 7, 15, 41, 42, 43, 44, 45, 46, 47, 48, 49, 50, 51, 52] rfl (by decide +kernel)
set_option maxRecDepth 20000 in
theorem gX9_narrow_X9_fails : GoodIn wsX9_narrow (wsV RX9 83 RX9 yX9_fails wsX9_fails) := goodIn_app (goodIn_of _ (by decide +kernel)) ggX9_narrow_X9_fails
set_option maxRecDepth 20000 in
theorem ggX9_narrow_X9_realBits : GoodIn wsX9_narrow wsX9_realBits := goodIn_r _ [18, 19, 20, 21, 22, 23, 24, 25] rfl (by decide +kernel)
set_option maxRecDepth 20000 in
theorem gX9_narrow_X9_realBits : GoodIn wsX9_narrow (va_wsS RX9 113 yX9_realBits wsX9_realBits) := goodIn_app (goodIn_of _ (by decide +kernel)) ggX9_narrow_X9_realBits
set_option maxRecDepth 20000 in
theorem ggX9_narrow_X9_floatBits : GoodIn wsX9_narrow wsX9_floatBits := goodIn_r _ [28, 1, 29, 30, 31, 32, 33, 34, 35, 36, 37, 38, 39, 40] rfl (by decide +kernel)
set_option maxRecDepth 20000 in
theorem gX9_narrow_X9_floatBits : GoodIn wsX9_narrow (va_wsS RX9 109 yX9_floatBits wsX9_floatBits) := goodIn_app (goodIn_of _ (by decide +kernel)) ggX9_narrow_X9_floatBits
theorem dX9_narrow_0 : decode cX9_narrow 0 = .ok (.aload_n 0, 1) := by decide +kernel
theorem dX9_narrow_1 : decode cX9_narrow 1 = .ok (.invokevirtual 76, 3) := by decide +kernel
theorem dX9_narrow_4 : decode cX9_narrow 4 = .ok (.iload_n 1, 1) := by decide +kernel
theorem dX9_narrow_5 : decode cX9_narrow 5 = .ok (.iconst 0, 1) := by decide +kernel
theorem dX9_narrow_6 : decode cX9_narrow 6 = .ok (.iconst 5, 1) := by decide +kernel
theorem dX9_narrow_7 : decode cX9_narrow 7 = .ok (.invokestatic 59, 3) := by decide +kernel
theorem dX9_narrow_10 : decode cX9_narrow 10 = .ok (.ifCond .ne 11, 3) := by decide +kernel
theorem dX9_narrow_13 : decode cX9_narrow 13 = .ok (.aload_n 0, 1) := by decide +kernel
theorem dX9_narrow_14 : decode cX9_narrow 14 = .ok (.bipush 8, 2) := by decide +kernel
theorem dX9_narrow_16 : decode cX9_narrow 16 = .ok (.invokevirtual 83, 3) := by decide +kernel
theorem dX9_narrow_19 : decode cX9_narrow 19 = .ok (.i2l, 1) := by decide +kernel
theorem dX9_narrow_20 : decode cX9_narrow 20 = .ok (.lreturn, 1) := by decide +kernel
theorem dX9_narrow_21 : decode cX9_narrow 21 = .ok (.lload_n 2, 1) := by decide +kernel
theorem dX9_narrow_22 : decode cX9_narrow 22 = .ok (.invokestatic 113, 3) := by decide +kernel
theorem dX9_narrow_25 : decode cX9_narrow 25 = .ok (.dstore 4, 2) := by decide +kernel
theorem dX9_narrow_27 : decode cX9_narrow 27 = .ok (.iload_n 1, 1) := by decide +kernel
theorem dX9_narrow_28 : decode cX9_narrow 28 = .ok (.tableswitch 78 0 4 #[36, 41, 45, 66, 72], 36) := by decide +kernel
theorem dX9_narrow_64 : decode cX9_narrow 64 = .ok (.dload 4, 2) := by decide +kernel
theorem dX9_narrow_66 : decode cX9_narrow 66 = .ok (.d2i, 1) := by decide +kernel
theorem dX9_narrow_67 : decode cX9_narrow 67 = .ok (.i2l, 1) := by decide +kernel
theorem dX9_narrow_68 : decode cX9_narrow 68 = .ok (.lreturn, 1) := by decide +kernel
theorem dX9_narrow_69 : decode cX9_narrow 69 = .ok (.dload 4, 2) := by decide +kernel
theorem dX9_narrow_71 : decode cX9_narrow 71 = .ok (.d2l, 1) := by decide +kernel
theorem dX9_narrow_72 : decode cX9_narrow 72 = .ok (.lreturn, 1) := by decide +kernel
theorem dX9_narrow_73 : decode cX9_narrow 73 = .ok (.dload 4, 2) := by decide +kernel
theorem dX9_narrow_75 : decode cX9_narrow 75 = .ok (.dload 4, 2) := by decide +kernel
theorem dX9_narrow_77 : decode cX9_narrow 77 = .ok (.dcmp .l, 1) := by decide +kernel
theorem dX9_narrow_78 : decode cX9_narrow 78 = .ok (.ifCond .eq 9, 3) := by decide +kernel
theorem dX9_narrow_81 : decode cX9_narrow 81 = .ok (.ldc2_w 100, 3) := by decide +kernel
theorem dX9_narrow_84 : decode cX9_narrow 84 = .ok (.goto 9, 3) := by decide +kernel
theorem dX9_narrow_87 : decode cX9_narrow 87 = .ok (.dload 4, 2) := by decide +kernel
theorem dX9_narrow_89 : decode cX9_narrow 89 = .ok (.d2f, 1) := by decide +kernel
theorem dX9_narrow_90 : decode cX9_narrow 90 = .ok (.invokestatic 109, 3) := by decide +kernel
theorem dX9_narrow_93 : decode cX9_narrow 93 = .ok (.lreturn, 1) := by decide +kernel
theorem dX9_narrow_94 : decode cX9_narrow 94 = .ok (.dload 4, 2) := by decide +kernel
theorem dX9_narrow_96 : decode cX9_narrow 96 = .ok (.d2i, 1) := by decide +kernel
theorem dX9_narrow_97 : decode cX9_narrow 97 = .ok (.i2b, 1) := by decide +kernel
theorem dX9_narrow_98 : decode cX9_narrow 98 = .ok (.i2l, 1) := by decide +kernel
theorem dX9_narrow_99 : decode cX9_narrow 99 = .ok (.lreturn, 1) := by decide +kernel
theorem dX9_narrow_100 : decode cX9_narrow 100 = .ok (.dload 4, 2) := by decide +kernel
theorem dX9_narrow_102 : decode cX9_narrow 102 = .ok (.d2i, 1) := by decide +kernel
theorem dX9_narrow_103 : decode cX9_narrow 103 = .ok (.i2c, 1) := by decide +kernel
theorem dX9_narrow_104 : decode cX9_narrow 104 = .ok (.i2l, 1) := by decide +kernel
theorem dX9_narrow_105 : decode cX9_narrow 105 = .ok (.lreturn, 1) := by decide +kernel
theorem dX9_narrow_106 : decode cX9_narrow 106 = .ok (.dload 4, 2) := by decide +kernel
theorem dX9_narrow_108 : decode cX9_narrow 108 = .ok (.d2i, 1) := by decide +kernel
theorem dX9_narrow_109 : decode cX9_narrow 109 = .ok (.i2s, 1) := by decide +kernel
theorem dX9_narrow_110 : decode cX9_narrow 110 = .ok (.i2l, 1) := by decide +kernel
theorem dX9_narrow_111 : decode cX9_narrow 111 = .ok (.lreturn, 1) := by decide +kernel
set_option maxRecDepth 20000 in
theorem ggX9_widen_X9_begin : GoodIn wsX9_widen wsX9_begin := goodIn_r _ [5, 6, 60, 61, 62, 63, 64, 65, 66, 67, 68, 69, 70, 71] rfl (by decide +kernel)
set_option maxRecDepth 20000 in
theorem gX9_widen_X9_begin : GoodIn wsX9_widen (wsV RX9 76 RX9 yX9_begin wsX9_begin) := goodIn_app (goodIn_of _ (by decide +kernel)) ggX9_widen_X9_begin
set_option maxRecDepth 20000 in
theorem ggX9_widen_X9_in : GoodIn wsX9_widen wsX9_in := goodIn_r _ [9] rfl (by decide +kernel)
set_option maxRecDepth 20000 in
theorem gX9_widen_X9_in : GoodIn wsX9_widen (va_wsS RX9 59 yX9_in wsX9_in) := goodIn_app (goodIn_of _ (by decide +kernel)) ggX9_widen_X9_in
set_option maxRecDepth 20000 in
theorem ggX9_widen_X9_fails : GoodIn wsX9_widen wsX9_fails := goodIn_r _ [13, 6, 14, 60, 61, 62, 63, 64, 65, 66, 67, 68, 69, 70, 71] rfl (by decide +kernel)
set_option maxRecDepth 20000 in
theorem gX9_widen_X9_fails : GoodIn wsX9_widen (wsV RX9 83 RX9 yX9_fails wsX9_fails) := goodIn_app (goodIn_of _ (by decide +kernel)) ggX9_widen_X9_fails
set_option maxRecDepth 20000 in
theorem ggX9_widen_X9_doubleBits : GoodIn wsX9_widen wsX9_doubleBits := goodIn_r _ [17, 18, 19, 20, 21, 22, 23, 24, 25, 26, 27, 28, 29, 30] rfl (by decide +kernel)
set_option maxRecDepth 20000 in
theorem gX9_widen_X9_doubleBits : GoodIn wsX9_widen (va_wsS RX9 116 yX9_doubleBits wsX9_doubleBits) := goodIn_app (goodIn_of _ (by decide +kernel)) ggX9_widen_X9_doubleBits
set_option maxRecDepth 20000 in
theorem ggX9_widen_X9_floatBits : GoodIn wsX9_widen wsX9_floatBits := goodIn_r _ [33, 34, 35, 36, 37, 38, 39, 40, 41, 42, 43, 44, 45, 46] rfl (by decide +kernel)
set_option maxRecDepth 20000 in
theorem gX9_widen_X9_floatBits : GoodIn wsX9_widen (va_wsS RX9 109 yX9_floatBits wsX9_floatBits) := goodIn_app (goodIn_of _ (by decide +kernel)) ggX9_widen_X9_floatBits
set_option maxRecDepth 20000 in
theorem ggX9_widen_X9_wide : GoodIn wsX9_widen wsX9_wide := goodIn_r _ [49, 50, 51, 52, 4, 53, 54, 55, 56, 57, 58, 59, 42] rfl (by decide +kernel)
set_option maxRecDepth 20000 in
theorem gX9_widen_X9_wide : GoodIn wsX9_widen (va_wsS RX9 193 yX9_wide wsX9_wide) := goodIn_app (goodIn_of _ (by decide +kernel)) ggX9_widen_X9_wide
theorem dX9_widen_0 : decode cX9_widen 0 = .ok (.aload_n 0, 1) := by decide +kernel
theorem dX9_widen_1 : decode cX9_widen 1 = .ok (.invokevirtual 76, 3) := by decide +kernel
theorem dX9_widen_4 : decode cX9_widen 4 = .ok (.iload_n 1, 1) := by decide +kernel
theorem dX9_widen_5 : decode cX9_widen 5 = .ok (.iconst 0, 1) := by decide +kernel
theorem dX9_widen_6 : decode cX9_widen 6 = .ok (.iconst 3, 1) := by decide +kernel
theorem dX9_widen_7 : decode cX9_widen 7 = .ok (.invokestatic 59, 3) := by decide +kernel
theorem dX9_widen_10 : decode cX9_widen 10 = .ok (.ifCond .ne 11, 3) := by decide +kernel
theorem dX9_widen_13 : decode cX9_widen 13 = .ok (.aload_n 0, 1) := by decide +kernel
theorem dX9_widen_14 : decode cX9_widen 14 = .ok (.bipush 8, 2) := by decide +kernel
theorem dX9_widen_16 : decode cX9_widen 16 = .ok (.invokevirtual 83, 3) := by decide +kernel
theorem dX9_widen_19 : decode cX9_widen 19 = .ok (.i2l, 1) := by decide +kernel
theorem dX9_widen_20 : decode cX9_widen 20 = .ok (.lreturn, 1) := by decide +kernel
theorem dX9_widen_21 : decode cX9_widen 21 = .ok (.iload_n 1, 1) := by decide +kernel
theorem dX9_widen_22 : decode cX9_widen 22 = .ok (.tableswitch 47 0 2 #[26, 32, 38], 26) := by decide +kernel
theorem dX9_widen_48 : decode cX9_widen 48 = .ok (.lload_n 2, 1) := by decide +kernel
theorem dX9_widen_49 : decode cX9_widen 49 = .ok (.l2d, 1) := by decide +kernel
theorem dX9_widen_50 : decode cX9_widen 50 = .ok (.invokestatic 116, 3) := by decide +kernel
theorem dX9_widen_53 : decode cX9_widen 53 = .ok (.lreturn, 1) := by decide +kernel
theorem dX9_widen_54 : decode cX9_widen 54 = .ok (.lload_n 2, 1) := by decide +kernel
theorem dX9_widen_55 : decode cX9_widen 55 = .ok (.l2f, 1) := by decide +kernel
theorem dX9_widen_56 : decode cX9_widen 56 = .ok (.invokestatic 109, 3) := by decide +kernel
theorem dX9_widen_59 : decode cX9_widen 59 = .ok (.lreturn, 1) := by decide +kernel
theorem dX9_widen_60 : decode cX9_widen 60 = .ok (.lload_n 2, 1) := by decide +kernel
theorem dX9_widen_61 : decode cX9_widen 61 = .ok (.l2i, 1) := by decide +kernel
theorem dX9_widen_62 : decode cX9_widen 62 = .ok (.invokestatic 193, 3) := by decide +kernel
theorem dX9_widen_65 : decode cX9_widen 65 = .ok (.invokestatic 116, 3) := by decide +kernel
theorem dX9_widen_68 : decode cX9_widen 68 = .ok (.lreturn, 1) := by decide +kernel
theorem dX9_widen_69 : decode cX9_widen 69 = .ok (.lload_n 2, 1) := by decide +kernel
theorem dX9_widen_70 : decode cX9_widen 70 = .ok (.l2i, 1) := by decide +kernel
theorem dX9_widen_71 : decode cX9_widen 71 = .ok (.i2f, 1) := by decide +kernel
theorem dX9_widen_72 : decode cX9_widen 72 = .ok (.invokestatic 109, 3) := by decide +kernel
theorem dX9_widen_75 : decode cX9_widen 75 = .ok (.lreturn, 1) := by decide +kernel
theorem dX9_holds_0 : decode cX9_holds 0 = .ok (.iload_n 0, 1) := by decide +kernel
theorem dX9_holds_1 : decode cX9_holds 1 = .ok (.tableswitch 95 0 4 #[35, 47, 59, 71, 83], 35) := by decide +kernel
theorem dX9_holds_36 : decode cX9_holds 36 = .ok (.dload_n 1, 1) := by decide +kernel
theorem dX9_holds_37 : decode cX9_holds 37 = .ok (.dload_n 3, 1) := by decide +kernel
theorem dX9_holds_38 : decode cX9_holds 38 = .ok (.dcmp .g, 1) := by decide +kernel
theorem dX9_holds_39 : decode cX9_holds 39 = .ok (.ifCond .ge 7, 3) := by decide +kernel
theorem dX9_holds_42 : decode cX9_holds 42 = .ok (.iconst 1, 1) := by decide +kernel
theorem dX9_holds_43 : decode cX9_holds 43 = .ok (.goto 4, 3) := by decide +kernel
theorem dX9_holds_46 : decode cX9_holds 46 = .ok (.iconst 0, 1) := by decide +kernel
theorem dX9_holds_47 : decode cX9_holds 47 = .ok (.ireturn, 1) := by decide +kernel
theorem dX9_holds_48 : decode cX9_holds 48 = .ok (.dload_n 1, 1) := by decide +kernel
theorem dX9_holds_49 : decode cX9_holds 49 = .ok (.dload_n 3, 1) := by decide +kernel
theorem dX9_holds_50 : decode cX9_holds 50 = .ok (.dcmp .g, 1) := by decide +kernel
theorem dX9_holds_51 : decode cX9_holds 51 = .ok (.ifCond .gt 7, 3) := by decide +kernel
theorem dX9_holds_54 : decode cX9_holds 54 = .ok (.iconst 1, 1) := by decide +kernel
theorem dX9_holds_55 : decode cX9_holds 55 = .ok (.goto 4, 3) := by decide +kernel
theorem dX9_holds_58 : decode cX9_holds 58 = .ok (.iconst 0, 1) := by decide +kernel
theorem dX9_holds_59 : decode cX9_holds 59 = .ok (.ireturn, 1) := by decide +kernel
theorem dX9_holds_60 : decode cX9_holds 60 = .ok (.dload_n 1, 1) := by decide +kernel
theorem dX9_holds_61 : decode cX9_holds 61 = .ok (.dload_n 3, 1) := by decide +kernel
theorem dX9_holds_62 : decode cX9_holds 62 = .ok (.dcmp .l, 1) := by decide +kernel
theorem dX9_holds_63 : decode cX9_holds 63 = .ok (.ifCond .le 7, 3) := by decide +kernel
theorem dX9_holds_66 : decode cX9_holds 66 = .ok (.iconst 1, 1) := by decide +kernel
theorem dX9_holds_67 : decode cX9_holds 67 = .ok (.goto 4, 3) := by decide +kernel
theorem dX9_holds_70 : decode cX9_holds 70 = .ok (.iconst 0, 1) := by decide +kernel
theorem dX9_holds_71 : decode cX9_holds 71 = .ok (.ireturn, 1) := by decide +kernel
theorem dX9_holds_72 : decode cX9_holds 72 = .ok (.dload_n 1, 1) := by decide +kernel
theorem dX9_holds_73 : decode cX9_holds 73 = .ok (.dload_n 3, 1) := by decide +kernel
theorem dX9_holds_74 : decode cX9_holds 74 = .ok (.dcmp .l, 1) := by decide +kernel
theorem dX9_holds_75 : decode cX9_holds 75 = .ok (.ifCond .lt 7, 3) := by decide +kernel
theorem dX9_holds_78 : decode cX9_holds 78 = .ok (.iconst 1, 1) := by decide +kernel
theorem dX9_holds_79 : decode cX9_holds 79 = .ok (.goto 4, 3) := by decide +kernel
theorem dX9_holds_82 : decode cX9_holds 82 = .ok (.iconst 0, 1) := by decide +kernel
theorem dX9_holds_83 : decode cX9_holds 83 = .ok (.ireturn, 1) := by decide +kernel
theorem dX9_holds_84 : decode cX9_holds 84 = .ok (.dload_n 1, 1) := by decide +kernel
theorem dX9_holds_85 : decode cX9_holds 85 = .ok (.dload_n 3, 1) := by decide +kernel
theorem dX9_holds_86 : decode cX9_holds 86 = .ok (.dcmp .l, 1) := by decide +kernel
theorem dX9_holds_87 : decode cX9_holds 87 = .ok (.ifCond .ne 7, 3) := by decide +kernel
theorem dX9_holds_90 : decode cX9_holds 90 = .ok (.iconst 1, 1) := by decide +kernel
theorem dX9_holds_91 : decode cX9_holds 91 = .ok (.goto 4, 3) := by decide +kernel
theorem dX9_holds_94 : decode cX9_holds 94 = .ok (.iconst 0, 1) := by decide +kernel
theorem dX9_holds_95 : decode cX9_holds 95 = .ok (.ireturn, 1) := by decide +kernel
theorem dX9_holds_96 : decode cX9_holds 96 = .ok (.dload_n 1, 1) := by decide +kernel
theorem dX9_holds_97 : decode cX9_holds 97 = .ok (.dload_n 3, 1) := by decide +kernel
theorem dX9_holds_98 : decode cX9_holds 98 = .ok (.dcmp .l, 1) := by decide +kernel
theorem dX9_holds_99 : decode cX9_holds 99 = .ok (.ifCond .eq 7, 3) := by decide +kernel
theorem dX9_holds_102 : decode cX9_holds 102 = .ok (.iconst 1, 1) := by decide +kernel
theorem dX9_holds_103 : decode cX9_holds 103 = .ok (.goto 4, 3) := by decide +kernel
theorem dX9_holds_106 : decode cX9_holds 106 = .ok (.iconst 0, 1) := by decide +kernel
theorem dX9_holds_107 : decode cX9_holds 107 = .ok (.ireturn, 1) := by decide +kernel
set_option maxRecDepth 20000 in
theorem ggX9_compare_X9_begin : GoodIn wsX9_compare wsX9_begin := goodIn_r _ [5, 6, 41, 42, 43, 44, 45, 46, 47, 48, 49, 50, 51, 52] rfl (by decide +kernel)
set_option maxRecDepth 20000 in
theorem gX9_compare_X9_begin : GoodIn wsX9_compare (wsV RX9 76 RX9 yX9_begin wsX9_begin) := goodIn_app (goodIn_of _ (by decide +kernel)) ggX9_compare_X9_begin
set_option maxRecDepth 20000 in
theorem ggX9_compare_X9_in : GoodIn wsX9_compare wsX9_in := goodIn_r _ [9] rfl (by decide +kernel)
set_option maxRecDepth 20000 in
theorem gX9_compare_X9_in : GoodIn wsX9_compare (va_wsS RX9 59 yX9_in wsX9_in) := goodIn_app (goodIn_of _ (by decide +kernel)) ggX9_compare_X9_in
set_option maxRecDepth 20000 in
theorem ggX9_compare_X9_fails : GoodIn wsX9_compare wsX9_fails := goodIn_r _ [13, 6, 14, 41, 42, 43, 44, 45, 46, 47, 48, 49, 50, 51, 52] rfl (by decide +kernel)
set_option maxRecDepth 20000 in
theorem gX9_compare_X9_fails : GoodIn wsX9_compare (wsV RX9 83 RX9 yX9_fails wsX9_fails) := goodIn_app (goodIn_of _ (by decide +kernel)) ggX9_compare_X9_fails
set_option maxRecDepth 20000 in
theorem ggX9_compare_X9_realBits : GoodIn wsX9_compare wsX9_realBits := goodIn_r _ [17, 18, 19, 20, 21, 22, 23, 24] rfl (by decide +kernel)
set_option maxRecDepth 20000 in
theorem gX9_compare_X9_realBits : GoodIn wsX9_compare (va_wsS RX9 113 yX9_realBits wsX9_realBits) := goodIn_app (goodIn_of _ (by decide +kernel)) ggX9_compare_X9_realBits
set_option maxRecDepth 20000 in
theorem ggX9_compare_X9_wide : GoodIn wsX9_compare wsX9_wide := goodIn_r _ [27, 20, 28, 29, 4, 30, 31, 32, 33, 34, 35, 36, 37] rfl (by decide +kernel)
set_option maxRecDepth 20000 in
theorem gX9_compare_X9_wide : GoodIn wsX9_compare (va_wsS RX9 193 yX9_wide wsX9_wide) := goodIn_app (goodIn_of _ (by decide +kernel)) ggX9_compare_X9_wide
set_option maxRecDepth 20000 in
theorem ggX9_compare_X9_holds : GoodIn wsX9_compare wsX9_holds := goodIn_r _ [40] rfl (by decide +kernel)
set_option maxRecDepth 20000 in
theorem gX9_compare_X9_holds : GoodIn wsX9_compare (va_wsS RX9 197 yX9_holds wsX9_holds) := goodIn_app (goodIn_of _ (by decide +kernel)) ggX9_compare_X9_holds
theorem dX9_compare_0 : decode cX9_compare 0 = .ok (.aload_n 0, 1) := by decide +kernel
theorem dX9_compare_1 : decode cX9_compare 1 = .ok (.invokevirtual 76, 3) := by decide +kernel
theorem dX9_compare_4 : decode cX9_compare 4 = .ok (.iload_n 1, 1) := by decide +kernel
theorem dX9_compare_5 : decode cX9_compare 5 = .ok (.iconst 0, 1) := by decide +kernel
theorem dX9_compare_6 : decode cX9_compare 6 = .ok (.bipush 11, 2) := by decide +kernel
theorem dX9_compare_8 : decode cX9_compare 8 = .ok (.invokestatic 59, 3) := by decide +kernel
theorem dX9_compare_11 : decode cX9_compare 11 = .ok (.ifCond .ne 10, 3) := by decide +kernel
theorem dX9_compare_14 : decode cX9_compare 14 = .ok (.aload_n 0, 1) := by decide +kernel
theorem dX9_compare_15 : decode cX9_compare 15 = .ok (.bipush 8, 2) := by decide +kernel
theorem dX9_compare_17 : decode cX9_compare 17 = .ok (.invokevirtual 83, 3) := by decide +kernel
theorem dX9_compare_20 : decode cX9_compare 20 = .ok (.ireturn, 1) := by decide +kernel
theorem dX9_compare_21 : decode cX9_compare 21 = .ok (.iload_n 1, 1) := by decide +kernel
theorem dX9_compare_22 : decode cX9_compare 22 = .ok (.bipush 6, 2) := by decide +kernel
theorem dX9_compare_24 : decode cX9_compare 24 = .ok (.if_icmp .ge 10, 3) := by decide +kernel
theorem dX9_compare_27 : decode cX9_compare 27 = .ok (.lload_n 2, 1) := by decide +kernel
theorem dX9_compare_28 : decode cX9_compare 28 = .ok (.invokestatic 113, 3) := by decide +kernel
theorem dX9_compare_31 : decode cX9_compare 31 = .ok (.goto 8, 3) := by decide +kernel
theorem dX9_compare_34 : decode cX9_compare 34 = .ok (.lload_n 2, 1) := by decide +kernel
theorem dX9_compare_35 : decode cX9_compare 35 = .ok (.l2i, 1) := by decide +kernel
theorem dX9_compare_36 : decode cX9_compare 36 = .ok (.invokestatic 193, 3) := by decide +kernel
theorem dX9_compare_39 : decode cX9_compare 39 = .ok (.dstore 6, 2) := by decide +kernel
theorem dX9_compare_41 : decode cX9_compare 41 = .ok (.iload_n 1, 1) := by decide +kernel
theorem dX9_compare_42 : decode cX9_compare 42 = .ok (.bipush 6, 2) := by decide +kernel
theorem dX9_compare_44 : decode cX9_compare 44 = .ok (.if_icmp .ge 11, 3) := by decide +kernel
theorem dX9_compare_47 : decode cX9_compare 47 = .ok (.lload 4, 2) := by decide +kernel
theorem dX9_compare_49 : decode cX9_compare 49 = .ok (.invokestatic 113, 3) := by decide +kernel
theorem dX9_compare_52 : decode cX9_compare 52 = .ok (.goto 9, 3) := by decide +kernel
theorem dX9_compare_55 : decode cX9_compare 55 = .ok (.lload 4, 2) := by decide +kernel
theorem dX9_compare_57 : decode cX9_compare 57 = .ok (.l2i, 1) := by decide +kernel
theorem dX9_compare_58 : decode cX9_compare 58 = .ok (.invokestatic 193, 3) := by decide +kernel
theorem dX9_compare_61 : decode cX9_compare 61 = .ok (.dstore 8, 2) := by decide +kernel
theorem dX9_compare_63 : decode cX9_compare 63 = .ok (.iload_n 1, 1) := by decide +kernel
theorem dX9_compare_64 : decode cX9_compare 64 = .ok (.bipush 6, 2) := by decide +kernel
theorem dX9_compare_66 : decode cX9_compare 66 = .ok (.irem, 1) := by decide +kernel
theorem dX9_compare_67 : decode cX9_compare 67 = .ok (.dload 6, 2) := by decide +kernel
theorem dX9_compare_69 : decode cX9_compare 69 = .ok (.dload 8, 2) := by decide +kernel
theorem dX9_compare_71 : decode cX9_compare 71 = .ok (.invokestatic 197, 3) := by decide +kernel
theorem dX9_compare_74 : decode cX9_compare 74 = .ok (.ifCond .eq 7, 3) := by decide +kernel
theorem dX9_compare_77 : decode cX9_compare 77 = .ok (.iconst 1, 1) := by decide +kernel
theorem dX9_compare_78 : decode cX9_compare 78 = .ok (.goto 4, 3) := by decide +kernel
theorem dX9_compare_81 : decode cX9_compare 81 = .ok (.iconst 0, 1) := by decide +kernel
theorem dX9_compare_82 : decode cX9_compare 82 = .ok (.ireturn, 1) := by decide +kernel
set_option maxRecDepth 20000 in
theorem ggX9_pass_X9_begin : GoodIn wsX9_pass wsX9_begin := goodIn_r _ [9, 10, 42, 43, 44, 45, 46, 47, 48, 49, 50, 51, 52, 53] rfl (by decide +kernel)
set_option maxRecDepth 20000 in
theorem gX9_pass_X9_begin : GoodIn wsX9_pass (wsV RX9 76 RX9 yX9_begin wsX9_begin) := goodIn_app (goodIn_of _ (by decide +kernel)) ggX9_pass_X9_begin
set_option maxRecDepth 20000 in
theorem ggX9_pass_X9_in : GoodIn wsX9_pass wsX9_in := goodIn_r _ [13] rfl (by decide +kernel)
set_option maxRecDepth 20000 in
theorem gX9_pass_X9_in : GoodIn wsX9_pass (va_wsS RX9 59 yX9_in wsX9_in) := goodIn_app (goodIn_of _ (by decide +kernel)) ggX9_pass_X9_in
set_option maxRecDepth 20000 in
theorem ggX9_pass_X9_isCell : GoodIn wsX9_pass wsX9_isCell := goodIn_r _ [16, 11, 12, 8, 13] rfl (by decide +kernel)
set_option maxRecDepth 20000 in
theorem gX9_pass_X9_isCell : GoodIn wsX9_pass (va_wsS RX9 79 yX9_isCell wsX9_isCell) := goodIn_app (goodIn_of _ (by decide +kernel)) ggX9_pass_X9_isCell
set_option maxRecDepth 20000 in
theorem ggX9_pass_X9_fails : GoodIn wsX9_pass wsX9_fails := goodIn_r _ [20, 10, 21, 42, 43, 44, 45, 46, 47, 48, 49, 50, 51, 52, 53] rfl (by decide +kernel)
set_option maxRecDepth 20000 in
theorem gX9_pass_X9_fails : GoodIn wsX9_pass (wsV RX9 83 RX9 yX9_fails wsX9_fails) := goodIn_app (goodIn_of _ (by decide +kernel)) ggX9_pass_X9_fails
set_option maxRecDepth 20000 in
theorem ggX9_pass_X9_against : GoodIn wsX9_pass wsX9_against := goodIn_r _ [25, 26, 27, 28, 29, 8, 30, 31, 32, 33, 34, 11, 12, 13, 42, 43, 44, 45, 46, 47, 48, 49, 50, 51, 52, 53] rfl (by decide +kernel)
set_option maxRecDepth 20000 in
theorem gX9_pass_X9_against : GoodIn wsX9_pass (wsV RX9 119 RX9 yX9_against wsX9_against) := goodIn_app (goodIn_of _ (by decide +kernel)) ggX9_pass_X9_against
set_option maxRecDepth 20000 in
theorem ggX9_pass_X9_element : GoodIn wsX9_pass wsX9_element := goodIn_r _ [38, 31, 39, 40, 41, 42, 43, 44, 45, 46, 47, 48, 49, 50, 51, 52, 53] rfl (by decide +kernel)
set_option maxRecDepth 20000 in
theorem gX9_pass_X9_element : GoodIn wsX9_pass (wsV RX9 123 RX9 yX9_element wsX9_element) := goodIn_app (goodIn_of _ (by decide +kernel)) ggX9_pass_X9_element
theorem dX9_pass_0 : decode cX9_pass 0 = .ok (.aload_n 0, 1) := by decide +kernel
theorem dX9_pass_1 : decode cX9_pass 1 = .ok (.invokevirtual 76, 3) := by decide +kernel
theorem dX9_pass_4 : decode cX9_pass 4 = .ok (.iload_n 1, 1) := by decide +kernel
theorem dX9_pass_5 : decode cX9_pass 5 = .ok (.iconst 0, 1) := by decide +kernel
theorem dX9_pass_6 : decode cX9_pass 6 = .ok (.bipush 6, 2) := by decide +kernel
theorem dX9_pass_8 : decode cX9_pass 8 = .ok (.invokestatic 59, 3) := by decide +kernel
theorem dX9_pass_11 : decode cX9_pass 11 = .ok (.ifCond .eq 10, 3) := by decide +kernel
theorem dX9_pass_14 : decode cX9_pass 14 = .ok (.iload_n 2, 1) := by decide +kernel
theorem dX9_pass_15 : decode cX9_pass 15 = .ok (.invokestatic 79, 3) := by decide +kernel
theorem dX9_pass_18 : decode cX9_pass 18 = .ok (.ifCond .ne 11, 3) := by decide +kernel
theorem dX9_pass_21 : decode cX9_pass 21 = .ok (.aload_n 0, 1) := by decide +kernel
theorem dX9_pass_22 : decode cX9_pass 22 = .ok (.bipush 8, 2) := by decide +kernel
theorem dX9_pass_24 : decode cX9_pass 24 = .ok (.invokevirtual 83, 3) := by decide +kernel
theorem dX9_pass_27 : decode cX9_pass 27 = .ok (.i2l, 1) := by decide +kernel
theorem dX9_pass_28 : decode cX9_pass 28 = .ok (.lreturn, 1) := by decide +kernel
theorem dX9_pass_29 : decode cX9_pass 29 = .ok (.aload_n 0, 1) := by decide +kernel
theorem dX9_pass_30 : decode cX9_pass 30 = .ok (.iload_n 1, 1) := by decide +kernel
theorem dX9_pass_31 : decode cX9_pass 31 = .ok (.aload_n 0, 1) := by decide +kernel
theorem dX9_pass_32 : decode cX9_pass 32 = .ok (.getfield 28, 3) := by decide +kernel
theorem dX9_pass_35 : decode cX9_pass 35 = .ok (.iload_n 2, 1) := by decide +kernel
theorem dX9_pass_36 : decode cX9_pass 36 = .ok (.iaload, 1) := by decide +kernel
theorem dX9_pass_37 : decode cX9_pass 37 = .ok (.iload_n 3, 1) := by decide +kernel
theorem dX9_pass_38 : decode cX9_pass 38 = .ok (.invokevirtual 119, 3) := by decide +kernel
theorem dX9_pass_41 : decode cX9_pass 41 = .ok (.istore 4, 2) := by decide +kernel
theorem dX9_pass_43 : decode cX9_pass 43 = .ok (.iload 4, 2) := by decide +kernel
theorem dX9_pass_45 : decode cX9_pass 45 = .ok (.tableswitch 64 1 4 #[51, 41, 64, 31], 31) := by decide +kernel
theorem dX9_pass_76 : decode cX9_pass 76 = .ok (.aload_n 0, 1) := by decide +kernel
theorem dX9_pass_77 : decode cX9_pass 77 = .ok (.bipush 77, 2) := by decide +kernel
theorem dX9_pass_79 : decode cX9_pass 79 = .ok (.putfield 201, 3) := by decide +kernel
theorem dX9_pass_82 : decode cX9_pass 82 = .ok (.ldc2_w 204, 3) := by decide +kernel
theorem dX9_pass_85 : decode cX9_pass 85 = .ok (.lreturn, 1) := by decide +kernel
theorem dX9_pass_86 : decode cX9_pass 86 = .ok (.aload_n 0, 1) := by decide +kernel
theorem dX9_pass_87 : decode cX9_pass 87 = .ok (.bipush 25, 2) := by decide +kernel
theorem dX9_pass_89 : decode cX9_pass 89 = .ok (.putfield 201, 3) := by decide +kernel
theorem dX9_pass_92 : decode cX9_pass 92 = .ok (.ldc2_w 206, 3) := by decide +kernel
theorem dX9_pass_95 : decode cX9_pass 95 = .ok (.lreturn, 1) := by decide +kernel
theorem dX9_pass_96 : decode cX9_pass 96 = .ok (.aload_n 0, 1) := by decide +kernel
theorem dX9_pass_97 : decode cX9_pass 97 = .ok (.bipush 41, 2) := by decide +kernel
theorem dX9_pass_99 : decode cX9_pass 99 = .ok (.putfield 201, 3) := by decide +kernel
theorem dX9_pass_102 : decode cX9_pass 102 = .ok (.aload_n 0, 1) := by decide +kernel
theorem dX9_pass_103 : decode cX9_pass 103 = .ok (.iconst 1, 1) := by decide +kernel
theorem dX9_pass_104 : decode cX9_pass 104 = .ok (.invokevirtual 83, 3) := by decide +kernel
theorem dX9_pass_107 : decode cX9_pass 107 = .ok (.i2l, 1) := by decide +kernel
theorem dX9_pass_108 : decode cX9_pass 108 = .ok (.lreturn, 1) := by decide +kernel
theorem dX9_pass_109 : decode cX9_pass 109 = .ok (.aload_n 0, 1) := by decide +kernel
theorem dX9_pass_110 : decode cX9_pass 110 = .ok (.bipush 75, 2) := by decide +kernel
theorem dX9_pass_112 : decode cX9_pass 112 = .ok (.putfield 201, 3) := by decide +kernel
theorem dX9_pass_115 : decode cX9_pass 115 = .ok (.aload_n 0, 1) := by decide +kernel
theorem dX9_pass_116 : decode cX9_pass 116 = .ok (.aload_n 0, 1) := by decide +kernel
theorem dX9_pass_117 : decode cX9_pass 117 = .ok (.getfield 28, 3) := by decide +kernel
theorem dX9_pass_120 : decode cX9_pass 120 = .ok (.iload_n 2, 1) := by decide +kernel
theorem dX9_pass_121 : decode cX9_pass 121 = .ok (.iaload, 1) := by decide +kernel
theorem dX9_pass_122 : decode cX9_pass 122 = .ok (.iload_n 3, 1) := by decide +kernel
theorem dX9_pass_123 : decode cX9_pass 123 = .ok (.invokevirtual 123, 3) := by decide +kernel
theorem dX9_pass_126 : decode cX9_pass 126 = .ok (.lreturn, 1) := by decide +kernel
theorem dX9_trace_0 : decode cX9_trace 0 = .ok (.aload_n 0, 1) := by decide +kernel
theorem dX9_trace_1 : decode cX9_trace 1 = .ok (.getfield 201, 3) := by decide +kernel
theorem dX9_trace_4 : decode cX9_trace 4 = .ok (.ireturn, 1) := by decide +kernel
theorem dX9_latest_0 : decode cX9_latest 0 = .ok (.aload_n 0, 1) := by decide +kernel
theorem dX9_latest_1 : decode cX9_latest 1 = .ok (.getfield 34, 3) := by decide +kernel
theorem dX9_latest_4 : decode cX9_latest 4 = .ok (.ireturn, 1) := by decide +kernel
set_option maxRecDepth 20000 in
theorem ggX9_thrown_X9_in : GoodIn wsX9_thrown wsX9_in := goodIn_r _ [5] rfl (by decide +kernel)
set_option maxRecDepth 20000 in
theorem gX9_thrown_X9_in : GoodIn wsX9_thrown (va_wsS RX9 59 yX9_in wsX9_in) := goodIn_app (goodIn_of _ (by decide +kernel)) ggX9_thrown_X9_in
theorem dX9_thrown_0 : decode cX9_thrown 0 = .ok (.iload_n 1, 1) := by decide +kernel
theorem dX9_thrown_1 : decode cX9_thrown 1 = .ok (.iconst 1, 1) := by decide +kernel
theorem dX9_thrown_2 : decode cX9_thrown 2 = .ok (.bipush 8, 2) := by decide +kernel
theorem dX9_thrown_4 : decode cX9_thrown 4 = .ok (.invokestatic 59, 3) := by decide +kernel
theorem dX9_thrown_7 : decode cX9_thrown 7 = .ok (.ifCond .eq 12, 3) := by decide +kernel
theorem dX9_thrown_10 : decode cX9_thrown 10 = .ok (.aload_n 0, 1) := by decide +kernel
theorem dX9_thrown_11 : decode cX9_thrown 11 = .ok (.getfield 31, 3) := by decide +kernel
theorem dX9_thrown_14 : decode cX9_thrown 14 = .ok (.iload_n 1, 1) := by decide +kernel
theorem dX9_thrown_15 : decode cX9_thrown 15 = .ok (.iaload, 1) := by decide +kernel
theorem dX9_thrown_16 : decode cX9_thrown 16 = .ok (.goto 4, 3) := by decide +kernel
theorem dX9_thrown_19 : decode cX9_thrown 19 = .ok (.iconst 0, 1) := by decide +kernel
theorem dX9_thrown_20 : decode cX9_thrown 20 = .ok (.ireturn, 1) := by decide +kernel
theorem dJxe99ae_isNaN_b9ae7_0 : decode cJxe99ae_isNaN_b9ae7 0 = .ok (.dload_n 0, 1) := by decide +kernel
theorem dJxe99ae_isNaN_b9ae7_1 : decode cJxe99ae_isNaN_b9ae7 1 = .ok (.dload_n 0, 1) := by decide +kernel
theorem dJxe99ae_isNaN_b9ae7_2 : decode cJxe99ae_isNaN_b9ae7 2 = .ok (.dcmp .l, 1) := by decide +kernel
theorem dJxe99ae_isNaN_b9ae7_3 : decode cJxe99ae_isNaN_b9ae7 3 = .ok (.ifCond .eq 7, 3) := by decide +kernel
theorem dJxe99ae_isNaN_b9ae7_6 : decode cJxe99ae_isNaN_b9ae7 6 = .ok (.iconst 1, 1) := by decide +kernel
theorem dJxe99ae_isNaN_b9ae7_7 : decode cJxe99ae_isNaN_b9ae7 7 = .ok (.goto 4, 3) := by decide +kernel
theorem dJxe99ae_isNaN_b9ae7_10 : decode cJxe99ae_isNaN_b9ae7 10 = .ok (.iconst 0, 1) := by decide +kernel
theorem dJxe99ae_isNaN_b9ae7_11 : decode cJxe99ae_isNaN_b9ae7 11 = .ok (.ireturn, 1) := by decide +kernel
set_option maxRecDepth 20000 in
theorem ggJxe99ae_doubleToLongBits_ccdee_Jxe99ae_isNaN_b9ae7 : GoodIn wsJxe99ae_doubleToLongBits_ccdee wsJxe99ae_isNaN_b9ae7 := goodIn_r _ [9] rfl (by decide +kernel)
set_option maxRecDepth 20000 in
theorem gJxe99ae_doubleToLongBits_ccdee_Jxe99ae_isNaN_b9ae7 : GoodIn wsJxe99ae_doubleToLongBits_ccdee (va_wsS RJxe99ae 122 yJxe99ae_isNaN_b9ae7 wsJxe99ae_isNaN_b9ae7) := goodIn_app (goodIn_of _ (by decide +kernel)) ggJxe99ae_doubleToLongBits_ccdee_Jxe99ae_isNaN_b9ae7
theorem dJxe99ae_doubleToLongBits_ccdee_0 : decode cJxe99ae_doubleToLongBits_ccdee 0 = .ok (.dload_n 0, 1) := by decide +kernel
theorem dJxe99ae_doubleToLongBits_ccdee_1 : decode cJxe99ae_doubleToLongBits_ccdee 1 = .ok (.invokestatic 122, 3) := by decide +kernel
theorem dJxe99ae_doubleToLongBits_ccdee_4 : decode cJxe99ae_doubleToLongBits_ccdee 4 = .ok (.ifCond .ne 8, 3) := by decide +kernel
theorem dJxe99ae_doubleToLongBits_ccdee_7 : decode cJxe99ae_doubleToLongBits_ccdee 7 = .ok (.dload_n 0, 1) := by decide +kernel
theorem dJxe99ae_doubleToLongBits_ccdee_8 : decode cJxe99ae_doubleToLongBits_ccdee 8 = .ok (.invokestatic 134, 3) := by decide +kernel
theorem dJxe99ae_doubleToLongBits_ccdee_11 : decode cJxe99ae_doubleToLongBits_ccdee 11 = .ok (.lreturn, 1) := by decide +kernel
theorem dJxe99ae_doubleToLongBits_ccdee_12 : decode cJxe99ae_doubleToLongBits_ccdee 12 = .ok (.ldc2_w 137, 3) := by decide +kernel
theorem dJxe99ae_doubleToLongBits_ccdee_15 : decode cJxe99ae_doubleToLongBits_ccdee 15 = .ok (.lreturn, 1) := by decide +kernel
theorem dJxf58ca_isNaN_12338_0 : decode cJxf58ca_isNaN_12338 0 = .ok (.fload_n 0, 1) := by decide +kernel
theorem dJxf58ca_isNaN_12338_1 : decode cJxf58ca_isNaN_12338 1 = .ok (.fload_n 0, 1) := by decide +kernel
theorem dJxf58ca_isNaN_12338_2 : decode cJxf58ca_isNaN_12338 2 = .ok (.fcmp .l, 1) := by decide +kernel
theorem dJxf58ca_isNaN_12338_3 : decode cJxf58ca_isNaN_12338 3 = .ok (.ifCond .eq 7, 3) := by decide +kernel
theorem dJxf58ca_isNaN_12338_6 : decode cJxf58ca_isNaN_12338 6 = .ok (.iconst 1, 1) := by decide +kernel
theorem dJxf58ca_isNaN_12338_7 : decode cJxf58ca_isNaN_12338 7 = .ok (.goto 4, 3) := by decide +kernel
theorem dJxf58ca_isNaN_12338_10 : decode cJxf58ca_isNaN_12338 10 = .ok (.iconst 0, 1) := by decide +kernel
theorem dJxf58ca_isNaN_12338_11 : decode cJxf58ca_isNaN_12338 11 = .ok (.ireturn, 1) := by decide +kernel
set_option maxRecDepth 20000 in
theorem ggJxf58ca_floatToIntBits_5c35a_Jxf58ca_isNaN_12338 : GoodIn wsJxf58ca_floatToIntBits_5c35a wsJxf58ca_isNaN_12338 := goodIn_r _ [9] rfl (by decide +kernel)
set_option maxRecDepth 20000 in
theorem gJxf58ca_floatToIntBits_5c35a_Jxf58ca_isNaN_12338 : GoodIn wsJxf58ca_floatToIntBits_5c35a (va_wsS RJxf58ca 59 yJxf58ca_isNaN_12338 wsJxf58ca_isNaN_12338) := goodIn_app (goodIn_of _ (by decide +kernel)) ggJxf58ca_floatToIntBits_5c35a_Jxf58ca_isNaN_12338
theorem dJxf58ca_floatToIntBits_5c35a_0 : decode cJxf58ca_floatToIntBits_5c35a 0 = .ok (.fload_n 0, 1) := by decide +kernel
theorem dJxf58ca_floatToIntBits_5c35a_1 : decode cJxf58ca_floatToIntBits_5c35a 1 = .ok (.invokestatic 59, 3) := by decide +kernel
theorem dJxf58ca_floatToIntBits_5c35a_4 : decode cJxf58ca_floatToIntBits_5c35a 4 = .ok (.ifCond .ne 8, 3) := by decide +kernel
theorem dJxf58ca_floatToIntBits_5c35a_7 : decode cJxf58ca_floatToIntBits_5c35a 7 = .ok (.fload_n 0, 1) := by decide +kernel
theorem dJxf58ca_floatToIntBits_5c35a_8 : decode cJxf58ca_floatToIntBits_5c35a 8 = .ok (.invokestatic 74, 3) := by decide +kernel
theorem dJxf58ca_floatToIntBits_5c35a_11 : decode cJxf58ca_floatToIntBits_5c35a 11 = .ok (.ireturn, 1) := by decide +kernel
theorem dJxf58ca_floatToIntBits_5c35a_12 : decode cJxf58ca_floatToIntBits_5c35a 12 = .ok (.ldc 77, 2) := by decide +kernel
theorem dJxf58ca_floatToIntBits_5c35a_14 : decode cJxf58ca_floatToIntBits_5c35a 14 = .ok (.ireturn, 1) := by decide +kernel
theorem dJ9_abs_067f4_0 : decode cJ9_abs_067f4 0 = .ok (.lload_n 0, 1) := by decide +kernel
theorem dJ9_abs_067f4_1 : decode cJ9_abs_067f4 1 = .ok (.lconst 0, 1) := by decide +kernel
theorem dJ9_abs_067f4_2 : decode cJ9_abs_067f4 2 = .ok (.lcmp, 1) := by decide +kernel
theorem dJ9_abs_067f4_3 : decode cJ9_abs_067f4 3 = .ok (.ifCond .ge 8, 3) := by decide +kernel
theorem dJ9_abs_067f4_6 : decode cJ9_abs_067f4 6 = .ok (.lload_n 0, 1) := by decide +kernel
theorem dJ9_abs_067f4_7 : decode cJ9_abs_067f4 7 = .ok (.lneg, 1) := by decide +kernel
theorem dJ9_abs_067f4_8 : decode cJ9_abs_067f4 8 = .ok (.goto 4, 3) := by decide +kernel
theorem dJ9_abs_067f4_11 : decode cJ9_abs_067f4 11 = .ok (.lload_n 0, 1) := by decide +kernel
theorem dJ9_abs_067f4_12 : decode cJ9_abs_067f4 12 = .ok (.lreturn, 1) := by decide +kernel
theorem dJ9_max_7cf53_0 : decode cJ9_max_7cf53 0 = .ok (.iload_n 0, 1) := by decide +kernel
theorem dJ9_max_7cf53_1 : decode cJ9_max_7cf53 1 = .ok (.iload_n 1, 1) := by decide +kernel
theorem dJ9_max_7cf53_2 : decode cJ9_max_7cf53 2 = .ok (.if_icmp .lt 7, 3) := by decide +kernel
theorem dJ9_max_7cf53_5 : decode cJ9_max_7cf53 5 = .ok (.iload_n 0, 1) := by decide +kernel
theorem dJ9_max_7cf53_6 : decode cJ9_max_7cf53 6 = .ok (.goto 4, 3) := by decide +kernel
theorem dJ9_max_7cf53_9 : decode cJ9_max_7cf53 9 = .ok (.iload_n 1, 1) := by decide +kernel
theorem dJ9_max_7cf53_10 : decode cJ9_max_7cf53 10 = .ok (.ireturn, 1) := by decide +kernel
theorem dJ9_max_f86c9_0 : decode cJ9_max_f86c9 0 = .ok (.lload_n 0, 1) := by decide +kernel
theorem dJ9_max_f86c9_1 : decode cJ9_max_f86c9 1 = .ok (.lload_n 2, 1) := by decide +kernel
theorem dJ9_max_f86c9_2 : decode cJ9_max_f86c9 2 = .ok (.lcmp, 1) := by decide +kernel
theorem dJ9_max_f86c9_3 : decode cJ9_max_f86c9 3 = .ok (.ifCond .lt 7, 3) := by decide +kernel
theorem dJ9_max_f86c9_6 : decode cJ9_max_f86c9 6 = .ok (.lload_n 0, 1) := by decide +kernel
theorem dJ9_max_f86c9_7 : decode cJ9_max_f86c9 7 = .ok (.goto 4, 3) := by decide +kernel
theorem dJ9_max_f86c9_10 : decode cJ9_max_f86c9 10 = .ok (.lload_n 2, 1) := by decide +kernel
theorem dJ9_max_f86c9_11 : decode cJ9_max_f86c9 11 = .ok (.lreturn, 1) := by decide +kernel
theorem dJ9_min_7cf53_0 : decode cJ9_min_7cf53 0 = .ok (.iload_n 0, 1) := by decide +kernel
theorem dJ9_min_7cf53_1 : decode cJ9_min_7cf53 1 = .ok (.iload_n 1, 1) := by decide +kernel
theorem dJ9_min_7cf53_2 : decode cJ9_min_7cf53 2 = .ok (.if_icmp .gt 7, 3) := by decide +kernel
theorem dJ9_min_7cf53_5 : decode cJ9_min_7cf53 5 = .ok (.iload_n 0, 1) := by decide +kernel
theorem dJ9_min_7cf53_6 : decode cJ9_min_7cf53 6 = .ok (.goto 4, 3) := by decide +kernel
theorem dJ9_min_7cf53_9 : decode cJ9_min_7cf53 9 = .ok (.iload_n 1, 1) := by decide +kernel
theorem dJ9_min_7cf53_10 : decode cJ9_min_7cf53 10 = .ok (.ireturn, 1) := by decide +kernel
theorem dJ9_min_f86c9_0 : decode cJ9_min_f86c9 0 = .ok (.lload_n 0, 1) := by decide +kernel
theorem dJ9_min_f86c9_1 : decode cJ9_min_f86c9 1 = .ok (.lload_n 2, 1) := by decide +kernel
theorem dJ9_min_f86c9_2 : decode cJ9_min_f86c9 2 = .ok (.lcmp, 1) := by decide +kernel
theorem dJ9_min_f86c9_3 : decode cJ9_min_f86c9 3 = .ok (.ifCond .gt 7, 3) := by decide +kernel
theorem dJ9_min_f86c9_6 : decode cJ9_min_f86c9 6 = .ok (.lload_n 0, 1) := by decide +kernel
theorem dJ9_min_f86c9_7 : decode cJ9_min_f86c9 7 = .ok (.goto 4, 3) := by decide +kernel
theorem dJ9_min_f86c9_10 : decode cJ9_min_f86c9 10 = .ok (.lload_n 2, 1) := by decide +kernel
theorem dJ9_min_f86c9_11 : decode cJ9_min_f86c9 11 = .ok (.lreturn, 1) := by decide +kernel
