set_option maxRecDepth 20000 in
theorem ggX7_init_X2_init : GoodIn wsX7_init wsX2_init := goodIn_r _ [36, 37, 2, 3, 30, 38, 39, 40, 41, 42, 43, 44, 45, 82, 83, 84, 85, 86, 87, 88, 89, 90, 91] (by exact rfl) (by decide +kernel)
set_option maxRecDepth 20000 in
theorem gX7_init_X2_init : GoodIn wsX7_init (wsX2_init) := ggX7_init_X2_init
set_option maxRecDepth 20000 in
theorem ggX7_init_X1_init : GoodIn wsX7_init wsX1_init := goodIn_r _ [48, 49, 2, 3, 30, 50, 51, 52, 53, 54, 103, 104, 105, 106, 107, 108, 109, 110, 111, 112, 113, 114] (by exact rfl) (by decide +kernel)
set_option maxRecDepth 20000 in
theorem gX7_init_X1_init : GoodIn wsX7_init (wsX1_init) := ggX7_init_X1_init
set_option maxRecDepth 20000 in
theorem ggX7_init_X4_init : GoodIn wsX7_init wsX4_init := goodIn_r _ [57, 58, 2, 3, 59, 60, 61, 62, 63, 64, 65, 66, 67, 68, 115, 116, 117, 118, 119, 120, 121, 122] (by exact rfl) (by decide +kernel)
set_option maxRecDepth 20000 in
theorem gX7_init_X4_init : GoodIn wsX7_init (wsX4_init) := ggX7_init_X4_init
set_option maxRecDepth 20000 in
theorem ggX7_init_X0_init : GoodIn wsX7_init wsX0_init := goodIn_r _ [70, 71, 2, 3] (by exact rfl) (by decide +kernel)
set_option maxRecDepth 20000 in
theorem gX7_init_X0_init_n38 : GoodIn wsX7_init (wsX0_init) := ggX7_init_X0_init
set_option maxRecDepth 20000 in
theorem ggX7_init_X6_init : GoodIn wsX7_init wsX6_init := goodIn_r _ [74, 75, 2, 3, 30, 76, 127, 128, 129, 130, 131, 132] (by exact rfl) (by decide +kernel)
set_option maxRecDepth 20000 in
theorem gX7_init_X6_init : GoodIn wsX7_init (wsX6_init) := ggX7_init_X6_init
set_option maxRecDepth 20000 in
theorem ggX7_init_X5_init : GoodIn wsX7_init wsX5_init := goodIn_r _ [79, 80, 2, 3, 30, 81, 133, 134, 135] (by exact rfl) (by decide +kernel)
set_option maxRecDepth 20000 in
theorem gX7_init_X5_init : GoodIn wsX7_init (wsX5_init) := ggX7_init_X5_init
theorem dX7_init_0 : decode cX7_init 0 = .ok (.aload_n 0, 1) := by decide +kernel
theorem dX7_init_1 : decode cX7_init 1 = .ok (.invokespecial 3, 3) := by decide +kernel
theorem dX7_init_4 : decode cX7_init 4 = .ok (.aload_n 0, 1) := by decide +kernel
theorem dX7_init_5 : decode cX7_init 5 = .ok (.new 9, 3) := by decide +kernel
theorem dX7_init_8 : decode cX7_init 8 = .ok (.dup, 1) := by decide +kernel
theorem dX7_init_9 : decode cX7_init 9 = .ok (.invokespecial 11, 3) := by decide +kernel
theorem dX7_init_12 : decode cX7_init 12 = .ok (.putfield 12, 3) := by decide +kernel
theorem dX7_init_15 : decode cX7_init 15 = .ok (.aload_n 0, 1) := by decide +kernel
theorem dX7_init_16 : decode cX7_init 16 = .ok (.new 9, 3) := by decide +kernel
theorem dX7_init_19 : decode cX7_init 19 = .ok (.dup, 1) := by decide +kernel
theorem dX7_init_20 : decode cX7_init 20 = .ok (.invokespecial 11, 3) := by decide +kernel
theorem dX7_init_23 : decode cX7_init 23 = .ok (.putfield 16, 3) := by decide +kernel
theorem dX7_init_26 : decode cX7_init 26 = .ok (.aload_n 0, 1) := by decide +kernel
theorem dX7_init_27 : decode cX7_init 27 = .ok (.new 9, 3) := by decide +kernel
theorem dX7_init_30 : decode cX7_init 30 = .ok (.dup, 1) := by decide +kernel
theorem dX7_init_31 : decode cX7_init 31 = .ok (.invokespecial 11, 3) := by decide +kernel
theorem dX7_init_34 : decode cX7_init 34 = .ok (.putfield 19, 3) := by decide +kernel
theorem dX7_init_37 : decode cX7_init 37 = .ok (.aload_n 0, 1) := by decide +kernel
theorem dX7_init_38 : decode cX7_init 38 = .ok (.new 22, 3) := by decide +kernel
theorem dX7_init_41 : decode cX7_init 41 = .ok (.dup, 1) := by decide +kernel
theorem dX7_init_42 : decode cX7_init 42 = .ok (.invokespecial 24, 3) := by decide +kernel
theorem dX7_init_45 : decode cX7_init 45 = .ok (.putfield 25, 3) := by decide +kernel
theorem dX7_init_48 : decode cX7_init 48 = .ok (.aload_n 0, 1) := by decide +kernel
theorem dX7_init_49 : decode cX7_init 49 = .ok (.new 29, 3) := by decide +kernel
theorem dX7_init_52 : decode cX7_init 52 = .ok (.dup, 1) := by decide +kernel
theorem dX7_init_53 : decode cX7_init 53 = .ok (.invokespecial 31, 3) := by decide +kernel
theorem dX7_init_56 : decode cX7_init 56 = .ok (.putfield 32, 3) := by decide +kernel
theorem dX7_init_59 : decode cX7_init 59 = .ok (.aload_n 0, 1) := by decide +kernel
theorem dX7_init_60 : decode cX7_init 60 = .ok (.new 36, 3) := by decide +kernel
theorem dX7_init_63 : decode cX7_init 63 = .ok (.dup, 1) := by decide +kernel
theorem dX7_init_64 : decode cX7_init 64 = .ok (.invokespecial 38, 3) := by decide +kernel
theorem dX7_init_67 : decode cX7_init 67 = .ok (.putfield 39, 3) := by decide +kernel
theorem dX7_init_70 : decode cX7_init 70 = .ok (.aload_n 0, 1) := by decide +kernel
theorem dX7_init_71 : decode cX7_init 71 = .ok (.new 43, 3) := by decide +kernel
theorem dX7_init_74 : decode cX7_init 74 = .ok (.dup, 1) := by decide +kernel
theorem dX7_init_75 : decode cX7_init 75 = .ok (.invokespecial 45, 3) := by decide +kernel
theorem dX7_init_78 : decode cX7_init 78 = .ok (.putfield 46, 3) := by decide +kernel
theorem dX7_init_81 : decode cX7_init 81 = .ok (.aload_n 0, 1) := by decide +kernel
theorem dX7_init_82 : decode cX7_init 82 = .ok (.iconst 4, 1) := by decide +kernel
theorem dX7_init_83 : decode cX7_init 83 = .ok (.anewarray 50, 3) := by decide +kernel
theorem dX7_init_86 : decode cX7_init 86 = .ok (.putfield 52, 3) := by decide +kernel
theorem dX7_init_89 : decode cX7_init 89 = .ok (.iconst 0, 1) := by decide +kernel
theorem dX7_init_90 : decode cX7_init 90 = .ok (.istore_n 1, 1) := by decide +kernel
theorem dX7_init_91 : decode cX7_init 91 = .ok (.iload_n 1, 1) := by decide +kernel
theorem dX7_init_92 : decode cX7_init 92 = .ok (.iconst 4, 1) := by decide +kernel
theorem dX7_init_93 : decode cX7_init 93 = .ok (.if_icmp .ge 22, 3) := by decide +kernel
theorem dX7_init_96 : decode cX7_init 96 = .ok (.aload_n 0, 1) := by decide +kernel
theorem dX7_init_97 : decode cX7_init 97 = .ok (.getfield 52, 3) := by decide +kernel
theorem dX7_init_100 : decode cX7_init 100 = .ok (.iload_n 1, 1) := by decide +kernel
theorem dX7_init_101 : decode cX7_init 101 = .ok (.new 50, 3) := by decide +kernel
theorem dX7_init_104 : decode cX7_init 104 = .ok (.dup, 1) := by decide +kernel
theorem dX7_init_105 : decode cX7_init 105 = .ok (.invokespecial 56, 3) := by decide +kernel
theorem dX7_init_108 : decode cX7_init 108 = .ok (.aastore, 1) := by decide +kernel
theorem dX7_init_109 : decode cX7_init 109 = .ok (.iinc 1 1, 3) := by decide +kernel
theorem dX7_init_112 : decode cX7_init 112 = .ok (.goto (-21), 3) := by decide +kernel
theorem dX7_init_115 : decode cX7_init 115 = .ok (.aload_n 0, 1) := by decide +kernel
theorem dX7_init_116 : decode cX7_init 116 = .ok (.bipush 10, 2) := by decide +kernel
theorem dX7_init_118 : decode cX7_init 118 = .ok (.newarray .int, 2) := by decide +kernel
theorem dX7_init_120 : decode cX7_init 120 = .ok (.putfield 57, 3) := by decide +kernel
theorem dX7_init_123 : decode cX7_init 123 = .ok (.aload_n 0, 1) := by decide +kernel
theorem dX7_init_124 : decode cX7_init 124 = .ok (.bipush 7, 2) := by decide +kernel
theorem dX7_init_126 : decode cX7_init 126 = .ok (.newarray .int, 2) := by decide +kernel
theorem dX7_init_128 : decode cX7_init 128 = .ok (.putfield 61, 3) := by decide +kernel
theorem dX7_init_131 : decode cX7_init 131 = .ok (.aload_n 0, 1) := by decide +kernel
theorem dX7_init_132 : decode cX7_init 132 = .ok (.iconst 0, 1) := by decide +kernel
theorem dX7_init_133 : decode cX7_init 133 = .ok (.putfield 64, 3) := by decide +kernel
theorem dX7_init_136 : decode cX7_init 136 = .ok (.return_, 1) := by decide +kernel
set_option maxRecDepth 20000 in
theorem ggX7_basin_X7_isBasin : GoodIn wsX7_basin wsX7_isBasin := goodIn_r _ [9, 1, 2, 30, 31, 32, 33, 34, 35, 36, 37, 38, 39, 40, 41, 42, 43, 44, 45, 46, 47, 48, 49, 50] (by exact rfl) (by decide +kernel)
set_option maxRecDepth 20000 in
theorem gX7_basin_X7_isBasin : GoodIn wsX7_basin (wsV RX7 72 RX7 yX7_isBasin wsX7_isBasin) := goodIn_app (goodIn_of _ (by decide +kernel)) ggX7_basin_X7_isBasin
set_option maxRecDepth 20000 in
theorem ggX7_basin_X3_isKind : GoodIn wsX7_basin wsX3_isKind := goodIn_r _ [13] (by exact rfl) (by decide +kernel)
set_option maxRecDepth 20000 in
theorem gX7_basin_X3_isKind : GoodIn wsX7_basin (va_wsS RX7 76 yX3_isKind wsX3_isKind) := goodIn_app (goodIn_of _ (by decide +kernel)) ggX7_basin_X3_isKind
set_option maxRecDepth 20000 in
theorem ggX7_basin_X7_tell : GoodIn wsX7_basin wsX7_tell := goodIn_r _ [17, 3, 18, 30, 31, 32, 33, 34, 35, 36, 37, 38, 39, 40] (by exact rfl) (by decide +kernel)
set_option maxRecDepth 20000 in
theorem gX7_basin_X7_tell : GoodIn wsX7_basin (wsV RX7 82 RX7 yX7_tell wsX7_tell) := goodIn_app (goodIn_of _ (by decide +kernel)) ggX7_basin_X7_tell
set_option maxRecDepth 20000 in
theorem ggX7_basin_X2_add : GoodIn wsX7_basin wsX2_add := goodIn_r _ [23, 24, 25, 26, 27, 28, 29, 41, 42, 43, 44, 45, 46, 47, 48, 49, 50] (by exact rfl) (by decide +kernel)
set_option maxRecDepth 20000 in
theorem gX7_basin_X2_add : GoodIn wsX7_basin (wsV RX7 87 RX2 yX2_add wsX2_add) := goodIn_app (goodIn_of _ (by decide +kernel)) ggX7_basin_X2_add
theorem dX7_basin_0 : decode cX7_basin 0 = .ok (.aload_n 0, 1) := by decide +kernel
theorem dX7_basin_1 : decode cX7_basin 1 = .ok (.getfield 12, 3) := by decide +kernel
theorem dX7_basin_4 : decode cX7_basin 4 = .ok (.getfield 68, 3) := by decide +kernel
theorem dX7_basin_7 : decode cX7_basin 7 = .ok (.ifCond .ne 16, 3) := by decide +kernel
theorem dX7_basin_10 : decode cX7_basin 10 = .ok (.iload_n 2, 1) := by decide +kernel
theorem dX7_basin_11 : decode cX7_basin 11 = .ok (.iconst (-1), 1) := by decide +kernel
theorem dX7_basin_12 : decode cX7_basin 12 = .ok (.if_icmp .ne 7, 3) := by decide +kernel
theorem dX7_basin_15 : decode cX7_basin 15 = .ok (.iconst 1, 1) := by decide +kernel
theorem dX7_basin_16 : decode cX7_basin 16 = .ok (.goto 12, 3) := by decide +kernel
theorem dX7_basin_19 : decode cX7_basin 19 = .ok (.iconst 0, 1) := by decide +kernel
theorem dX7_basin_20 : decode cX7_basin 20 = .ok (.goto 8, 3) := by decide +kernel
theorem dX7_basin_23 : decode cX7_basin 23 = .ok (.aload_n 0, 1) := by decide +kernel
theorem dX7_basin_24 : decode cX7_basin 24 = .ok (.iload_n 2, 1) := by decide +kernel
theorem dX7_basin_25 : decode cX7_basin 25 = .ok (.invokevirtual 72, 3) := by decide +kernel
theorem dX7_basin_28 : decode cX7_basin 28 = .ok (.istore_n 3, 1) := by decide +kernel
theorem dX7_basin_29 : decode cX7_basin 29 = .ok (.iload_n 3, 1) := by decide +kernel
theorem dX7_basin_30 : decode cX7_basin 30 = .ok (.ifCond .eq 10, 3) := by decide +kernel
theorem dX7_basin_33 : decode cX7_basin 33 = .ok (.iload_n 1, 1) := by decide +kernel
theorem dX7_basin_34 : decode cX7_basin 34 = .ok (.invokestatic 76, 3) := by decide +kernel
theorem dX7_basin_37 : decode cX7_basin 37 = .ok (.ifCond .ne 10, 3) := by decide +kernel
theorem dX7_basin_40 : decode cX7_basin 40 = .ok (.aload_n 0, 1) := by decide +kernel
theorem dX7_basin_41 : decode cX7_basin 41 = .ok (.ldc 81, 2) := by decide +kernel
theorem dX7_basin_43 : decode cX7_basin 43 = .ok (.invokevirtual 82, 3) := by decide +kernel
theorem dX7_basin_46 : decode cX7_basin 46 = .ok (.ireturn, 1) := by decide +kernel
theorem dX7_basin_47 : decode cX7_basin 47 = .ok (.aload_n 0, 1) := by decide +kernel
theorem dX7_basin_48 : decode cX7_basin 48 = .ok (.getfield 12, 3) := by decide +kernel
theorem dX7_basin_51 : decode cX7_basin 51 = .ok (.getfield 68, 3) := by decide +kernel
theorem dX7_basin_54 : decode cX7_basin 54 = .ok (.bipush 10, 2) := by decide +kernel
theorem dX7_basin_56 : decode cX7_basin 56 = .ok (.if_icmp .lt 10, 3) := by decide +kernel
theorem dX7_basin_59 : decode cX7_basin 59 = .ok (.aload_n 0, 1) := by decide +kernel
theorem dX7_basin_60 : decode cX7_basin 60 = .ok (.ldc 86, 2) := by decide +kernel
theorem dX7_basin_62 : decode cX7_basin 62 = .ok (.invokevirtual 82, 3) := by decide +kernel
theorem dX7_basin_65 : decode cX7_basin 65 = .ok (.ireturn, 1) := by decide +kernel
theorem dX7_basin_66 : decode cX7_basin 66 = .ok (.aload_n 0, 1) := by decide +kernel
theorem dX7_basin_67 : decode cX7_basin 67 = .ok (.getfield 12, 3) := by decide +kernel
theorem dX7_basin_70 : decode cX7_basin 70 = .ok (.iload_n 1, 1) := by decide +kernel
theorem dX7_basin_71 : decode cX7_basin 71 = .ok (.iload_n 2, 1) := by decide +kernel
theorem dX7_basin_72 : decode cX7_basin 72 = .ok (.iconst 1, 1) := by decide +kernel
theorem dX7_basin_73 : decode cX7_basin 73 = .ok (.invokevirtual 87, 3) := by decide +kernel
theorem dX7_basin_76 : decode cX7_basin 76 = .ok (.ireturn, 1) := by decide +kernel
set_option maxRecDepth 20000 in
theorem ggX7_of_X7_isBasin : GoodIn wsX7_of wsX7_isBasin := goodIn_r _ [15, 2, 16, 71, 72, 73, 74, 75, 76, 77, 78, 79, 80, 81, 82, 83, 84, 85, 86, 87, 88, 89, 90, 91] (by exact rfl) (by decide +kernel)
set_option maxRecDepth 20000 in
theorem gX7_of_X7_isBasin : GoodIn wsX7_of (wsV RX7 72 RX7 yX7_isBasin wsX7_isBasin) := goodIn_app (goodIn_of _ (by decide +kernel)) ggX7_of_X7_isBasin
set_option maxRecDepth 20000 in
theorem ggX7_of_X7_tell : GoodIn wsX7_of wsX7_tell := goodIn_r _ [20, 1, 21, 71, 72, 73, 74, 75, 76, 77, 78, 79, 80, 81] (by exact rfl) (by decide +kernel)
set_option maxRecDepth 20000 in
theorem gX7_of_X7_tell : GoodIn wsX7_of (wsV RX7 82 RX7 yX7_tell wsX7_tell) := goodIn_app (goodIn_of _ (by decide +kernel)) ggX7_of_X7_tell
set_option maxRecDepth 20000 in
theorem ggX7_of_X1_reckon : GoodIn wsX7_of wsX1_reckon := goodIn_r _ [26, 27, 28, 29, 30, 31, 32, 33, 34, 35, 25, 36, 37, 38, 39, 40, 41, 42, 43, 44, 45, 46, 47, 48, 49, 50, 51, 52, 53, 54, 55, 56, 57, 58, 59, 60, 61, 62, 63, 64, 65, 66, 67, 68, 69, 70, 92, 93, 94, 95, 96, 97, 98, 99, 100, 101, 102, 103, 82, 83, 84, 85, 86, 87, 88, 89, 90, 91] (by exact rfl) (by decide +kernel)
set_option maxRecDepth 20000 in
theorem gX7_of_X1_reckon : GoodIn wsX7_of (wsV RX7 106 RX1 yX1_reckon wsX1_reckon) := goodIn_app (goodIn_of _ (by decide +kernel)) ggX7_of_X1_reckon
theorem dX7_of_0 : decode cX7_of 0 = .ok (.aload_n 0, 1) := by decide +kernel
theorem dX7_of_1 : decode cX7_of 1 = .ok (.iload_n 1, 1) := by decide +kernel
theorem dX7_of_2 : decode cX7_of 2 = .ok (.invokevirtual 72, 3) := by decide +kernel
theorem dX7_of_5 : decode cX7_of 5 = .ok (.ifCond .ne 10, 3) := by decide +kernel
theorem dX7_of_8 : decode cX7_of 8 = .ok (.aload_n 0, 1) := by decide +kernel
theorem dX7_of_9 : decode cX7_of 9 = .ok (.ldc 81, 2) := by decide +kernel
theorem dX7_of_11 : decode cX7_of 11 = .ok (.invokevirtual 82, 3) := by decide +kernel
theorem dX7_of_14 : decode cX7_of 14 = .ok (.ireturn, 1) := by decide +kernel
theorem dX7_of_15 : decode cX7_of 15 = .ok (.iload_n 2, 1) := by decide +kernel
theorem dX7_of_16 : decode cX7_of 16 = .ok (.tableswitch 136 0 6 #[44, 54, 64, 74, 84, 94, 115], 44) := by decide +kernel
theorem dX7_of_60 : decode cX7_of 60 = .ok (.aload_n 0, 1) := by decide +kernel
theorem dX7_of_61 : decode cX7_of 61 = .ok (.getfield 12, 3) := by decide +kernel
theorem dX7_of_64 : decode cX7_of 64 = .ok (.getfield 91, 3) := by decide +kernel
theorem dX7_of_67 : decode cX7_of 67 = .ok (.iload_n 1, 1) := by decide +kernel
theorem dX7_of_68 : decode cX7_of 68 = .ok (.iaload, 1) := by decide +kernel
theorem dX7_of_69 : decode cX7_of 69 = .ok (.ireturn, 1) := by decide +kernel
theorem dX7_of_70 : decode cX7_of 70 = .ok (.aload_n 0, 1) := by decide +kernel
theorem dX7_of_71 : decode cX7_of 71 = .ok (.getfield 12, 3) := by decide +kernel
theorem dX7_of_74 : decode cX7_of 74 = .ok (.getfield 94, 3) := by decide +kernel
theorem dX7_of_77 : decode cX7_of 77 = .ok (.iload_n 1, 1) := by decide +kernel
theorem dX7_of_78 : decode cX7_of 78 = .ok (.iaload, 1) := by decide +kernel
theorem dX7_of_79 : decode cX7_of 79 = .ok (.ireturn, 1) := by decide +kernel
theorem dX7_of_80 : decode cX7_of 80 = .ok (.aload_n 0, 1) := by decide +kernel
theorem dX7_of_81 : decode cX7_of 81 = .ok (.getfield 12, 3) := by decide +kernel
theorem dX7_of_84 : decode cX7_of 84 = .ok (.getfield 97, 3) := by decide +kernel
theorem dX7_of_87 : decode cX7_of 87 = .ok (.iload_n 1, 1) := by decide +kernel
theorem dX7_of_88 : decode cX7_of 88 = .ok (.iaload, 1) := by decide +kernel
theorem dX7_of_89 : decode cX7_of 89 = .ok (.ireturn, 1) := by decide +kernel
theorem dX7_of_90 : decode cX7_of 90 = .ok (.aload_n 0, 1) := by decide +kernel
theorem dX7_of_91 : decode cX7_of 91 = .ok (.getfield 12, 3) := by decide +kernel
theorem dX7_of_94 : decode cX7_of 94 = .ok (.getfield 100, 3) := by decide +kernel
theorem dX7_of_97 : decode cX7_of 97 = .ok (.iload_n 1, 1) := by decide +kernel
theorem dX7_of_98 : decode cX7_of 98 = .ok (.iaload, 1) := by decide +kernel
theorem dX7_of_99 : decode cX7_of 99 = .ok (.ireturn, 1) := by decide +kernel
theorem dX7_of_100 : decode cX7_of 100 = .ok (.aload_n 0, 1) := by decide +kernel
theorem dX7_of_101 : decode cX7_of 101 = .ok (.getfield 12, 3) := by decide +kernel
theorem dX7_of_104 : decode cX7_of 104 = .ok (.getfield 103, 3) := by decide +kernel
theorem dX7_of_107 : decode cX7_of 107 = .ok (.iload_n 1, 1) := by decide +kernel
theorem dX7_of_108 : decode cX7_of 108 = .ok (.iaload, 1) := by decide +kernel
theorem dX7_of_109 : decode cX7_of 109 = .ok (.ireturn, 1) := by decide +kernel
theorem dX7_of_110 : decode cX7_of 110 = .ok (.aload_n 0, 1) := by decide +kernel
theorem dX7_of_111 : decode cX7_of 111 = .ok (.getfield 25, 3) := by decide +kernel
theorem dX7_of_114 : decode cX7_of 114 = .ok (.aload_n 0, 1) := by decide +kernel
theorem dX7_of_115 : decode cX7_of 115 = .ok (.getfield 12, 3) := by decide +kernel
theorem dX7_of_118 : decode cX7_of 118 = .ok (.invokevirtual 106, 3) := by decide +kernel
theorem dX7_of_121 : decode cX7_of 121 = .ok (.aload_n 0, 1) := by decide +kernel
theorem dX7_of_122 : decode cX7_of 122 = .ok (.getfield 25, 3) := by decide +kernel
theorem dX7_of_125 : decode cX7_of 125 = .ok (.getfield 110, 3) := by decide +kernel
theorem dX7_of_128 : decode cX7_of 128 = .ok (.iload_n 1, 1) := by decide +kernel
theorem dX7_of_129 : decode cX7_of 129 = .ok (.iaload, 1) := by decide +kernel
theorem dX7_of_130 : decode cX7_of 130 = .ok (.ireturn, 1) := by decide +kernel
theorem dX7_of_131 : decode cX7_of 131 = .ok (.aload_n 0, 1) := by decide +kernel
theorem dX7_of_132 : decode cX7_of 132 = .ok (.getfield 25, 3) := by decide +kernel
theorem dX7_of_135 : decode cX7_of 135 = .ok (.aload_n 0, 1) := by decide +kernel
theorem dX7_of_136 : decode cX7_of 136 = .ok (.getfield 12, 3) := by decide +kernel
theorem dX7_of_139 : decode cX7_of 139 = .ok (.invokevirtual 106, 3) := by decide +kernel
theorem dX7_of_142 : decode cX7_of 142 = .ok (.aload_n 0, 1) := by decide +kernel
theorem dX7_of_143 : decode cX7_of 143 = .ok (.getfield 25, 3) := by decide +kernel
theorem dX7_of_146 : decode cX7_of 146 = .ok (.getfield 113, 3) := by decide +kernel
theorem dX7_of_149 : decode cX7_of 149 = .ok (.iload_n 1, 1) := by decide +kernel
theorem dX7_of_150 : decode cX7_of 150 = .ok (.iaload, 1) := by decide +kernel
theorem dX7_of_151 : decode cX7_of 151 = .ok (.ireturn, 1) := by decide +kernel
theorem dX7_of_152 : decode cX7_of 152 = .ok (.aload_n 0, 1) := by decide +kernel
theorem dX7_of_153 : decode cX7_of 153 = .ok (.ldc 81, 2) := by decide +kernel
theorem dX7_of_155 : decode cX7_of 155 = .ok (.invokevirtual 82, 3) := by decide +kernel
theorem dX7_of_158 : decode cX7_of 158 = .ok (.ireturn, 1) := by decide +kernel
set_option maxRecDepth 20000 in
theorem ggX7_change_X7_isBasin : GoodIn wsX7_change wsX7_isBasin := goodIn_r _ [12, 2, 13, 26, 27, 28, 29, 30, 31, 32, 33, 34, 35, 36, 37, 38, 39, 40, 41, 42, 43, 44, 45, 46] (by exact rfl) (by decide +kernel)
set_option maxRecDepth 20000 in
theorem gX7_change_X7_isBasin : GoodIn wsX7_change (wsV RX7 72 RX7 yX7_isBasin wsX7_isBasin) := goodIn_app (goodIn_of _ (by decide +kernel)) ggX7_change_X7_isBasin
set_option maxRecDepth 20000 in
theorem ggX7_change_X7_tell : GoodIn wsX7_change wsX7_tell := goodIn_r _ [17, 1, 18, 26, 27, 28, 29, 30, 31, 32, 33, 34, 35, 36] (by exact rfl) (by decide +kernel)
set_option maxRecDepth 20000 in
theorem gX7_change_X7_tell : GoodIn wsX7_change (wsV RX7 82 RX7 yX7_tell wsX7_tell) := goodIn_app (goodIn_of _ (by decide +kernel)) ggX7_change_X7_tell
set_option maxRecDepth 20000 in
theorem ggX7_change_X7_put : GoodIn wsX7_change wsX7_put := goodIn_r _ [22, 1, 23, 24, 11, 25, 14, 15, 16, 17, 18, 26, 27, 28, 29, 30, 31, 32, 33, 34, 35, 36] (by exact rfl) (by decide +kernel)
set_option maxRecDepth 20000 in
theorem gX7_change_X7_put : GoodIn wsX7_change (wsV RX7 116 RX7 yX7_put wsX7_put) := goodIn_app (goodIn_of _ (by decide +kernel)) ggX7_change_X7_put
theorem dX7_change_0 : decode cX7_change 0 = .ok (.aload_n 0, 1) := by decide +kernel
theorem dX7_change_1 : decode cX7_change 1 = .ok (.iload_n 1, 1) := by decide +kernel
theorem dX7_change_2 : decode cX7_change 2 = .ok (.invokevirtual 72, 3) := by decide +kernel
theorem dX7_change_5 : decode cX7_change 5 = .ok (.ifCond .ne 10, 3) := by decide +kernel
theorem dX7_change_8 : decode cX7_change 8 = .ok (.aload_n 0, 1) := by decide +kernel
theorem dX7_change_9 : decode cX7_change 9 = .ok (.ldc 81, 2) := by decide +kernel
theorem dX7_change_11 : decode cX7_change 11 = .ok (.invokevirtual 82, 3) := by decide +kernel
theorem dX7_change_14 : decode cX7_change 14 = .ok (.ireturn, 1) := by decide +kernel
theorem dX7_change_15 : decode cX7_change 15 = .ok (.iload_n 2, 1) := by decide +kernel
theorem dX7_change_16 : decode cX7_change 16 = .ok (.tableswitch 104 0 4 #[36, 104, 53, 70, 87], 36) := by decide +kernel
theorem dX7_change_52 : decode cX7_change 52 = .ok (.aload_n 0, 1) := by decide +kernel
theorem dX7_change_53 : decode cX7_change 53 = .ok (.aload_n 0, 1) := by decide +kernel
theorem dX7_change_54 : decode cX7_change 54 = .ok (.getfield 12, 3) := by decide +kernel
theorem dX7_change_57 : decode cX7_change 57 = .ok (.getfield 91, 3) := by decide +kernel
theorem dX7_change_60 : decode cX7_change 60 = .ok (.iload_n 1, 1) := by decide +kernel
theorem dX7_change_61 : decode cX7_change 61 = .ok (.iload_n 3, 1) := by decide +kernel
theorem dX7_change_62 : decode cX7_change 62 = .ok (.iconst 0, 1) := by decide +kernel
theorem dX7_change_63 : decode cX7_change 63 = .ok (.bipush 6, 2) := by decide +kernel
theorem dX7_change_65 : decode cX7_change 65 = .ok (.invokevirtual 116, 3) := by decide +kernel
theorem dX7_change_68 : decode cX7_change 68 = .ok (.ireturn, 1) := by decide +kernel
theorem dX7_change_69 : decode cX7_change 69 = .ok (.aload_n 0, 1) := by decide +kernel
theorem dX7_change_70 : decode cX7_change 70 = .ok (.aload_n 0, 1) := by decide +kernel
theorem dX7_change_71 : decode cX7_change 71 = .ok (.getfield 12, 3) := by decide +kernel
theorem dX7_change_74 : decode cX7_change 74 = .ok (.getfield 97, 3) := by decide +kernel
theorem dX7_change_77 : decode cX7_change 77 = .ok (.iload_n 1, 1) := by decide +kernel
theorem dX7_change_78 : decode cX7_change 78 = .ok (.iload_n 3, 1) := by decide +kernel
theorem dX7_change_79 : decode cX7_change 79 = .ok (.iconst 1, 1) := by decide +kernel
theorem dX7_change_80 : decode cX7_change 80 = .ok (.bipush 9, 2) := by decide +kernel
theorem dX7_change_82 : decode cX7_change 82 = .ok (.invokevirtual 116, 3) := by decide +kernel
theorem dX7_change_85 : decode cX7_change 85 = .ok (.ireturn, 1) := by decide +kernel
theorem dX7_change_86 : decode cX7_change 86 = .ok (.aload_n 0, 1) := by decide +kernel
theorem dX7_change_87 : decode cX7_change 87 = .ok (.aload_n 0, 1) := by decide +kernel
theorem dX7_change_88 : decode cX7_change 88 = .ok (.getfield 12, 3) := by decide +kernel
theorem dX7_change_91 : decode cX7_change 91 = .ok (.getfield 100, 3) := by decide +kernel
theorem dX7_change_94 : decode cX7_change 94 = .ok (.iload_n 1, 1) := by decide +kernel
theorem dX7_change_95 : decode cX7_change 95 = .ok (.iload_n 3, 1) := by decide +kernel
theorem dX7_change_96 : decode cX7_change 96 = .ok (.iconst 0, 1) := by decide +kernel
theorem dX7_change_97 : decode cX7_change 97 = .ok (.bipush 30, 2) := by decide +kernel
theorem dX7_change_99 : decode cX7_change 99 = .ok (.invokevirtual 116, 3) := by decide +kernel
theorem dX7_change_102 : decode cX7_change 102 = .ok (.ireturn, 1) := by decide +kernel
theorem dX7_change_103 : decode cX7_change 103 = .ok (.aload_n 0, 1) := by decide +kernel
theorem dX7_change_104 : decode cX7_change 104 = .ok (.aload_n 0, 1) := by decide +kernel
theorem dX7_change_105 : decode cX7_change 105 = .ok (.getfield 12, 3) := by decide +kernel
theorem dX7_change_108 : decode cX7_change 108 = .ok (.getfield 103, 3) := by decide +kernel
theorem dX7_change_111 : decode cX7_change 111 = .ok (.iload_n 1, 1) := by decide +kernel
theorem dX7_change_112 : decode cX7_change 112 = .ok (.iload_n 3, 1) := by decide +kernel
theorem dX7_change_113 : decode cX7_change 113 = .ok (.iconst 0, 1) := by decide +kernel
theorem dX7_change_114 : decode cX7_change 114 = .ok (.ldc 120, 2) := by decide +kernel
theorem dX7_change_116 : decode cX7_change 116 = .ok (.invokevirtual 116, 3) := by decide +kernel
theorem dX7_change_119 : decode cX7_change 119 = .ok (.ireturn, 1) := by decide +kernel
theorem dX7_change_120 : decode cX7_change 120 = .ok (.aload_n 0, 1) := by decide +kernel
theorem dX7_change_121 : decode cX7_change 121 = .ok (.ldc 81, 2) := by decide +kernel
theorem dX7_change_123 : decode cX7_change 123 = .ok (.invokevirtual 82, 3) := by decide +kernel
theorem dX7_change_126 : decode cX7_change 126 = .ok (.ireturn, 1) := by decide +kernel
set_option maxRecDepth 20000 in
theorem ggX7_join_X7_isBasin : GoodIn wsX7_join wsX7_isBasin := goodIn_r _ [8, 2, 9, 15, 16, 17, 18, 19, 20, 21, 22, 23, 24, 25, 26, 27, 28, 29, 30, 31, 32, 33, 34, 35] (by exact rfl) (by decide +kernel)
set_option maxRecDepth 20000 in
theorem gX7_join_X7_isBasin : GoodIn wsX7_join (wsV RX7 72 RX7 yX7_isBasin wsX7_isBasin) := goodIn_app (goodIn_of _ (by decide +kernel)) ggX7_join_X7_isBasin
set_option maxRecDepth 20000 in
theorem ggX7_join_X7_tell : GoodIn wsX7_join wsX7_tell := goodIn_r _ [13, 1, 14, 15, 16, 17, 18, 19, 20, 21, 22, 23, 24, 25] (by exact rfl) (by decide +kernel)
set_option maxRecDepth 20000 in
theorem gX7_join_X7_tell : GoodIn wsX7_join (wsV RX7 82 RX7 yX7_tell wsX7_tell) := goodIn_app (goodIn_of _ (by decide +kernel)) ggX7_join_X7_tell
theorem dX7_join_0 : decode cX7_join 0 = .ok (.aload_n 0, 1) := by decide +kernel
theorem dX7_join_1 : decode cX7_join 1 = .ok (.iload_n 1, 1) := by decide +kernel
theorem dX7_join_2 : decode cX7_join 2 = .ok (.invokevirtual 72, 3) := by decide +kernel
theorem dX7_join_5 : decode cX7_join 5 = .ok (.ifCond .eq 12, 3) := by decide +kernel
theorem dX7_join_8 : decode cX7_join 8 = .ok (.iload_n 2, 1) := by decide +kernel
theorem dX7_join_9 : decode cX7_join 9 = .ok (.ifCond .lt 8, 3) := by decide +kernel
theorem dX7_join_12 : decode cX7_join 12 = .ok (.iload_n 2, 1) := by decide +kernel
theorem dX7_join_13 : decode cX7_join 13 = .ok (.iload_n 1, 1) := by decide +kernel
theorem dX7_join_14 : decode cX7_join 14 = .ok (.if_icmp .lt 10, 3) := by decide +kernel
theorem dX7_join_17 : decode cX7_join 17 = .ok (.aload_n 0, 1) := by decide +kernel
theorem dX7_join_18 : decode cX7_join 18 = .ok (.ldc 81, 2) := by decide +kernel
theorem dX7_join_20 : decode cX7_join 20 = .ok (.invokevirtual 82, 3) := by decide +kernel
theorem dX7_join_23 : decode cX7_join 23 = .ok (.ireturn, 1) := by decide +kernel
theorem dX7_join_24 : decode cX7_join 24 = .ok (.aload_n 0, 1) := by decide +kernel
theorem dX7_join_25 : decode cX7_join 25 = .ok (.getfield 12, 3) := by decide +kernel
theorem dX7_join_28 : decode cX7_join 28 = .ok (.getfield 94, 3) := by decide +kernel
theorem dX7_join_31 : decode cX7_join 31 = .ok (.iload_n 1, 1) := by decide +kernel
theorem dX7_join_32 : decode cX7_join 32 = .ok (.iaload, 1) := by decide +kernel
theorem dX7_join_33 : decode cX7_join 33 = .ok (.istore_n 3, 1) := by decide +kernel
theorem dX7_join_34 : decode cX7_join 34 = .ok (.aload_n 0, 1) := by decide +kernel
theorem dX7_join_35 : decode cX7_join 35 = .ok (.getfield 12, 3) := by decide +kernel
theorem dX7_join_38 : decode cX7_join 38 = .ok (.getfield 94, 3) := by decide +kernel
theorem dX7_join_41 : decode cX7_join 41 = .ok (.iload_n 1, 1) := by decide +kernel
theorem dX7_join_42 : decode cX7_join 42 = .ok (.iload_n 2, 1) := by decide +kernel
theorem dX7_join_43 : decode cX7_join 43 = .ok (.iastore, 1) := by decide +kernel
theorem dX7_join_44 : decode cX7_join 44 = .ok (.iload_n 3, 1) := by decide +kernel
theorem dX7_join_45 : decode cX7_join 45 = .ok (.ireturn, 1) := by decide +kernel
set_option maxRecDepth 20000 in
theorem ggX7_spring_X7_within : GoodIn wsX7_spring wsX7_within := goodIn_r _ [8] (by exact rfl) (by decide +kernel)
set_option maxRecDepth 20000 in
theorem gX7_spring_X7_within : GoodIn wsX7_spring (va_wsS RX7 122 yX7_within wsX7_within) := goodIn_app (goodIn_of _ (by decide +kernel)) ggX7_spring_X7_within
set_option maxRecDepth 20000 in
theorem ggX7_spring_X7_tell : GoodIn wsX7_spring wsX7_tell := goodIn_r _ [12, 2, 13, 14, 15, 16, 17, 18, 19, 20, 21, 22, 23, 24] (by exact rfl) (by decide +kernel)
set_option maxRecDepth 20000 in
theorem gX7_spring_X7_tell : GoodIn wsX7_spring (wsV RX7 82 RX7 yX7_tell wsX7_tell) := goodIn_app (goodIn_of _ (by decide +kernel)) ggX7_spring_X7_tell
theorem dX7_spring_0 : decode cX7_spring 0 = .ok (.iload_n 1, 1) := by decide +kernel
theorem dX7_spring_1 : decode cX7_spring 1 = .ok (.iconst 0, 1) := by decide +kernel
theorem dX7_spring_2 : decode cX7_spring 2 = .ok (.ldc 121, 2) := by decide +kernel
theorem dX7_spring_4 : decode cX7_spring 4 = .ok (.invokestatic 122, 3) := by decide +kernel
theorem dX7_spring_7 : decode cX7_spring 7 = .ok (.ifCond .ne 10, 3) := by decide +kernel
theorem dX7_spring_10 : decode cX7_spring 10 = .ok (.aload_n 0, 1) := by decide +kernel
theorem dX7_spring_11 : decode cX7_spring 11 = .ok (.ldc 81, 2) := by decide +kernel
theorem dX7_spring_13 : decode cX7_spring 13 = .ok (.invokevirtual 82, 3) := by decide +kernel
theorem dX7_spring_16 : decode cX7_spring 16 = .ok (.ireturn, 1) := by decide +kernel
theorem dX7_spring_17 : decode cX7_spring 17 = .ok (.aload_n 0, 1) := by decide +kernel
theorem dX7_spring_18 : decode cX7_spring 18 = .ok (.getfield 12, 3) := by decide +kernel
theorem dX7_spring_21 : decode cX7_spring 21 = .ok (.getfield 126, 3) := by decide +kernel
theorem dX7_spring_24 : decode cX7_spring 24 = .ok (.istore_n 2, 1) := by decide +kernel
theorem dX7_spring_25 : decode cX7_spring 25 = .ok (.aload_n 0, 1) := by decide +kernel
theorem dX7_spring_26 : decode cX7_spring 26 = .ok (.getfield 12, 3) := by decide +kernel
theorem dX7_spring_29 : decode cX7_spring 29 = .ok (.iload_n 1, 1) := by decide +kernel
theorem dX7_spring_30 : decode cX7_spring 30 = .ok (.putfield 126, 3) := by decide +kernel
theorem dX7_spring_33 : decode cX7_spring 33 = .ok (.iload_n 2, 1) := by decide +kernel
theorem dX7_spring_34 : decode cX7_spring 34 = .ok (.ireturn, 1) := by decide +kernel
set_option maxRecDepth 20000 in
theorem ggX7_under_X7_isBasin : GoodIn wsX7_under wsX7_isBasin := goodIn_r _ [9, 2, 3, 18, 19, 20, 21, 22, 23, 24, 25, 26, 27, 28, 29, 30, 31, 32, 33, 34, 35, 36, 37, 38] (by exact rfl) (by decide +kernel)
set_option maxRecDepth 20000 in
theorem gX7_under_X7_isBasin : GoodIn wsX7_under (wsV RX7 72 RX7 yX7_isBasin wsX7_isBasin) := goodIn_app (goodIn_of _ (by decide +kernel)) ggX7_under_X7_isBasin
set_option maxRecDepth 20000 in
theorem ggX7_under_X7_within : GoodIn wsX7_under wsX7_within := goodIn_r _ [12] (by exact rfl) (by decide +kernel)
set_option maxRecDepth 20000 in
theorem gX7_under_X7_within : GoodIn wsX7_under (va_wsS RX7 122 yX7_within wsX7_within) := goodIn_app (goodIn_of _ (by decide +kernel)) ggX7_under_X7_within
set_option maxRecDepth 20000 in
theorem ggX7_under_X7_tell : GoodIn wsX7_under wsX7_tell := goodIn_r _ [16, 1, 17, 18, 19, 20, 21, 22, 23, 24, 25, 26, 27, 28] (by exact rfl) (by decide +kernel)
set_option maxRecDepth 20000 in
theorem gX7_under_X7_tell : GoodIn wsX7_under (wsV RX7 82 RX7 yX7_tell wsX7_tell) := goodIn_app (goodIn_of _ (by decide +kernel)) ggX7_under_X7_tell
theorem dX7_under_0 : decode cX7_under 0 = .ok (.aload_n 0, 1) := by decide +kernel
theorem dX7_under_1 : decode cX7_under 1 = .ok (.iload_n 1, 1) := by decide +kernel
theorem dX7_under_2 : decode cX7_under 2 = .ok (.invokevirtual 72, 3) := by decide +kernel
theorem dX7_under_5 : decode cX7_under 5 = .ok (.ifCond .eq 12, 3) := by decide +kernel
theorem dX7_under_8 : decode cX7_under 8 = .ok (.iload_n 2, 1) := by decide +kernel
theorem dX7_under_9 : decode cX7_under 9 = .ok (.iconst 0, 1) := by decide +kernel
theorem dX7_under_10 : decode cX7_under 10 = .ok (.iconst 1, 1) := by decide +kernel
theorem dX7_under_11 : decode cX7_under 11 = .ok (.invokestatic 122, 3) := by decide +kernel
theorem dX7_under_14 : decode cX7_under 14 = .ok (.ifCond .ne 10, 3) := by decide +kernel
theorem dX7_under_17 : decode cX7_under 17 = .ok (.aload_n 0, 1) := by decide +kernel
theorem dX7_under_18 : decode cX7_under 18 = .ok (.ldc 81, 2) := by decide +kernel
theorem dX7_under_20 : decode cX7_under 20 = .ok (.invokevirtual 82, 3) := by decide +kernel
theorem dX7_under_23 : decode cX7_under 23 = .ok (.ireturn, 1) := by decide +kernel
theorem dX7_under_24 : decode cX7_under 24 = .ok (.iconst 0, 1) := by decide +kernel
theorem dX7_under_25 : decode cX7_under 25 = .ok (.istore_n 3, 1) := by decide +kernel
theorem dX7_under_26 : decode cX7_under 26 = .ok (.iload_n 1, 1) := by decide +kernel
theorem dX7_under_27 : decode cX7_under 27 = .ok (.iconst 1, 1) := by decide +kernel
theorem dX7_under_28 : decode cX7_under 28 = .ok (.iadd, 1) := by decide +kernel
theorem dX7_under_29 : decode cX7_under 29 = .ok (.istore 4, 2) := by decide +kernel
theorem dX7_under_31 : decode cX7_under 31 = .ok (.iload 4, 2) := by decide +kernel
theorem dX7_under_33 : decode cX7_under 33 = .ok (.aload_n 0, 1) := by decide +kernel
theorem dX7_under_34 : decode cX7_under 34 = .ok (.getfield 12, 3) := by decide +kernel
theorem dX7_under_37 : decode cX7_under 37 = .ok (.getfield 68, 3) := by decide +kernel
theorem dX7_under_40 : decode cX7_under 40 = .ok (.if_icmp .ge 61, 3) := by decide +kernel
theorem dX7_under_43 : decode cX7_under 43 = .ok (.aload_n 0, 1) := by decide +kernel
theorem dX7_under_44 : decode cX7_under 44 = .ok (.getfield 12, 3) := by decide +kernel
theorem dX7_under_47 : decode cX7_under 47 = .ok (.getfield 94, 3) := by decide +kernel
theorem dX7_under_50 : decode cX7_under 50 = .ok (.iload 4, 2) := by decide +kernel
theorem dX7_under_52 : decode cX7_under 52 = .ok (.iaload, 1) := by decide +kernel
theorem dX7_under_53 : decode cX7_under 53 = .ok (.istore 5, 2) := by decide +kernel
theorem dX7_under_55 : decode cX7_under 55 = .ok (.iload_n 2, 1) := by decide +kernel
theorem dX7_under_56 : decode cX7_under 56 = .ok (.iconst 1, 1) := by decide +kernel
theorem dX7_under_57 : decode cX7_under 57 = .ok (.if_icmp .ne 17, 3) := by decide +kernel
theorem dX7_under_60 : decode cX7_under 60 = .ok (.iload_n 3, 1) := by decide +kernel
theorem dX7_under_61 : decode cX7_under 61 = .ok (.iload 5, 2) := by decide +kernel
theorem dX7_under_63 : decode cX7_under 63 = .ok (.ishr, 1) := by decide +kernel
theorem dX7_under_64 : decode cX7_under 64 = .ok (.iconst 1, 1) := by decide +kernel
theorem dX7_under_65 : decode cX7_under 65 = .ok (.iand, 1) := by decide +kernel
theorem dX7_under_66 : decode cX7_under 66 = .ok (.iconst 1, 1) := by decide +kernel
theorem dX7_under_67 : decode cX7_under 67 = .ok (.if_icmp .ne 7, 3) := by decide +kernel
theorem dX7_under_70 : decode cX7_under 70 = .ok (.iconst 1, 1) := by decide +kernel
theorem dX7_under_71 : decode cX7_under 71 = .ok (.goto 4, 3) := by decide +kernel
theorem dX7_under_74 : decode cX7_under 74 = .ok (.iconst 0, 1) := by decide +kernel
theorem dX7_under_75 : decode cX7_under 75 = .ok (.istore 6, 2) := by decide +kernel
theorem dX7_under_77 : decode cX7_under 77 = .ok (.iload 5, 2) := by decide +kernel
theorem dX7_under_79 : decode cX7_under 79 = .ok (.iload_n 1, 1) := by decide +kernel
theorem dX7_under_80 : decode cX7_under 80 = .ok (.if_icmp .eq 8, 3) := by decide +kernel
theorem dX7_under_83 : decode cX7_under 83 = .ok (.iload 6, 2) := by decide +kernel
theorem dX7_under_85 : decode cX7_under 85 = .ok (.ifCond .eq 10, 3) := by decide +kernel
theorem dX7_under_88 : decode cX7_under 88 = .ok (.iload_n 3, 1) := by decide +kernel
theorem dX7_under_89 : decode cX7_under 89 = .ok (.iconst 1, 1) := by decide +kernel
theorem dX7_under_90 : decode cX7_under 90 = .ok (.iload 4, 2) := by decide +kernel
theorem dX7_under_92 : decode cX7_under 92 = .ok (.ishl, 1) := by decide +kernel
theorem dX7_under_93 : decode cX7_under 93 = .ok (.ior, 1) := by decide +kernel
theorem dX7_under_94 : decode cX7_under 94 = .ok (.istore_n 3, 1) := by decide +kernel
theorem dX7_under_95 : decode cX7_under 95 = .ok (.iinc 4 1, 3) := by decide +kernel
theorem dX7_under_98 : decode cX7_under 98 = .ok (.goto (-67), 3) := by decide +kernel
theorem dX7_under_101 : decode cX7_under 101 = .ok (.iload_n 3, 1) := by decide +kernel
theorem dX7_under_102 : decode cX7_under 102 = .ok (.ireturn, 1) := by decide +kernel
set_option maxRecDepth 20000 in
theorem ggX7_share_X7_isBasin : GoodIn wsX7_share wsX7_isBasin := goodIn_r _ [12, 3, 13, 71, 72, 73, 74, 75, 76, 77, 78, 79, 80, 81, 90, 91, 92, 93, 94, 95, 96, 97, 98, 99] (by exact rfl) (by decide +kernel)
set_option maxRecDepth 20000 in
theorem gX7_share_X7_isBasin : GoodIn wsX7_share (wsV RX7 72 RX7 yX7_isBasin wsX7_isBasin) := goodIn_app (goodIn_of _ (by decide +kernel)) ggX7_share_X7_isBasin
set_option maxRecDepth 20000 in
theorem ggX7_share_X7_within : GoodIn wsX7_share wsX7_within := goodIn_r _ [16] (by exact rfl) (by decide +kernel)
set_option maxRecDepth 20000 in
theorem gX7_share_X7_within : GoodIn wsX7_share (va_wsS RX7 122 yX7_within wsX7_within) := goodIn_app (goodIn_of _ (by decide +kernel)) ggX7_share_X7_within
set_option maxRecDepth 20000 in
theorem ggX7_share_X7_tell : GoodIn wsX7_share wsX7_tell := goodIn_r _ [20, 1, 21, 71, 72, 73, 74, 75, 76, 77, 78, 79, 80, 81] (by exact rfl) (by decide +kernel)
set_option maxRecDepth 20000 in
theorem gX7_share_X7_tell : GoodIn wsX7_share (wsV RX7 82 RX7 yX7_tell wsX7_tell) := goodIn_app (goodIn_of _ (by decide +kernel)) ggX7_share_X7_tell
set_option maxRecDepth 20000 in
theorem ggX7_share_X4_reckon : GoodIn wsX7_share wsX4_reckon := goodIn_r _ [26, 27, 28, 29, 30, 31, 32, 33, 34, 35, 36, 37, 38, 39, 25, 40, 41, 42, 43, 44, 45, 46, 47, 48, 49, 50, 51, 52, 53, 54, 55, 56, 57, 58, 59, 60, 61, 62, 63, 64, 65, 66, 67, 68, 69, 70, 90, 91, 92, 93, 94, 95, 96, 97, 98, 99, 82, 83, 84, 85, 86, 87, 88, 89] (by exact rfl) (by decide +kernel)
set_option maxRecDepth 20000 in
theorem gX7_share_X4_reckon : GoodIn wsX7_share (wsV RX7 132 RX4 yX4_reckon wsX4_reckon) := goodIn_app (goodIn_of _ (by decide +kernel)) ggX7_share_X4_reckon
theorem dX7_share_0 : decode cX7_share 0 = .ok (.aload_n 0, 1) := by decide +kernel
theorem dX7_share_1 : decode cX7_share 1 = .ok (.iload_n 1, 1) := by decide +kernel
theorem dX7_share_2 : decode cX7_share 2 = .ok (.invokevirtual 72, 3) := by decide +kernel
theorem dX7_share_5 : decode cX7_share 5 = .ok (.ifCond .eq 12, 3) := by decide +kernel
theorem dX7_share_8 : decode cX7_share 8 = .ok (.iload_n 2, 1) := by decide +kernel
theorem dX7_share_9 : decode cX7_share 9 = .ok (.iconst 0, 1) := by decide +kernel
theorem dX7_share_10 : decode cX7_share 10 = .ok (.iconst 1, 1) := by decide +kernel
theorem dX7_share_11 : decode cX7_share 11 = .ok (.invokestatic 122, 3) := by decide +kernel
theorem dX7_share_14 : decode cX7_share 14 = .ok (.ifCond .ne 11, 3) := by decide +kernel
theorem dX7_share_17 : decode cX7_share 17 = .ok (.aload_n 0, 1) := by decide +kernel
theorem dX7_share_18 : decode cX7_share 18 = .ok (.ldc 81, 2) := by decide +kernel
theorem dX7_share_20 : decode cX7_share 20 = .ok (.invokevirtual 82, 3) := by decide +kernel
theorem dX7_share_23 : decode cX7_share 23 = .ok (.i2l, 1) := by decide +kernel
theorem dX7_share_24 : decode cX7_share 24 = .ok (.lreturn, 1) := by decide +kernel
theorem dX7_share_25 : decode cX7_share 25 = .ok (.aload_n 0, 1) := by decide +kernel
theorem dX7_share_26 : decode cX7_share 26 = .ok (.getfield 32, 3) := by decide +kernel
theorem dX7_share_29 : decode cX7_share 29 = .ok (.aload_n 0, 1) := by decide +kernel
theorem dX7_share_30 : decode cX7_share 30 = .ok (.getfield 12, 3) := by decide +kernel
theorem dX7_share_33 : decode cX7_share 33 = .ok (.invokevirtual 132, 3) := by decide +kernel
theorem dX7_share_36 : decode cX7_share 36 = .ok (.aload_n 0, 1) := by decide +kernel
theorem dX7_share_37 : decode cX7_share 37 = .ok (.getfield 32, 3) := by decide +kernel
theorem dX7_share_40 : decode cX7_share 40 = .ok (.getfield 133, 3) := by decide +kernel
theorem dX7_share_43 : decode cX7_share 43 = .ok (.iload_n 1, 1) := by decide +kernel
theorem dX7_share_44 : decode cX7_share 44 = .ok (.baload, 1) := by decide +kernel
theorem dX7_share_45 : decode cX7_share 45 = .ok (.ifCond .ne 11, 3) := by decide +kernel
theorem dX7_share_48 : decode cX7_share 48 = .ok (.aload_n 0, 1) := by decide +kernel
theorem dX7_share_49 : decode cX7_share 49 = .ok (.ldc 137, 2) := by decide +kernel
theorem dX7_share_51 : decode cX7_share 51 = .ok (.invokevirtual 82, 3) := by decide +kernel
theorem dX7_share_54 : decode cX7_share 54 = .ok (.i2l, 1) := by decide +kernel
theorem dX7_share_55 : decode cX7_share 55 = .ok (.lreturn, 1) := by decide +kernel
theorem dX7_share_56 : decode cX7_share 56 = .ok (.iload_n 2, 1) := by decide +kernel
theorem dX7_share_57 : decode cX7_share 57 = .ok (.ifCond .ne 15, 3) := by decide +kernel
theorem dX7_share_60 : decode cX7_share 60 = .ok (.aload_n 0, 1) := by decide +kernel
theorem dX7_share_61 : decode cX7_share 61 = .ok (.getfield 32, 3) := by decide +kernel
theorem dX7_share_64 : decode cX7_share 64 = .ok (.getfield 138, 3) := by decide +kernel
theorem dX7_share_67 : decode cX7_share 67 = .ok (.iload_n 1, 1) := by decide +kernel
theorem dX7_share_68 : decode cX7_share 68 = .ok (.laload, 1) := by decide +kernel
theorem dX7_share_69 : decode cX7_share 69 = .ok (.goto 12, 3) := by decide +kernel
theorem dX7_share_72 : decode cX7_share 72 = .ok (.aload_n 0, 1) := by decide +kernel
theorem dX7_share_73 : decode cX7_share 73 = .ok (.getfield 32, 3) := by decide +kernel
theorem dX7_share_76 : decode cX7_share 76 = .ok (.getfield 142, 3) := by decide +kernel
theorem dX7_share_79 : decode cX7_share 79 = .ok (.iload_n 1, 1) := by decide +kernel
theorem dX7_share_80 : decode cX7_share 80 = .ok (.laload, 1) := by decide +kernel
theorem dX7_share_81 : decode cX7_share 81 = .ok (.lreturn, 1) := by decide +kernel
set_option maxRecDepth 20000 in
theorem ggX7_rest_X7_isBasin : GoodIn wsX7_rest wsX7_isBasin := goodIn_r _ [12, 2, 13, 72, 73, 74, 75, 76, 77, 78, 79, 80, 81, 82, 91, 92, 93, 94, 95, 96, 97, 98, 99, 100] (by exact rfl) (by decide +kernel)
set_option maxRecDepth 20000 in
theorem gX7_rest_X7_isBasin : GoodIn wsX7_rest (wsV RX7 72 RX7 yX7_isBasin wsX7_isBasin) := goodIn_app (goodIn_of _ (by decide +kernel)) ggX7_rest_X7_isBasin
set_option maxRecDepth 20000 in
theorem ggX7_rest_X7_within : GoodIn wsX7_rest wsX7_within := goodIn_r _ [16] (by exact rfl) (by decide +kernel)
set_option maxRecDepth 20000 in
theorem gX7_rest_X7_within : GoodIn wsX7_rest (va_wsS RX7 122 yX7_within wsX7_within) := goodIn_app (goodIn_of _ (by decide +kernel)) ggX7_rest_X7_within
set_option maxRecDepth 20000 in
theorem ggX7_rest_X7_tell : GoodIn wsX7_rest wsX7_tell := goodIn_r _ [20, 1, 21, 72, 73, 74, 75, 76, 77, 78, 79, 80, 81, 82] (by exact rfl) (by decide +kernel)
set_option maxRecDepth 20000 in
theorem gX7_rest_X7_tell : GoodIn wsX7_rest (wsV RX7 82 RX7 yX7_tell wsX7_tell) := goodIn_app (goodIn_of _ (by decide +kernel)) ggX7_rest_X7_tell
set_option maxRecDepth 20000 in
theorem ggX7_rest_X2_widthUnder : GoodIn wsX7_rest wsX2_widthUnder := goodIn_r _ [26, 27, 28, 29, 91, 92, 93, 94, 95, 96, 97, 98, 99, 100] (by exact rfl) (by decide +kernel)
set_option maxRecDepth 20000 in
theorem gX7_rest_X2_widthUnder : GoodIn wsX7_rest (wsV RX7 145 RX2 yX2_widthUnder wsX2_widthUnder) := goodIn_app (goodIn_of _ (by decide +kernel)) ggX7_rest_X2_widthUnder
set_option maxRecDepth 20000 in
theorem ggX7_rest_X4_reckon : GoodIn wsX7_rest wsX4_reckon := goodIn_r _ [34, 35, 36, 37, 38, 39, 40, 41, 42, 43, 44, 45, 46, 47, 33, 48, 49, 50, 51, 23, 24, 25, 26, 27, 28, 29, 52, 53, 54, 55, 56, 57, 58, 59, 60, 61, 62, 63, 64, 65, 66, 67, 68, 69, 70, 71, 91, 92, 93, 94, 95, 96, 97, 98, 99, 100, 83, 84, 85, 86, 87, 88, 89, 90] (by exact rfl) (by decide +kernel)
set_option maxRecDepth 20000 in
theorem gX7_rest_X4_reckon : GoodIn wsX7_rest (wsV RX7 132 RX4 yX4_reckon wsX4_reckon) := goodIn_app (goodIn_of _ (by decide +kernel)) ggX7_rest_X4_reckon
theorem dX7_rest_0 : decode cX7_rest 0 = .ok (.aload_n 0, 1) := by decide +kernel
theorem dX7_rest_1 : decode cX7_rest 1 = .ok (.iload_n 1, 1) := by decide +kernel
theorem dX7_rest_2 : decode cX7_rest 2 = .ok (.invokevirtual 72, 3) := by decide +kernel
theorem dX7_rest_5 : decode cX7_rest 5 = .ok (.ifCond .eq 12, 3) := by decide +kernel
theorem dX7_rest_8 : decode cX7_rest 8 = .ok (.iload_n 2, 1) := by decide +kernel
theorem dX7_rest_9 : decode cX7_rest 9 = .ok (.iconst 0, 1) := by decide +kernel
theorem dX7_rest_10 : decode cX7_rest 10 = .ok (.iconst 1, 1) := by decide +kernel
theorem dX7_rest_11 : decode cX7_rest 11 = .ok (.invokestatic 122, 3) := by decide +kernel
theorem dX7_rest_14 : decode cX7_rest 14 = .ok (.ifCond .ne 11, 3) := by decide +kernel
theorem dX7_rest_17 : decode cX7_rest 17 = .ok (.aload_n 0, 1) := by decide +kernel
theorem dX7_rest_18 : decode cX7_rest 18 = .ok (.ldc 81, 2) := by decide +kernel
theorem dX7_rest_20 : decode cX7_rest 20 = .ok (.invokevirtual 82, 3) := by decide +kernel
theorem dX7_rest_23 : decode cX7_rest 23 = .ok (.i2l, 1) := by decide +kernel
theorem dX7_rest_24 : decode cX7_rest 24 = .ok (.lreturn, 1) := by decide +kernel
theorem dX7_rest_25 : decode cX7_rest 25 = .ok (.aload_n 0, 1) := by decide +kernel
theorem dX7_rest_26 : decode cX7_rest 26 = .ok (.getfield 12, 3) := by decide +kernel
theorem dX7_rest_29 : decode cX7_rest 29 = .ok (.iload_n 1, 1) := by decide +kernel
theorem dX7_rest_30 : decode cX7_rest 30 = .ok (.invokevirtual 145, 3) := by decide +kernel
theorem dX7_rest_33 : decode cX7_rest 33 = .ok (.ifCond .le 6, 3) := by decide +kernel
theorem dX7_rest_36 : decode cX7_rest 36 = .ok (.iload_n 2, 1) := by decide +kernel
theorem dX7_rest_37 : decode cX7_rest 37 = .ok (.i2l, 1) := by decide +kernel
theorem dX7_rest_38 : decode cX7_rest 38 = .ok (.lreturn, 1) := by decide +kernel
theorem dX7_rest_39 : decode cX7_rest 39 = .ok (.aload_n 0, 1) := by decide +kernel
theorem dX7_rest_40 : decode cX7_rest 40 = .ok (.getfield 32, 3) := by decide +kernel
theorem dX7_rest_43 : decode cX7_rest 43 = .ok (.aload_n 0, 1) := by decide +kernel
theorem dX7_rest_44 : decode cX7_rest 44 = .ok (.getfield 12, 3) := by decide +kernel
theorem dX7_rest_47 : decode cX7_rest 47 = .ok (.invokevirtual 132, 3) := by decide +kernel
theorem dX7_rest_50 : decode cX7_rest 50 = .ok (.aload_n 0, 1) := by decide +kernel
theorem dX7_rest_51 : decode cX7_rest 51 = .ok (.getfield 32, 3) := by decide +kernel
theorem dX7_rest_54 : decode cX7_rest 54 = .ok (.getfield 148, 3) := by decide +kernel
theorem dX7_rest_57 : decode cX7_rest 57 = .ok (.iload_n 1, 1) := by decide +kernel
theorem dX7_rest_58 : decode cX7_rest 58 = .ok (.baload, 1) := by decide +kernel
theorem dX7_rest_59 : decode cX7_rest 59 = .ok (.ifCond .ne 11, 3) := by decide +kernel
theorem dX7_rest_62 : decode cX7_rest 62 = .ok (.aload_n 0, 1) := by decide +kernel
theorem dX7_rest_63 : decode cX7_rest 63 = .ok (.ldc 137, 2) := by decide +kernel
theorem dX7_rest_65 : decode cX7_rest 65 = .ok (.invokevirtual 82, 3) := by decide +kernel
theorem dX7_rest_68 : decode cX7_rest 68 = .ok (.i2l, 1) := by decide +kernel
theorem dX7_rest_69 : decode cX7_rest 69 = .ok (.lreturn, 1) := by decide +kernel
theorem dX7_rest_70 : decode cX7_rest 70 = .ok (.iload_n 2, 1) := by decide +kernel
theorem dX7_rest_71 : decode cX7_rest 71 = .ok (.ifCond .ne 15, 3) := by decide +kernel
theorem dX7_rest_74 : decode cX7_rest 74 = .ok (.aload_n 0, 1) := by decide +kernel
theorem dX7_rest_75 : decode cX7_rest 75 = .ok (.getfield 32, 3) := by decide +kernel
theorem dX7_rest_78 : decode cX7_rest 78 = .ok (.getfield 151, 3) := by decide +kernel
theorem dX7_rest_81 : decode cX7_rest 81 = .ok (.iload_n 1, 1) := by decide +kernel
theorem dX7_rest_82 : decode cX7_rest 82 = .ok (.laload, 1) := by decide +kernel
theorem dX7_rest_83 : decode cX7_rest 83 = .ok (.goto 12, 3) := by decide +kernel
theorem dX7_rest_86 : decode cX7_rest 86 = .ok (.aload_n 0, 1) := by decide +kernel
theorem dX7_rest_87 : decode cX7_rest 87 = .ok (.getfield 32, 3) := by decide +kernel
theorem dX7_rest_90 : decode cX7_rest 90 = .ok (.getfield 154, 3) := by decide +kernel
theorem dX7_rest_93 : decode cX7_rest 93 = .ok (.iload_n 1, 1) := by decide +kernel
theorem dX7_rest_94 : decode cX7_rest 94 = .ok (.laload, 1) := by decide +kernel
theorem dX7_rest_95 : decode cX7_rest 95 = .ok (.lreturn, 1) := by decide +kernel
set_option maxRecDepth 20000 in
theorem ggX7_hours_X7_within : GoodIn wsX7_hours wsX7_within := goodIn_r _ [9] (by exact rfl) (by decide +kernel)
set_option maxRecDepth 20000 in
theorem gX7_hours_X7_within : GoodIn wsX7_hours (va_wsS RX7 122 yX7_within wsX7_within) := goodIn_app (goodIn_of _ (by decide +kernel)) ggX7_hours_X7_within
set_option maxRecDepth 20000 in
theorem ggX7_hours_X7_tell : GoodIn wsX7_hours wsX7_tell := goodIn_r _ [13, 1, 14, 87, 88, 89, 90, 91, 92, 93, 94, 95, 96, 97] (by exact rfl) (by decide +kernel)
set_option maxRecDepth 20000 in
theorem gX7_hours_X7_tell : GoodIn wsX7_hours (wsV RX7 82 RX7 yX7_tell wsX7_tell) := goodIn_app (goodIn_of _ (by decide +kernel)) ggX7_hours_X7_tell
set_option maxRecDepth 20000 in
theorem ggX7_hours_X7_tooLate : GoodIn wsX7_hours wsX7_tooLate := goodIn_r _ [18, 4, 19, 87, 88, 89, 90, 91, 92, 93, 94, 95, 96, 97, 110, 111, 112, 113, 114, 115, 116, 117, 118, 119] (by exact rfl) (by decide +kernel)
set_option maxRecDepth 20000 in
theorem gX7_hours_X7_tooLate : GoodIn wsX7_hours (wsV RX7 175 RX7 yX7_tooLate wsX7_tooLate) := goodIn_app (goodIn_of _ (by decide +kernel)) ggX7_hours_X7_tooLate
set_option maxRecDepth 20000 in
theorem ggX7_hours_X1_pass : GoodIn wsX7_hours wsX1_pass := goodIn_r _ [24, 25, 26, 27, 28, 29, 30, 31, 32, 33, 23, 34, 35, 36, 37, 38, 39, 40, 41, 42, 43, 44, 45, 46, 47, 48, 49, 50, 51, 52, 53, 54, 55, 56, 57, 58, 59, 60, 61, 62, 63, 64, 65, 66, 67, 68, 69, 70, 71, 72, 73, 74, 75, 76, 77, 78, 79, 80, 81, 82, 83, 84, 85, 86, 98, 99, 100, 101, 102, 103, 104, 105, 106, 107, 108, 109, 110, 111, 112, 113, 114, 115, 116, 117, 118, 119] (by exact rfl) (by decide +kernel)
set_option maxRecDepth 20000 in
theorem gX7_hours_X1_pass : GoodIn wsX7_hours (wsV RX7 178 RX1 yX1_pass wsX1_pass) := goodIn_app (goodIn_of _ (by decide +kernel)) ggX7_hours_X1_pass
theorem dX7_hours_0 : decode cX7_hours 0 = .ok (.iload_n 1, 1) := by decide +kernel
theorem dX7_hours_1 : decode cX7_hours 1 = .ok (.iconst 1, 1) := by decide +kernel
theorem dX7_hours_2 : decode cX7_hours 2 = .ok (.bipush 100, 2) := by decide +kernel
theorem dX7_hours_4 : decode cX7_hours 4 = .ok (.invokestatic 122, 3) := by decide +kernel
theorem dX7_hours_7 : decode cX7_hours 7 = .ok (.ifCond .ne 10, 3) := by decide +kernel
theorem dX7_hours_10 : decode cX7_hours 10 = .ok (.aload_n 0, 1) := by decide +kernel
theorem dX7_hours_11 : decode cX7_hours 11 = .ok (.ldc 81, 2) := by decide +kernel
theorem dX7_hours_13 : decode cX7_hours 13 = .ok (.invokevirtual 82, 3) := by decide +kernel
theorem dX7_hours_16 : decode cX7_hours 16 = .ok (.ireturn, 1) := by decide +kernel
theorem dX7_hours_17 : decode cX7_hours 17 = .ok (.aload_n 0, 1) := by decide +kernel
theorem dX7_hours_18 : decode cX7_hours 18 = .ok (.iload_n 1, 1) := by decide +kernel
theorem dX7_hours_19 : decode cX7_hours 19 = .ok (.invokevirtual 175, 3) := by decide +kernel
theorem dX7_hours_22 : decode cX7_hours 22 = .ok (.ifCond .eq 10, 3) := by decide +kernel
theorem dX7_hours_25 : decode cX7_hours 25 = .ok (.aload_n 0, 1) := by decide +kernel
theorem dX7_hours_26 : decode cX7_hours 26 = .ok (.ldc 162, 2) := by decide +kernel
theorem dX7_hours_28 : decode cX7_hours 28 = .ok (.invokevirtual 82, 3) := by decide +kernel
theorem dX7_hours_31 : decode cX7_hours 31 = .ok (.ireturn, 1) := by decide +kernel
theorem dX7_hours_32 : decode cX7_hours 32 = .ok (.aload_n 0, 1) := by decide +kernel
theorem dX7_hours_33 : decode cX7_hours 33 = .ok (.getfield 25, 3) := by decide +kernel
theorem dX7_hours_36 : decode cX7_hours 36 = .ok (.aload_n 0, 1) := by decide +kernel
theorem dX7_hours_37 : decode cX7_hours 37 = .ok (.getfield 12, 3) := by decide +kernel
theorem dX7_hours_40 : decode cX7_hours 40 = .ok (.iload_n 1, 1) := by decide +kernel
theorem dX7_hours_41 : decode cX7_hours 41 = .ok (.invokevirtual 178, 3) := by decide +kernel
theorem dX7_hours_44 : decode cX7_hours 44 = .ok (.aload_n 0, 1) := by decide +kernel
theorem dX7_hours_45 : decode cX7_hours 45 = .ok (.getfield 25, 3) := by decide +kernel
theorem dX7_hours_48 : decode cX7_hours 48 = .ok (.getfield 182, 3) := by decide +kernel
theorem dX7_hours_51 : decode cX7_hours 51 = .ok (.ireturn, 1) := by decide +kernel
set_option maxRecDepth 20000 in
theorem ggX7_now_X2_sum : GoodIn wsX7_now wsX2_sum := goodIn_r _ [15, 16, 83, 84, 85, 86, 87, 88, 89, 90, 91, 92] (by exact rfl) (by decide +kernel)
set_option maxRecDepth 20000 in
theorem gX7_now_X2_sum : GoodIn wsX7_now (wsV RX7 188 RX2 yX2_sum wsX2_sum) := goodIn_app (goodIn_of _ (by decide +kernel)) ggX7_now_X2_sum
set_option maxRecDepth 20000 in
theorem ggX7_now_X1_reckon : GoodIn wsX7_now wsX1_reckon := goodIn_r _ [21, 22, 23, 24, 25, 26, 27, 28, 29, 30, 20, 31, 32, 33, 34, 35, 36, 37, 38, 39, 40, 41, 42, 43, 44, 45, 46, 47, 48, 49, 50, 51, 52, 53, 54, 55, 56, 57, 58, 59, 60, 61, 62, 63, 64, 65, 93, 94, 95, 96, 97, 98, 99, 100, 101, 102, 103, 104, 83, 84, 85, 86, 87, 88, 89, 90, 91, 92] (by exact rfl) (by decide +kernel)
set_option maxRecDepth 20000 in
theorem gX7_now_X1_reckon : GoodIn wsX7_now (wsV RX7 106 RX1 yX1_reckon wsX1_reckon) := goodIn_app (goodIn_of _ (by decide +kernel)) ggX7_now_X1_reckon
set_option maxRecDepth 20000 in
theorem ggX7_now_X7_tell : GoodIn wsX7_now wsX7_tell := goodIn_r _ [70, 10, 71, 72, 73, 74, 75, 76, 77, 78, 79, 80, 81, 82] (by exact rfl) (by decide +kernel)
set_option maxRecDepth 20000 in
theorem gX7_now_X7_tell : GoodIn wsX7_now (wsV RX7 82 RX7 yX7_tell wsX7_tell) := goodIn_app (goodIn_of _ (by decide +kernel)) ggX7_now_X7_tell
theorem dX7_now_0 : decode cX7_now 0 = .ok (.iload_n 1, 1) := by decide +kernel
theorem dX7_now_1 : decode cX7_now 1 = .ok (.tableswitch 146 0 6 #[43, 51, 59, 74, 89, 108, 127], 43) := by decide +kernel
theorem dX7_now_44 : decode cX7_now 44 = .ok (.aload_n 0, 1) := by decide +kernel
theorem dX7_now_45 : decode cX7_now 45 = .ok (.getfield 12, 3) := by decide +kernel
theorem dX7_now_48 : decode cX7_now 48 = .ok (.getfield 185, 3) := by decide +kernel
theorem dX7_now_51 : decode cX7_now 51 = .ok (.ireturn, 1) := by decide +kernel
theorem dX7_now_52 : decode cX7_now 52 = .ok (.aload_n 0, 1) := by decide +kernel
theorem dX7_now_53 : decode cX7_now 53 = .ok (.getfield 12, 3) := by decide +kernel
theorem dX7_now_56 : decode cX7_now 56 = .ok (.getfield 126, 3) := by decide +kernel
theorem dX7_now_59 : decode cX7_now 59 = .ok (.ireturn, 1) := by decide +kernel
theorem dX7_now_60 : decode cX7_now 60 = .ok (.aload_n 0, 1) := by decide +kernel
theorem dX7_now_61 : decode cX7_now 61 = .ok (.getfield 12, 3) := by decide +kernel
theorem dX7_now_64 : decode cX7_now 64 = .ok (.aload_n 0, 1) := by decide +kernel
theorem dX7_now_65 : decode cX7_now 65 = .ok (.getfield 12, 3) := by decide +kernel
theorem dX7_now_68 : decode cX7_now 68 = .ok (.getfield 103, 3) := by decide +kernel
theorem dX7_now_71 : decode cX7_now 71 = .ok (.invokevirtual 188, 3) := by decide +kernel
theorem dX7_now_74 : decode cX7_now 74 = .ok (.ireturn, 1) := by decide +kernel
theorem dX7_now_75 : decode cX7_now 75 = .ok (.aload_n 0, 1) := by decide +kernel
theorem dX7_now_76 : decode cX7_now 76 = .ok (.getfield 12, 3) := by decide +kernel
theorem dX7_now_79 : decode cX7_now 79 = .ok (.aload_n 0, 1) := by decide +kernel
theorem dX7_now_80 : decode cX7_now 80 = .ok (.getfield 12, 3) := by decide +kernel
theorem dX7_now_83 : decode cX7_now 83 = .ok (.getfield 100, 3) := by decide +kernel
theorem dX7_now_86 : decode cX7_now 86 = .ok (.invokevirtual 188, 3) := by decide +kernel
theorem dX7_now_89 : decode cX7_now 89 = .ok (.ireturn, 1) := by decide +kernel
theorem dX7_now_90 : decode cX7_now 90 = .ok (.aload_n 0, 1) := by decide +kernel
theorem dX7_now_91 : decode cX7_now 91 = .ok (.getfield 25, 3) := by decide +kernel
theorem dX7_now_94 : decode cX7_now 94 = .ok (.aload_n 0, 1) := by decide +kernel
theorem dX7_now_95 : decode cX7_now 95 = .ok (.getfield 12, 3) := by decide +kernel
theorem dX7_now_98 : decode cX7_now 98 = .ok (.invokevirtual 106, 3) := by decide +kernel
theorem dX7_now_101 : decode cX7_now 101 = .ok (.aload_n 0, 1) := by decide +kernel
theorem dX7_now_102 : decode cX7_now 102 = .ok (.getfield 25, 3) := by decide +kernel
theorem dX7_now_105 : decode cX7_now 105 = .ok (.getfield 192, 3) := by decide +kernel
theorem dX7_now_108 : decode cX7_now 108 = .ok (.ireturn, 1) := by decide +kernel
theorem dX7_now_109 : decode cX7_now 109 = .ok (.aload_n 0, 1) := by decide +kernel
theorem dX7_now_110 : decode cX7_now 110 = .ok (.getfield 25, 3) := by decide +kernel
theorem dX7_now_113 : decode cX7_now 113 = .ok (.aload_n 0, 1) := by decide +kernel
theorem dX7_now_114 : decode cX7_now 114 = .ok (.getfield 12, 3) := by decide +kernel
theorem dX7_now_117 : decode cX7_now 117 = .ok (.invokevirtual 106, 3) := by decide +kernel
theorem dX7_now_120 : decode cX7_now 120 = .ok (.aload_n 0, 1) := by decide +kernel
theorem dX7_now_121 : decode cX7_now 121 = .ok (.getfield 25, 3) := by decide +kernel
theorem dX7_now_124 : decode cX7_now 124 = .ok (.getfield 195, 3) := by decide +kernel
theorem dX7_now_127 : decode cX7_now 127 = .ok (.ireturn, 1) := by decide +kernel
theorem dX7_now_128 : decode cX7_now 128 = .ok (.aload_n 0, 1) := by decide +kernel
theorem dX7_now_129 : decode cX7_now 129 = .ok (.getfield 25, 3) := by decide +kernel
theorem dX7_now_132 : decode cX7_now 132 = .ok (.aload_n 0, 1) := by decide +kernel
theorem dX7_now_133 : decode cX7_now 133 = .ok (.getfield 12, 3) := by decide +kernel
theorem dX7_now_136 : decode cX7_now 136 = .ok (.invokevirtual 106, 3) := by decide +kernel
theorem dX7_now_139 : decode cX7_now 139 = .ok (.aload_n 0, 1) := by decide +kernel
theorem dX7_now_140 : decode cX7_now 140 = .ok (.getfield 25, 3) := by decide +kernel
theorem dX7_now_143 : decode cX7_now 143 = .ok (.getfield 198, 3) := by decide +kernel
theorem dX7_now_146 : decode cX7_now 146 = .ok (.ireturn, 1) := by decide +kernel
theorem dX7_now_147 : decode cX7_now 147 = .ok (.aload_n 0, 1) := by decide +kernel
theorem dX7_now_148 : decode cX7_now 148 = .ok (.ldc 81, 2) := by decide +kernel
theorem dX7_now_150 : decode cX7_now 150 = .ok (.invokevirtual 82, 3) := by decide +kernel
theorem dX7_now_153 : decode cX7_now 153 = .ok (.ireturn, 1) := by decide +kernel
set_option maxRecDepth 20000 in
theorem ggX7_ahead_X7_within : GoodIn wsX7_ahead wsX7_within := goodIn_r _ [11] (by exact rfl) (by decide +kernel)
set_option maxRecDepth 20000 in
theorem gX7_ahead_X7_within : GoodIn wsX7_ahead (va_wsS RX7 122 yX7_within wsX7_within) := goodIn_app (goodIn_of _ (by decide +kernel)) ggX7_ahead_X7_within
set_option maxRecDepth 20000 in
theorem ggX7_ahead_X7_isBasin : GoodIn wsX7_ahead wsX7_isBasin := goodIn_r _ [15, 16, 17, 118, 119, 120, 121, 122, 123, 124, 125, 126, 127, 128, 141, 142, 143, 144, 145, 146, 147, 148, 149, 150] (by exact rfl) (by decide +kernel)
set_option maxRecDepth 20000 in
theorem gX7_ahead_X7_isBasin : GoodIn wsX7_ahead (wsV RX7 72 RX7 yX7_isBasin wsX7_isBasin) := goodIn_app (goodIn_of _ (by decide +kernel)) ggX7_ahead_X7_isBasin
set_option maxRecDepth 20000 in
theorem ggX7_ahead_X7_tell : GoodIn wsX7_ahead wsX7_tell := goodIn_r _ [21, 1, 22, 118, 119, 120, 121, 122, 123, 124, 125, 126, 127, 128] (by exact rfl) (by decide +kernel)
set_option maxRecDepth 20000 in
theorem gX7_ahead_X7_tell : GoodIn wsX7_ahead (wsV RX7 82 RX7 yX7_tell wsX7_tell) := goodIn_app (goodIn_of _ (by decide +kernel)) ggX7_ahead_X7_tell
set_option maxRecDepth 20000 in
theorem ggX7_ahead_X7_tooLate : GoodIn wsX7_ahead wsX7_tooLate := goodIn_r _ [26, 16, 27, 118, 119, 120, 121, 122, 123, 124, 125, 126, 127, 128, 141, 142, 143, 144, 145, 146, 147, 148, 149, 150] (by exact rfl) (by decide +kernel)
set_option maxRecDepth 20000 in
theorem gX7_ahead_X7_tooLate : GoodIn wsX7_ahead (wsV RX7 175 RX7 yX7_tooLate wsX7_tooLate) := goodIn_app (goodIn_of _ (by decide +kernel)) ggX7_ahead_X7_tooLate
set_option maxRecDepth 20000 in
theorem ggX7_ahead_X7_startTrial : GoodIn wsX7_ahead wsX7_startTrial := goodIn_r _ [31, 4, 16, 32, 33, 34, 35, 36, 37, 38, 39, 40, 41, 42, 43, 44, 45, 46, 47, 48, 49, 50, 118, 119, 120, 121, 122, 123, 124, 125, 126, 127, 128, 141, 142, 143, 144, 145, 146, 147, 148, 149, 150] (by exact rfl) (by decide +kernel)
set_option maxRecDepth 20000 in
theorem gX7_ahead_X7_startTrial : GoodIn wsX7_ahead (wsV RX7 163 RX7 yX7_startTrial wsX7_startTrial) := goodIn_app (goodIn_of _ (by decide +kernel)) ggX7_ahead_X7_startTrial
set_option maxRecDepth 20000 in
theorem ggX7_ahead_X1_pass : GoodIn wsX7_ahead wsX1_pass := goodIn_r _ [55, 56, 57, 58, 59, 60, 61, 62, 63, 64, 54, 65, 66, 67, 68, 69, 70, 71, 72, 73, 74, 75, 76, 77, 78, 79, 80, 81, 82, 83, 84, 85, 86, 87, 88, 89, 90, 91, 92, 93, 94, 95, 96, 97, 98, 99, 100, 101, 102, 103, 104, 105, 106, 107, 108, 109, 35, 110, 47, 45, 111, 44, 112, 49, 129, 130, 131, 132, 133, 134, 135, 136, 137, 138, 139, 140, 141, 142, 143, 144, 145, 146, 147, 148, 149, 150] (by exact rfl) (by decide +kernel)
set_option maxRecDepth 20000 in
theorem gX7_ahead_X1_pass : GoodIn wsX7_ahead (wsV RX7 178 RX1 yX1_pass wsX1_pass) := goodIn_app (goodIn_of _ (by decide +kernel)) ggX7_ahead_X1_pass
set_option maxRecDepth 20000 in
theorem ggX7_ahead_X7_gain : GoodIn wsX7_ahead wsX7_gain := goodIn_r _ [116, 4, 117, 16, 118, 119, 120, 121, 122, 123, 124, 125, 126, 127, 128, 141, 142, 143, 144, 145, 146, 147, 148, 149, 150] (by exact rfl) (by decide +kernel)
set_option maxRecDepth 20000 in
theorem gX7_ahead_X7_gain : GoodIn wsX7_ahead (wsV RX7 207 RX7 yX7_gain wsX7_gain) := goodIn_app (goodIn_of _ (by decide +kernel)) ggX7_ahead_X7_gain
theorem dX7_ahead_0 : decode cX7_ahead 0 = .ok (.iload_n 2, 1) := by decide +kernel
theorem dX7_ahead_1 : decode cX7_ahead 1 = .ok (.iconst 0, 1) := by decide +kernel
theorem dX7_ahead_2 : decode cX7_ahead 2 = .ok (.iconst 2, 1) := by decide +kernel
theorem dX7_ahead_3 : decode cX7_ahead 3 = .ok (.invokestatic 122, 3) := by decide +kernel
theorem dX7_ahead_6 : decode cX7_ahead 6 = .ok (.ifCond .ne 18, 3) := by decide +kernel
theorem dX7_ahead_9 : decode cX7_ahead 9 = .ok (.iload_n 2, 1) := by decide +kernel
theorem dX7_ahead_10 : decode cX7_ahead 10 = .ok (.iconst 2, 1) := by decide +kernel
theorem dX7_ahead_11 : decode cX7_ahead 11 = .ok (.if_icmp .le 17, 3) := by decide +kernel
theorem dX7_ahead_14 : decode cX7_ahead 14 = .ok (.aload_n 0, 1) := by decide +kernel
theorem dX7_ahead_15 : decode cX7_ahead 15 = .ok (.iload_n 2, 1) := by decide +kernel
theorem dX7_ahead_16 : decode cX7_ahead 16 = .ok (.iconst 3, 1) := by decide +kernel
theorem dX7_ahead_17 : decode cX7_ahead 17 = .ok (.isub, 1) := by decide +kernel
theorem dX7_ahead_18 : decode cX7_ahead 18 = .ok (.invokevirtual 72, 3) := by decide +kernel
theorem dX7_ahead_21 : decode cX7_ahead 21 = .ok (.ifCond .eq 7, 3) := by decide +kernel
theorem dX7_ahead_24 : decode cX7_ahead 24 = .ok (.iconst 1, 1) := by decide +kernel
theorem dX7_ahead_25 : decode cX7_ahead 25 = .ok (.goto 4, 3) := by decide +kernel
theorem dX7_ahead_28 : decode cX7_ahead 28 = .ok (.iconst 0, 1) := by decide +kernel
theorem dX7_ahead_29 : decode cX7_ahead 29 = .ok (.istore_n 3, 1) := by decide +kernel
theorem dX7_ahead_30 : decode cX7_ahead 30 = .ok (.iload_n 3, 1) := by decide +kernel
theorem dX7_ahead_31 : decode cX7_ahead 31 = .ok (.ifCond .eq 13, 3) := by decide +kernel
theorem dX7_ahead_34 : decode cX7_ahead 34 = .ok (.iload_n 1, 1) := by decide +kernel
theorem dX7_ahead_35 : decode cX7_ahead 35 = .ok (.iconst 0, 1) := by decide +kernel
theorem dX7_ahead_36 : decode cX7_ahead 36 = .ok (.bipush 100, 2) := by decide +kernel
theorem dX7_ahead_38 : decode cX7_ahead 38 = .ok (.invokestatic 122, 3) := by decide +kernel
theorem dX7_ahead_41 : decode cX7_ahead 41 = .ok (.ifCond .ne 10, 3) := by decide +kernel
theorem dX7_ahead_44 : decode cX7_ahead 44 = .ok (.aload_n 0, 1) := by decide +kernel
theorem dX7_ahead_45 : decode cX7_ahead 45 = .ok (.ldc 81, 2) := by decide +kernel
theorem dX7_ahead_47 : decode cX7_ahead 47 = .ok (.invokevirtual 82, 3) := by decide +kernel
theorem dX7_ahead_50 : decode cX7_ahead 50 = .ok (.ireturn, 1) := by decide +kernel
theorem dX7_ahead_51 : decode cX7_ahead 51 = .ok (.aload_n 0, 1) := by decide +kernel
theorem dX7_ahead_52 : decode cX7_ahead 52 = .ok (.iload_n 1, 1) := by decide +kernel
theorem dX7_ahead_53 : decode cX7_ahead 53 = .ok (.invokevirtual 175, 3) := by decide +kernel
theorem dX7_ahead_56 : decode cX7_ahead 56 = .ok (.ifCond .eq 10, 3) := by decide +kernel
theorem dX7_ahead_59 : decode cX7_ahead 59 = .ok (.aload_n 0, 1) := by decide +kernel
theorem dX7_ahead_60 : decode cX7_ahead 60 = .ok (.ldc 162, 2) := by decide +kernel
theorem dX7_ahead_62 : decode cX7_ahead 62 = .ok (.invokevirtual 82, 3) := by decide +kernel
theorem dX7_ahead_65 : decode cX7_ahead 65 = .ok (.ireturn, 1) := by decide +kernel
theorem dX7_ahead_66 : decode cX7_ahead 66 = .ok (.aload_n 0, 1) := by decide +kernel
theorem dX7_ahead_67 : decode cX7_ahead 67 = .ok (.invokevirtual 163, 3) := by decide +kernel
theorem dX7_ahead_70 : decode cX7_ahead 70 = .ok (.aload_n 0, 1) := by decide +kernel
theorem dX7_ahead_71 : decode cX7_ahead 71 = .ok (.getfield 25, 3) := by decide +kernel
theorem dX7_ahead_74 : decode cX7_ahead 74 = .ok (.aload_n 0, 1) := by decide +kernel
theorem dX7_ahead_75 : decode cX7_ahead 75 = .ok (.getfield 19, 3) := by decide +kernel
theorem dX7_ahead_78 : decode cX7_ahead 78 = .ok (.iload_n 1, 1) := by decide +kernel
theorem dX7_ahead_79 : decode cX7_ahead 79 = .ok (.invokevirtual 178, 3) := by decide +kernel
theorem dX7_ahead_82 : decode cX7_ahead 82 = .ok (.iload_n 2, 1) := by decide +kernel
theorem dX7_ahead_83 : decode cX7_ahead 83 = .ok (.tableswitch 49 0 2 #[25, 33, 41], 25) := by decide +kernel
theorem dX7_ahead_108 : decode cX7_ahead 108 = .ok (.aload_n 0, 1) := by decide +kernel
theorem dX7_ahead_109 : decode cX7_ahead 109 = .ok (.getfield 25, 3) := by decide +kernel
theorem dX7_ahead_112 : decode cX7_ahead 112 = .ok (.getfield 182, 3) := by decide +kernel
theorem dX7_ahead_115 : decode cX7_ahead 115 = .ok (.ireturn, 1) := by decide +kernel
theorem dX7_ahead_116 : decode cX7_ahead 116 = .ok (.aload_n 0, 1) := by decide +kernel
theorem dX7_ahead_117 : decode cX7_ahead 117 = .ok (.getfield 25, 3) := by decide +kernel
theorem dX7_ahead_120 : decode cX7_ahead 120 = .ok (.getfield 201, 3) := by decide +kernel
theorem dX7_ahead_123 : decode cX7_ahead 123 = .ok (.ireturn, 1) := by decide +kernel
theorem dX7_ahead_124 : decode cX7_ahead 124 = .ok (.aload_n 0, 1) := by decide +kernel
theorem dX7_ahead_125 : decode cX7_ahead 125 = .ok (.getfield 25, 3) := by decide +kernel
theorem dX7_ahead_128 : decode cX7_ahead 128 = .ok (.getfield 204, 3) := by decide +kernel
theorem dX7_ahead_131 : decode cX7_ahead 131 = .ok (.ireturn, 1) := by decide +kernel
theorem dX7_ahead_132 : decode cX7_ahead 132 = .ok (.aload_n 0, 1) := by decide +kernel
theorem dX7_ahead_133 : decode cX7_ahead 133 = .ok (.iload_n 2, 1) := by decide +kernel
theorem dX7_ahead_134 : decode cX7_ahead 134 = .ok (.iconst 3, 1) := by decide +kernel
theorem dX7_ahead_135 : decode cX7_ahead 135 = .ok (.isub, 1) := by decide +kernel
theorem dX7_ahead_136 : decode cX7_ahead 136 = .ok (.invokevirtual 207, 3) := by decide +kernel
theorem dX7_ahead_139 : decode cX7_ahead 139 = .ok (.ireturn, 1) := by decide +kernel
set_option maxRecDepth 20000 in
theorem ggX7_when_X7_isBasin : GoodIn wsX7_when wsX7_isBasin := goodIn_r _ [12, 13, 14, 113, 114, 115, 116, 117, 118, 119, 120, 121, 122, 123, 124, 125, 126, 127, 128, 129, 130, 131, 132, 133] (by exact rfl) (by decide +kernel)
set_option maxRecDepth 20000 in
theorem gX7_when_X7_isBasin : GoodIn wsX7_when (wsV RX7 72 RX7 yX7_isBasin wsX7_isBasin) := goodIn_app (goodIn_of _ (by decide +kernel)) ggX7_when_X7_isBasin
set_option maxRecDepth 20000 in
theorem ggX7_when_X7_within : GoodIn wsX7_when wsX7_within := goodIn_r _ [17] (by exact rfl) (by decide +kernel)
set_option maxRecDepth 20000 in
theorem gX7_when_X7_within : GoodIn wsX7_when (va_wsS RX7 122 yX7_within wsX7_within) := goodIn_app (goodIn_of _ (by decide +kernel)) ggX7_when_X7_within
set_option maxRecDepth 20000 in
theorem ggX7_when_X7_tell : GoodIn wsX7_when wsX7_tell := goodIn_r _ [21, 2, 22, 113, 114, 115, 116, 117, 118, 119, 120, 121, 122, 123] (by exact rfl) (by decide +kernel)
set_option maxRecDepth 20000 in
theorem gX7_when_X7_tell : GoodIn wsX7_when (wsV RX7 82 RX7 yX7_tell wsX7_tell) := goodIn_app (goodIn_of _ (by decide +kernel)) ggX7_when_X7_tell
set_option maxRecDepth 20000 in
theorem ggX7_when_X7_tooLate : GoodIn wsX7_when wsX7_tooLate := goodIn_r _ [26, 13, 27, 113, 114, 115, 116, 117, 118, 119, 120, 121, 122, 123, 124, 125, 126, 127, 128, 129, 130, 131, 132, 133] (by exact rfl) (by decide +kernel)
set_option maxRecDepth 20000 in
theorem gX7_when_X7_tooLate : GoodIn wsX7_when (wsV RX7 175 RX7 yX7_tooLate wsX7_tooLate) := goodIn_app (goodIn_of _ (by decide +kernel)) ggX7_when_X7_tooLate
set_option maxRecDepth 20000 in
theorem ggX7_when_X7_startTrial : GoodIn wsX7_when wsX7_startTrial := goodIn_r _ [31, 4, 13, 32, 33, 34, 35, 36, 37, 38, 39, 40, 41, 42, 43, 44, 45, 46, 47, 48, 49, 50, 113, 114, 115, 116, 117, 118, 119, 120, 121, 122, 123, 124, 125, 126, 127, 128, 129, 130, 131, 132, 133] (by exact rfl) (by decide +kernel)
set_option maxRecDepth 20000 in
theorem gX7_when_X7_startTrial : GoodIn wsX7_when (wsV RX7 163 RX7 yX7_startTrial wsX7_startTrial) := goodIn_app (goodIn_of _ (by decide +kernel)) ggX7_when_X7_startTrial
set_option maxRecDepth 20000 in
theorem ggX7_when_X1_pass : GoodIn wsX7_when wsX1_pass := goodIn_r _ [55, 56, 57, 58, 59, 60, 61, 62, 63, 64, 54, 65, 66, 67, 68, 69, 70, 71, 72, 73, 74, 75, 76, 77, 78, 79, 80, 81, 82, 83, 84, 85, 86, 87, 88, 89, 90, 91, 92, 93, 94, 95, 96, 97, 98, 99, 100, 101, 102, 103, 104, 105, 106, 107, 108, 109, 35, 110, 47, 45, 111, 44, 112, 49, 134, 135, 136, 137, 138, 139, 140, 141, 142, 143, 144, 145, 124, 125, 126, 127, 128, 129, 130, 131, 132, 133] (by exact rfl) (by decide +kernel)
set_option maxRecDepth 20000 in
theorem gX7_when_X1_pass : GoodIn wsX7_when (wsV RX7 178 RX1 yX1_pass wsX1_pass) := goodIn_app (goodIn_of _ (by decide +kernel)) ggX7_when_X1_pass
theorem dX7_when_0 : decode cX7_when 0 = .ok (.aload_n 0, 1) := by decide +kernel
theorem dX7_when_1 : decode cX7_when 1 = .ok (.iload_n 1, 1) := by decide +kernel
theorem dX7_when_2 : decode cX7_when 2 = .ok (.invokevirtual 72, 3) := by decide +kernel
theorem dX7_when_5 : decode cX7_when 5 = .ok (.ifCond .eq 13, 3) := by decide +kernel
theorem dX7_when_8 : decode cX7_when 8 = .ok (.iload_n 2, 1) := by decide +kernel
theorem dX7_when_9 : decode cX7_when 9 = .ok (.iconst 1, 1) := by decide +kernel
theorem dX7_when_10 : decode cX7_when 10 = .ok (.ldc 121, 2) := by decide +kernel
theorem dX7_when_12 : decode cX7_when 12 = .ok (.invokestatic 122, 3) := by decide +kernel
theorem dX7_when_15 : decode cX7_when 15 = .ok (.ifCond .ne 10, 3) := by decide +kernel
theorem dX7_when_18 : decode cX7_when 18 = .ok (.aload_n 0, 1) := by decide +kernel
theorem dX7_when_19 : decode cX7_when 19 = .ok (.ldc 81, 2) := by decide +kernel
theorem dX7_when_21 : decode cX7_when 21 = .ok (.invokevirtual 82, 3) := by decide +kernel
theorem dX7_when_24 : decode cX7_when 24 = .ok (.ireturn, 1) := by decide +kernel
theorem dX7_when_25 : decode cX7_when 25 = .ok (.aload_n 0, 1) := by decide +kernel
theorem dX7_when_26 : decode cX7_when 26 = .ok (.bipush 100, 2) := by decide +kernel
theorem dX7_when_28 : decode cX7_when 28 = .ok (.invokevirtual 175, 3) := by decide +kernel
theorem dX7_when_31 : decode cX7_when 31 = .ok (.ifCond .eq 10, 3) := by decide +kernel
theorem dX7_when_34 : decode cX7_when 34 = .ok (.aload_n 0, 1) := by decide +kernel
theorem dX7_when_35 : decode cX7_when 35 = .ok (.ldc 162, 2) := by decide +kernel
theorem dX7_when_37 : decode cX7_when 37 = .ok (.invokevirtual 82, 3) := by decide +kernel
theorem dX7_when_40 : decode cX7_when 40 = .ok (.ireturn, 1) := by decide +kernel
theorem dX7_when_41 : decode cX7_when 41 = .ok (.aload_n 0, 1) := by decide +kernel
theorem dX7_when_42 : decode cX7_when 42 = .ok (.invokevirtual 163, 3) := by decide +kernel
theorem dX7_when_45 : decode cX7_when 45 = .ok (.iconst 0, 1) := by decide +kernel
theorem dX7_when_46 : decode cX7_when 46 = .ok (.istore_n 3, 1) := by decide +kernel
theorem dX7_when_47 : decode cX7_when 47 = .ok (.iload_n 3, 1) := by decide +kernel
theorem dX7_when_48 : decode cX7_when 48 = .ok (.bipush 100, 2) := by decide +kernel
theorem dX7_when_50 : decode cX7_when 50 = .ok (.if_icmp .gt 36, 3) := by decide +kernel
theorem dX7_when_53 : decode cX7_when 53 = .ok (.aload_n 0, 1) := by decide +kernel
theorem dX7_when_54 : decode cX7_when 54 = .ok (.getfield 19, 3) := by decide +kernel
theorem dX7_when_57 : decode cX7_when 57 = .ok (.getfield 103, 3) := by decide +kernel
theorem dX7_when_60 : decode cX7_when 60 = .ok (.iload_n 1, 1) := by decide +kernel
theorem dX7_when_61 : decode cX7_when 61 = .ok (.iaload, 1) := by decide +kernel
theorem dX7_when_62 : decode cX7_when 62 = .ok (.iload_n 2, 1) := by decide +kernel
theorem dX7_when_63 : decode cX7_when 63 = .ok (.if_icmp .lt 5, 3) := by decide +kernel
theorem dX7_when_66 : decode cX7_when 66 = .ok (.iload_n 3, 1) := by decide +kernel
theorem dX7_when_67 : decode cX7_when 67 = .ok (.ireturn, 1) := by decide +kernel
theorem dX7_when_68 : decode cX7_when 68 = .ok (.aload_n 0, 1) := by decide +kernel
theorem dX7_when_69 : decode cX7_when 69 = .ok (.getfield 25, 3) := by decide +kernel
theorem dX7_when_72 : decode cX7_when 72 = .ok (.aload_n 0, 1) := by decide +kernel
theorem dX7_when_73 : decode cX7_when 73 = .ok (.getfield 19, 3) := by decide +kernel
theorem dX7_when_76 : decode cX7_when 76 = .ok (.iconst 1, 1) := by decide +kernel
theorem dX7_when_77 : decode cX7_when 77 = .ok (.invokevirtual 178, 3) := by decide +kernel
theorem dX7_when_80 : decode cX7_when 80 = .ok (.iinc 3 1, 3) := by decide +kernel
theorem dX7_when_83 : decode cX7_when 83 = .ok (.goto (-36), 3) := by decide +kernel
theorem dX7_when_86 : decode cX7_when 86 = .ok (.aload_n 0, 1) := by decide +kernel
theorem dX7_when_87 : decode cX7_when 87 = .ok (.ldc 161, 2) := by decide +kernel
theorem dX7_when_89 : decode cX7_when 89 = .ok (.invokevirtual 82, 3) := by decide +kernel
theorem dX7_when_92 : decode cX7_when 92 = .ok (.ireturn, 1) := by decide +kernel
