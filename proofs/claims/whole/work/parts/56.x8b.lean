set_option maxRecDepth 20000 in
theorem ggX8_needs_X8_in : GoodIn wsX8_needs wsX8_in := goodIn_r _ [8] (by exact rfl) (by decide +kernel)
set_option maxRecDepth 20000 in
theorem gX8_needs_X8_in : GoodIn wsX8_needs (va_wsS RX8 70 yX8_in wsX8_in) := goodIn_app (goodIn_of _ (by decide +kernel)) ggX8_needs_X8_in
set_option maxRecDepth 20000 in
theorem ggX8_needs_X8_finds : GoodIn wsX8_needs wsX8_finds := goodIn_r _ [12, 13, 14, 54, 55, 56, 57, 58, 59, 60, 61, 62, 63, 64, 65, 66, 67, 68, 69, 70, 71, 72, 73, 74, 75, 76, 77, 78, 79, 80, 81, 82, 83, 84, 85, 86, 87, 88, 89, 90, 91, 92, 93, 94, 95, 96] (by exact rfl) (by decide +kernel)
set_option maxRecDepth 20000 in
theorem gX8_needs_X8_finds : GoodIn wsX8_needs (wsV RX8 115 RX8 yX8_finds wsX8_finds) := goodIn_app (goodIn_of _ (by decide +kernel)) ggX8_needs_X8_finds
set_option maxRecDepth 20000 in
theorem ggX8_needs_X8_copies : GoodIn wsX8_needs wsX8_copies := goodIn_r _ [17] (by exact rfl) (by decide +kernel)
set_option maxRecDepth 20000 in
theorem gX8_needs_X8_copies : GoodIn wsX8_needs (va_wsS RX8 189 yX8_copies wsX8_copies) := goodIn_app (goodIn_of _ (by decide +kernel)) ggX8_needs_X8_copies
set_option maxRecDepth 20000 in
theorem ggX8_needs_X8_sets : GoodIn wsX8_needs wsX8_sets := goodIn_r _ [21, 2, 54, 55, 56, 57, 58, 59, 60, 61, 62, 63, 64, 65, 66, 67, 68, 69, 70, 71, 72, 73, 74, 75, 76, 77, 78, 79, 80, 81, 82, 83, 84, 85, 86, 87, 88, 89, 90, 91, 92, 93, 94, 95, 96] (by exact rfl) (by decide +kernel)
set_option maxRecDepth 20000 in
theorem gX8_needs_X8_sets : GoodIn wsX8_needs (wsV RX8 105 RX8 yX8_sets wsX8_sets) := goodIn_app (goodIn_of _ (by decide +kernel)) ggX8_needs_X8_sets
set_option maxRecDepth 20000 in
theorem ggX8_needs_X8_its : GoodIn wsX8_needs wsX8_its := goodIn_r _ [25, 2, 54, 55, 56, 57, 58, 59, 60, 61, 62, 63, 64, 65, 66, 67, 68, 69, 70, 71, 72, 73, 74, 75, 76, 77, 78, 79, 80, 81, 82, 83, 84, 85, 86, 87, 88, 89, 90, 91, 92, 93, 94, 95, 96] (by exact rfl) (by decide +kernel)
set_option maxRecDepth 20000 in
theorem gX8_needs_X8_its : GoodIn wsX8_needs (wsV RX8 74 RX8 yX8_its wsX8_its) := goodIn_app (goodIn_of _ (by decide +kernel)) ggX8_needs_X8_its
set_option maxRecDepth 20000 in
theorem ggX8_needs_X8_isAllKept : GoodIn wsX8_needs wsX8_isAllKept := goodIn_r _ [29, 2, 30, 31, 32, 33, 7, 34, 35, 36, 37, 38, 39, 40, 22, 23, 24, 25, 41, 42, 43, 44, 45, 46, 47, 48, 49, 50, 51, 52, 53, 54, 55, 56, 57, 58, 59, 60, 61, 62, 63, 64, 65, 66, 67, 68, 69, 70, 71, 72, 73, 74, 75, 76, 77, 78, 79, 80, 81, 82, 83, 84, 85, 86, 87, 88, 89, 90, 91, 92, 93, 94, 95, 96] (by exact rfl) (by decide +kernel)
set_option maxRecDepth 20000 in
theorem gX8_needs_X8_isAllKept : GoodIn wsX8_needs (wsV RX8 194 RX8 yX8_isAllKept wsX8_isAllKept) := goodIn_app (goodIn_of _ (by decide +kernel)) ggX8_needs_X8_isAllKept
theorem dX8_needs_0 : decode cX8_needs 0 = .ok (.iload_n 1, 1) := by decide +kernel
theorem dX8_needs_1 : decode cX8_needs 1 = .ok (.i2l, 1) := by decide +kernel
theorem dX8_needs_2 : decode cX8_needs 2 = .ok (.lconst 1, 1) := by decide +kernel
theorem dX8_needs_3 : decode cX8_needs 3 = .ok (.ldc2_w 187, 3) := by decide +kernel
theorem dX8_needs_6 : decode cX8_needs 6 = .ok (.invokestatic 70, 3) := by decide +kernel
theorem dX8_needs_9 : decode cX8_needs 9 = .ok (.ifCond .ne 9, 3) := by decide +kernel
theorem dX8_needs_12 : decode cX8_needs 12 = .ok (.aload_n 0, 1) := by decide +kernel
theorem dX8_needs_13 : decode cX8_needs 13 = .ok (.iconst 0, 1) := by decide +kernel
theorem dX8_needs_14 : decode cX8_needs 14 = .ok (.invokevirtual 115, 3) := by decide +kernel
theorem dX8_needs_17 : decode cX8_needs 17 = .ok (.ireturn, 1) := by decide +kernel
theorem dX8_needs_18 : decode cX8_needs 18 = .ok (.aload_n 0, 1) := by decide +kernel
theorem dX8_needs_19 : decode cX8_needs 19 = .ok (.getfield 7, 3) := by decide +kernel
theorem dX8_needs_22 : decode cX8_needs 22 = .ok (.iconst 0, 1) := by decide +kernel
theorem dX8_needs_23 : decode cX8_needs 23 = .ok (.iaload, 1) := by decide +kernel
theorem dX8_needs_24 : decode cX8_needs 24 = .ok (.ifCond .ne 9, 3) := by decide +kernel
theorem dX8_needs_27 : decode cX8_needs 27 = .ok (.aload_n 0, 1) := by decide +kernel
theorem dX8_needs_28 : decode cX8_needs 28 = .ok (.iconst 4, 1) := by decide +kernel
theorem dX8_needs_29 : decode cX8_needs 29 = .ok (.invokevirtual 115, 3) := by decide +kernel
theorem dX8_needs_32 : decode cX8_needs 32 = .ok (.ireturn, 1) := by decide +kernel
theorem dX8_needs_33 : decode cX8_needs 33 = .ok (.aload_n 0, 1) := by decide +kernel
theorem dX8_needs_34 : decode cX8_needs 34 = .ok (.getfield 7, 3) := by decide +kernel
theorem dX8_needs_37 : decode cX8_needs 37 = .ok (.aload_n 0, 1) := by decide +kernel
theorem dX8_needs_38 : decode cX8_needs 38 = .ok (.getfield 13, 3) := by decide +kernel
theorem dX8_needs_41 : decode cX8_needs 41 = .ok (.invokestatic 189, 3) := by decide +kernel
theorem dX8_needs_44 : decode cX8_needs 44 = .ok (.iconst 0, 1) := by decide +kernel
theorem dX8_needs_45 : decode cX8_needs 45 = .ok (.istore_n 2, 1) := by decide +kernel
theorem dX8_needs_46 : decode cX8_needs 46 = .ok (.iconst 0, 1) := by decide +kernel
theorem dX8_needs_47 : decode cX8_needs 47 = .ok (.istore_n 3, 1) := by decide +kernel
theorem dX8_needs_48 : decode cX8_needs 48 = .ok (.iload_n 3, 1) := by decide +kernel
theorem dX8_needs_49 : decode cX8_needs 49 = .ok (.aload_n 0, 1) := by decide +kernel
theorem dX8_needs_50 : decode cX8_needs 50 = .ok (.getfield 7, 3) := by decide +kernel
theorem dX8_needs_53 : decode cX8_needs 53 = .ok (.iconst 0, 1) := by decide +kernel
theorem dX8_needs_54 : decode cX8_needs 54 = .ok (.iaload, 1) := by decide +kernel
theorem dX8_needs_55 : decode cX8_needs 55 = .ok (.if_icmp .ge 37, 3) := by decide +kernel
theorem dX8_needs_58 : decode cX8_needs 58 = .ok (.aload_n 0, 1) := by decide +kernel
theorem dX8_needs_59 : decode cX8_needs 59 = .ok (.iload_n 3, 1) := by decide +kernel
theorem dX8_needs_60 : decode cX8_needs 60 = .ok (.iconst 3, 1) := by decide +kernel
theorem dX8_needs_61 : decode cX8_needs 61 = .ok (.bipush 30, 2) := by decide +kernel
theorem dX8_needs_63 : decode cX8_needs 63 = .ok (.invokevirtual 105, 3) := by decide +kernel
theorem dX8_needs_66 : decode cX8_needs 66 = .ok (.iload_n 2, 1) := by decide +kernel
theorem dX8_needs_67 : decode cX8_needs 67 = .ok (.ifCond .ne 13, 3) := by decide +kernel
theorem dX8_needs_70 : decode cX8_needs 70 = .ok (.aload_n 0, 1) := by decide +kernel
theorem dX8_needs_71 : decode cX8_needs 71 = .ok (.iload_n 3, 1) := by decide +kernel
theorem dX8_needs_72 : decode cX8_needs 72 = .ok (.iconst 0, 1) := by decide +kernel
theorem dX8_needs_73 : decode cX8_needs 73 = .ok (.invokevirtual 74, 3) := by decide +kernel
theorem dX8_needs_76 : decode cX8_needs 76 = .ok (.iconst 3, 1) := by decide +kernel
theorem dX8_needs_77 : decode cX8_needs 77 = .ok (.if_icmp .ne 7, 3) := by decide +kernel
theorem dX8_needs_80 : decode cX8_needs 80 = .ok (.iconst 1, 1) := by decide +kernel
theorem dX8_needs_81 : decode cX8_needs 81 = .ok (.goto 4, 3) := by decide +kernel
theorem dX8_needs_84 : decode cX8_needs 84 = .ok (.iconst 0, 1) := by decide +kernel
theorem dX8_needs_85 : decode cX8_needs 85 = .ok (.istore_n 2, 1) := by decide +kernel
theorem dX8_needs_86 : decode cX8_needs 86 = .ok (.iinc 3 1, 3) := by decide +kernel
theorem dX8_needs_89 : decode cX8_needs 89 = .ok (.goto (-41), 3) := by decide +kernel
theorem dX8_needs_92 : decode cX8_needs 92 = .ok (.iconst 1, 1) := by decide +kernel
theorem dX8_needs_93 : decode cX8_needs 93 = .ok (.istore_n 3, 1) := by decide +kernel
theorem dX8_needs_94 : decode cX8_needs 94 = .ok (.iconst 0, 1) := by decide +kernel
theorem dX8_needs_95 : decode cX8_needs 95 = .ok (.istore 4, 2) := by decide +kernel
theorem dX8_needs_97 : decode cX8_needs 97 = .ok (.iload_n 2, 1) := by decide +kernel
theorem dX8_needs_98 : decode cX8_needs 98 = .ok (.ifCond .ne 44, 3) := by decide +kernel
theorem dX8_needs_101 : decode cX8_needs 101 = .ok (.iload 4, 2) := by decide +kernel
theorem dX8_needs_103 : decode cX8_needs 103 = .ok (.ifCond .ne 39, 3) := by decide +kernel
theorem dX8_needs_106 : decode cX8_needs 106 = .ok (.iload_n 3, 1) := by decide +kernel
theorem dX8_needs_107 : decode cX8_needs 107 = .ok (.ldc 193, 2) := by decide +kernel
theorem dX8_needs_109 : decode cX8_needs 109 = .ok (.if_icmp .gt 33, 3) := by decide +kernel
theorem dX8_needs_112 : decode cX8_needs 112 = .ok (.aload_n 0, 1) := by decide +kernel
theorem dX8_needs_113 : decode cX8_needs 113 = .ok (.getfield 7, 3) := by decide +kernel
theorem dX8_needs_116 : decode cX8_needs 116 = .ok (.iconst 3, 1) := by decide +kernel
theorem dX8_needs_117 : decode cX8_needs 117 = .ok (.iload_n 3, 1) := by decide +kernel
theorem dX8_needs_118 : decode cX8_needs 118 = .ok (.iastore, 1) := by decide +kernel
theorem dX8_needs_119 : decode cX8_needs 119 = .ok (.aload_n 0, 1) := by decide +kernel
theorem dX8_needs_120 : decode cX8_needs 120 = .ok (.iload_n 1, 1) := by decide +kernel
theorem dX8_needs_121 : decode cX8_needs 121 = .ok (.invokevirtual 194, 3) := by decide +kernel
theorem dX8_needs_124 : decode cX8_needs 124 = .ok (.istore 4, 2) := by decide +kernel
theorem dX8_needs_126 : decode cX8_needs 126 = .ok (.iload_n 3, 1) := by decide +kernel
theorem dX8_needs_127 : decode cX8_needs 127 = .ok (.iload 4, 2) := by decide +kernel
theorem dX8_needs_129 : decode cX8_needs 129 = .ok (.ifCond .eq 7, 3) := by decide +kernel
theorem dX8_needs_132 : decode cX8_needs 132 = .ok (.iconst 0, 1) := by decide +kernel
theorem dX8_needs_133 : decode cX8_needs 133 = .ok (.goto 4, 3) := by decide +kernel
theorem dX8_needs_136 : decode cX8_needs 136 = .ok (.iconst 1, 1) := by decide +kernel
theorem dX8_needs_137 : decode cX8_needs 137 = .ok (.iadd, 1) := by decide +kernel
theorem dX8_needs_138 : decode cX8_needs 138 = .ok (.istore_n 3, 1) := by decide +kernel
theorem dX8_needs_139 : decode cX8_needs 139 = .ok (.goto (-42), 3) := by decide +kernel
theorem dX8_needs_142 : decode cX8_needs 142 = .ok (.aload_n 0, 1) := by decide +kernel
theorem dX8_needs_143 : decode cX8_needs 143 = .ok (.getfield 13, 3) := by decide +kernel
theorem dX8_needs_146 : decode cX8_needs 146 = .ok (.aload_n 0, 1) := by decide +kernel
theorem dX8_needs_147 : decode cX8_needs 147 = .ok (.getfield 7, 3) := by decide +kernel
theorem dX8_needs_150 : decode cX8_needs 150 = .ok (.invokestatic 189, 3) := by decide +kernel
theorem dX8_needs_153 : decode cX8_needs 153 = .ok (.iload 4, 2) := by decide +kernel
theorem dX8_needs_155 : decode cX8_needs 155 = .ok (.ifCond .eq 7, 3) := by decide +kernel
theorem dX8_needs_158 : decode cX8_needs 158 = .ok (.iload_n 3, 1) := by decide +kernel
theorem dX8_needs_159 : decode cX8_needs 159 = .ok (.goto 8, 3) := by decide +kernel
theorem dX8_needs_162 : decode cX8_needs 162 = .ok (.aload_n 0, 1) := by decide +kernel
theorem dX8_needs_163 : decode cX8_needs 163 = .ok (.iconst 3, 1) := by decide +kernel
theorem dX8_needs_164 : decode cX8_needs 164 = .ok (.invokevirtual 115, 3) := by decide +kernel
theorem dX8_needs_167 : decode cX8_needs 167 = .ok (.ireturn, 1) := by decide +kernel
set_option maxRecDepth 20000 in
theorem ggX8_isEven_X8_look : GoodIn wsX8_isEven wsX8_look := goodIn_r _ [7, 8, 9, 10, 11, 1, 12, 13, 2, 14, 15, 16, 6, 17, 18, 19, 20, 21, 22, 23, 24, 25, 26, 27, 28, 29, 30, 31, 32, 33, 34, 35, 36, 37, 38, 39, 40, 41, 42, 43, 44, 45, 46, 47, 48, 49, 50, 51, 52, 53, 54, 55, 56, 57, 58, 59, 60, 61, 62, 63, 64, 65, 66, 67, 68, 69, 70, 71, 72, 73] (by exact rfl) (by decide +kernel)
set_option maxRecDepth 20000 in
theorem gX8_isEven_X8_look : GoodIn wsX8_isEven (wsV RX8 102 RX8 yX8_look wsX8_look) := goodIn_app (goodIn_of _ (by decide +kernel)) ggX8_isEven_X8_look
set_option maxRecDepth 20000 in
theorem ggX8_isEven_X8_edgesBelow : GoodIn wsX8_isEven wsX8_edgesBelow := goodIn_r _ [30, 1, 14, 15, 16, 6, 17, 31, 32, 33, 34, 35, 36, 37, 38, 39, 40, 41, 42, 43, 44, 45, 46, 47, 48, 49, 50, 51, 52, 53, 54, 55, 56, 57, 58, 59, 60, 61, 62, 63, 64, 65, 66, 67, 68, 69, 70, 71, 72, 73] (by exact rfl) (by decide +kernel)
set_option maxRecDepth 20000 in
theorem gX8_isEven_X8_edgesBelow : GoodIn wsX8_isEven (wsV RX8 98 RX8 yX8_edgesBelow wsX8_edgesBelow) := goodIn_app (goodIn_of _ (by decide +kernel)) ggX8_isEven_X8_edgesBelow
theorem dX8_isEven_0 : decode cX8_isEven 0 = .ok (.aload_n 0, 1) := by decide +kernel
theorem dX8_isEven_1 : decode cX8_isEven 1 = .ok (.invokevirtual 102, 3) := by decide +kernel
theorem dX8_isEven_4 : decode cX8_isEven 4 = .ok (.iconst 0, 1) := by decide +kernel
theorem dX8_isEven_5 : decode cX8_isEven 5 = .ok (.istore_n 1, 1) := by decide +kernel
theorem dX8_isEven_6 : decode cX8_isEven 6 = .ok (.iload_n 1, 1) := by decide +kernel
theorem dX8_isEven_7 : decode cX8_isEven 7 = .ok (.aload_n 0, 1) := by decide +kernel
theorem dX8_isEven_8 : decode cX8_isEven 8 = .ok (.getfield 7, 3) := by decide +kernel
theorem dX8_isEven_11 : decode cX8_isEven 11 = .ok (.iconst 0, 1) := by decide +kernel
theorem dX8_isEven_12 : decode cX8_isEven 12 = .ok (.iaload, 1) := by decide +kernel
theorem dX8_isEven_13 : decode cX8_isEven 13 = .ok (.if_icmp .ge 28, 3) := by decide +kernel
theorem dX8_isEven_16 : decode cX8_isEven 16 = .ok (.aload_n 0, 1) := by decide +kernel
theorem dX8_isEven_17 : decode cX8_isEven 17 = .ok (.getfield 38, 3) := by decide +kernel
theorem dX8_isEven_20 : decode cX8_isEven 20 = .ok (.iload_n 1, 1) := by decide +kernel
theorem dX8_isEven_21 : decode cX8_isEven 21 = .ok (.iaload, 1) := by decide +kernel
theorem dX8_isEven_22 : decode cX8_isEven 22 = .ok (.ifCond .le 13, 3) := by decide +kernel
theorem dX8_isEven_25 : decode cX8_isEven 25 = .ok (.aload_n 0, 1) := by decide +kernel
theorem dX8_isEven_26 : decode cX8_isEven 26 = .ok (.iload_n 1, 1) := by decide +kernel
theorem dX8_isEven_27 : decode cX8_isEven 27 = .ok (.invokevirtual 98, 3) := by decide +kernel
theorem dX8_isEven_30 : decode cX8_isEven 30 = .ok (.ifCond .le 5, 3) := by decide +kernel
theorem dX8_isEven_33 : decode cX8_isEven 33 = .ok (.iconst 0, 1) := by decide +kernel
theorem dX8_isEven_34 : decode cX8_isEven 34 = .ok (.ireturn, 1) := by decide +kernel
theorem dX8_isEven_35 : decode cX8_isEven 35 = .ok (.iinc 1 1, 3) := by decide +kernel
theorem dX8_isEven_38 : decode cX8_isEven 38 = .ok (.goto (-32), 3) := by decide +kernel
theorem dX8_isEven_41 : decode cX8_isEven 41 = .ok (.iconst 1, 1) := by decide +kernel
theorem dX8_isEven_42 : decode cX8_isEven 42 = .ok (.ireturn, 1) := by decide +kernel
set_option maxRecDepth 20000 in
theorem ggX8_even_X8_finds : GoodIn wsX8_even wsX8_finds := goodIn_r _ [6, 7, 8, 41, 42, 43, 44, 45, 46, 47, 48, 49, 50, 51, 52, 53, 54, 55, 56, 57, 58, 59, 60, 61, 62, 63, 64, 65, 66, 67, 68, 69, 70, 71, 72, 73, 74, 75, 76, 77, 78, 79, 80, 81, 82, 83] (by exact rfl) (by decide +kernel)
set_option maxRecDepth 20000 in
theorem gX8_even_X8_finds : GoodIn wsX8_even (wsV RX8 115 RX8 yX8_finds wsX8_finds) := goodIn_app (goodIn_of _ (by decide +kernel)) ggX8_even_X8_finds
set_option maxRecDepth 20000 in
theorem ggX8_even_X8_isEven : GoodIn wsX8_even wsX8_isEven := goodIn_r _ [12, 1, 13, 14, 15, 16, 5, 17, 18, 19, 20, 21, 22, 23, 24, 25, 26, 27, 28, 29, 30, 31, 32, 33, 34, 35, 36, 37, 38, 39, 40, 41, 42, 43, 44, 45, 46, 47, 48, 49, 50, 51, 52, 53, 54, 55, 56, 57, 58, 59, 60, 61, 62, 63, 64, 65, 66, 67, 68, 69, 70, 71, 72, 73, 74, 75, 76, 77, 78, 79, 80, 81, 82, 83] (by exact rfl) (by decide +kernel)
set_option maxRecDepth 20000 in
theorem gX8_even_X8_isEven : GoodIn wsX8_even (wsV RX8 197 RX8 yX8_isEven wsX8_isEven) := goodIn_app (goodIn_of _ (by decide +kernel)) ggX8_even_X8_isEven
theorem dX8_even_0 : decode cX8_even 0 = .ok (.aload_n 0, 1) := by decide +kernel
theorem dX8_even_1 : decode cX8_even 1 = .ok (.getfield 7, 3) := by decide +kernel
theorem dX8_even_4 : decode cX8_even 4 = .ok (.iconst 0, 1) := by decide +kernel
theorem dX8_even_5 : decode cX8_even 5 = .ok (.iaload, 1) := by decide +kernel
theorem dX8_even_6 : decode cX8_even 6 = .ok (.ifCond .ne 9, 3) := by decide +kernel
theorem dX8_even_9 : decode cX8_even 9 = .ok (.aload_n 0, 1) := by decide +kernel
theorem dX8_even_10 : decode cX8_even 10 = .ok (.iconst 4, 1) := by decide +kernel
theorem dX8_even_11 : decode cX8_even 11 = .ok (.invokevirtual 115, 3) := by decide +kernel
theorem dX8_even_14 : decode cX8_even 14 = .ok (.ireturn, 1) := by decide +kernel
theorem dX8_even_15 : decode cX8_even 15 = .ok (.aload_n 0, 1) := by decide +kernel
theorem dX8_even_16 : decode cX8_even 16 = .ok (.getfield 7, 3) := by decide +kernel
theorem dX8_even_19 : decode cX8_even 19 = .ok (.iconst 3, 1) := by decide +kernel
theorem dX8_even_20 : decode cX8_even 20 = .ok (.iaload, 1) := by decide +kernel
theorem dX8_even_21 : decode cX8_even 21 = .ok (.istore_n 1, 1) := by decide +kernel
theorem dX8_even_22 : decode cX8_even 22 = .ok (.iconst 1, 1) := by decide +kernel
theorem dX8_even_23 : decode cX8_even 23 = .ok (.istore_n 2, 1) := by decide +kernel
theorem dX8_even_24 : decode cX8_even 24 = .ok (.iconst 0, 1) := by decide +kernel
theorem dX8_even_25 : decode cX8_even 25 = .ok (.istore_n 3, 1) := by decide +kernel
theorem dX8_even_26 : decode cX8_even 26 = .ok (.iload_n 3, 1) := by decide +kernel
theorem dX8_even_27 : decode cX8_even 27 = .ok (.ifCond .ne 37, 3) := by decide +kernel
theorem dX8_even_30 : decode cX8_even 30 = .ok (.iload_n 2, 1) := by decide +kernel
theorem dX8_even_31 : decode cX8_even 31 = .ok (.sipush 9999, 3) := by decide +kernel
theorem dX8_even_34 : decode cX8_even 34 = .ok (.if_icmp .gt 30, 3) := by decide +kernel
theorem dX8_even_37 : decode cX8_even 37 = .ok (.aload_n 0, 1) := by decide +kernel
theorem dX8_even_38 : decode cX8_even 38 = .ok (.getfield 7, 3) := by decide +kernel
theorem dX8_even_41 : decode cX8_even 41 = .ok (.iconst 3, 1) := by decide +kernel
theorem dX8_even_42 : decode cX8_even 42 = .ok (.iload_n 2, 1) := by decide +kernel
theorem dX8_even_43 : decode cX8_even 43 = .ok (.iastore, 1) := by decide +kernel
theorem dX8_even_44 : decode cX8_even 44 = .ok (.aload_n 0, 1) := by decide +kernel
theorem dX8_even_45 : decode cX8_even 45 = .ok (.invokevirtual 197, 3) := by decide +kernel
theorem dX8_even_48 : decode cX8_even 48 = .ok (.istore_n 3, 1) := by decide +kernel
theorem dX8_even_49 : decode cX8_even 49 = .ok (.iload_n 2, 1) := by decide +kernel
theorem dX8_even_50 : decode cX8_even 50 = .ok (.iload_n 3, 1) := by decide +kernel
theorem dX8_even_51 : decode cX8_even 51 = .ok (.ifCond .eq 7, 3) := by decide +kernel
theorem dX8_even_54 : decode cX8_even 54 = .ok (.iconst 0, 1) := by decide +kernel
theorem dX8_even_55 : decode cX8_even 55 = .ok (.goto 4, 3) := by decide +kernel
theorem dX8_even_58 : decode cX8_even 58 = .ok (.iconst 1, 1) := by decide +kernel
theorem dX8_even_59 : decode cX8_even 59 = .ok (.iadd, 1) := by decide +kernel
theorem dX8_even_60 : decode cX8_even 60 = .ok (.istore_n 2, 1) := by decide +kernel
theorem dX8_even_61 : decode cX8_even 61 = .ok (.goto (-35), 3) := by decide +kernel
theorem dX8_even_64 : decode cX8_even 64 = .ok (.aload_n 0, 1) := by decide +kernel
theorem dX8_even_65 : decode cX8_even 65 = .ok (.getfield 7, 3) := by decide +kernel
theorem dX8_even_68 : decode cX8_even 68 = .ok (.iconst 3, 1) := by decide +kernel
theorem dX8_even_69 : decode cX8_even 69 = .ok (.iload_n 1, 1) := by decide +kernel
theorem dX8_even_70 : decode cX8_even 70 = .ok (.iastore, 1) := by decide +kernel
theorem dX8_even_71 : decode cX8_even 71 = .ok (.iload_n 3, 1) := by decide +kernel
theorem dX8_even_72 : decode cX8_even 72 = .ok (.ifCond .eq 7, 3) := by decide +kernel
theorem dX8_even_75 : decode cX8_even 75 = .ok (.iload_n 2, 1) := by decide +kernel
theorem dX8_even_76 : decode cX8_even 76 = .ok (.goto 8, 3) := by decide +kernel
theorem dX8_even_79 : decode cX8_even 79 = .ok (.aload_n 0, 1) := by decide +kernel
theorem dX8_even_80 : decode cX8_even 80 = .ok (.iconst 3, 1) := by decide +kernel
theorem dX8_even_81 : decode cX8_even 81 = .ok (.invokevirtual 115, 3) := by decide +kernel
theorem dX8_even_84 : decode cX8_even 84 = .ok (.ireturn, 1) := by decide +kernel
theorem dX8_isLate_0 : decode cX8_isLate 0 = .ok (.aload_n 0, 1) := by decide +kernel
theorem dX8_isLate_1 : decode cX8_isLate 1 = .ok (.getfield 7, 3) := by decide +kernel
theorem dX8_isLate_4 : decode cX8_isLate 4 = .ok (.iconst 1, 1) := by decide +kernel
theorem dX8_isLate_5 : decode cX8_isLate 5 = .ok (.iaload, 1) := by decide +kernel
theorem dX8_isLate_6 : decode cX8_isLate 6 = .ok (.iload_n 1, 1) := by decide +kernel
theorem dX8_isLate_7 : decode cX8_isLate 7 = .ok (.iadd, 1) := by decide +kernel
theorem dX8_isLate_8 : decode cX8_isLate 8 = .ok (.sipush 9999, 3) := by decide +kernel
theorem dX8_isLate_11 : decode cX8_isLate 11 = .ok (.if_icmp .le 7, 3) := by decide +kernel
theorem dX8_isLate_14 : decode cX8_isLate 14 = .ok (.iconst 1, 1) := by decide +kernel
theorem dX8_isLate_15 : decode cX8_isLate 15 = .ok (.goto 4, 3) := by decide +kernel
theorem dX8_isLate_18 : decode cX8_isLate 18 = .ok (.iconst 0, 1) := by decide +kernel
theorem dX8_isLate_19 : decode cX8_isLate 19 = .ok (.ireturn, 1) := by decide +kernel
set_option maxRecDepth 20000 in
theorem ggX8_goOn_X8_anHour : GoodIn wsX8_goOn wsX8_anHour := goodIn_r _ [6, 7, 8, 9, 10, 11, 12, 5, 13, 14, 1, 15, 16, 17, 18, 19, 20, 21, 22, 23, 24, 25, 26, 27, 28, 29, 30, 31, 32, 33, 34, 35, 36, 37, 38, 39, 40, 41, 42, 43, 44, 45, 46, 47, 48, 49, 50, 51, 52, 53, 54, 55, 56, 57, 58, 59, 60, 61, 62, 63, 64, 65, 66, 67, 68, 69, 70, 71, 72, 73, 74, 75, 76, 77, 78, 79, 80, 81] (by exact rfl) (by decide +kernel)
set_option maxRecDepth 20000 in
theorem gX8_goOn_X8_anHour : GoodIn wsX8_goOn (wsV RX8 201 RX8 yX8_anHour wsX8_anHour) := goodIn_app (goodIn_of _ (by decide +kernel)) ggX8_goOn_X8_anHour
theorem dX8_goOn_0 : decode cX8_goOn 0 = .ok (.iconst 0, 1) := by decide +kernel
theorem dX8_goOn_1 : decode cX8_goOn 1 = .ok (.istore_n 2, 1) := by decide +kernel
theorem dX8_goOn_2 : decode cX8_goOn 2 = .ok (.iconst 0, 1) := by decide +kernel
theorem dX8_goOn_3 : decode cX8_goOn 3 = .ok (.istore_n 3, 1) := by decide +kernel
theorem dX8_goOn_4 : decode cX8_goOn 4 = .ok (.iload_n 3, 1) := by decide +kernel
theorem dX8_goOn_5 : decode cX8_goOn 5 = .ok (.iload_n 1, 1) := by decide +kernel
theorem dX8_goOn_6 : decode cX8_goOn 6 = .ok (.if_icmp .ge 20, 3) := by decide +kernel
theorem dX8_goOn_9 : decode cX8_goOn 9 = .ok (.aload_n 0, 1) := by decide +kernel
theorem dX8_goOn_10 : decode cX8_goOn 10 = .ok (.invokevirtual 201, 3) := by decide +kernel
theorem dX8_goOn_13 : decode cX8_goOn 13 = .ok (.iload_n 2, 1) := by decide +kernel
theorem dX8_goOn_14 : decode cX8_goOn 14 = .ok (.aload_n 0, 1) := by decide +kernel
theorem dX8_goOn_15 : decode cX8_goOn 15 = .ok (.getfield 82, 3) := by decide +kernel
theorem dX8_goOn_18 : decode cX8_goOn 18 = .ok (.iadd, 1) := by decide +kernel
theorem dX8_goOn_19 : decode cX8_goOn 19 = .ok (.istore_n 2, 1) := by decide +kernel
theorem dX8_goOn_20 : decode cX8_goOn 20 = .ok (.iinc 3 1, 3) := by decide +kernel
theorem dX8_goOn_23 : decode cX8_goOn 23 = .ok (.goto (-19), 3) := by decide +kernel
theorem dX8_goOn_26 : decode cX8_goOn 26 = .ok (.iload_n 2, 1) := by decide +kernel
theorem dX8_goOn_27 : decode cX8_goOn 27 = .ok (.ireturn, 1) := by decide +kernel
set_option maxRecDepth 20000 in
theorem ggX8_hours_X8_in : GoodIn wsX8_hours wsX8_in := goodIn_r _ [5] (by exact rfl) (by decide +kernel)
set_option maxRecDepth 20000 in
theorem gX8_hours_X8_in : GoodIn wsX8_hours (va_wsS RX8 70 yX8_in wsX8_in) := goodIn_app (goodIn_of _ (by decide +kernel)) ggX8_hours_X8_in
set_option maxRecDepth 20000 in
theorem ggX8_hours_X8_finds : GoodIn wsX8_hours wsX8_finds := goodIn_r _ [9, 10, 11, 57, 58, 59, 60, 61, 62, 63, 64, 65, 66, 67, 68, 69, 70, 71, 72, 73, 74, 75, 76, 77, 78, 79, 80, 81, 82, 83, 84, 85, 86, 87, 88, 89, 90, 91, 92, 93, 94, 95, 96, 97, 98, 99] (by exact rfl) (by decide +kernel)
set_option maxRecDepth 20000 in
theorem gX8_hours_X8_finds : GoodIn wsX8_hours (wsV RX8 115 RX8 yX8_finds wsX8_finds) := goodIn_app (goodIn_of _ (by decide +kernel)) ggX8_hours_X8_finds
set_option maxRecDepth 20000 in
theorem ggX8_hours_X8_isLate : GoodIn wsX8_hours wsX8_isLate := goodIn_r _ [15, 16, 57, 58, 59, 60, 61, 62, 63, 64, 65, 66, 67, 68, 69, 70, 71, 72, 73, 74, 75, 76, 77, 78, 79, 80, 81, 82, 83, 84, 85, 86, 87, 88, 89, 90, 91, 92, 93, 94, 95, 96, 97, 98, 99] (by exact rfl) (by decide +kernel)
set_option maxRecDepth 20000 in
theorem gX8_hours_X8_isLate : GoodIn wsX8_hours (wsV RX8 206 RX8 yX8_isLate wsX8_isLate) := goodIn_app (goodIn_of _ (by decide +kernel)) ggX8_hours_X8_isLate
set_option maxRecDepth 20000 in
theorem ggX8_hours_X8_goOn : GoodIn wsX8_hours wsX8_goOn := goodIn_r _ [20, 21, 22, 23, 24, 4, 25, 16, 26, 27, 28, 29, 30, 31, 32, 33, 34, 35, 36, 37, 38, 39, 40, 41, 42, 43, 44, 45, 46, 47, 48, 49, 50, 51, 52, 53, 54, 55, 56, 57, 58, 59, 60, 61, 62, 63, 64, 65, 66, 67, 68, 69, 70, 71, 72, 73, 74, 75, 76, 77, 78, 79, 80, 81, 82, 83, 84, 85, 86, 87, 88, 89, 90, 91, 92, 93, 94, 95, 96, 97, 98, 99] (by exact rfl) (by decide +kernel)
set_option maxRecDepth 20000 in
theorem gX8_hours_X8_goOn : GoodIn wsX8_hours (wsV RX8 209 RX8 yX8_goOn wsX8_goOn) := goodIn_app (goodIn_of _ (by decide +kernel)) ggX8_hours_X8_goOn
theorem dX8_hours_0 : decode cX8_hours 0 = .ok (.iload_n 1, 1) := by decide +kernel
theorem dX8_hours_1 : decode cX8_hours 1 = .ok (.i2l, 1) := by decide +kernel
theorem dX8_hours_2 : decode cX8_hours 2 = .ok (.lconst 1, 1) := by decide +kernel
theorem dX8_hours_3 : decode cX8_hours 3 = .ok (.ldc2_w 204, 3) := by decide +kernel
theorem dX8_hours_6 : decode cX8_hours 6 = .ok (.invokestatic 70, 3) := by decide +kernel
theorem dX8_hours_9 : decode cX8_hours 9 = .ok (.ifCond .ne 9, 3) := by decide +kernel
theorem dX8_hours_12 : decode cX8_hours 12 = .ok (.aload_n 0, 1) := by decide +kernel
theorem dX8_hours_13 : decode cX8_hours 13 = .ok (.iconst 0, 1) := by decide +kernel
theorem dX8_hours_14 : decode cX8_hours 14 = .ok (.invokevirtual 115, 3) := by decide +kernel
theorem dX8_hours_17 : decode cX8_hours 17 = .ok (.ireturn, 1) := by decide +kernel
theorem dX8_hours_18 : decode cX8_hours 18 = .ok (.aload_n 0, 1) := by decide +kernel
theorem dX8_hours_19 : decode cX8_hours 19 = .ok (.iload_n 1, 1) := by decide +kernel
theorem dX8_hours_20 : decode cX8_hours 20 = .ok (.invokevirtual 206, 3) := by decide +kernel
theorem dX8_hours_23 : decode cX8_hours 23 = .ok (.ifCond .eq 11, 3) := by decide +kernel
theorem dX8_hours_26 : decode cX8_hours 26 = .ok (.aload_n 0, 1) := by decide +kernel
theorem dX8_hours_27 : decode cX8_hours 27 = .ok (.iconst 4, 1) := by decide +kernel
theorem dX8_hours_28 : decode cX8_hours 28 = .ok (.invokevirtual 115, 3) := by decide +kernel
theorem dX8_hours_31 : decode cX8_hours 31 = .ok (.goto 8, 3) := by decide +kernel
theorem dX8_hours_34 : decode cX8_hours 34 = .ok (.aload_n 0, 1) := by decide +kernel
theorem dX8_hours_35 : decode cX8_hours 35 = .ok (.iload_n 1, 1) := by decide +kernel
theorem dX8_hours_36 : decode cX8_hours 36 = .ok (.invokevirtual 209, 3) := by decide +kernel
theorem dX8_hours_39 : decode cX8_hours 39 = .ok (.ireturn, 1) := by decide +kernel
set_option maxRecDepth 20000 in
theorem ggX8_sumOf_X8_its : GoodIn wsX8_sumOf wsX8_its := goodIn_r _ [6, 1, 7, 8, 9, 10, 11, 12, 13, 14, 15, 16, 17, 18, 19, 20, 21, 22, 23, 24, 25, 26, 27, 28, 29, 30, 31, 32, 33, 34, 35, 36, 37, 38, 39, 40, 41, 42, 43, 44, 45, 46, 47, 48, 49] (by exact rfl) (by decide +kernel)
set_option maxRecDepth 20000 in
theorem gX8_sumOf_X8_its : GoodIn wsX8_sumOf (wsV RX8 74 RX8 yX8_its wsX8_its) := goodIn_app (goodIn_of _ (by decide +kernel)) ggX8_sumOf_X8_its
theorem dX8_sumOf_0 : decode cX8_sumOf 0 = .ok (.iconst 0, 1) := by decide +kernel
theorem dX8_sumOf_1 : decode cX8_sumOf 1 = .ok (.istore_n 2, 1) := by decide +kernel
theorem dX8_sumOf_2 : decode cX8_sumOf 2 = .ok (.iconst 0, 1) := by decide +kernel
theorem dX8_sumOf_3 : decode cX8_sumOf 3 = .ok (.istore_n 3, 1) := by decide +kernel
theorem dX8_sumOf_4 : decode cX8_sumOf 4 = .ok (.iload_n 3, 1) := by decide +kernel
theorem dX8_sumOf_5 : decode cX8_sumOf 5 = .ok (.aload_n 0, 1) := by decide +kernel
theorem dX8_sumOf_6 : decode cX8_sumOf 6 = .ok (.getfield 7, 3) := by decide +kernel
theorem dX8_sumOf_9 : decode cX8_sumOf 9 = .ok (.iconst 0, 1) := by decide +kernel
theorem dX8_sumOf_10 : decode cX8_sumOf 10 = .ok (.iaload, 1) := by decide +kernel
theorem dX8_sumOf_11 : decode cX8_sumOf 11 = .ok (.if_icmp .ge 18, 3) := by decide +kernel
theorem dX8_sumOf_14 : decode cX8_sumOf 14 = .ok (.iload_n 2, 1) := by decide +kernel
theorem dX8_sumOf_15 : decode cX8_sumOf 15 = .ok (.aload_n 0, 1) := by decide +kernel
theorem dX8_sumOf_16 : decode cX8_sumOf 16 = .ok (.iload_n 3, 1) := by decide +kernel
theorem dX8_sumOf_17 : decode cX8_sumOf 17 = .ok (.iload_n 1, 1) := by decide +kernel
theorem dX8_sumOf_18 : decode cX8_sumOf 18 = .ok (.invokevirtual 74, 3) := by decide +kernel
theorem dX8_sumOf_21 : decode cX8_sumOf 21 = .ok (.iadd, 1) := by decide +kernel
theorem dX8_sumOf_22 : decode cX8_sumOf 22 = .ok (.istore_n 2, 1) := by decide +kernel
theorem dX8_sumOf_23 : decode cX8_sumOf 23 = .ok (.iinc 3 1, 3) := by decide +kernel
theorem dX8_sumOf_26 : decode cX8_sumOf 26 = .ok (.goto (-22), 3) := by decide +kernel
theorem dX8_sumOf_29 : decode cX8_sumOf 29 = .ok (.iload_n 2, 1) := by decide +kernel
theorem dX8_sumOf_30 : decode cX8_sumOf 30 = .ok (.ireturn, 1) := by decide +kernel
set_option maxRecDepth 20000 in
theorem ggX8_now_X8_in : GoodIn wsX8_now wsX8_in := goodIn_r _ [9] (by exact rfl) (by decide +kernel)
set_option maxRecDepth 20000 in
theorem gX8_now_X8_in : GoodIn wsX8_now (va_wsS RX8 70 yX8_in wsX8_in) := goodIn_app (goodIn_of _ (by decide +kernel)) ggX8_now_X8_in
set_option maxRecDepth 20000 in
theorem ggX8_now_X8_finds : GoodIn wsX8_now wsX8_finds := goodIn_r _ [13, 14, 15, 45, 46, 47, 48, 49, 50, 51, 52, 53, 54, 55, 56, 57, 58, 59, 60, 61, 62, 63, 64, 65, 66, 67, 68, 69, 70, 71, 72, 73, 74, 75, 76, 77, 78, 79, 80, 81, 82, 83, 84, 85, 86, 87] (by exact rfl) (by decide +kernel)
set_option maxRecDepth 20000 in
theorem gX8_now_X8_finds : GoodIn wsX8_now (wsV RX8 115 RX8 yX8_finds wsX8_finds) := goodIn_app (goodIn_of _ (by decide +kernel)) ggX8_now_X8_finds
set_option maxRecDepth 20000 in
theorem ggX8_now_X8_look : GoodIn wsX8_now wsX8_look := goodIn_r _ [19, 4, 5, 3, 20, 2, 21, 22, 23, 24, 25, 26, 8, 27, 28, 29, 30, 31, 32, 33, 34, 35, 36, 37, 38, 39, 40, 45, 46, 47, 48, 49, 50, 51, 52, 53, 54, 55, 56, 57, 58, 59, 60, 61, 62, 63, 64, 65, 66, 67, 68, 69, 70, 71, 72, 73, 74, 75, 76, 77, 78, 79, 80, 81, 82, 83, 84, 85, 86, 87] (by exact rfl) (by decide +kernel)
set_option maxRecDepth 20000 in
theorem gX8_now_X8_look : GoodIn wsX8_now (wsV RX8 102 RX8 yX8_look wsX8_look) := goodIn_app (goodIn_of _ (by decide +kernel)) ggX8_now_X8_look
set_option maxRecDepth 20000 in
theorem ggX8_now_X8_sumOf : GoodIn wsX8_now wsX8_sumOf := goodIn_r _ [44, 2, 24, 25, 26, 8, 27, 45, 46, 47, 48, 49, 50, 51, 52, 53, 54, 55, 56, 57, 58, 59, 60, 61, 62, 63, 64, 65, 66, 67, 68, 69, 70, 71, 72, 73, 74, 75, 76, 77, 78, 79, 80, 81, 82, 83, 84, 85, 86, 87] (by exact rfl) (by decide +kernel)
set_option maxRecDepth 20000 in
theorem gX8_now_X8_sumOf : GoodIn wsX8_now (wsV RX8 212 RX8 yX8_sumOf wsX8_sumOf) := goodIn_app (goodIn_of _ (by decide +kernel)) ggX8_now_X8_sumOf
theorem dX8_now_0 : decode cX8_now 0 = .ok (.iload_n 1, 1) := by decide +kernel
theorem dX8_now_1 : decode cX8_now 1 = .ok (.i2l, 1) := by decide +kernel
theorem dX8_now_2 : decode cX8_now 2 = .ok (.lconst 0, 1) := by decide +kernel
theorem dX8_now_3 : decode cX8_now 3 = .ok (.ldc2_w 113, 3) := by decide +kernel
theorem dX8_now_6 : decode cX8_now 6 = .ok (.invokestatic 70, 3) := by decide +kernel
theorem dX8_now_9 : decode cX8_now 9 = .ok (.ifCond .ne 9, 3) := by decide +kernel
theorem dX8_now_12 : decode cX8_now 12 = .ok (.aload_n 0, 1) := by decide +kernel
theorem dX8_now_13 : decode cX8_now 13 = .ok (.iconst 0, 1) := by decide +kernel
theorem dX8_now_14 : decode cX8_now 14 = .ok (.invokevirtual 115, 3) := by decide +kernel
theorem dX8_now_17 : decode cX8_now 17 = .ok (.ireturn, 1) := by decide +kernel
theorem dX8_now_18 : decode cX8_now 18 = .ok (.aload_n 0, 1) := by decide +kernel
theorem dX8_now_19 : decode cX8_now 19 = .ok (.invokevirtual 102, 3) := by decide +kernel
theorem dX8_now_22 : decode cX8_now 22 = .ok (.iload_n 1, 1) := by decide +kernel
theorem dX8_now_23 : decode cX8_now 23 = .ok (.tableswitch 73 0 5 #[37, 44, 51, 57, 63, 68], 37) := by decide +kernel
theorem dX8_now_60 : decode cX8_now 60 = .ok (.aload_n 0, 1) := by decide +kernel
theorem dX8_now_61 : decode cX8_now 61 = .ok (.getfield 7, 3) := by decide +kernel
theorem dX8_now_64 : decode cX8_now 64 = .ok (.iconst 1, 1) := by decide +kernel
theorem dX8_now_65 : decode cX8_now 65 = .ok (.iaload, 1) := by decide +kernel
theorem dX8_now_66 : decode cX8_now 66 = .ok (.ireturn, 1) := by decide +kernel
theorem dX8_now_67 : decode cX8_now 67 = .ok (.aload_n 0, 1) := by decide +kernel
theorem dX8_now_68 : decode cX8_now 68 = .ok (.getfield 7, 3) := by decide +kernel
theorem dX8_now_71 : decode cX8_now 71 = .ok (.iconst 3, 1) := by decide +kernel
theorem dX8_now_72 : decode cX8_now 72 = .ok (.iaload, 1) := by decide +kernel
theorem dX8_now_73 : decode cX8_now 73 = .ok (.ireturn, 1) := by decide +kernel
theorem dX8_now_74 : decode cX8_now 74 = .ok (.aload_n 0, 1) := by decide +kernel
theorem dX8_now_75 : decode cX8_now 75 = .ok (.iconst 4, 1) := by decide +kernel
theorem dX8_now_76 : decode cX8_now 76 = .ok (.invokevirtual 212, 3) := by decide +kernel
theorem dX8_now_79 : decode cX8_now 79 = .ok (.ireturn, 1) := by decide +kernel
theorem dX8_now_80 : decode cX8_now 80 = .ok (.aload_n 0, 1) := by decide +kernel
theorem dX8_now_81 : decode cX8_now 81 = .ok (.iconst 3, 1) := by decide +kernel
theorem dX8_now_82 : decode cX8_now 82 = .ok (.invokevirtual 212, 3) := by decide +kernel
theorem dX8_now_85 : decode cX8_now 85 = .ok (.ireturn, 1) := by decide +kernel
theorem dX8_now_86 : decode cX8_now 86 = .ok (.aload_n 0, 1) := by decide +kernel
theorem dX8_now_87 : decode cX8_now 87 = .ok (.getfield 85, 3) := by decide +kernel
theorem dX8_now_90 : decode cX8_now 90 = .ok (.ireturn, 1) := by decide +kernel
theorem dX8_now_91 : decode cX8_now 91 = .ok (.aload_n 0, 1) := by decide +kernel
theorem dX8_now_92 : decode cX8_now 92 = .ok (.getfield 78, 3) := by decide +kernel
theorem dX8_now_95 : decode cX8_now 95 = .ok (.ireturn, 1) := by decide +kernel
theorem dX8_now_96 : decode cX8_now 96 = .ok (.aload_n 0, 1) := by decide +kernel
theorem dX8_now_97 : decode cX8_now 97 = .ok (.getfield 82, 3) := by decide +kernel
theorem dX8_now_100 : decode cX8_now 100 = .ok (.ireturn, 1) := by decide +kernel
set_option maxRecDepth 20000 in
theorem ggX8_tries_X8_copies : GoodIn wsX8_tries wsX8_copies := goodIn_r _ [14] (by exact rfl) (by decide +kernel)
set_option maxRecDepth 20000 in
theorem gX8_tries_X8_copies : GoodIn wsX8_tries (va_wsS RX8 189 yX8_copies wsX8_copies) := goodIn_app (goodIn_of _ (by decide +kernel)) ggX8_tries_X8_copies
set_option maxRecDepth 20000 in
theorem ggX8_tries_X8_anHour : GoodIn wsX8_tries wsX8_anHour := goodIn_r _ [18, 1, 10, 19, 20, 21, 22, 13, 23, 8, 9, 7, 24, 25, 26, 27, 28, 29, 30, 31, 32, 33, 34, 35, 36, 37, 38, 39, 40, 41, 42, 43, 44, 45, 46, 47, 48, 49, 50, 51, 52, 53, 54, 55, 56, 57, 58, 59, 60, 61, 62, 63, 64, 65, 66, 67, 68, 69, 70, 71, 72, 73, 74, 75, 76, 77, 78, 79, 80, 81, 82, 83, 84, 85, 86, 87, 88, 89] (by exact rfl) (by decide +kernel)
set_option maxRecDepth 20000 in
theorem gX8_tries_X8_anHour : GoodIn wsX8_tries (wsV RX8 201 RX8 yX8_anHour wsX8_anHour) := goodIn_app (goodIn_of _ (by decide +kernel)) ggX8_tries_X8_anHour
theorem dX8_tries_0 : decode cX8_tries 0 = .ok (.aload_n 0, 1) := by decide +kernel
theorem dX8_tries_1 : decode cX8_tries 1 = .ok (.getfield 7, 3) := by decide +kernel
theorem dX8_tries_4 : decode cX8_tries 4 = .ok (.aload_n 0, 1) := by decide +kernel
theorem dX8_tries_5 : decode cX8_tries 5 = .ok (.getfield 16, 3) := by decide +kernel
theorem dX8_tries_8 : decode cX8_tries 8 = .ok (.invokestatic 189, 3) := by decide +kernel
theorem dX8_tries_11 : decode cX8_tries 11 = .ok (.aload_n 0, 1) := by decide +kernel
theorem dX8_tries_12 : decode cX8_tries 12 = .ok (.iconst 0, 1) := by decide +kernel
theorem dX8_tries_13 : decode cX8_tries 13 = .ok (.putfield 215, 3) := by decide +kernel
theorem dX8_tries_16 : decode cX8_tries 16 = .ok (.aload_n 0, 1) := by decide +kernel
theorem dX8_tries_17 : decode cX8_tries 17 = .ok (.iconst 0, 1) := by decide +kernel
theorem dX8_tries_18 : decode cX8_tries 18 = .ok (.putfield 218, 3) := by decide +kernel
theorem dX8_tries_21 : decode cX8_tries 21 = .ok (.aload_n 0, 1) := by decide +kernel
theorem dX8_tries_22 : decode cX8_tries 22 = .ok (.iconst 0, 1) := by decide +kernel
theorem dX8_tries_23 : decode cX8_tries 23 = .ok (.putfield 221, 3) := by decide +kernel
theorem dX8_tries_26 : decode cX8_tries 26 = .ok (.iconst 0, 1) := by decide +kernel
theorem dX8_tries_27 : decode cX8_tries 27 = .ok (.istore_n 2, 1) := by decide +kernel
theorem dX8_tries_28 : decode cX8_tries 28 = .ok (.iload_n 2, 1) := by decide +kernel
theorem dX8_tries_29 : decode cX8_tries 29 = .ok (.bipush 10, 2) := by decide +kernel
theorem dX8_tries_31 : decode cX8_tries 31 = .ok (.if_icmp .ge 16, 3) := by decide +kernel
theorem dX8_tries_34 : decode cX8_tries 34 = .ok (.aload_n 0, 1) := by decide +kernel
theorem dX8_tries_35 : decode cX8_tries 35 = .ok (.getfield 51, 3) := by decide +kernel
theorem dX8_tries_38 : decode cX8_tries 38 = .ok (.iload_n 2, 1) := by decide +kernel
theorem dX8_tries_39 : decode cX8_tries 39 = .ok (.iconst 0, 1) := by decide +kernel
theorem dX8_tries_40 : decode cX8_tries 40 = .ok (.iastore, 1) := by decide +kernel
theorem dX8_tries_41 : decode cX8_tries 41 = .ok (.iinc 2 1, 3) := by decide +kernel
theorem dX8_tries_44 : decode cX8_tries 44 = .ok (.goto (-16), 3) := by decide +kernel
theorem dX8_tries_47 : decode cX8_tries 47 = .ok (.iconst 0, 1) := by decide +kernel
theorem dX8_tries_48 : decode cX8_tries 48 = .ok (.istore_n 2, 1) := by decide +kernel
theorem dX8_tries_49 : decode cX8_tries 49 = .ok (.iload_n 2, 1) := by decide +kernel
theorem dX8_tries_50 : decode cX8_tries 50 = .ok (.iload_n 1, 1) := by decide +kernel
theorem dX8_tries_51 : decode cX8_tries 51 = .ok (.if_icmp .ge 85, 3) := by decide +kernel
theorem dX8_tries_54 : decode cX8_tries 54 = .ok (.aload_n 0, 1) := by decide +kernel
theorem dX8_tries_55 : decode cX8_tries 55 = .ok (.invokevirtual 201, 3) := by decide +kernel
theorem dX8_tries_58 : decode cX8_tries 58 = .ok (.aload_n 0, 1) := by decide +kernel
theorem dX8_tries_59 : decode cX8_tries 59 = .ok (.dup, 1) := by decide +kernel
theorem dX8_tries_60 : decode cX8_tries 60 = .ok (.getfield 215, 3) := by decide +kernel
theorem dX8_tries_63 : decode cX8_tries 63 = .ok (.aload_n 0, 1) := by decide +kernel
theorem dX8_tries_64 : decode cX8_tries 64 = .ok (.getfield 85, 3) := by decide +kernel
theorem dX8_tries_67 : decode cX8_tries 67 = .ok (.iadd, 1) := by decide +kernel
theorem dX8_tries_68 : decode cX8_tries 68 = .ok (.putfield 215, 3) := by decide +kernel
theorem dX8_tries_71 : decode cX8_tries 71 = .ok (.aload_n 0, 1) := by decide +kernel
theorem dX8_tries_72 : decode cX8_tries 72 = .ok (.dup, 1) := by decide +kernel
theorem dX8_tries_73 : decode cX8_tries 73 = .ok (.getfield 218, 3) := by decide +kernel
theorem dX8_tries_76 : decode cX8_tries 76 = .ok (.aload_n 0, 1) := by decide +kernel
theorem dX8_tries_77 : decode cX8_tries 77 = .ok (.getfield 78, 3) := by decide +kernel
theorem dX8_tries_80 : decode cX8_tries 80 = .ok (.iadd, 1) := by decide +kernel
theorem dX8_tries_81 : decode cX8_tries 81 = .ok (.putfield 218, 3) := by decide +kernel
theorem dX8_tries_84 : decode cX8_tries 84 = .ok (.aload_n 0, 1) := by decide +kernel
theorem dX8_tries_85 : decode cX8_tries 85 = .ok (.dup, 1) := by decide +kernel
theorem dX8_tries_86 : decode cX8_tries 86 = .ok (.getfield 221, 3) := by decide +kernel
theorem dX8_tries_89 : decode cX8_tries 89 = .ok (.aload_n 0, 1) := by decide +kernel
theorem dX8_tries_90 : decode cX8_tries 90 = .ok (.getfield 82, 3) := by decide +kernel
theorem dX8_tries_93 : decode cX8_tries 93 = .ok (.iadd, 1) := by decide +kernel
theorem dX8_tries_94 : decode cX8_tries 94 = .ok (.putfield 221, 3) := by decide +kernel
theorem dX8_tries_97 : decode cX8_tries 97 = .ok (.iconst 0, 1) := by decide +kernel
theorem dX8_tries_98 : decode cX8_tries 98 = .ok (.istore_n 3, 1) := by decide +kernel
theorem dX8_tries_99 : decode cX8_tries 99 = .ok (.iload_n 3, 1) := by decide +kernel
theorem dX8_tries_100 : decode cX8_tries 100 = .ok (.aload_n 0, 1) := by decide +kernel
theorem dX8_tries_101 : decode cX8_tries 101 = .ok (.getfield 7, 3) := by decide +kernel
theorem dX8_tries_104 : decode cX8_tries 104 = .ok (.iconst 0, 1) := by decide +kernel
theorem dX8_tries_105 : decode cX8_tries 105 = .ok (.iaload, 1) := by decide +kernel
theorem dX8_tries_106 : decode cX8_tries 106 = .ok (.if_icmp .ge 24, 3) := by decide +kernel
theorem dX8_tries_109 : decode cX8_tries 109 = .ok (.aload_n 0, 1) := by decide +kernel
theorem dX8_tries_110 : decode cX8_tries 110 = .ok (.getfield 51, 3) := by decide +kernel
theorem dX8_tries_113 : decode cX8_tries 113 = .ok (.iload_n 3, 1) := by decide +kernel
theorem dX8_tries_114 : decode cX8_tries 114 = .ok (.dup2, 1) := by decide +kernel
theorem dX8_tries_115 : decode cX8_tries 115 = .ok (.iaload, 1) := by decide +kernel
theorem dX8_tries_116 : decode cX8_tries 116 = .ok (.aload_n 0, 1) := by decide +kernel
theorem dX8_tries_117 : decode cX8_tries 117 = .ok (.getfield 32, 3) := by decide +kernel
theorem dX8_tries_120 : decode cX8_tries 120 = .ok (.iload_n 3, 1) := by decide +kernel
theorem dX8_tries_121 : decode cX8_tries 121 = .ok (.iaload, 1) := by decide +kernel
theorem dX8_tries_122 : decode cX8_tries 122 = .ok (.iadd, 1) := by decide +kernel
theorem dX8_tries_123 : decode cX8_tries 123 = .ok (.iastore, 1) := by decide +kernel
theorem dX8_tries_124 : decode cX8_tries 124 = .ok (.iinc 3 1, 3) := by decide +kernel
theorem dX8_tries_127 : decode cX8_tries 127 = .ok (.goto (-28), 3) := by decide +kernel
theorem dX8_tries_130 : decode cX8_tries 130 = .ok (.iinc 2 1, 3) := by decide +kernel
theorem dX8_tries_133 : decode cX8_tries 133 = .ok (.goto (-84), 3) := by decide +kernel
theorem dX8_tries_136 : decode cX8_tries 136 = .ok (.aload_n 0, 1) := by decide +kernel
theorem dX8_tries_137 : decode cX8_tries 137 = .ok (.getfield 16, 3) := by decide +kernel
theorem dX8_tries_140 : decode cX8_tries 140 = .ok (.aload_n 0, 1) := by decide +kernel
theorem dX8_tries_141 : decode cX8_tries 141 = .ok (.getfield 7, 3) := by decide +kernel
theorem dX8_tries_144 : decode cX8_tries 144 = .ok (.invokestatic 189, 3) := by decide +kernel
theorem dX8_tries_147 : decode cX8_tries 147 = .ok (.return_, 1) := by decide +kernel
set_option maxRecDepth 20000 in
theorem ggX8_ahead_X8_in : GoodIn wsX8_ahead wsX8_in := goodIn_r _ [10] (by exact rfl) (by decide +kernel)
set_option maxRecDepth 20000 in
theorem gX8_ahead_X8_in : GoodIn wsX8_ahead (va_wsS RX8 70 yX8_in wsX8_in) := goodIn_app (goodIn_of _ (by decide +kernel)) ggX8_ahead_X8_in
set_option maxRecDepth 20000 in
theorem ggX8_ahead_X8_finds : GoodIn wsX8_ahead wsX8_finds := goodIn_r _ [14, 15, 16, 65, 66, 67, 68, 69, 70, 71, 72, 73, 74, 75, 76, 77, 78, 79, 80, 81, 82, 83, 84, 85, 86, 87, 88, 89, 90, 91, 92, 93, 94, 95, 96, 97, 98, 99, 100, 101, 102, 103, 104, 105, 106, 107] (by exact rfl) (by decide +kernel)
set_option maxRecDepth 20000 in
theorem gX8_ahead_X8_finds : GoodIn wsX8_ahead (wsV RX8 115 RX8 yX8_finds wsX8_finds) := goodIn_app (goodIn_of _ (by decide +kernel)) ggX8_ahead_X8_finds
set_option maxRecDepth 20000 in
theorem ggX8_ahead_X8_isLate : GoodIn wsX8_ahead wsX8_isLate := goodIn_r _ [20, 2, 65, 66, 67, 68, 69, 70, 71, 72, 73, 74, 75, 76, 77, 78, 79, 80, 81, 82, 83, 84, 85, 86, 87, 88, 89, 90, 91, 92, 93, 94, 95, 96, 97, 98, 99, 100, 101, 102, 103, 104, 105, 106, 107] (by exact rfl) (by decide +kernel)
set_option maxRecDepth 20000 in
theorem gX8_ahead_X8_isLate : GoodIn wsX8_ahead (wsV RX8 206 RX8 yX8_isLate wsX8_isLate) := goodIn_app (goodIn_of _ (by decide +kernel)) ggX8_ahead_X8_isLate
set_option maxRecDepth 20000 in
theorem ggX8_ahead_X8_tries : GoodIn wsX8_ahead wsX8_tries := goodIn_r _ [24, 2, 25, 4, 5, 3, 6, 26, 27, 28, 29, 30, 31, 9, 32, 33, 34, 35, 36, 37, 38, 39, 40, 41, 42, 43, 44, 45, 46, 47, 48, 49, 50, 51, 52, 53, 54, 55, 56, 57, 58, 59, 60, 61, 62, 63, 64, 65, 66, 67, 68, 69, 70, 71, 72, 73, 74, 75, 76, 77, 78, 79, 80, 81, 82, 83, 84, 85, 86, 87, 88, 89, 90, 91, 92, 93, 94, 95, 96, 97, 98, 99, 100, 101, 102, 103, 104, 105, 106, 107] (by exact rfl) (by decide +kernel)
set_option maxRecDepth 20000 in
theorem gX8_ahead_X8_tries : GoodIn wsX8_ahead (wsV RX8 224 RX8 yX8_tries wsX8_tries) := goodIn_app (goodIn_of _ (by decide +kernel)) ggX8_ahead_X8_tries
theorem dX8_ahead_0 : decode cX8_ahead 0 = .ok (.iload_n 1, 1) := by decide +kernel
theorem dX8_ahead_1 : decode cX8_ahead 1 = .ok (.i2l, 1) := by decide +kernel
theorem dX8_ahead_2 : decode cX8_ahead 2 = .ok (.lconst 0, 1) := by decide +kernel
theorem dX8_ahead_3 : decode cX8_ahead 3 = .ok (.ldc2_w 204, 3) := by decide +kernel
theorem dX8_ahead_6 : decode cX8_ahead 6 = .ok (.invokestatic 70, 3) := by decide +kernel
theorem dX8_ahead_9 : decode cX8_ahead 9 = .ok (.ifCond .eq 21, 3) := by decide +kernel
theorem dX8_ahead_12 : decode cX8_ahead 12 = .ok (.iload_n 2, 1) := by decide +kernel
theorem dX8_ahead_13 : decode cX8_ahead 13 = .ok (.i2l, 1) := by decide +kernel
theorem dX8_ahead_14 : decode cX8_ahead 14 = .ok (.lconst 0, 1) := by decide +kernel
theorem dX8_ahead_15 : decode cX8_ahead 15 = .ok (.iconst 2, 1) := by decide +kernel
theorem dX8_ahead_16 : decode cX8_ahead 16 = .ok (.aload_n 0, 1) := by decide +kernel
theorem dX8_ahead_17 : decode cX8_ahead 17 = .ok (.getfield 7, 3) := by decide +kernel
theorem dX8_ahead_20 : decode cX8_ahead 20 = .ok (.iconst 0, 1) := by decide +kernel
theorem dX8_ahead_21 : decode cX8_ahead 21 = .ok (.iaload, 1) := by decide +kernel
theorem dX8_ahead_22 : decode cX8_ahead 22 = .ok (.iadd, 1) := by decide +kernel
theorem dX8_ahead_23 : decode cX8_ahead 23 = .ok (.i2l, 1) := by decide +kernel
theorem dX8_ahead_24 : decode cX8_ahead 24 = .ok (.invokestatic 70, 3) := by decide +kernel
theorem dX8_ahead_27 : decode cX8_ahead 27 = .ok (.ifCond .ne 9, 3) := by decide +kernel
theorem dX8_ahead_30 : decode cX8_ahead 30 = .ok (.aload_n 0, 1) := by decide +kernel
theorem dX8_ahead_31 : decode cX8_ahead 31 = .ok (.iconst 0, 1) := by decide +kernel
theorem dX8_ahead_32 : decode cX8_ahead 32 = .ok (.invokevirtual 115, 3) := by decide +kernel
theorem dX8_ahead_35 : decode cX8_ahead 35 = .ok (.ireturn, 1) := by decide +kernel
theorem dX8_ahead_36 : decode cX8_ahead 36 = .ok (.aload_n 0, 1) := by decide +kernel
theorem dX8_ahead_37 : decode cX8_ahead 37 = .ok (.iload_n 1, 1) := by decide +kernel
theorem dX8_ahead_38 : decode cX8_ahead 38 = .ok (.invokevirtual 206, 3) := by decide +kernel
theorem dX8_ahead_41 : decode cX8_ahead 41 = .ok (.ifCond .eq 9, 3) := by decide +kernel
theorem dX8_ahead_44 : decode cX8_ahead 44 = .ok (.aload_n 0, 1) := by decide +kernel
theorem dX8_ahead_45 : decode cX8_ahead 45 = .ok (.iconst 4, 1) := by decide +kernel
theorem dX8_ahead_46 : decode cX8_ahead 46 = .ok (.invokevirtual 115, 3) := by decide +kernel
theorem dX8_ahead_49 : decode cX8_ahead 49 = .ok (.ireturn, 1) := by decide +kernel
theorem dX8_ahead_50 : decode cX8_ahead 50 = .ok (.aload_n 0, 1) := by decide +kernel
theorem dX8_ahead_51 : decode cX8_ahead 51 = .ok (.iload_n 1, 1) := by decide +kernel
theorem dX8_ahead_52 : decode cX8_ahead 52 = .ok (.invokevirtual 224, 3) := by decide +kernel
theorem dX8_ahead_55 : decode cX8_ahead 55 = .ok (.iload_n 2, 1) := by decide +kernel
theorem dX8_ahead_56 : decode cX8_ahead 56 = .ok (.ifCond .ne 10, 3) := by decide +kernel
theorem dX8_ahead_59 : decode cX8_ahead 59 = .ok (.aload_n 0, 1) := by decide +kernel
theorem dX8_ahead_60 : decode cX8_ahead 60 = .ok (.getfield 221, 3) := by decide +kernel
theorem dX8_ahead_63 : decode cX8_ahead 63 = .ok (.goto 35, 3) := by decide +kernel
theorem dX8_ahead_66 : decode cX8_ahead 66 = .ok (.iload_n 2, 1) := by decide +kernel
theorem dX8_ahead_67 : decode cX8_ahead 67 = .ok (.iconst 1, 1) := by decide +kernel
theorem dX8_ahead_68 : decode cX8_ahead 68 = .ok (.if_icmp .ne 10, 3) := by decide +kernel
theorem dX8_ahead_71 : decode cX8_ahead 71 = .ok (.aload_n 0, 1) := by decide +kernel
theorem dX8_ahead_72 : decode cX8_ahead 72 = .ok (.getfield 215, 3) := by decide +kernel
theorem dX8_ahead_75 : decode cX8_ahead 75 = .ok (.goto 23, 3) := by decide +kernel
theorem dX8_ahead_78 : decode cX8_ahead 78 = .ok (.iload_n 2, 1) := by decide +kernel
theorem dX8_ahead_79 : decode cX8_ahead 79 = .ok (.iconst 2, 1) := by decide +kernel
theorem dX8_ahead_80 : decode cX8_ahead 80 = .ok (.if_icmp .ne 10, 3) := by decide +kernel
theorem dX8_ahead_83 : decode cX8_ahead 83 = .ok (.aload_n 0, 1) := by decide +kernel
theorem dX8_ahead_84 : decode cX8_ahead 84 = .ok (.getfield 218, 3) := by decide +kernel
theorem dX8_ahead_87 : decode cX8_ahead 87 = .ok (.goto 11, 3) := by decide +kernel
theorem dX8_ahead_90 : decode cX8_ahead 90 = .ok (.aload_n 0, 1) := by decide +kernel
theorem dX8_ahead_91 : decode cX8_ahead 91 = .ok (.getfield 51, 3) := by decide +kernel
theorem dX8_ahead_94 : decode cX8_ahead 94 = .ok (.iload_n 2, 1) := by decide +kernel
theorem dX8_ahead_95 : decode cX8_ahead 95 = .ok (.iconst 3, 1) := by decide +kernel
theorem dX8_ahead_96 : decode cX8_ahead 96 = .ok (.isub, 1) := by decide +kernel
theorem dX8_ahead_97 : decode cX8_ahead 97 = .ok (.iaload, 1) := by decide +kernel
theorem dX8_ahead_98 : decode cX8_ahead 98 = .ok (.ireturn, 1) := by decide +kernel
set_option maxRecDepth 20000 in
theorem ggX8_when_X8_isBasin : GoodIn wsX8_when wsX8_isBasin := goodIn_r _ [8, 2, 9, 10, 7, 11, 61, 62, 63, 64, 65, 66, 67, 68, 69, 70, 71, 72, 73, 74, 75, 76, 77, 78, 79, 80, 81, 82, 83, 84, 85, 86, 87, 88, 89, 90, 91, 92, 93, 94, 95, 96, 97, 98, 99, 100, 101, 102, 103] (by exact rfl) (by decide +kernel)
set_option maxRecDepth 20000 in
theorem gX8_when_X8_isBasin : GoodIn wsX8_when (wsV RX8 109 RX8 yX8_isBasin wsX8_isBasin) := goodIn_app (goodIn_of _ (by decide +kernel)) ggX8_when_X8_isBasin
set_option maxRecDepth 20000 in
theorem ggX8_when_X8_in : GoodIn wsX8_when wsX8_in := goodIn_r _ [11] (by exact rfl) (by decide +kernel)
set_option maxRecDepth 20000 in
theorem gX8_when_X8_in : GoodIn wsX8_when (va_wsS RX8 70 yX8_in wsX8_in) := goodIn_app (goodIn_of _ (by decide +kernel)) ggX8_when_X8_in
set_option maxRecDepth 20000 in
theorem ggX8_when_X8_finds : GoodIn wsX8_when wsX8_finds := goodIn_r _ [15, 16, 17, 61, 62, 63, 64, 65, 66, 67, 68, 69, 70, 71, 72, 73, 74, 75, 76, 77, 78, 79, 80, 81, 82, 83, 84, 85, 86, 87, 88, 89, 90, 91, 92, 93, 94, 95, 96, 97, 98, 99, 100, 101, 102, 103] (by exact rfl) (by decide +kernel)
set_option maxRecDepth 20000 in
theorem gX8_when_X8_finds : GoodIn wsX8_when (wsV RX8 115 RX8 yX8_finds wsX8_finds) := goodIn_app (goodIn_of _ (by decide +kernel)) ggX8_when_X8_finds
set_option maxRecDepth 20000 in
theorem ggX8_when_X8_isLate : GoodIn wsX8_when wsX8_isLate := goodIn_r _ [21, 2, 61, 62, 63, 64, 65, 66, 67, 68, 69, 70, 71, 72, 73, 74, 75, 76, 77, 78, 79, 80, 81, 82, 83, 84, 85, 86, 87, 88, 89, 90, 91, 92, 93, 94, 95, 96, 97, 98, 99, 100, 101, 102, 103] (by exact rfl) (by decide +kernel)
set_option maxRecDepth 20000 in
theorem gX8_when_X8_isLate : GoodIn wsX8_when (wsV RX8 206 RX8 yX8_isLate wsX8_isLate) := goodIn_app (goodIn_of _ (by decide +kernel)) ggX8_when_X8_isLate
set_option maxRecDepth 20000 in
theorem ggX8_when_X8_copies : GoodIn wsX8_when wsX8_copies := goodIn_r _ [24] (by exact rfl) (by decide +kernel)
set_option maxRecDepth 20000 in
theorem gX8_when_X8_copies : GoodIn wsX8_when (va_wsS RX8 189 yX8_copies wsX8_copies) := goodIn_app (goodIn_of _ (by decide +kernel)) ggX8_when_X8_copies
set_option maxRecDepth 20000 in
theorem ggX8_when_X8_its : GoodIn wsX8_when wsX8_its := goodIn_r _ [28, 2, 61, 62, 63, 64, 65, 66, 67, 68, 69, 70, 71, 72, 73, 74, 75, 76, 77, 78, 79, 80, 81, 82, 83, 84, 85, 86, 87, 88, 89, 90, 91, 92, 93, 94, 95, 96, 97, 98, 99, 100, 101, 102, 103] (by exact rfl) (by decide +kernel)
set_option maxRecDepth 20000 in
theorem gX8_when_X8_its : GoodIn wsX8_when (wsV RX8 74 RX8 yX8_its wsX8_its) := goodIn_app (goodIn_of _ (by decide +kernel)) ggX8_when_X8_its
set_option maxRecDepth 20000 in
theorem ggX8_when_X8_anHour : GoodIn wsX8_when wsX8_anHour := goodIn_r _ [32, 2, 33, 34, 35, 36, 37, 7, 38, 39, 40, 41, 42, 43, 25, 26, 27, 28, 44, 45, 46, 47, 48, 49, 50, 51, 52, 53, 54, 55, 56, 57, 58, 59, 60, 61, 62, 63, 64, 65, 66, 67, 68, 69, 70, 71, 72, 73, 74, 75, 76, 77, 78, 79, 80, 81, 82, 83, 84, 85, 86, 87, 88, 89, 90, 91, 92, 93, 94, 95, 96, 97, 98, 99, 100, 101, 102, 103] (by exact rfl) (by decide +kernel)
set_option maxRecDepth 20000 in
theorem gX8_when_X8_anHour : GoodIn wsX8_when (wsV RX8 201 RX8 yX8_anHour wsX8_anHour) := goodIn_app (goodIn_of _ (by decide +kernel)) ggX8_when_X8_anHour
theorem dX8_when_0 : decode cX8_when 0 = .ok (.aload_n 0, 1) := by decide +kernel
theorem dX8_when_1 : decode cX8_when 1 = .ok (.iload_n 1, 1) := by decide +kernel
theorem dX8_when_2 : decode cX8_when 2 = .ok (.invokevirtual 109, 3) := by decide +kernel
theorem dX8_when_5 : decode cX8_when 5 = .ok (.ifCond .eq 15, 3) := by decide +kernel
theorem dX8_when_8 : decode cX8_when 8 = .ok (.iload_n 2, 1) := by decide +kernel
theorem dX8_when_9 : decode cX8_when 9 = .ok (.i2l, 1) := by decide +kernel
theorem dX8_when_10 : decode cX8_when 10 = .ok (.lconst 1, 1) := by decide +kernel
theorem dX8_when_11 : decode cX8_when 11 = .ok (.ldc2_w 127, 3) := by decide +kernel
theorem dX8_when_14 : decode cX8_when 14 = .ok (.invokestatic 70, 3) := by decide +kernel
theorem dX8_when_17 : decode cX8_when 17 = .ok (.ifCond .ne 9, 3) := by decide +kernel
theorem dX8_when_20 : decode cX8_when 20 = .ok (.aload_n 0, 1) := by decide +kernel
theorem dX8_when_21 : decode cX8_when 21 = .ok (.iconst 0, 1) := by decide +kernel
theorem dX8_when_22 : decode cX8_when 22 = .ok (.invokevirtual 115, 3) := by decide +kernel
theorem dX8_when_25 : decode cX8_when 25 = .ok (.ireturn, 1) := by decide +kernel
theorem dX8_when_26 : decode cX8_when 26 = .ok (.aload_n 0, 1) := by decide +kernel
theorem dX8_when_27 : decode cX8_when 27 = .ok (.bipush 100, 2) := by decide +kernel
theorem dX8_when_29 : decode cX8_when 29 = .ok (.invokevirtual 206, 3) := by decide +kernel
theorem dX8_when_32 : decode cX8_when 32 = .ok (.ifCond .eq 9, 3) := by decide +kernel
theorem dX8_when_35 : decode cX8_when 35 = .ok (.aload_n 0, 1) := by decide +kernel
theorem dX8_when_36 : decode cX8_when 36 = .ok (.iconst 4, 1) := by decide +kernel
theorem dX8_when_37 : decode cX8_when 37 = .ok (.invokevirtual 115, 3) := by decide +kernel
theorem dX8_when_40 : decode cX8_when 40 = .ok (.ireturn, 1) := by decide +kernel
theorem dX8_when_41 : decode cX8_when 41 = .ok (.aload_n 0, 1) := by decide +kernel
theorem dX8_when_42 : decode cX8_when 42 = .ok (.getfield 7, 3) := by decide +kernel
theorem dX8_when_45 : decode cX8_when 45 = .ok (.aload_n 0, 1) := by decide +kernel
theorem dX8_when_46 : decode cX8_when 46 = .ok (.getfield 16, 3) := by decide +kernel
theorem dX8_when_49 : decode cX8_when 49 = .ok (.invokestatic 189, 3) := by decide +kernel
theorem dX8_when_52 : decode cX8_when 52 = .ok (.iconst 0, 1) := by decide +kernel
theorem dX8_when_53 : decode cX8_when 53 = .ok (.istore_n 3, 1) := by decide +kernel
theorem dX8_when_54 : decode cX8_when 54 = .ok (.iload_n 3, 1) := by decide +kernel
theorem dX8_when_55 : decode cX8_when 55 = .ok (.bipush 100, 2) := by decide +kernel
theorem dX8_when_57 : decode cX8_when 57 = .ok (.if_icmp .gt 23, 3) := by decide +kernel
theorem dX8_when_60 : decode cX8_when 60 = .ok (.aload_n 0, 1) := by decide +kernel
theorem dX8_when_61 : decode cX8_when 61 = .ok (.iload_n 1, 1) := by decide +kernel
theorem dX8_when_62 : decode cX8_when 62 = .ok (.iconst 4, 1) := by decide +kernel
theorem dX8_when_63 : decode cX8_when 63 = .ok (.invokevirtual 74, 3) := by decide +kernel
theorem dX8_when_66 : decode cX8_when 66 = .ok (.iload_n 2, 1) := by decide +kernel
theorem dX8_when_67 : decode cX8_when 67 = .ok (.if_icmp .ge 13, 3) := by decide +kernel
theorem dX8_when_70 : decode cX8_when 70 = .ok (.aload_n 0, 1) := by decide +kernel
theorem dX8_when_71 : decode cX8_when 71 = .ok (.invokevirtual 201, 3) := by decide +kernel
theorem dX8_when_74 : decode cX8_when 74 = .ok (.iinc 3 1, 3) := by decide +kernel
theorem dX8_when_77 : decode cX8_when 77 = .ok (.goto (-23), 3) := by decide +kernel
theorem dX8_when_80 : decode cX8_when 80 = .ok (.aload_n 0, 1) := by decide +kernel
theorem dX8_when_81 : decode cX8_when 81 = .ok (.getfield 16, 3) := by decide +kernel
theorem dX8_when_84 : decode cX8_when 84 = .ok (.aload_n 0, 1) := by decide +kernel
theorem dX8_when_85 : decode cX8_when 85 = .ok (.getfield 7, 3) := by decide +kernel
theorem dX8_when_88 : decode cX8_when 88 = .ok (.invokestatic 189, 3) := by decide +kernel
theorem dX8_when_91 : decode cX8_when 91 = .ok (.iload_n 3, 1) := by decide +kernel
theorem dX8_when_92 : decode cX8_when 92 = .ok (.bipush 100, 2) := by decide +kernel
theorem dX8_when_94 : decode cX8_when 94 = .ok (.if_icmp .le 11, 3) := by decide +kernel
theorem dX8_when_97 : decode cX8_when 97 = .ok (.aload_n 0, 1) := by decide +kernel
theorem dX8_when_98 : decode cX8_when 98 = .ok (.iconst 3, 1) := by decide +kernel
theorem dX8_when_99 : decode cX8_when 99 = .ok (.invokevirtual 115, 3) := by decide +kernel
theorem dX8_when_102 : decode cX8_when 102 = .ok (.goto 4, 3) := by decide +kernel
theorem dX8_when_105 : decode cX8_when 105 = .ok (.iload_n 3, 1) := by decide +kernel
theorem dX8_when_106 : decode cX8_when 106 = .ok (.ireturn, 1) := by decide +kernel
set_option maxRecDepth 20000 in
theorem ggX8_loses_X8_isBasin : GoodIn wsX8_loses wsX8_isBasin := goodIn_r _ [10, 3, 11, 12, 9, 13, 105, 106, 107, 108, 109, 110, 111, 112, 113, 114, 115, 116, 117, 118, 119, 120, 121, 122, 123, 124, 125, 126, 127, 128, 129, 130, 131, 132, 133, 134, 135, 136, 137, 138, 139, 140, 141, 142, 143, 144, 145, 146, 147] (by exact rfl) (by decide +kernel)
set_option maxRecDepth 20000 in
theorem gX8_loses_X8_isBasin : GoodIn wsX8_loses (wsV RX8 109 RX8 yX8_isBasin wsX8_isBasin) := goodIn_app (goodIn_of _ (by decide +kernel)) ggX8_loses_X8_isBasin
set_option maxRecDepth 20000 in
theorem ggX8_loses_X8_in : GoodIn wsX8_loses wsX8_in := goodIn_r _ [13] (by exact rfl) (by decide +kernel)
set_option maxRecDepth 20000 in
theorem gX8_loses_X8_in : GoodIn wsX8_loses (va_wsS RX8 70 yX8_in wsX8_in) := goodIn_app (goodIn_of _ (by decide +kernel)) ggX8_loses_X8_in
set_option maxRecDepth 20000 in
theorem ggX8_loses_X8_finds : GoodIn wsX8_loses wsX8_finds := goodIn_r _ [17, 18, 19, 105, 106, 107, 108, 109, 110, 111, 112, 113, 114, 115, 116, 117, 118, 119, 120, 121, 122, 123, 124, 125, 126, 127, 128, 129, 130, 131, 132, 133, 134, 135, 136, 137, 138, 139, 140, 141, 142, 143, 144, 145, 146, 147] (by exact rfl) (by decide +kernel)
set_option maxRecDepth 20000 in
theorem gX8_loses_X8_finds : GoodIn wsX8_loses (wsV RX8 115 RX8 yX8_finds wsX8_finds) := goodIn_app (goodIn_of _ (by decide +kernel)) ggX8_loses_X8_finds
set_option maxRecDepth 20000 in
theorem ggX8_loses_X8_isLate : GoodIn wsX8_loses wsX8_isLate := goodIn_r _ [23, 3, 105, 106, 107, 108, 109, 110, 111, 112, 113, 114, 115, 116, 117, 118, 119, 120, 121, 122, 123, 124, 125, 126, 127, 128, 129, 130, 131, 132, 133, 134, 135, 136, 137, 138, 139, 140, 141, 142, 143, 144, 145, 146, 147] (by exact rfl) (by decide +kernel)
set_option maxRecDepth 20000 in
theorem gX8_loses_X8_isLate : GoodIn wsX8_loses (wsV RX8 206 RX8 yX8_isLate wsX8_isLate) := goodIn_app (goodIn_of _ (by decide +kernel)) ggX8_loses_X8_isLate
set_option maxRecDepth 20000 in
theorem ggX8_loses_X8_isShare : GoodIn wsX8_loses wsX8_isShare := goodIn_r _ [27, 28, 29, 30, 31, 9, 32, 33, 34, 35, 36, 37, 38, 39, 40, 41, 42, 43, 3, 44, 45, 46, 47, 48, 49, 50, 51, 52, 53, 2, 4, 54, 55, 56, 57, 58, 59, 60, 61, 62, 63, 64, 65, 105, 106, 107, 108, 109, 110, 111, 112, 113, 114, 115, 116, 117, 118, 119, 120, 121, 122, 123, 124, 125, 126, 127, 128, 129, 130, 131, 132, 133, 134, 135, 136, 137, 138, 139, 140, 141, 142, 143, 144, 145, 146, 147] (by exact rfl) (by decide +kernel)
set_option maxRecDepth 20000 in
theorem gX8_loses_X8_isShare : GoodIn wsX8_loses (wsV RX8 180 RX8 yX8_isShare wsX8_isShare) := goodIn_app (goodIn_of _ (by decide +kernel)) ggX8_loses_X8_isShare
set_option maxRecDepth 20000 in
theorem ggX8_loses_X8_tries : GoodIn wsX8_loses wsX8_tries := goodIn_r _ [69, 3, 70, 71, 72, 73, 5, 74, 75, 76, 77, 78, 79, 9, 80, 81, 82, 83, 84, 85, 86, 87, 88, 89, 90, 91, 40, 41, 42, 43, 92, 93, 94, 95, 96, 97, 98, 99, 100, 62, 63, 64, 65, 101, 102, 103, 104, 105, 106, 107, 108, 109, 110, 111, 112, 113, 114, 115, 116, 117, 118, 119, 120, 121, 122, 123, 124, 125, 126, 127, 128, 129, 130, 131, 132, 133, 134, 135, 136, 137, 138, 139, 140, 141, 142, 143, 144, 145, 146, 147] (by exact rfl) (by decide +kernel)
set_option maxRecDepth 20000 in
theorem gX8_loses_X8_tries : GoodIn wsX8_loses (wsV RX8 224 RX8 yX8_tries wsX8_tries) := goodIn_app (goodIn_of _ (by decide +kernel)) ggX8_loses_X8_tries
theorem dX8_loses_0 : decode cX8_loses 0 = .ok (.aload_n 0, 1) := by decide +kernel
theorem dX8_loses_1 : decode cX8_loses 1 = .ok (.iload_n 1, 1) := by decide +kernel
theorem dX8_loses_2 : decode cX8_loses 2 = .ok (.invokevirtual 109, 3) := by decide +kernel
theorem dX8_loses_5 : decode cX8_loses 5 = .ok (.ifCond .eq 15, 3) := by decide +kernel
theorem dX8_loses_8 : decode cX8_loses 8 = .ok (.iload_n 2, 1) := by decide +kernel
theorem dX8_loses_9 : decode cX8_loses 9 = .ok (.i2l, 1) := by decide +kernel
theorem dX8_loses_10 : decode cX8_loses 10 = .ok (.lconst 1, 1) := by decide +kernel
theorem dX8_loses_11 : decode cX8_loses 11 = .ok (.ldc2_w 204, 3) := by decide +kernel
theorem dX8_loses_14 : decode cX8_loses 14 = .ok (.invokestatic 70, 3) := by decide +kernel
theorem dX8_loses_17 : decode cX8_loses 17 = .ok (.ifCond .ne 9, 3) := by decide +kernel
theorem dX8_loses_20 : decode cX8_loses 20 = .ok (.aload_n 0, 1) := by decide +kernel
theorem dX8_loses_21 : decode cX8_loses 21 = .ok (.iconst 0, 1) := by decide +kernel
theorem dX8_loses_22 : decode cX8_loses 22 = .ok (.invokevirtual 115, 3) := by decide +kernel
theorem dX8_loses_25 : decode cX8_loses 25 = .ok (.ireturn, 1) := by decide +kernel
theorem dX8_loses_26 : decode cX8_loses 26 = .ok (.aload_n 0, 1) := by decide +kernel
theorem dX8_loses_27 : decode cX8_loses 27 = .ok (.iload_n 2, 1) := by decide +kernel
theorem dX8_loses_28 : decode cX8_loses 28 = .ok (.invokevirtual 206, 3) := by decide +kernel
theorem dX8_loses_31 : decode cX8_loses 31 = .ok (.ifCond .eq 9, 3) := by decide +kernel
theorem dX8_loses_34 : decode cX8_loses 34 = .ok (.aload_n 0, 1) := by decide +kernel
theorem dX8_loses_35 : decode cX8_loses 35 = .ok (.iconst 4, 1) := by decide +kernel
theorem dX8_loses_36 : decode cX8_loses 36 = .ok (.invokevirtual 115, 3) := by decide +kernel
theorem dX8_loses_39 : decode cX8_loses 39 = .ok (.ireturn, 1) := by decide +kernel
theorem dX8_loses_40 : decode cX8_loses 40 = .ok (.aload_n 0, 1) := by decide +kernel
theorem dX8_loses_41 : decode cX8_loses 41 = .ok (.iload_n 1, 1) := by decide +kernel
theorem dX8_loses_42 : decode cX8_loses 42 = .ok (.invokevirtual 180, 3) := by decide +kernel
theorem dX8_loses_45 : decode cX8_loses 45 = .ok (.ifCond .ne 10, 3) := by decide +kernel
theorem dX8_loses_48 : decode cX8_loses 48 = .ok (.aload_n 0, 1) := by decide +kernel
theorem dX8_loses_49 : decode cX8_loses 49 = .ok (.bipush 6, 2) := by decide +kernel
theorem dX8_loses_51 : decode cX8_loses 51 = .ok (.invokevirtual 115, 3) := by decide +kernel
theorem dX8_loses_54 : decode cX8_loses 54 = .ok (.ireturn, 1) := by decide +kernel
theorem dX8_loses_55 : decode cX8_loses 55 = .ok (.aload_n 0, 1) := by decide +kernel
theorem dX8_loses_56 : decode cX8_loses 56 = .ok (.iload_n 2, 1) := by decide +kernel
theorem dX8_loses_57 : decode cX8_loses 57 = .ok (.invokevirtual 224, 3) := by decide +kernel
theorem dX8_loses_60 : decode cX8_loses 60 = .ok (.aload_n 0, 1) := by decide +kernel
theorem dX8_loses_61 : decode cX8_loses 61 = .ok (.getfield 160, 3) := by decide +kernel
theorem dX8_loses_64 : decode cX8_loses 64 = .ok (.aload_n 0, 1) := by decide +kernel
theorem dX8_loses_65 : decode cX8_loses 65 = .ok (.getfield 7, 3) := by decide +kernel
theorem dX8_loses_68 : decode cX8_loses 68 = .ok (.iconst 3, 1) := by decide +kernel
theorem dX8_loses_69 : decode cX8_loses 69 = .ok (.iaload, 1) := by decide +kernel
theorem dX8_loses_70 : decode cX8_loses 70 = .ok (.iload_n 2, 1) := by decide +kernel
theorem dX8_loses_71 : decode cX8_loses 71 = .ok (.imul, 1) := by decide +kernel
theorem dX8_loses_72 : decode cX8_loses 72 = .ok (.i2l, 1) := by decide +kernel
theorem dX8_loses_73 : decode cX8_loses 73 = .ok (.lmul, 1) := by decide +kernel
theorem dX8_loses_74 : decode cX8_loses 74 = .ok (.aload_n 0, 1) := by decide +kernel
theorem dX8_loses_75 : decode cX8_loses 75 = .ok (.getfield 163, 3) := by decide +kernel
theorem dX8_loses_78 : decode cX8_loses 78 = .ok (.ldiv, 1) := by decide +kernel
theorem dX8_loses_79 : decode cX8_loses 79 = .ok (.l2i, 1) := by decide +kernel
theorem dX8_loses_80 : decode cX8_loses 80 = .ok (.aload_n 0, 1) := by decide +kernel
theorem dX8_loses_81 : decode cX8_loses 81 = .ok (.getfield 51, 3) := by decide +kernel
theorem dX8_loses_84 : decode cX8_loses 84 = .ok (.iload_n 1, 1) := by decide +kernel
theorem dX8_loses_85 : decode cX8_loses 85 = .ok (.iaload, 1) := by decide +kernel
theorem dX8_loses_86 : decode cX8_loses 86 = .ok (.isub, 1) := by decide +kernel
theorem dX8_loses_87 : decode cX8_loses 87 = .ok (.ireturn, 1) := by decide +kernel
set_option maxRecDepth 20000 in
theorem ggX8_why_X8_isBasin : GoodIn wsX8_why wsX8_isBasin := goodIn_r _ [6, 7, 8, 9, 5, 10, 15, 16, 17, 18, 19, 20, 21, 22, 23, 24, 25, 26, 27, 28, 29, 30, 31, 32, 33, 34, 35, 36, 37, 38, 39, 40, 41, 42, 43, 44, 45, 46, 47, 48, 49, 50, 51, 52, 53, 54, 55, 56, 57] (by exact rfl) (by decide +kernel)
set_option maxRecDepth 20000 in
theorem gX8_why_X8_isBasin : GoodIn wsX8_why (wsV RX8 109 RX8 yX8_isBasin wsX8_isBasin) := goodIn_app (goodIn_of _ (by decide +kernel)) ggX8_why_X8_isBasin
set_option maxRecDepth 20000 in
theorem ggX8_why_X8_in : GoodIn wsX8_why wsX8_in := goodIn_r _ [10] (by exact rfl) (by decide +kernel)
set_option maxRecDepth 20000 in
theorem gX8_why_X8_in : GoodIn wsX8_why (va_wsS RX8 70 yX8_in wsX8_in) := goodIn_app (goodIn_of _ (by decide +kernel)) ggX8_why_X8_in
set_option maxRecDepth 20000 in
theorem ggX8_why_X8_isLate : GoodIn wsX8_why wsX8_isLate := goodIn_r _ [14, 7, 15, 16, 17, 18, 19, 20, 21, 22, 23, 24, 25, 26, 27, 28, 29, 30, 31, 32, 33, 34, 35, 36, 37, 38, 39, 40, 41, 42, 43, 44, 45, 46, 47, 48, 49, 50, 51, 52, 53, 54, 55, 56, 57] (by exact rfl) (by decide +kernel)
set_option maxRecDepth 20000 in
theorem gX8_why_X8_isLate : GoodIn wsX8_why (wsV RX8 206 RX8 yX8_isLate wsX8_isLate) := goodIn_app (goodIn_of _ (by decide +kernel)) ggX8_why_X8_isLate
theorem dX8_why_0 : decode cX8_why 0 = .ok (.aload_n 0, 1) := by decide +kernel
theorem dX8_why_1 : decode cX8_why 1 = .ok (.iload_n 1, 1) := by decide +kernel
theorem dX8_why_2 : decode cX8_why 2 = .ok (.invokevirtual 109, 3) := by decide +kernel
theorem dX8_why_5 : decode cX8_why 5 = .ok (.ifCond .eq 20, 3) := by decide +kernel
theorem dX8_why_8 : decode cX8_why 8 = .ok (.iload_n 1, 1) := by decide +kernel
theorem dX8_why_9 : decode cX8_why 9 = .ok (.iload_n 3, 1) := by decide +kernel
theorem dX8_why_10 : decode cX8_why 10 = .ok (.if_icmp .lt 15, 3) := by decide +kernel
theorem dX8_why_13 : decode cX8_why 13 = .ok (.iload_n 2, 1) := by decide +kernel
theorem dX8_why_14 : decode cX8_why 14 = .ok (.i2l, 1) := by decide +kernel
theorem dX8_why_15 : decode cX8_why 15 = .ok (.lconst 1, 1) := by decide +kernel
theorem dX8_why_16 : decode cX8_why 16 = .ok (.ldc2_w 227, 3) := by decide +kernel
theorem dX8_why_19 : decode cX8_why 19 = .ok (.invokestatic 70, 3) := by decide +kernel
theorem dX8_why_22 : decode cX8_why 22 = .ok (.ifCond .ne 5, 3) := by decide +kernel
theorem dX8_why_25 : decode cX8_why 25 = .ok (.iconst 0, 1) := by decide +kernel
theorem dX8_why_26 : decode cX8_why 26 = .ok (.ireturn, 1) := by decide +kernel
theorem dX8_why_27 : decode cX8_why 27 = .ok (.aload_n 0, 1) := by decide +kernel
theorem dX8_why_28 : decode cX8_why 28 = .ok (.iload_n 2, 1) := by decide +kernel
theorem dX8_why_29 : decode cX8_why 29 = .ok (.invokevirtual 206, 3) := by decide +kernel
theorem dX8_why_32 : decode cX8_why 32 = .ok (.ifCond .eq 7, 3) := by decide +kernel
theorem dX8_why_35 : decode cX8_why 35 = .ok (.iconst 4, 1) := by decide +kernel
theorem dX8_why_36 : decode cX8_why 36 = .ok (.goto 4, 3) := by decide +kernel
theorem dX8_why_39 : decode cX8_why 39 = .ok (.iconst (-1), 1) := by decide +kernel
theorem dX8_why_40 : decode cX8_why 40 = .ok (.ireturn, 1) := by decide +kernel
set_option maxRecDepth 20000 in
theorem ggX8_whyHours_X8_in : GoodIn wsX8_whyHours wsX8_in := goodIn_r _ [5] (by exact rfl) (by decide +kernel)
set_option maxRecDepth 20000 in
theorem gX8_whyHours_X8_in : GoodIn wsX8_whyHours (va_wsS RX8 70 yX8_in wsX8_in) := goodIn_app (goodIn_of _ (by decide +kernel)) ggX8_whyHours_X8_in
set_option maxRecDepth 20000 in
theorem ggX8_whyHours_X8_isLate : GoodIn wsX8_whyHours wsX8_isLate := goodIn_r _ [9, 10, 11, 12, 13, 14, 15, 16, 17, 18, 19, 20, 21, 22, 23, 24, 25, 26, 27, 28, 29, 30, 31, 32, 33, 34, 35, 36, 37, 38, 39, 40, 41, 42, 43, 44, 45, 46, 47, 48, 49, 50, 51, 52, 53] (by exact rfl) (by decide +kernel)
set_option maxRecDepth 20000 in
theorem gX8_whyHours_X8_isLate : GoodIn wsX8_whyHours (wsV RX8 206 RX8 yX8_isLate wsX8_isLate) := goodIn_app (goodIn_of _ (by decide +kernel)) ggX8_whyHours_X8_isLate
theorem dX8_whyHours_0 : decode cX8_whyHours 0 = .ok (.iload_n 1, 1) := by decide +kernel
theorem dX8_whyHours_1 : decode cX8_whyHours 1 = .ok (.i2l, 1) := by decide +kernel
theorem dX8_whyHours_2 : decode cX8_whyHours 2 = .ok (.lconst 1, 1) := by decide +kernel
theorem dX8_whyHours_3 : decode cX8_whyHours 3 = .ok (.ldc2_w 227, 3) := by decide +kernel
theorem dX8_whyHours_6 : decode cX8_whyHours 6 = .ok (.invokestatic 70, 3) := by decide +kernel
theorem dX8_whyHours_9 : decode cX8_whyHours 9 = .ok (.ifCond .ne 7, 3) := by decide +kernel
theorem dX8_whyHours_12 : decode cX8_whyHours 12 = .ok (.iconst 0, 1) := by decide +kernel
theorem dX8_whyHours_13 : decode cX8_whyHours 13 = .ok (.goto 16, 3) := by decide +kernel
theorem dX8_whyHours_16 : decode cX8_whyHours 16 = .ok (.aload_n 0, 1) := by decide +kernel
theorem dX8_whyHours_17 : decode cX8_whyHours 17 = .ok (.iload_n 1, 1) := by decide +kernel
theorem dX8_whyHours_18 : decode cX8_whyHours 18 = .ok (.invokevirtual 206, 3) := by decide +kernel
theorem dX8_whyHours_21 : decode cX8_whyHours 21 = .ok (.ifCond .eq 7, 3) := by decide +kernel
theorem dX8_whyHours_24 : decode cX8_whyHours 24 = .ok (.iconst 4, 1) := by decide +kernel
theorem dX8_whyHours_25 : decode cX8_whyHours 25 = .ok (.goto 4, 3) := by decide +kernel
theorem dX8_whyHours_28 : decode cX8_whyHours 28 = .ok (.iconst (-1), 1) := by decide +kernel
theorem dX8_whyHours_29 : decode cX8_whyHours 29 = .ok (.ireturn, 1) := by decide +kernel
set_option maxRecDepth 20000 in
theorem ggX8_bestOf_X8_its : GoodIn wsX8_bestOf wsX8_its := goodIn_r _ [6, 7, 51, 52, 53, 54, 55, 56, 57, 58, 59, 60, 61, 62, 63, 64, 65, 66, 67, 68, 69, 70, 71, 72, 73, 74, 75, 76, 77, 78, 79, 80, 81, 82, 83, 84, 85, 86, 87, 88, 89, 90, 91, 92, 93] (by exact rfl) (by decide +kernel)
set_option maxRecDepth 20000 in
theorem gX8_bestOf_X8_its : GoodIn wsX8_bestOf (wsV RX8 74 RX8 yX8_its wsX8_its) := goodIn_app (goodIn_of _ (by decide +kernel)) ggX8_bestOf_X8_its
set_option maxRecDepth 20000 in
theorem ggX8_bestOf_X8_sets : GoodIn wsX8_bestOf wsX8_sets := goodIn_r _ [11, 7, 51, 52, 53, 54, 55, 56, 57, 58, 59, 60, 61, 62, 63, 64, 65, 66, 67, 68, 69, 70, 71, 72, 73, 74, 75, 76, 77, 78, 79, 80, 81, 82, 83, 84, 85, 86, 87, 88, 89, 90, 91, 92, 93] (by exact rfl) (by decide +kernel)
set_option maxRecDepth 20000 in
theorem gX8_bestOf_X8_sets : GoodIn wsX8_bestOf (wsV RX8 105 RX8 yX8_sets wsX8_sets) := goodIn_app (goodIn_of _ (by decide +kernel)) ggX8_bestOf_X8_sets
set_option maxRecDepth 20000 in
theorem ggX8_bestOf_X8_tries : GoodIn wsX8_bestOf wsX8_tries := goodIn_r _ [15, 7, 16, 17, 18, 19, 1, 20, 21, 22, 23, 24, 25, 5, 26, 27, 28, 29, 30, 31, 32, 33, 34, 35, 36, 37, 2, 3, 4, 6, 38, 39, 40, 41, 42, 43, 44, 45, 46, 47, 48, 49, 50, 8, 9, 10, 11, 51, 52, 53, 54, 55, 56, 57, 58, 59, 60, 61, 62, 63, 64, 65, 66, 67, 68, 69, 70, 71, 72, 73, 74, 75, 76, 77, 78, 79, 80, 81, 82, 83, 84, 85, 86, 87, 88, 89, 90, 91, 92, 93] (by exact rfl) (by decide +kernel)
set_option maxRecDepth 20000 in
theorem gX8_bestOf_X8_tries : GoodIn wsX8_bestOf (wsV RX8 224 RX8 yX8_tries wsX8_tries) := goodIn_app (goodIn_of _ (by decide +kernel)) ggX8_bestOf_X8_tries
theorem dX8_bestOf_0 : decode cX8_bestOf 0 = .ok (.aload_n 0, 1) := by decide +kernel
theorem dX8_bestOf_1 : decode cX8_bestOf 1 = .ok (.iload_n 1, 1) := by decide +kernel
theorem dX8_bestOf_2 : decode cX8_bestOf 2 = .ok (.iload_n 3, 1) := by decide +kernel
theorem dX8_bestOf_3 : decode cX8_bestOf 3 = .ok (.invokevirtual 74, 3) := by decide +kernel
theorem dX8_bestOf_6 : decode cX8_bestOf 6 = .ok (.istore 6, 2) := by decide +kernel
theorem dX8_bestOf_8 : decode cX8_bestOf 8 = .ok (.iload 4, 2) := by decide +kernel
theorem dX8_bestOf_10 : decode cX8_bestOf 10 = .ok (.istore 7, 2) := by decide +kernel
theorem dX8_bestOf_12 : decode cX8_bestOf 12 = .ok (.iconst (-1), 1) := by decide +kernel
theorem dX8_bestOf_13 : decode cX8_bestOf 13 = .ok (.istore 8, 2) := by decide +kernel
theorem dX8_bestOf_15 : decode cX8_bestOf 15 = .ok (.iload 4, 2) := by decide +kernel
theorem dX8_bestOf_17 : decode cX8_bestOf 17 = .ok (.istore 9, 2) := by decide +kernel
theorem dX8_bestOf_19 : decode cX8_bestOf 19 = .ok (.iload 9, 2) := by decide +kernel
theorem dX8_bestOf_21 : decode cX8_bestOf 21 = .ok (.iload 5, 2) := by decide +kernel
theorem dX8_bestOf_23 : decode cX8_bestOf 23 = .ok (.if_icmp .gt 66, 3) := by decide +kernel
theorem dX8_bestOf_26 : decode cX8_bestOf 26 = .ok (.aload_n 0, 1) := by decide +kernel
theorem dX8_bestOf_27 : decode cX8_bestOf 27 = .ok (.iload_n 1, 1) := by decide +kernel
theorem dX8_bestOf_28 : decode cX8_bestOf 28 = .ok (.iload_n 3, 1) := by decide +kernel
theorem dX8_bestOf_29 : decode cX8_bestOf 29 = .ok (.iload 9, 2) := by decide +kernel
theorem dX8_bestOf_31 : decode cX8_bestOf 31 = .ok (.invokevirtual 105, 3) := by decide +kernel
theorem dX8_bestOf_34 : decode cX8_bestOf 34 = .ok (.aload_n 0, 1) := by decide +kernel
theorem dX8_bestOf_35 : decode cX8_bestOf 35 = .ok (.iload_n 2, 1) := by decide +kernel
theorem dX8_bestOf_36 : decode cX8_bestOf 36 = .ok (.invokevirtual 224, 3) := by decide +kernel
theorem dX8_bestOf_39 : decode cX8_bestOf 39 = .ok (.aload_n 0, 1) := by decide +kernel
theorem dX8_bestOf_40 : decode cX8_bestOf 40 = .ok (.getfield 51, 3) := by decide +kernel
theorem dX8_bestOf_43 : decode cX8_bestOf 43 = .ok (.iload_n 1, 1) := by decide +kernel
theorem dX8_bestOf_44 : decode cX8_bestOf 44 = .ok (.iaload, 1) := by decide +kernel
theorem dX8_bestOf_45 : decode cX8_bestOf 45 = .ok (.iload 8, 2) := by decide +kernel
theorem dX8_bestOf_47 : decode cX8_bestOf 47 = .ok (.if_icmp .le 8, 3) := by decide +kernel
theorem dX8_bestOf_50 : decode cX8_bestOf 50 = .ok (.iload 9, 2) := by decide +kernel
theorem dX8_bestOf_52 : decode cX8_bestOf 52 = .ok (.goto 5, 3) := by decide +kernel
theorem dX8_bestOf_55 : decode cX8_bestOf 55 = .ok (.iload 7, 2) := by decide +kernel
theorem dX8_bestOf_57 : decode cX8_bestOf 57 = .ok (.istore 7, 2) := by decide +kernel
theorem dX8_bestOf_59 : decode cX8_bestOf 59 = .ok (.aload_n 0, 1) := by decide +kernel
theorem dX8_bestOf_60 : decode cX8_bestOf 60 = .ok (.getfield 51, 3) := by decide +kernel
theorem dX8_bestOf_63 : decode cX8_bestOf 63 = .ok (.iload_n 1, 1) := by decide +kernel
theorem dX8_bestOf_64 : decode cX8_bestOf 64 = .ok (.iaload, 1) := by decide +kernel
theorem dX8_bestOf_65 : decode cX8_bestOf 65 = .ok (.iload 8, 2) := by decide +kernel
theorem dX8_bestOf_67 : decode cX8_bestOf 67 = .ok (.if_icmp .le 12, 3) := by decide +kernel
theorem dX8_bestOf_70 : decode cX8_bestOf 70 = .ok (.aload_n 0, 1) := by decide +kernel
theorem dX8_bestOf_71 : decode cX8_bestOf 71 = .ok (.getfield 51, 3) := by decide +kernel
theorem dX8_bestOf_74 : decode cX8_bestOf 74 = .ok (.iload_n 1, 1) := by decide +kernel
theorem dX8_bestOf_75 : decode cX8_bestOf 75 = .ok (.iaload, 1) := by decide +kernel
theorem dX8_bestOf_76 : decode cX8_bestOf 76 = .ok (.goto 5, 3) := by decide +kernel
theorem dX8_bestOf_79 : decode cX8_bestOf 79 = .ok (.iload 8, 2) := by decide +kernel
theorem dX8_bestOf_81 : decode cX8_bestOf 81 = .ok (.istore 8, 2) := by decide +kernel
theorem dX8_bestOf_83 : decode cX8_bestOf 83 = .ok (.iinc 9 1, 3) := by decide +kernel
theorem dX8_bestOf_86 : decode cX8_bestOf 86 = .ok (.goto (-67), 3) := by decide +kernel
theorem dX8_bestOf_89 : decode cX8_bestOf 89 = .ok (.aload_n 0, 1) := by decide +kernel
theorem dX8_bestOf_90 : decode cX8_bestOf 90 = .ok (.iload_n 1, 1) := by decide +kernel
theorem dX8_bestOf_91 : decode cX8_bestOf 91 = .ok (.iload_n 3, 1) := by decide +kernel
theorem dX8_bestOf_92 : decode cX8_bestOf 92 = .ok (.iload 6, 2) := by decide +kernel
theorem dX8_bestOf_94 : decode cX8_bestOf 94 = .ok (.invokevirtual 105, 3) := by decide +kernel
theorem dX8_bestOf_97 : decode cX8_bestOf 97 = .ok (.iload 7, 2) := by decide +kernel
theorem dX8_bestOf_99 : decode cX8_bestOf 99 = .ok (.ireturn, 1) := by decide +kernel
set_option maxRecDepth 20000 in
theorem ggX8_edge_X8_why : GoodIn wsX8_edge wsX8_why := goodIn_r _ [5, 6, 7, 8, 9, 4, 10, 11, 12, 13, 14, 15, 16, 17, 18, 77, 78, 79, 80, 81, 82, 83, 84, 85, 86, 87, 88, 89, 90, 91, 92, 93, 94, 95, 96, 97, 98, 99, 100, 101, 102, 103, 104, 105, 106, 107, 108, 109, 110, 111, 112, 113, 114, 115, 116, 117, 118, 119] (by exact rfl) (by decide +kernel)
set_option maxRecDepth 20000 in
theorem gX8_edge_X8_why : GoodIn wsX8_edge (wsV RX8 229 RX8 yX8_why wsX8_why) := goodIn_app (goodIn_of _ (by decide +kernel)) ggX8_edge_X8_why
set_option maxRecDepth 20000 in
theorem ggX8_edge_X8_finds : GoodIn wsX8_edge wsX8_finds := goodIn_r _ [22, 23, 24, 77, 78, 79, 80, 81, 82, 83, 84, 85, 86, 87, 88, 89, 90, 91, 92, 93, 94, 95, 96, 97, 98, 99, 100, 101, 102, 103, 104, 105, 106, 107, 108, 109, 110, 111, 112, 113, 114, 115, 116, 117, 118, 119] (by exact rfl) (by decide +kernel)
set_option maxRecDepth 20000 in
theorem gX8_edge_X8_finds : GoodIn wsX8_edge (wsV RX8 115 RX8 yX8_finds wsX8_finds) := goodIn_app (goodIn_of _ (by decide +kernel)) ggX8_edge_X8_finds
set_option maxRecDepth 20000 in
theorem ggX8_edge_X8_bestOf : GoodIn wsX8_edge wsX8_bestOf := goodIn_r _ [28, 29, 30, 31, 32, 4, 33, 11, 34, 35, 36, 37, 38, 39, 40, 41, 42, 43, 44, 45, 46, 47, 48, 49, 50, 51, 52, 53, 54, 55, 56, 57, 58, 59, 60, 61, 62, 63, 64, 65, 66, 67, 68, 69, 70, 71, 72, 73, 74, 75, 76, 77, 78, 79, 80, 81, 82, 83, 84, 85, 86, 87, 88, 89, 90, 91, 92, 93, 94, 95, 96, 97, 98, 99, 100, 101, 102, 103, 104, 105, 106, 107, 108, 109, 110, 111, 112, 113, 114, 115, 116, 117, 118, 119] (by exact rfl) (by decide +kernel)
set_option maxRecDepth 20000 in
theorem gX8_edge_X8_bestOf : GoodIn wsX8_edge (wsV RX8 232 RX8 yX8_bestOf wsX8_bestOf) := goodIn_app (goodIn_of _ (by decide +kernel)) ggX8_edge_X8_bestOf
theorem dX8_edge_0 : decode cX8_edge 0 = .ok (.aload_n 0, 1) := by decide +kernel
theorem dX8_edge_1 : decode cX8_edge 1 = .ok (.iload_n 1, 1) := by decide +kernel
theorem dX8_edge_2 : decode cX8_edge 2 = .ok (.iload_n 2, 1) := by decide +kernel
theorem dX8_edge_3 : decode cX8_edge 3 = .ok (.iconst 0, 1) := by decide +kernel
theorem dX8_edge_4 : decode cX8_edge 4 = .ok (.invokevirtual 229, 3) := by decide +kernel
theorem dX8_edge_7 : decode cX8_edge 7 = .ok (.istore_n 3, 1) := by decide +kernel
theorem dX8_edge_8 : decode cX8_edge 8 = .ok (.iload_n 3, 1) := by decide +kernel
theorem dX8_edge_9 : decode cX8_edge 9 = .ok (.ifCond .lt 11, 3) := by decide +kernel
theorem dX8_edge_12 : decode cX8_edge 12 = .ok (.aload_n 0, 1) := by decide +kernel
theorem dX8_edge_13 : decode cX8_edge 13 = .ok (.iload_n 3, 1) := by decide +kernel
theorem dX8_edge_14 : decode cX8_edge 14 = .ok (.invokevirtual 115, 3) := by decide +kernel
theorem dX8_edge_17 : decode cX8_edge 17 = .ok (.goto 13, 3) := by decide +kernel
theorem dX8_edge_20 : decode cX8_edge 20 = .ok (.aload_n 0, 1) := by decide +kernel
theorem dX8_edge_21 : decode cX8_edge 21 = .ok (.iload_n 1, 1) := by decide +kernel
theorem dX8_edge_22 : decode cX8_edge 22 = .ok (.iload_n 2, 1) := by decide +kernel
theorem dX8_edge_23 : decode cX8_edge 23 = .ok (.iconst 2, 1) := by decide +kernel
theorem dX8_edge_24 : decode cX8_edge 24 = .ok (.iconst 1, 1) := by decide +kernel
theorem dX8_edge_25 : decode cX8_edge 25 = .ok (.bipush 9, 2) := by decide +kernel
theorem dX8_edge_27 : decode cX8_edge 27 = .ok (.invokevirtual 232, 3) := by decide +kernel
theorem dX8_edge_30 : decode cX8_edge 30 = .ok (.ireturn, 1) := by decide +kernel
set_option maxRecDepth 20000 in
theorem ggX8_place_X8_why : GoodIn wsX8_place wsX8_why := goodIn_r _ [5, 6, 7, 8, 9, 4, 10, 11, 12, 13, 14, 15, 16, 17, 18, 77, 78, 79, 80, 81, 82, 83, 84, 85, 86, 87, 88, 89, 90, 91, 92, 93, 94, 95, 96, 97, 98, 99, 100, 101, 102, 103, 104, 105, 106, 107, 108, 109, 110, 111, 112, 113, 114, 115, 116, 117, 118, 119] (by exact rfl) (by decide +kernel)
set_option maxRecDepth 20000 in
theorem gX8_place_X8_why : GoodIn wsX8_place (wsV RX8 229 RX8 yX8_why wsX8_why) := goodIn_app (goodIn_of _ (by decide +kernel)) ggX8_place_X8_why
set_option maxRecDepth 20000 in
theorem ggX8_place_X8_finds : GoodIn wsX8_place wsX8_finds := goodIn_r _ [22, 23, 24, 77, 78, 79, 80, 81, 82, 83, 84, 85, 86, 87, 88, 89, 90, 91, 92, 93, 94, 95, 96, 97, 98, 99, 100, 101, 102, 103, 104, 105, 106, 107, 108, 109, 110, 111, 112, 113, 114, 115, 116, 117, 118, 119] (by exact rfl) (by decide +kernel)
set_option maxRecDepth 20000 in
theorem gX8_place_X8_finds : GoodIn wsX8_place (wsV RX8 115 RX8 yX8_finds wsX8_finds) := goodIn_app (goodIn_of _ (by decide +kernel)) ggX8_place_X8_finds
set_option maxRecDepth 20000 in
theorem ggX8_place_X8_bestOf : GoodIn wsX8_place wsX8_bestOf := goodIn_r _ [28, 29, 30, 31, 32, 4, 33, 11, 34, 35, 36, 37, 38, 39, 40, 41, 42, 43, 44, 45, 46, 47, 48, 49, 50, 51, 52, 53, 54, 55, 56, 57, 58, 59, 60, 61, 62, 63, 64, 65, 66, 67, 68, 69, 70, 71, 72, 73, 74, 75, 76, 77, 78, 79, 80, 81, 82, 83, 84, 85, 86, 87, 88, 89, 90, 91, 92, 93, 94, 95, 96, 97, 98, 99, 100, 101, 102, 103, 104, 105, 106, 107, 108, 109, 110, 111, 112, 113, 114, 115, 116, 117, 118, 119] (by exact rfl) (by decide +kernel)
set_option maxRecDepth 20000 in
theorem gX8_place_X8_bestOf : GoodIn wsX8_place (wsV RX8 232 RX8 yX8_bestOf wsX8_bestOf) := goodIn_app (goodIn_of _ (by decide +kernel)) ggX8_place_X8_bestOf
theorem dX8_place_0 : decode cX8_place 0 = .ok (.aload_n 0, 1) := by decide +kernel
theorem dX8_place_1 : decode cX8_place 1 = .ok (.iload_n 1, 1) := by decide +kernel
theorem dX8_place_2 : decode cX8_place 2 = .ok (.iload_n 2, 1) := by decide +kernel
theorem dX8_place_3 : decode cX8_place 3 = .ok (.iconst 1, 1) := by decide +kernel
theorem dX8_place_4 : decode cX8_place 4 = .ok (.invokevirtual 229, 3) := by decide +kernel
theorem dX8_place_7 : decode cX8_place 7 = .ok (.istore_n 3, 1) := by decide +kernel
theorem dX8_place_8 : decode cX8_place 8 = .ok (.iload_n 3, 1) := by decide +kernel
theorem dX8_place_9 : decode cX8_place 9 = .ok (.ifCond .lt 11, 3) := by decide +kernel
theorem dX8_place_12 : decode cX8_place 12 = .ok (.aload_n 0, 1) := by decide +kernel
theorem dX8_place_13 : decode cX8_place 13 = .ok (.iload_n 3, 1) := by decide +kernel
theorem dX8_place_14 : decode cX8_place 14 = .ok (.invokevirtual 115, 3) := by decide +kernel
theorem dX8_place_17 : decode cX8_place 17 = .ok (.goto 14, 3) := by decide +kernel
theorem dX8_place_20 : decode cX8_place 20 = .ok (.aload_n 0, 1) := by decide +kernel
theorem dX8_place_21 : decode cX8_place 21 = .ok (.iload_n 1, 1) := by decide +kernel
theorem dX8_place_22 : decode cX8_place 22 = .ok (.iload_n 2, 1) := by decide +kernel
theorem dX8_place_23 : decode cX8_place 23 = .ok (.iconst 1, 1) := by decide +kernel
theorem dX8_place_24 : decode cX8_place 24 = .ok (.iconst 0, 1) := by decide +kernel
theorem dX8_place_25 : decode cX8_place 25 = .ok (.iload_n 1, 1) := by decide +kernel
theorem dX8_place_26 : decode cX8_place 26 = .ok (.iconst 1, 1) := by decide +kernel
theorem dX8_place_27 : decode cX8_place 27 = .ok (.isub, 1) := by decide +kernel
theorem dX8_place_28 : decode cX8_place 28 = .ok (.invokevirtual 232, 3) := by decide +kernel
theorem dX8_place_31 : decode cX8_place 31 = .ok (.ireturn, 1) := by decide +kernel
set_option maxRecDepth 20000 in
theorem ggX8_kindFor_X8_why : GoodIn wsX8_kindFor wsX8_why := goodIn_r _ [5, 6, 7, 8, 9, 4, 10, 11, 12, 13, 14, 15, 16, 17, 18, 77, 78, 79, 80, 81, 82, 83, 84, 85, 86, 87, 88, 89, 90, 91, 92, 93, 94, 95, 96, 97, 98, 99, 100, 101, 102, 103, 104, 105, 106, 107, 108, 109, 110, 111, 112, 113, 114, 115, 116, 117, 118, 119] (by exact rfl) (by decide +kernel)
set_option maxRecDepth 20000 in
theorem gX8_kindFor_X8_why : GoodIn wsX8_kindFor (wsV RX8 229 RX8 yX8_why wsX8_why) := goodIn_app (goodIn_of _ (by decide +kernel)) ggX8_kindFor_X8_why
set_option maxRecDepth 20000 in
theorem ggX8_kindFor_X8_finds : GoodIn wsX8_kindFor wsX8_finds := goodIn_r _ [22, 23, 24, 77, 78, 79, 80, 81, 82, 83, 84, 85, 86, 87, 88, 89, 90, 91, 92, 93, 94, 95, 96, 97, 98, 99, 100, 101, 102, 103, 104, 105, 106, 107, 108, 109, 110, 111, 112, 113, 114, 115, 116, 117, 118, 119] (by exact rfl) (by decide +kernel)
set_option maxRecDepth 20000 in
theorem gX8_kindFor_X8_finds : GoodIn wsX8_kindFor (wsV RX8 115 RX8 yX8_finds wsX8_finds) := goodIn_app (goodIn_of _ (by decide +kernel)) ggX8_kindFor_X8_finds
set_option maxRecDepth 20000 in
theorem ggX8_kindFor_X8_bestOf : GoodIn wsX8_kindFor wsX8_bestOf := goodIn_r _ [28, 29, 30, 31, 32, 4, 33, 11, 34, 35, 36, 37, 38, 39, 40, 41, 42, 43, 44, 45, 46, 47, 48, 49, 50, 51, 52, 53, 54, 55, 56, 57, 58, 59, 60, 61, 62, 63, 64, 65, 66, 67, 68, 69, 70, 71, 72, 73, 74, 75, 76, 77, 78, 79, 80, 81, 82, 83, 84, 85, 86, 87, 88, 89, 90, 91, 92, 93, 94, 95, 96, 97, 98, 99, 100, 101, 102, 103, 104, 105, 106, 107, 108, 109, 110, 111, 112, 113, 114, 115, 116, 117, 118, 119] (by exact rfl) (by decide +kernel)
set_option maxRecDepth 20000 in
theorem gX8_kindFor_X8_bestOf : GoodIn wsX8_kindFor (wsV RX8 232 RX8 yX8_bestOf wsX8_bestOf) := goodIn_app (goodIn_of _ (by decide +kernel)) ggX8_kindFor_X8_bestOf
theorem dX8_kindFor_0 : decode cX8_kindFor 0 = .ok (.aload_n 0, 1) := by decide +kernel
theorem dX8_kindFor_1 : decode cX8_kindFor 1 = .ok (.iload_n 1, 1) := by decide +kernel
theorem dX8_kindFor_2 : decode cX8_kindFor 2 = .ok (.iload_n 2, 1) := by decide +kernel
theorem dX8_kindFor_3 : decode cX8_kindFor 3 = .ok (.iconst 0, 1) := by decide +kernel
theorem dX8_kindFor_4 : decode cX8_kindFor 4 = .ok (.invokevirtual 229, 3) := by decide +kernel
theorem dX8_kindFor_7 : decode cX8_kindFor 7 = .ok (.istore_n 3, 1) := by decide +kernel
theorem dX8_kindFor_8 : decode cX8_kindFor 8 = .ok (.iload_n 3, 1) := by decide +kernel
theorem dX8_kindFor_9 : decode cX8_kindFor 9 = .ok (.ifCond .lt 11, 3) := by decide +kernel
theorem dX8_kindFor_12 : decode cX8_kindFor 12 = .ok (.aload_n 0, 1) := by decide +kernel
theorem dX8_kindFor_13 : decode cX8_kindFor 13 = .ok (.iload_n 3, 1) := by decide +kernel
theorem dX8_kindFor_14 : decode cX8_kindFor 14 = .ok (.invokevirtual 115, 3) := by decide +kernel
theorem dX8_kindFor_17 : decode cX8_kindFor 17 = .ok (.goto 13, 3) := by decide +kernel
theorem dX8_kindFor_20 : decode cX8_kindFor 20 = .ok (.aload_n 0, 1) := by decide +kernel
theorem dX8_kindFor_21 : decode cX8_kindFor 21 = .ok (.iload_n 1, 1) := by decide +kernel
theorem dX8_kindFor_22 : decode cX8_kindFor 22 = .ok (.iload_n 2, 1) := by decide +kernel
theorem dX8_kindFor_23 : decode cX8_kindFor 23 = .ok (.iconst 0, 1) := by decide +kernel
theorem dX8_kindFor_24 : decode cX8_kindFor 24 = .ok (.iconst 0, 1) := by decide +kernel
theorem dX8_kindFor_25 : decode cX8_kindFor 25 = .ok (.bipush 6, 2) := by decide +kernel
theorem dX8_kindFor_27 : decode cX8_kindFor 27 = .ok (.invokevirtual 232, 3) := by decide +kernel
theorem dX8_kindFor_30 : decode cX8_kindFor 30 = .ok (.ireturn, 1) := by decide +kernel
set_option maxRecDepth 20000 in
theorem ggX8_keepGets_X8_tries : GoodIn wsX8_keepGets wsX8_tries := goodIn_r _ [7, 8, 9, 10, 11, 12, 2, 13, 14, 15, 16, 17, 18, 6, 19, 20, 21, 22, 23, 24, 25, 26, 27, 28, 29, 30, 31, 32, 33, 34, 35, 36, 37, 38, 39, 40, 41, 42, 43, 44, 45, 46, 47, 48, 49, 50, 51, 52, 53, 54, 55, 56, 57, 58, 59, 60, 61, 62, 63, 64, 65, 66, 67, 68, 69, 70, 71, 72, 73, 74, 75, 76, 77, 78, 79, 80, 81, 82, 83, 84, 85, 86, 87, 88, 89, 90, 91, 92, 93, 94] (by exact rfl) (by decide +kernel)
set_option maxRecDepth 20000 in
theorem gX8_keepGets_X8_tries : GoodIn wsX8_keepGets (wsV RX8 224 RX8 yX8_tries wsX8_tries) := goodIn_app (goodIn_of _ (by decide +kernel)) ggX8_keepGets_X8_tries
theorem dX8_keepGets_0 : decode cX8_keepGets 0 = .ok (.aload_n 0, 1) := by decide +kernel
theorem dX8_keepGets_1 : decode cX8_keepGets 1 = .ok (.iload_n 1, 1) := by decide +kernel
theorem dX8_keepGets_2 : decode cX8_keepGets 2 = .ok (.invokevirtual 224, 3) := by decide +kernel
theorem dX8_keepGets_5 : decode cX8_keepGets 5 = .ok (.iconst 0, 1) := by decide +kernel
theorem dX8_keepGets_6 : decode cX8_keepGets 6 = .ok (.istore_n 2, 1) := by decide +kernel
theorem dX8_keepGets_7 : decode cX8_keepGets 7 = .ok (.iload_n 2, 1) := by decide +kernel
theorem dX8_keepGets_8 : decode cX8_keepGets 8 = .ok (.bipush 10, 2) := by decide +kernel
theorem dX8_keepGets_10 : decode cX8_keepGets 10 = .ok (.if_icmp .ge 21, 3) := by decide +kernel
theorem dX8_keepGets_13 : decode cX8_keepGets 13 = .ok (.aload_n 0, 1) := by decide +kernel
theorem dX8_keepGets_14 : decode cX8_keepGets 14 = .ok (.getfield 54, 3) := by decide +kernel
theorem dX8_keepGets_17 : decode cX8_keepGets 17 = .ok (.iload_n 2, 1) := by decide +kernel
theorem dX8_keepGets_18 : decode cX8_keepGets 18 = .ok (.aload_n 0, 1) := by decide +kernel
theorem dX8_keepGets_19 : decode cX8_keepGets 19 = .ok (.getfield 51, 3) := by decide +kernel
theorem dX8_keepGets_22 : decode cX8_keepGets 22 = .ok (.iload_n 2, 1) := by decide +kernel
theorem dX8_keepGets_23 : decode cX8_keepGets 23 = .ok (.iaload, 1) := by decide +kernel
theorem dX8_keepGets_24 : decode cX8_keepGets 24 = .ok (.iastore, 1) := by decide +kernel
theorem dX8_keepGets_25 : decode cX8_keepGets 25 = .ok (.iinc 2 1, 3) := by decide +kernel
theorem dX8_keepGets_28 : decode cX8_keepGets 28 = .ok (.goto (-21), 3) := by decide +kernel
theorem dX8_keepGets_31 : decode cX8_keepGets 31 = .ok (.return_, 1) := by decide +kernel
theorem dX8_getting_0 : decode cX8_getting 0 = .ok (.iconst 0, 1) := by decide +kernel
theorem dX8_getting_1 : decode cX8_getting 1 = .ok (.istore_n 2, 1) := by decide +kernel
theorem dX8_getting_2 : decode cX8_getting 2 = .ok (.iconst 0, 1) := by decide +kernel
theorem dX8_getting_3 : decode cX8_getting 3 = .ok (.istore_n 3, 1) := by decide +kernel
theorem dX8_getting_4 : decode cX8_getting 4 = .ok (.iload_n 3, 1) := by decide +kernel
theorem dX8_getting_5 : decode cX8_getting 5 = .ok (.aload_n 0, 1) := by decide +kernel
theorem dX8_getting_6 : decode cX8_getting 6 = .ok (.getfield 7, 3) := by decide +kernel
theorem dX8_getting_9 : decode cX8_getting 9 = .ok (.iconst 0, 1) := by decide +kernel
theorem dX8_getting_10 : decode cX8_getting 10 = .ok (.iaload, 1) := by decide +kernel
theorem dX8_getting_11 : decode cX8_getting 11 = .ok (.if_icmp .ge 73, 3) := by decide +kernel
theorem dX8_getting_14 : decode cX8_getting 14 = .ok (.iload_n 1, 1) := by decide +kernel
theorem dX8_getting_15 : decode cX8_getting 15 = .ok (.ifCond .eq 26, 3) := by decide +kernel
theorem dX8_getting_18 : decode cX8_getting 18 = .ok (.aload_n 0, 1) := by decide +kernel
theorem dX8_getting_19 : decode cX8_getting 19 = .ok (.getfield 51, 3) := by decide +kernel
theorem dX8_getting_22 : decode cX8_getting 22 = .ok (.iload_n 3, 1) := by decide +kernel
theorem dX8_getting_23 : decode cX8_getting 23 = .ok (.iaload, 1) := by decide +kernel
theorem dX8_getting_24 : decode cX8_getting 24 = .ok (.aload_n 0, 1) := by decide +kernel
theorem dX8_getting_25 : decode cX8_getting 25 = .ok (.getfield 54, 3) := by decide +kernel
theorem dX8_getting_28 : decode cX8_getting 28 = .ok (.iload_n 3, 1) := by decide +kernel
theorem dX8_getting_29 : decode cX8_getting 29 = .ok (.iaload, 1) := by decide +kernel
theorem dX8_getting_30 : decode cX8_getting 30 = .ok (.if_icmp .le 7, 3) := by decide +kernel
theorem dX8_getting_33 : decode cX8_getting 33 = .ok (.iconst 1, 1) := by decide +kernel
theorem dX8_getting_34 : decode cX8_getting 34 = .ok (.goto 27, 3) := by decide +kernel
theorem dX8_getting_37 : decode cX8_getting 37 = .ok (.iconst 0, 1) := by decide +kernel
theorem dX8_getting_38 : decode cX8_getting 38 = .ok (.goto 23, 3) := by decide +kernel
theorem dX8_getting_41 : decode cX8_getting 41 = .ok (.aload_n 0, 1) := by decide +kernel
theorem dX8_getting_42 : decode cX8_getting 42 = .ok (.getfield 51, 3) := by decide +kernel
theorem dX8_getting_45 : decode cX8_getting 45 = .ok (.iload_n 3, 1) := by decide +kernel
theorem dX8_getting_46 : decode cX8_getting 46 = .ok (.iaload, 1) := by decide +kernel
theorem dX8_getting_47 : decode cX8_getting 47 = .ok (.aload_n 0, 1) := by decide +kernel
theorem dX8_getting_48 : decode cX8_getting 48 = .ok (.getfield 54, 3) := by decide +kernel
theorem dX8_getting_51 : decode cX8_getting 51 = .ok (.iload_n 3, 1) := by decide +kernel
theorem dX8_getting_52 : decode cX8_getting 52 = .ok (.iaload, 1) := by decide +kernel
theorem dX8_getting_53 : decode cX8_getting 53 = .ok (.if_icmp .ge 7, 3) := by decide +kernel
theorem dX8_getting_56 : decode cX8_getting 56 = .ok (.iconst 1, 1) := by decide +kernel
theorem dX8_getting_57 : decode cX8_getting 57 = .ok (.goto 4, 3) := by decide +kernel
theorem dX8_getting_60 : decode cX8_getting 60 = .ok (.iconst 0, 1) := by decide +kernel
theorem dX8_getting_61 : decode cX8_getting 61 = .ok (.istore 4, 2) := by decide +kernel
theorem dX8_getting_63 : decode cX8_getting 63 = .ok (.iload_n 2, 1) := by decide +kernel
theorem dX8_getting_64 : decode cX8_getting 64 = .ok (.iload 4, 2) := by decide +kernel
theorem dX8_getting_66 : decode cX8_getting 66 = .ok (.ifCond .eq 9, 3) := by decide +kernel
theorem dX8_getting_69 : decode cX8_getting 69 = .ok (.iconst 1, 1) := by decide +kernel
theorem dX8_getting_70 : decode cX8_getting 70 = .ok (.iload_n 3, 1) := by decide +kernel
theorem dX8_getting_71 : decode cX8_getting 71 = .ok (.ishl, 1) := by decide +kernel
theorem dX8_getting_72 : decode cX8_getting 72 = .ok (.goto 4, 3) := by decide +kernel
theorem dX8_getting_75 : decode cX8_getting 75 = .ok (.iconst 0, 1) := by decide +kernel
theorem dX8_getting_76 : decode cX8_getting 76 = .ok (.ior, 1) := by decide +kernel
theorem dX8_getting_77 : decode cX8_getting 77 = .ok (.istore_n 2, 1) := by decide +kernel
theorem dX8_getting_78 : decode cX8_getting 78 = .ok (.iinc 3 1, 3) := by decide +kernel
theorem dX8_getting_81 : decode cX8_getting 81 = .ok (.goto (-77), 3) := by decide +kernel
theorem dX8_getting_84 : decode cX8_getting 84 = .ok (.iload_n 2, 1) := by decide +kernel
theorem dX8_getting_85 : decode cX8_getting 85 = .ok (.ireturn, 1) := by decide +kernel
set_option maxRecDepth 20000 in
theorem ggX8_hurt_X8_why : GoodIn wsX8_hurt wsX8_why := goodIn_r _ [5, 6, 7, 8, 9, 4, 10, 11, 12, 13, 14, 15, 16, 17, 18, 82, 83, 84, 85, 86, 87, 88, 89, 90, 91, 92, 93, 94, 95, 96, 97, 98, 99, 100, 101, 102, 103, 104, 105, 106, 107, 108, 109, 110, 111, 112, 113, 114, 115, 116, 117, 118, 119, 120, 121, 122, 123, 124] (by exact rfl) (by decide +kernel)
set_option maxRecDepth 20000 in
theorem gX8_hurt_X8_why : GoodIn wsX8_hurt (wsV RX8 229 RX8 yX8_why wsX8_why) := goodIn_app (goodIn_of _ (by decide +kernel)) ggX8_hurt_X8_why
set_option maxRecDepth 20000 in
theorem ggX8_hurt_X8_finds : GoodIn wsX8_hurt wsX8_finds := goodIn_r _ [22, 23, 24, 82, 83, 84, 85, 86, 87, 88, 89, 90, 91, 92, 93, 94, 95, 96, 97, 98, 99, 100, 101, 102, 103, 104, 105, 106, 107, 108, 109, 110, 111, 112, 113, 114, 115, 116, 117, 118, 119, 120, 121, 122, 123, 124] (by exact rfl) (by decide +kernel)
set_option maxRecDepth 20000 in
theorem gX8_hurt_X8_finds : GoodIn wsX8_hurt (wsV RX8 115 RX8 yX8_finds wsX8_finds) := goodIn_app (goodIn_of _ (by decide +kernel)) ggX8_hurt_X8_finds
set_option maxRecDepth 20000 in
theorem ggX8_hurt_X8_keepGets : GoodIn wsX8_hurt wsX8_keepGets := goodIn_r _ [28, 29, 30, 31, 32, 33, 4, 34, 11, 35, 36, 37, 38, 39, 40, 41, 42, 43, 44, 45, 46, 47, 48, 49, 50, 51, 52, 53, 54, 55, 56, 57, 58, 59, 60, 61, 62, 63, 64, 65, 66, 67, 68, 69, 70, 71, 72, 73, 74, 75, 76, 77, 82, 83, 84, 85, 86, 87, 88, 89, 90, 91, 92, 93, 94, 95, 96, 97, 98, 99, 100, 101, 102, 103, 104, 105, 106, 107, 108, 109, 110, 111, 112, 113, 114, 115, 116, 117, 118, 119, 120, 121, 122, 123, 124] (by exact rfl) (by decide +kernel)
set_option maxRecDepth 20000 in
theorem gX8_hurt_X8_keepGets : GoodIn wsX8_hurt (wsV RX8 236 RX8 yX8_keepGets wsX8_keepGets) := goodIn_app (goodIn_of _ (by decide +kernel)) ggX8_hurt_X8_keepGets
set_option maxRecDepth 20000 in
theorem ggX8_hurt_X8_its : GoodIn wsX8_hurt wsX8_its := goodIn_r _ [60, 11, 82, 83, 84, 85, 86, 87, 88, 89, 90, 91, 92, 93, 94, 95, 96, 97, 98, 99, 100, 101, 102, 103, 104, 105, 106, 107, 108, 109, 110, 111, 112, 113, 114, 115, 116, 117, 118, 119, 120, 121, 122, 123, 124] (by exact rfl) (by decide +kernel)
set_option maxRecDepth 20000 in
theorem gX8_hurt_X8_its : GoodIn wsX8_hurt (wsV RX8 74 RX8 yX8_its wsX8_its) := goodIn_app (goodIn_of _ (by decide +kernel)) ggX8_hurt_X8_its
set_option maxRecDepth 20000 in
theorem ggX8_hurt_X8_sets : GoodIn wsX8_hurt wsX8_sets := goodIn_r _ [77, 11, 82, 83, 84, 85, 86, 87, 88, 89, 90, 91, 92, 93, 94, 95, 96, 97, 98, 99, 100, 101, 102, 103, 104, 105, 106, 107, 108, 109, 110, 111, 112, 113, 114, 115, 116, 117, 118, 119, 120, 121, 122, 123, 124] (by exact rfl) (by decide +kernel)
set_option maxRecDepth 20000 in
theorem gX8_hurt_X8_sets : GoodIn wsX8_hurt (wsV RX8 105 RX8 yX8_sets wsX8_sets) := goodIn_app (goodIn_of _ (by decide +kernel)) ggX8_hurt_X8_sets
set_option maxRecDepth 20000 in
theorem ggX8_hurt_X8_tries : GoodIn wsX8_hurt wsX8_tries := goodIn_r _ [34, 11, 35, 36, 37, 38, 30, 39, 40, 41, 42, 43, 44, 4, 45, 46, 47, 48, 49, 50, 51, 52, 53, 54, 55, 56, 57, 58, 59, 60, 61, 62, 63, 64, 65, 66, 67, 68, 69, 70, 71, 72, 73, 74, 75, 76, 77, 82, 83, 84, 85, 86, 87, 88, 89, 90, 91, 92, 93, 94, 95, 96, 97, 98, 99, 100, 101, 102, 103, 104, 105, 106, 107, 108, 109, 110, 111, 112, 113, 114, 115, 116, 117, 118, 119, 120, 121, 122, 123, 124] (by exact rfl) (by decide +kernel)
set_option maxRecDepth 20000 in
theorem gX8_hurt_X8_tries : GoodIn wsX8_hurt (wsV RX8 224 RX8 yX8_tries wsX8_tries) := goodIn_app (goodIn_of _ (by decide +kernel)) ggX8_hurt_X8_tries
set_option maxRecDepth 20000 in
theorem ggX8_hurt_X8_getting : GoodIn wsX8_hurt wsX8_getting := goodIn_r _ [81, 11, 30, 29, 82, 83, 84, 85, 86, 87, 88, 89, 90, 91, 92, 93, 94, 95, 96, 97, 98, 99, 100, 101, 102, 103, 104, 105, 106, 107, 108, 109, 110, 111, 112, 113, 114, 115, 116, 117, 118, 119, 120, 121, 122, 123, 124] (by exact rfl) (by decide +kernel)
set_option maxRecDepth 20000 in
theorem gX8_hurt_X8_getting : GoodIn wsX8_hurt (wsV RX8 239 RX8 yX8_getting wsX8_getting) := goodIn_app (goodIn_of _ (by decide +kernel)) ggX8_hurt_X8_getting
theorem dX8_hurt_0 : decode cX8_hurt 0 = .ok (.aload_n 0, 1) := by decide +kernel
theorem dX8_hurt_1 : decode cX8_hurt 1 = .ok (.iload_n 1, 1) := by decide +kernel
theorem dX8_hurt_2 : decode cX8_hurt 2 = .ok (.iload_n 2, 1) := by decide +kernel
theorem dX8_hurt_3 : decode cX8_hurt 3 = .ok (.iconst 0, 1) := by decide +kernel
theorem dX8_hurt_4 : decode cX8_hurt 4 = .ok (.invokevirtual 229, 3) := by decide +kernel
theorem dX8_hurt_7 : decode cX8_hurt 7 = .ok (.istore_n 3, 1) := by decide +kernel
theorem dX8_hurt_8 : decode cX8_hurt 8 = .ok (.iload_n 3, 1) := by decide +kernel
theorem dX8_hurt_9 : decode cX8_hurt 9 = .ok (.ifCond .lt 9, 3) := by decide +kernel
theorem dX8_hurt_12 : decode cX8_hurt 12 = .ok (.aload_n 0, 1) := by decide +kernel
theorem dX8_hurt_13 : decode cX8_hurt 13 = .ok (.iload_n 3, 1) := by decide +kernel
theorem dX8_hurt_14 : decode cX8_hurt 14 = .ok (.invokevirtual 115, 3) := by decide +kernel
theorem dX8_hurt_17 : decode cX8_hurt 17 = .ok (.ireturn, 1) := by decide +kernel
theorem dX8_hurt_18 : decode cX8_hurt 18 = .ok (.aload_n 0, 1) := by decide +kernel
theorem dX8_hurt_19 : decode cX8_hurt 19 = .ok (.iload_n 2, 1) := by decide +kernel
theorem dX8_hurt_20 : decode cX8_hurt 20 = .ok (.invokevirtual 236, 3) := by decide +kernel
theorem dX8_hurt_23 : decode cX8_hurt 23 = .ok (.aload_n 0, 1) := by decide +kernel
theorem dX8_hurt_24 : decode cX8_hurt 24 = .ok (.iload_n 1, 1) := by decide +kernel
theorem dX8_hurt_25 : decode cX8_hurt 25 = .ok (.iconst 0, 1) := by decide +kernel
theorem dX8_hurt_26 : decode cX8_hurt 26 = .ok (.invokevirtual 74, 3) := by decide +kernel
theorem dX8_hurt_29 : decode cX8_hurt 29 = .ok (.istore 4, 2) := by decide +kernel
theorem dX8_hurt_31 : decode cX8_hurt 31 = .ok (.aload_n 0, 1) := by decide +kernel
theorem dX8_hurt_32 : decode cX8_hurt 32 = .ok (.iload_n 1, 1) := by decide +kernel
theorem dX8_hurt_33 : decode cX8_hurt 33 = .ok (.iconst 0, 1) := by decide +kernel
theorem dX8_hurt_34 : decode cX8_hurt 34 = .ok (.iconst 1, 1) := by decide +kernel
theorem dX8_hurt_35 : decode cX8_hurt 35 = .ok (.invokevirtual 105, 3) := by decide +kernel
theorem dX8_hurt_38 : decode cX8_hurt 38 = .ok (.aload_n 0, 1) := by decide +kernel
theorem dX8_hurt_39 : decode cX8_hurt 39 = .ok (.iload_n 2, 1) := by decide +kernel
theorem dX8_hurt_40 : decode cX8_hurt 40 = .ok (.invokevirtual 224, 3) := by decide +kernel
theorem dX8_hurt_43 : decode cX8_hurt 43 = .ok (.aload_n 0, 1) := by decide +kernel
theorem dX8_hurt_44 : decode cX8_hurt 44 = .ok (.iload_n 1, 1) := by decide +kernel
theorem dX8_hurt_45 : decode cX8_hurt 45 = .ok (.iconst 0, 1) := by decide +kernel
theorem dX8_hurt_46 : decode cX8_hurt 46 = .ok (.iload 4, 2) := by decide +kernel
theorem dX8_hurt_48 : decode cX8_hurt 48 = .ok (.invokevirtual 105, 3) := by decide +kernel
theorem dX8_hurt_51 : decode cX8_hurt 51 = .ok (.aload_n 0, 1) := by decide +kernel
theorem dX8_hurt_52 : decode cX8_hurt 52 = .ok (.iconst 0, 1) := by decide +kernel
theorem dX8_hurt_53 : decode cX8_hurt 53 = .ok (.invokevirtual 239, 3) := by decide +kernel
theorem dX8_hurt_56 : decode cX8_hurt 56 = .ok (.ireturn, 1) := by decide +kernel
set_option maxRecDepth 20000 in
theorem ggX8_deal_X8_whyHours : GoodIn wsX8_deal wsX8_whyHours := goodIn_r _ [6, 7, 8, 9, 5, 10, 11, 12, 13, 14, 1, 78, 79, 80, 81, 82, 83, 84, 85, 86, 87, 88, 89, 90, 91, 92, 93, 94, 95, 96, 97, 98, 99, 100, 101, 102, 103, 104, 105, 106, 107, 108, 109, 110, 111, 112, 113, 114, 115, 116, 117, 118, 119, 120] (by exact rfl) (by decide +kernel)
set_option maxRecDepth 20000 in
theorem gX8_deal_X8_whyHours : GoodIn wsX8_deal (wsV RX8 243 RX8 yX8_whyHours wsX8_whyHours) := goodIn_app (goodIn_of _ (by decide +kernel)) ggX8_deal_X8_whyHours
set_option maxRecDepth 20000 in
theorem ggX8_deal_X8_finds : GoodIn wsX8_deal wsX8_finds := goodIn_r _ [18, 19, 20, 78, 79, 80, 81, 82, 83, 84, 85, 86, 87, 88, 89, 90, 91, 92, 93, 94, 95, 96, 97, 98, 99, 100, 101, 102, 103, 104, 105, 106, 107, 108, 109, 110, 111, 112, 113, 114, 115, 116, 117, 118, 119, 120] (by exact rfl) (by decide +kernel)
set_option maxRecDepth 20000 in
theorem gX8_deal_X8_finds : GoodIn wsX8_deal (wsV RX8 115 RX8 yX8_finds wsX8_finds) := goodIn_app (goodIn_of _ (by decide +kernel)) ggX8_deal_X8_finds
set_option maxRecDepth 20000 in
theorem ggX8_deal_X8_keepGets : GoodIn wsX8_deal wsX8_keepGets := goodIn_r _ [24, 25, 26, 27, 28, 29, 5, 30, 1, 31, 32, 33, 34, 35, 36, 37, 38, 39, 40, 41, 42, 43, 44, 45, 46, 47, 48, 49, 50, 51, 52, 53, 54, 55, 56, 57, 58, 59, 60, 61, 62, 63, 64, 65, 66, 67, 68, 69, 70, 71, 72, 73, 78, 79, 80, 81, 82, 83, 84, 85, 86, 87, 88, 89, 90, 91, 92, 93, 94, 95, 96, 97, 98, 99, 100, 101, 102, 103, 104, 105, 106, 107, 108, 109, 110, 111, 112, 113, 114, 115, 116, 117, 118, 119, 120] (by exact rfl) (by decide +kernel)
set_option maxRecDepth 20000 in
theorem gX8_deal_X8_keepGets : GoodIn wsX8_deal (wsV RX8 236 RX8 yX8_keepGets wsX8_keepGets) := goodIn_app (goodIn_of _ (by decide +kernel)) ggX8_deal_X8_keepGets
set_option maxRecDepth 20000 in
theorem ggX8_deal_X8_its : GoodIn wsX8_deal wsX8_its := goodIn_r _ [56, 1, 78, 79, 80, 81, 82, 83, 84, 85, 86, 87, 88, 89, 90, 91, 92, 93, 94, 95, 96, 97, 98, 99, 100, 101, 102, 103, 104, 105, 106, 107, 108, 109, 110, 111, 112, 113, 114, 115, 116, 117, 118, 119, 120] (by exact rfl) (by decide +kernel)
set_option maxRecDepth 20000 in
theorem gX8_deal_X8_its : GoodIn wsX8_deal (wsV RX8 74 RX8 yX8_its wsX8_its) := goodIn_app (goodIn_of _ (by decide +kernel)) ggX8_deal_X8_its
set_option maxRecDepth 20000 in
theorem ggX8_deal_X8_sets : GoodIn wsX8_deal wsX8_sets := goodIn_r _ [73, 1, 78, 79, 80, 81, 82, 83, 84, 85, 86, 87, 88, 89, 90, 91, 92, 93, 94, 95, 96, 97, 98, 99, 100, 101, 102, 103, 104, 105, 106, 107, 108, 109, 110, 111, 112, 113, 114, 115, 116, 117, 118, 119, 120] (by exact rfl) (by decide +kernel)
set_option maxRecDepth 20000 in
theorem gX8_deal_X8_sets : GoodIn wsX8_deal (wsV RX8 105 RX8 yX8_sets wsX8_sets) := goodIn_app (goodIn_of _ (by decide +kernel)) ggX8_deal_X8_sets
set_option maxRecDepth 20000 in
theorem ggX8_deal_X8_tries : GoodIn wsX8_deal wsX8_tries := goodIn_r _ [30, 1, 31, 32, 33, 34, 26, 35, 36, 37, 38, 39, 40, 5, 41, 42, 43, 44, 45, 46, 47, 48, 49, 50, 51, 52, 53, 54, 55, 56, 57, 58, 59, 60, 61, 62, 63, 64, 65, 66, 67, 68, 69, 70, 71, 72, 73, 78, 79, 80, 81, 82, 83, 84, 85, 86, 87, 88, 89, 90, 91, 92, 93, 94, 95, 96, 97, 98, 99, 100, 101, 102, 103, 104, 105, 106, 107, 108, 109, 110, 111, 112, 113, 114, 115, 116, 117, 118, 119, 120] (by exact rfl) (by decide +kernel)
set_option maxRecDepth 20000 in
theorem gX8_deal_X8_tries : GoodIn wsX8_deal (wsV RX8 224 RX8 yX8_tries wsX8_tries) := goodIn_app (goodIn_of _ (by decide +kernel)) ggX8_deal_X8_tries
set_option maxRecDepth 20000 in
theorem ggX8_deal_X8_getting : GoodIn wsX8_deal wsX8_getting := goodIn_r _ [77, 1, 26, 25, 78, 79, 80, 81, 82, 83, 84, 85, 86, 87, 88, 89, 90, 91, 92, 93, 94, 95, 96, 97, 98, 99, 100, 101, 102, 103, 104, 105, 106, 107, 108, 109, 110, 111, 112, 113, 114, 115, 116, 117, 118, 119, 120] (by exact rfl) (by decide +kernel)
set_option maxRecDepth 20000 in
theorem gX8_deal_X8_getting : GoodIn wsX8_deal (wsV RX8 239 RX8 yX8_getting wsX8_getting) := goodIn_app (goodIn_of _ (by decide +kernel)) ggX8_deal_X8_getting
theorem dX8_deal_0 : decode cX8_deal 0 = .ok (.aload_n 0, 1) := by decide +kernel
theorem dX8_deal_1 : decode cX8_deal 1 = .ok (.iload_n 1, 1) := by decide +kernel
theorem dX8_deal_2 : decode cX8_deal 2 = .ok (.invokevirtual 243, 3) := by decide +kernel
theorem dX8_deal_5 : decode cX8_deal 5 = .ok (.istore_n 2, 1) := by decide +kernel
theorem dX8_deal_6 : decode cX8_deal 6 = .ok (.iload_n 2, 1) := by decide +kernel
theorem dX8_deal_7 : decode cX8_deal 7 = .ok (.ifCond .lt 9, 3) := by decide +kernel
theorem dX8_deal_10 : decode cX8_deal 10 = .ok (.aload_n 0, 1) := by decide +kernel
theorem dX8_deal_11 : decode cX8_deal 11 = .ok (.iload_n 2, 1) := by decide +kernel
theorem dX8_deal_12 : decode cX8_deal 12 = .ok (.invokevirtual 115, 3) := by decide +kernel
theorem dX8_deal_15 : decode cX8_deal 15 = .ok (.ireturn, 1) := by decide +kernel
theorem dX8_deal_16 : decode cX8_deal 16 = .ok (.aload_n 0, 1) := by decide +kernel
theorem dX8_deal_17 : decode cX8_deal 17 = .ok (.iload_n 1, 1) := by decide +kernel
theorem dX8_deal_18 : decode cX8_deal 18 = .ok (.invokevirtual 236, 3) := by decide +kernel
theorem dX8_deal_21 : decode cX8_deal 21 = .ok (.iconst 1, 1) := by decide +kernel
theorem dX8_deal_22 : decode cX8_deal 22 = .ok (.istore_n 3, 1) := by decide +kernel
theorem dX8_deal_23 : decode cX8_deal 23 = .ok (.iload_n 3, 1) := by decide +kernel
theorem dX8_deal_24 : decode cX8_deal 24 = .ok (.aload_n 0, 1) := by decide +kernel
theorem dX8_deal_25 : decode cX8_deal 25 = .ok (.getfield 7, 3) := by decide +kernel
theorem dX8_deal_28 : decode cX8_deal 28 = .ok (.iconst 0, 1) := by decide +kernel
theorem dX8_deal_29 : decode cX8_deal 29 = .ok (.iaload, 1) := by decide +kernel
theorem dX8_deal_30 : decode cX8_deal 30 = .ok (.if_icmp .ge 127, 3) := by decide +kernel
theorem dX8_deal_33 : decode cX8_deal 33 = .ok (.iload_n 3, 1) := by decide +kernel
theorem dX8_deal_34 : decode cX8_deal 34 = .ok (.iconst 1, 1) := by decide +kernel
theorem dX8_deal_35 : decode cX8_deal 35 = .ok (.iadd, 1) := by decide +kernel
theorem dX8_deal_36 : decode cX8_deal 36 = .ok (.istore 4, 2) := by decide +kernel
theorem dX8_deal_38 : decode cX8_deal 38 = .ok (.iload 4, 2) := by decide +kernel
theorem dX8_deal_40 : decode cX8_deal 40 = .ok (.aload_n 0, 1) := by decide +kernel
theorem dX8_deal_41 : decode cX8_deal 41 = .ok (.getfield 7, 3) := by decide +kernel
theorem dX8_deal_44 : decode cX8_deal 44 = .ok (.iconst 0, 1) := by decide +kernel
theorem dX8_deal_45 : decode cX8_deal 45 = .ok (.iaload, 1) := by decide +kernel
theorem dX8_deal_46 : decode cX8_deal 46 = .ok (.if_icmp .ge 105, 3) := by decide +kernel
theorem dX8_deal_49 : decode cX8_deal 49 = .ok (.aload_n 0, 1) := by decide +kernel
theorem dX8_deal_50 : decode cX8_deal 50 = .ok (.iload_n 3, 1) := by decide +kernel
theorem dX8_deal_51 : decode cX8_deal 51 = .ok (.iconst 1, 1) := by decide +kernel
theorem dX8_deal_52 : decode cX8_deal 52 = .ok (.invokevirtual 74, 3) := by decide +kernel
theorem dX8_deal_55 : decode cX8_deal 55 = .ok (.istore 5, 2) := by decide +kernel
theorem dX8_deal_57 : decode cX8_deal 57 = .ok (.aload_n 0, 1) := by decide +kernel
theorem dX8_deal_58 : decode cX8_deal 58 = .ok (.iload 4, 2) := by decide +kernel
theorem dX8_deal_60 : decode cX8_deal 60 = .ok (.iconst 1, 1) := by decide +kernel
theorem dX8_deal_61 : decode cX8_deal 61 = .ok (.invokevirtual 74, 3) := by decide +kernel
theorem dX8_deal_64 : decode cX8_deal 64 = .ok (.istore 6, 2) := by decide +kernel
theorem dX8_deal_66 : decode cX8_deal 66 = .ok (.iload 6, 2) := by decide +kernel
theorem dX8_deal_68 : decode cX8_deal 68 = .ok (.iload_n 3, 1) := by decide +kernel
theorem dX8_deal_69 : decode cX8_deal 69 = .ok (.if_icmp .lt 6, 3) := by decide +kernel
theorem dX8_deal_72 : decode cX8_deal 72 = .ok (.goto 73, 3) := by decide +kernel
theorem dX8_deal_75 : decode cX8_deal 75 = .ok (.aload_n 0, 1) := by decide +kernel
theorem dX8_deal_76 : decode cX8_deal 76 = .ok (.iload_n 3, 1) := by decide +kernel
theorem dX8_deal_77 : decode cX8_deal 77 = .ok (.iconst 1, 1) := by decide +kernel
theorem dX8_deal_78 : decode cX8_deal 78 = .ok (.iload 6, 2) := by decide +kernel
theorem dX8_deal_80 : decode cX8_deal 80 = .ok (.invokevirtual 105, 3) := by decide +kernel
theorem dX8_deal_83 : decode cX8_deal 83 = .ok (.aload_n 0, 1) := by decide +kernel
theorem dX8_deal_84 : decode cX8_deal 84 = .ok (.iload 4, 2) := by decide +kernel
theorem dX8_deal_86 : decode cX8_deal 86 = .ok (.iconst 1, 1) := by decide +kernel
theorem dX8_deal_87 : decode cX8_deal 87 = .ok (.iload 5, 2) := by decide +kernel
theorem dX8_deal_89 : decode cX8_deal 89 = .ok (.invokevirtual 105, 3) := by decide +kernel
theorem dX8_deal_92 : decode cX8_deal 92 = .ok (.aload_n 0, 1) := by decide +kernel
theorem dX8_deal_93 : decode cX8_deal 93 = .ok (.iload_n 1, 1) := by decide +kernel
theorem dX8_deal_94 : decode cX8_deal 94 = .ok (.invokevirtual 224, 3) := by decide +kernel
theorem dX8_deal_97 : decode cX8_deal 97 = .ok (.aload_n 0, 1) := by decide +kernel
theorem dX8_deal_98 : decode cX8_deal 98 = .ok (.iload_n 3, 1) := by decide +kernel
theorem dX8_deal_99 : decode cX8_deal 99 = .ok (.iconst 1, 1) := by decide +kernel
theorem dX8_deal_100 : decode cX8_deal 100 = .ok (.iload 5, 2) := by decide +kernel
theorem dX8_deal_102 : decode cX8_deal 102 = .ok (.invokevirtual 105, 3) := by decide +kernel
theorem dX8_deal_105 : decode cX8_deal 105 = .ok (.aload_n 0, 1) := by decide +kernel
theorem dX8_deal_106 : decode cX8_deal 106 = .ok (.iload 4, 2) := by decide +kernel
theorem dX8_deal_108 : decode cX8_deal 108 = .ok (.iconst 1, 1) := by decide +kernel
theorem dX8_deal_109 : decode cX8_deal 109 = .ok (.iload 6, 2) := by decide +kernel
theorem dX8_deal_111 : decode cX8_deal 111 = .ok (.invokevirtual 105, 3) := by decide +kernel
theorem dX8_deal_114 : decode cX8_deal 114 = .ok (.iconst 1, 1) := by decide +kernel
theorem dX8_deal_115 : decode cX8_deal 115 = .ok (.iload_n 3, 1) := by decide +kernel
theorem dX8_deal_116 : decode cX8_deal 116 = .ok (.ishl, 1) := by decide +kernel
theorem dX8_deal_117 : decode cX8_deal 117 = .ok (.iconst 1, 1) := by decide +kernel
theorem dX8_deal_118 : decode cX8_deal 118 = .ok (.iload 4, 2) := by decide +kernel
theorem dX8_deal_120 : decode cX8_deal 120 = .ok (.ishl, 1) := by decide +kernel
theorem dX8_deal_121 : decode cX8_deal 121 = .ok (.ior, 1) := by decide +kernel
theorem dX8_deal_122 : decode cX8_deal 122 = .ok (.istore 7, 2) := by decide +kernel
theorem dX8_deal_124 : decode cX8_deal 124 = .ok (.aload_n 0, 1) := by decide +kernel
theorem dX8_deal_125 : decode cX8_deal 125 = .ok (.iconst 1, 1) := by decide +kernel
theorem dX8_deal_126 : decode cX8_deal 126 = .ok (.invokevirtual 239, 3) := by decide +kernel
theorem dX8_deal_129 : decode cX8_deal 129 = .ok (.iload 7, 2) := by decide +kernel
theorem dX8_deal_131 : decode cX8_deal 131 = .ok (.iand, 1) := by decide +kernel
theorem dX8_deal_132 : decode cX8_deal 132 = .ok (.iload 7, 2) := by decide +kernel
theorem dX8_deal_134 : decode cX8_deal 134 = .ok (.if_icmp .ne 11, 3) := by decide +kernel
theorem dX8_deal_137 : decode cX8_deal 137 = .ok (.bipush 10, 2) := by decide +kernel
theorem dX8_deal_139 : decode cX8_deal 139 = .ok (.iload_n 3, 1) := by decide +kernel
theorem dX8_deal_140 : decode cX8_deal 140 = .ok (.imul, 1) := by decide +kernel
theorem dX8_deal_141 : decode cX8_deal 141 = .ok (.iload 4, 2) := by decide +kernel
theorem dX8_deal_143 : decode cX8_deal 143 = .ok (.iadd, 1) := by decide +kernel
theorem dX8_deal_144 : decode cX8_deal 144 = .ok (.ireturn, 1) := by decide +kernel
theorem dX8_deal_145 : decode cX8_deal 145 = .ok (.iinc 4 1, 3) := by decide +kernel
theorem dX8_deal_148 : decode cX8_deal 148 = .ok (.goto (-110), 3) := by decide +kernel
theorem dX8_deal_151 : decode cX8_deal 151 = .ok (.iinc 3 1, 3) := by decide +kernel
theorem dX8_deal_154 : decode cX8_deal 154 = .ok (.goto (-131), 3) := by decide +kernel
theorem dX8_deal_157 : decode cX8_deal 157 = .ok (.aload_n 0, 1) := by decide +kernel
theorem dX8_deal_158 : decode cX8_deal 158 = .ok (.iconst 3, 1) := by decide +kernel
theorem dX8_deal_159 : decode cX8_deal 159 = .ok (.invokevirtual 115, 3) := by decide +kernel
theorem dX8_deal_162 : decode cX8_deal 162 = .ok (.ireturn, 1) := by decide +kernel
set_option maxRecDepth 20000 in
theorem ggX8_law_X8_whyHours : GoodIn wsX8_law wsX8_whyHours := goodIn_r _ [8, 9, 10, 11, 7, 12, 13, 14, 15, 16, 1, 70, 71, 72, 73, 74, 75, 76, 77, 78, 79, 80, 81, 82, 83, 84, 85, 86, 87, 88, 89, 90, 91, 92, 93, 94, 95, 96, 97, 98, 99, 100, 101, 102, 103, 104, 105, 106, 107, 108, 109, 110, 111, 112] (by exact rfl) (by decide +kernel)
set_option maxRecDepth 20000 in
theorem gX8_law_X8_whyHours : GoodIn wsX8_law (wsV RX8 243 RX8 yX8_whyHours wsX8_whyHours) := goodIn_app (goodIn_of _ (by decide +kernel)) ggX8_law_X8_whyHours
set_option maxRecDepth 20000 in
theorem ggX8_law_X8_finds : GoodIn wsX8_law wsX8_finds := goodIn_r _ [20, 21, 22, 70, 71, 72, 73, 74, 75, 76, 77, 78, 79, 80, 81, 82, 83, 84, 85, 86, 87, 88, 89, 90, 91, 92, 93, 94, 95, 96, 97, 98, 99, 100, 101, 102, 103, 104, 105, 106, 107, 108, 109, 110, 111, 112] (by exact rfl) (by decide +kernel)
set_option maxRecDepth 20000 in
theorem gX8_law_X8_finds : GoodIn wsX8_law (wsV RX8 115 RX8 yX8_finds wsX8_finds) := goodIn_app (goodIn_of _ (by decide +kernel)) ggX8_law_X8_finds
set_option maxRecDepth 20000 in
theorem ggX8_law_X8_copies : GoodIn wsX8_law wsX8_copies := goodIn_r _ [25] (by exact rfl) (by decide +kernel)
set_option maxRecDepth 20000 in
theorem gX8_law_X8_copies : GoodIn wsX8_law (va_wsS RX8 189 yX8_copies wsX8_copies) := goodIn_app (goodIn_of _ (by decide +kernel)) ggX8_law_X8_copies
set_option maxRecDepth 20000 in
theorem ggX8_law_X8_sets : GoodIn wsX8_law wsX8_sets := goodIn_r _ [29, 1, 70, 71, 72, 73, 74, 75, 76, 77, 78, 79, 80, 81, 82, 83, 84, 85, 86, 87, 88, 89, 90, 91, 92, 93, 94, 95, 96, 97, 98, 99, 100, 101, 102, 103, 104, 105, 106, 107, 108, 109, 110, 111, 112] (by exact rfl) (by decide +kernel)
set_option maxRecDepth 20000 in
theorem gX8_law_X8_sets : GoodIn wsX8_law (wsV RX8 105 RX8 yX8_sets wsX8_sets) := goodIn_app (goodIn_of _ (by decide +kernel)) ggX8_law_X8_sets
set_option maxRecDepth 20000 in
theorem ggX8_law_X8_tries : GoodIn wsX8_law wsX8_tries := goodIn_r _ [33, 1, 34, 35, 36, 3, 37, 38, 39, 40, 41, 23, 24, 7, 25, 42, 43, 44, 45, 46, 47, 48, 49, 50, 51, 52, 53, 54, 55, 56, 57, 58, 59, 60, 61, 62, 63, 64, 65, 66, 67, 68, 69, 26, 27, 28, 29, 70, 71, 72, 73, 74, 75, 76, 77, 78, 79, 80, 81, 82, 83, 84, 85, 86, 87, 88, 89, 90, 91, 92, 93, 94, 95, 96, 97, 98, 99, 100, 101, 102, 103, 104, 105, 106, 107, 108, 109, 110, 111, 112] (by exact rfl) (by decide +kernel)
set_option maxRecDepth 20000 in
theorem gX8_law_X8_tries : GoodIn wsX8_law (wsV RX8 224 RX8 yX8_tries wsX8_tries) := goodIn_app (goodIn_of _ (by decide +kernel)) ggX8_law_X8_tries
theorem dX8_law_0 : decode cX8_law 0 = .ok (.aload_n 0, 1) := by decide +kernel
theorem dX8_law_1 : decode cX8_law 1 = .ok (.iload_n 1, 1) := by decide +kernel
theorem dX8_law_2 : decode cX8_law 2 = .ok (.invokevirtual 243, 3) := by decide +kernel
theorem dX8_law_5 : decode cX8_law 5 = .ok (.istore_n 2, 1) := by decide +kernel
theorem dX8_law_6 : decode cX8_law 6 = .ok (.iload_n 2, 1) := by decide +kernel
theorem dX8_law_7 : decode cX8_law 7 = .ok (.ifCond .lt 9, 3) := by decide +kernel
theorem dX8_law_10 : decode cX8_law 10 = .ok (.aload_n 0, 1) := by decide +kernel
theorem dX8_law_11 : decode cX8_law 11 = .ok (.iload_n 2, 1) := by decide +kernel
theorem dX8_law_12 : decode cX8_law 12 = .ok (.invokevirtual 115, 3) := by decide +kernel
theorem dX8_law_15 : decode cX8_law 15 = .ok (.ireturn, 1) := by decide +kernel
theorem dX8_law_16 : decode cX8_law 16 = .ok (.aload_n 0, 1) := by decide +kernel
theorem dX8_law_17 : decode cX8_law 17 = .ok (.getfield 7, 3) := by decide +kernel
theorem dX8_law_20 : decode cX8_law 20 = .ok (.aload_n 0, 1) := by decide +kernel
theorem dX8_law_21 : decode cX8_law 21 = .ok (.getfield 13, 3) := by decide +kernel
theorem dX8_law_24 : decode cX8_law 24 = .ok (.invokestatic 189, 3) := by decide +kernel
theorem dX8_law_27 : decode cX8_law 27 = .ok (.iconst 0, 1) := by decide +kernel
theorem dX8_law_28 : decode cX8_law 28 = .ok (.istore_n 3, 1) := by decide +kernel
theorem dX8_law_29 : decode cX8_law 29 = .ok (.iconst (-1), 1) := by decide +kernel
theorem dX8_law_30 : decode cX8_law 30 = .ok (.istore 4, 2) := by decide +kernel
theorem dX8_law_32 : decode cX8_law 32 = .ok (.iconst 0, 1) := by decide +kernel
theorem dX8_law_33 : decode cX8_law 33 = .ok (.istore 5, 2) := by decide +kernel
theorem dX8_law_35 : decode cX8_law 35 = .ok (.iload 5, 2) := by decide +kernel
theorem dX8_law_37 : decode cX8_law 37 = .ok (.bipush 7, 2) := by decide +kernel
theorem dX8_law_39 : decode cX8_law 39 = .ok (.if_icmp .ge 79, 3) := by decide +kernel
theorem dX8_law_42 : decode cX8_law 42 = .ok (.iconst 0, 1) := by decide +kernel
theorem dX8_law_43 : decode cX8_law 43 = .ok (.istore 6, 2) := by decide +kernel
theorem dX8_law_45 : decode cX8_law 45 = .ok (.iload 6, 2) := by decide +kernel
theorem dX8_law_47 : decode cX8_law 47 = .ok (.aload_n 0, 1) := by decide +kernel
theorem dX8_law_48 : decode cX8_law 48 = .ok (.getfield 7, 3) := by decide +kernel
theorem dX8_law_51 : decode cX8_law 51 = .ok (.iconst 0, 1) := by decide +kernel
theorem dX8_law_52 : decode cX8_law 52 = .ok (.iaload, 1) := by decide +kernel
theorem dX8_law_53 : decode cX8_law 53 = .ok (.if_icmp .ge 18, 3) := by decide +kernel
theorem dX8_law_56 : decode cX8_law 56 = .ok (.aload_n 0, 1) := by decide +kernel
theorem dX8_law_57 : decode cX8_law 57 = .ok (.iload 6, 2) := by decide +kernel
theorem dX8_law_59 : decode cX8_law 59 = .ok (.iconst 0, 1) := by decide +kernel
theorem dX8_law_60 : decode cX8_law 60 = .ok (.iload 5, 2) := by decide +kernel
theorem dX8_law_62 : decode cX8_law 62 = .ok (.invokevirtual 105, 3) := by decide +kernel
theorem dX8_law_65 : decode cX8_law 65 = .ok (.iinc 6 1, 3) := by decide +kernel
theorem dX8_law_68 : decode cX8_law 68 = .ok (.goto (-23), 3) := by decide +kernel
theorem dX8_law_71 : decode cX8_law 71 = .ok (.aload_n 0, 1) := by decide +kernel
theorem dX8_law_72 : decode cX8_law 72 = .ok (.iload_n 1, 1) := by decide +kernel
theorem dX8_law_73 : decode cX8_law 73 = .ok (.invokevirtual 224, 3) := by decide +kernel
theorem dX8_law_76 : decode cX8_law 76 = .ok (.aload_n 0, 1) := by decide +kernel
theorem dX8_law_77 : decode cX8_law 77 = .ok (.getfield 221, 3) := by decide +kernel
theorem dX8_law_80 : decode cX8_law 80 = .ok (.iload 4, 2) := by decide +kernel
theorem dX8_law_82 : decode cX8_law 82 = .ok (.if_icmp .le 8, 3) := by decide +kernel
theorem dX8_law_85 : decode cX8_law 85 = .ok (.iload 5, 2) := by decide +kernel
theorem dX8_law_87 : decode cX8_law 87 = .ok (.goto 4, 3) := by decide +kernel
theorem dX8_law_90 : decode cX8_law 90 = .ok (.iload_n 3, 1) := by decide +kernel
theorem dX8_law_91 : decode cX8_law 91 = .ok (.istore_n 3, 1) := by decide +kernel
theorem dX8_law_92 : decode cX8_law 92 = .ok (.aload_n 0, 1) := by decide +kernel
theorem dX8_law_93 : decode cX8_law 93 = .ok (.getfield 221, 3) := by decide +kernel
theorem dX8_law_96 : decode cX8_law 96 = .ok (.iload 4, 2) := by decide +kernel
theorem dX8_law_98 : decode cX8_law 98 = .ok (.if_icmp .le 10, 3) := by decide +kernel
theorem dX8_law_101 : decode cX8_law 101 = .ok (.aload_n 0, 1) := by decide +kernel
theorem dX8_law_102 : decode cX8_law 102 = .ok (.getfield 221, 3) := by decide +kernel
theorem dX8_law_105 : decode cX8_law 105 = .ok (.goto 5, 3) := by decide +kernel
theorem dX8_law_108 : decode cX8_law 108 = .ok (.iload 4, 2) := by decide +kernel
theorem dX8_law_110 : decode cX8_law 110 = .ok (.istore 4, 2) := by decide +kernel
theorem dX8_law_112 : decode cX8_law 112 = .ok (.iinc 5 1, 3) := by decide +kernel
theorem dX8_law_115 : decode cX8_law 115 = .ok (.goto (-80), 3) := by decide +kernel
theorem dX8_law_118 : decode cX8_law 118 = .ok (.aload_n 0, 1) := by decide +kernel
theorem dX8_law_119 : decode cX8_law 119 = .ok (.getfield 13, 3) := by decide +kernel
theorem dX8_law_122 : decode cX8_law 122 = .ok (.aload_n 0, 1) := by decide +kernel
theorem dX8_law_123 : decode cX8_law 123 = .ok (.getfield 7, 3) := by decide +kernel
theorem dX8_law_126 : decode cX8_law 126 = .ok (.invokestatic 189, 3) := by decide +kernel
theorem dX8_law_129 : decode cX8_law 129 = .ok (.iload_n 3, 1) := by decide +kernel
theorem dX8_law_130 : decode cX8_law 130 = .ok (.ireturn, 1) := by decide +kernel
theorem dX8_ones_0 : decode cX8_ones 0 = .ok (.iconst 0, 1) := by decide +kernel
theorem dX8_ones_1 : decode cX8_ones 1 = .ok (.istore_n 1, 1) := by decide +kernel
theorem dX8_ones_2 : decode cX8_ones 2 = .ok (.iconst 0, 1) := by decide +kernel
theorem dX8_ones_3 : decode cX8_ones 3 = .ok (.istore_n 2, 1) := by decide +kernel
theorem dX8_ones_4 : decode cX8_ones 4 = .ok (.iload_n 2, 1) := by decide +kernel
theorem dX8_ones_5 : decode cX8_ones 5 = .ok (.bipush 10, 2) := by decide +kernel
theorem dX8_ones_7 : decode cX8_ones 7 = .ok (.if_icmp .ge 17, 3) := by decide +kernel
theorem dX8_ones_10 : decode cX8_ones 10 = .ok (.iload_n 1, 1) := by decide +kernel
theorem dX8_ones_11 : decode cX8_ones 11 = .ok (.iload_n 0, 1) := by decide +kernel
theorem dX8_ones_12 : decode cX8_ones 12 = .ok (.iload_n 2, 1) := by decide +kernel
theorem dX8_ones_13 : decode cX8_ones 13 = .ok (.ishr, 1) := by decide +kernel
theorem dX8_ones_14 : decode cX8_ones 14 = .ok (.iconst 1, 1) := by decide +kernel
theorem dX8_ones_15 : decode cX8_ones 15 = .ok (.iand, 1) := by decide +kernel
theorem dX8_ones_16 : decode cX8_ones 16 = .ok (.iadd, 1) := by decide +kernel
theorem dX8_ones_17 : decode cX8_ones 17 = .ok (.istore_n 1, 1) := by decide +kernel
theorem dX8_ones_18 : decode cX8_ones 18 = .ok (.iinc 2 1, 3) := by decide +kernel
theorem dX8_ones_21 : decode cX8_ones 21 = .ok (.goto (-17), 3) := by decide +kernel
theorem dX8_ones_24 : decode cX8_ones 24 = .ok (.iload_n 1, 1) := by decide +kernel
theorem dX8_ones_25 : decode cX8_ones 25 = .ok (.ireturn, 1) := by decide +kernel
set_option maxRecDepth 20000 in
theorem ggX8_generous_X8_whyHours : GoodIn wsX8_generous wsX8_whyHours := goodIn_r _ [6, 7, 8, 9, 5, 10, 11, 12, 13, 14, 1, 81, 82, 83, 84, 85, 86, 87, 88, 89, 90, 91, 92, 93, 94, 95, 96, 97, 98, 99, 100, 101, 102, 103, 104, 105, 106, 107, 108, 109, 110, 111, 112, 113, 114, 115, 116, 117, 118, 119, 120, 121, 122, 123] (by exact rfl) (by decide +kernel)
set_option maxRecDepth 20000 in
theorem gX8_generous_X8_whyHours : GoodIn wsX8_generous (wsV RX8 243 RX8 yX8_whyHours wsX8_whyHours) := goodIn_app (goodIn_of _ (by decide +kernel)) ggX8_generous_X8_whyHours
set_option maxRecDepth 20000 in
theorem ggX8_generous_X8_finds : GoodIn wsX8_generous wsX8_finds := goodIn_r _ [18, 19, 20, 81, 82, 83, 84, 85, 86, 87, 88, 89, 90, 91, 92, 93, 94, 95, 96, 97, 98, 99, 100, 101, 102, 103, 104, 105, 106, 107, 108, 109, 110, 111, 112, 113, 114, 115, 116, 117, 118, 119, 120, 121, 122, 123] (by exact rfl) (by decide +kernel)
set_option maxRecDepth 20000 in
theorem gX8_generous_X8_finds : GoodIn wsX8_generous (wsV RX8 115 RX8 yX8_finds wsX8_finds) := goodIn_app (goodIn_of _ (by decide +kernel)) ggX8_generous_X8_finds
set_option maxRecDepth 20000 in
theorem ggX8_generous_X8_keepGets : GoodIn wsX8_generous wsX8_keepGets := goodIn_r _ [24, 25, 26, 27, 28, 29, 5, 30, 1, 31, 32, 33, 34, 35, 36, 37, 38, 39, 40, 41, 42, 43, 44, 45, 46, 47, 48, 49, 50, 51, 52, 53, 54, 55, 56, 57, 58, 59, 60, 61, 62, 63, 64, 65, 66, 67, 68, 69, 70, 71, 72, 73, 81, 82, 83, 84, 85, 86, 87, 88, 89, 90, 91, 92, 93, 94, 95, 96, 97, 98, 99, 100, 101, 102, 103, 104, 105, 106, 107, 108, 109, 110, 111, 112, 113, 114, 115, 116, 117, 118, 119, 120, 121, 122, 123] (by exact rfl) (by decide +kernel)
set_option maxRecDepth 20000 in
theorem gX8_generous_X8_keepGets : GoodIn wsX8_generous (wsV RX8 236 RX8 yX8_keepGets wsX8_keepGets) := goodIn_app (goodIn_of _ (by decide +kernel)) ggX8_generous_X8_keepGets
set_option maxRecDepth 20000 in
theorem ggX8_generous_X8_its : GoodIn wsX8_generous wsX8_its := goodIn_r _ [56, 1, 81, 82, 83, 84, 85, 86, 87, 88, 89, 90, 91, 92, 93, 94, 95, 96, 97, 98, 99, 100, 101, 102, 103, 104, 105, 106, 107, 108, 109, 110, 111, 112, 113, 114, 115, 116, 117, 118, 119, 120, 121, 122, 123] (by exact rfl) (by decide +kernel)
set_option maxRecDepth 20000 in
theorem gX8_generous_X8_its : GoodIn wsX8_generous (wsV RX8 74 RX8 yX8_its wsX8_its) := goodIn_app (goodIn_of _ (by decide +kernel)) ggX8_generous_X8_its
set_option maxRecDepth 20000 in
theorem ggX8_generous_X8_sets : GoodIn wsX8_generous wsX8_sets := goodIn_r _ [73, 1, 81, 82, 83, 84, 85, 86, 87, 88, 89, 90, 91, 92, 93, 94, 95, 96, 97, 98, 99, 100, 101, 102, 103, 104, 105, 106, 107, 108, 109, 110, 111, 112, 113, 114, 115, 116, 117, 118, 119, 120, 121, 122, 123] (by exact rfl) (by decide +kernel)
set_option maxRecDepth 20000 in
theorem gX8_generous_X8_sets : GoodIn wsX8_generous (wsV RX8 105 RX8 yX8_sets wsX8_sets) := goodIn_app (goodIn_of _ (by decide +kernel)) ggX8_generous_X8_sets
set_option maxRecDepth 20000 in
theorem ggX8_generous_X8_tries : GoodIn wsX8_generous wsX8_tries := goodIn_r _ [30, 1, 31, 32, 33, 34, 26, 35, 36, 37, 38, 39, 40, 5, 41, 42, 43, 44, 45, 46, 47, 48, 49, 50, 51, 52, 53, 54, 55, 56, 57, 58, 59, 60, 61, 62, 63, 64, 65, 66, 67, 68, 69, 70, 71, 72, 73, 81, 82, 83, 84, 85, 86, 87, 88, 89, 90, 91, 92, 93, 94, 95, 96, 97, 98, 99, 100, 101, 102, 103, 104, 105, 106, 107, 108, 109, 110, 111, 112, 113, 114, 115, 116, 117, 118, 119, 120, 121, 122, 123] (by exact rfl) (by decide +kernel)
set_option maxRecDepth 20000 in
theorem gX8_generous_X8_tries : GoodIn wsX8_generous (wsV RX8 224 RX8 yX8_tries wsX8_tries) := goodIn_app (goodIn_of _ (by decide +kernel)) ggX8_generous_X8_tries
set_option maxRecDepth 20000 in
theorem ggX8_generous_X8_getting : GoodIn wsX8_generous wsX8_getting := goodIn_r _ [77, 1, 26, 25, 81, 82, 83, 84, 85, 86, 87, 88, 89, 90, 91, 92, 93, 94, 95, 96, 97, 98, 99, 100, 101, 102, 103, 104, 105, 106, 107, 108, 109, 110, 111, 112, 113, 114, 115, 116, 117, 118, 119, 120, 121, 122, 123] (by exact rfl) (by decide +kernel)
set_option maxRecDepth 20000 in
theorem gX8_generous_X8_getting : GoodIn wsX8_generous (wsV RX8 239 RX8 yX8_getting wsX8_getting) := goodIn_app (goodIn_of _ (by decide +kernel)) ggX8_generous_X8_getting
set_option maxRecDepth 20000 in
theorem ggX8_generous_X8_ones : GoodIn wsX8_generous wsX8_ones := goodIn_r _ [80] (by exact rfl) (by decide +kernel)
set_option maxRecDepth 20000 in
theorem gX8_generous_X8_ones : GoodIn wsX8_generous (va_wsS RX8 246 yX8_ones wsX8_ones) := goodIn_app (goodIn_of _ (by decide +kernel)) ggX8_generous_X8_ones
theorem dX8_generous_0 : decode cX8_generous 0 = .ok (.aload_n 0, 1) := by decide +kernel
theorem dX8_generous_1 : decode cX8_generous 1 = .ok (.iload_n 1, 1) := by decide +kernel
theorem dX8_generous_2 : decode cX8_generous 2 = .ok (.invokevirtual 243, 3) := by decide +kernel
theorem dX8_generous_5 : decode cX8_generous 5 = .ok (.istore_n 2, 1) := by decide +kernel
theorem dX8_generous_6 : decode cX8_generous 6 = .ok (.iload_n 2, 1) := by decide +kernel
theorem dX8_generous_7 : decode cX8_generous 7 = .ok (.ifCond .lt 9, 3) := by decide +kernel
theorem dX8_generous_10 : decode cX8_generous 10 = .ok (.aload_n 0, 1) := by decide +kernel
theorem dX8_generous_11 : decode cX8_generous 11 = .ok (.iload_n 2, 1) := by decide +kernel
theorem dX8_generous_12 : decode cX8_generous 12 = .ok (.invokevirtual 115, 3) := by decide +kernel
theorem dX8_generous_15 : decode cX8_generous 15 = .ok (.ireturn, 1) := by decide +kernel
theorem dX8_generous_16 : decode cX8_generous 16 = .ok (.aload_n 0, 1) := by decide +kernel
theorem dX8_generous_17 : decode cX8_generous 17 = .ok (.getfield 7, 3) := by decide +kernel
theorem dX8_generous_20 : decode cX8_generous 20 = .ok (.iconst 0, 1) := by decide +kernel
theorem dX8_generous_21 : decode cX8_generous 21 = .ok (.iaload, 1) := by decide +kernel
theorem dX8_generous_22 : decode cX8_generous 22 = .ok (.ifCond .ne 9, 3) := by decide +kernel
theorem dX8_generous_25 : decode cX8_generous 25 = .ok (.aload_n 0, 1) := by decide +kernel
theorem dX8_generous_26 : decode cX8_generous 26 = .ok (.iconst 3, 1) := by decide +kernel
theorem dX8_generous_27 : decode cX8_generous 27 = .ok (.invokevirtual 115, 3) := by decide +kernel
theorem dX8_generous_30 : decode cX8_generous 30 = .ok (.ireturn, 1) := by decide +kernel
theorem dX8_generous_31 : decode cX8_generous 31 = .ok (.aload_n 0, 1) := by decide +kernel
theorem dX8_generous_32 : decode cX8_generous 32 = .ok (.iload_n 1, 1) := by decide +kernel
theorem dX8_generous_33 : decode cX8_generous 33 = .ok (.invokevirtual 236, 3) := by decide +kernel
theorem dX8_generous_36 : decode cX8_generous 36 = .ok (.iconst 0, 1) := by decide +kernel
theorem dX8_generous_37 : decode cX8_generous 37 = .ok (.istore_n 3, 1) := by decide +kernel
theorem dX8_generous_38 : decode cX8_generous 38 = .ok (.iconst (-1), 1) := by decide +kernel
theorem dX8_generous_39 : decode cX8_generous 39 = .ok (.istore 4, 2) := by decide +kernel
theorem dX8_generous_41 : decode cX8_generous 41 = .ok (.iconst 0, 1) := by decide +kernel
theorem dX8_generous_42 : decode cX8_generous 42 = .ok (.istore 5, 2) := by decide +kernel
theorem dX8_generous_44 : decode cX8_generous 44 = .ok (.iload 5, 2) := by decide +kernel
theorem dX8_generous_46 : decode cX8_generous 46 = .ok (.aload_n 0, 1) := by decide +kernel
theorem dX8_generous_47 : decode cX8_generous 47 = .ok (.getfield 7, 3) := by decide +kernel
theorem dX8_generous_50 : decode cX8_generous 50 = .ok (.iconst 0, 1) := by decide +kernel
theorem dX8_generous_51 : decode cX8_generous 51 = .ok (.iaload, 1) := by decide +kernel
theorem dX8_generous_52 : decode cX8_generous 52 = .ok (.if_icmp .ge 87, 3) := by decide +kernel
theorem dX8_generous_55 : decode cX8_generous 55 = .ok (.aload_n 0, 1) := by decide +kernel
theorem dX8_generous_56 : decode cX8_generous 56 = .ok (.iload 5, 2) := by decide +kernel
theorem dX8_generous_58 : decode cX8_generous 58 = .ok (.iconst 0, 1) := by decide +kernel
theorem dX8_generous_59 : decode cX8_generous 59 = .ok (.invokevirtual 74, 3) := by decide +kernel
theorem dX8_generous_62 : decode cX8_generous 62 = .ok (.istore 6, 2) := by decide +kernel
theorem dX8_generous_64 : decode cX8_generous 64 = .ok (.aload_n 0, 1) := by decide +kernel
theorem dX8_generous_65 : decode cX8_generous 65 = .ok (.iload 5, 2) := by decide +kernel
theorem dX8_generous_67 : decode cX8_generous 67 = .ok (.iconst 0, 1) := by decide +kernel
theorem dX8_generous_68 : decode cX8_generous 68 = .ok (.iconst 3, 1) := by decide +kernel
theorem dX8_generous_69 : decode cX8_generous 69 = .ok (.invokevirtual 105, 3) := by decide +kernel
theorem dX8_generous_72 : decode cX8_generous 72 = .ok (.aload_n 0, 1) := by decide +kernel
theorem dX8_generous_73 : decode cX8_generous 73 = .ok (.iload_n 1, 1) := by decide +kernel
theorem dX8_generous_74 : decode cX8_generous 74 = .ok (.invokevirtual 224, 3) := by decide +kernel
theorem dX8_generous_77 : decode cX8_generous 77 = .ok (.aload_n 0, 1) := by decide +kernel
theorem dX8_generous_78 : decode cX8_generous 78 = .ok (.iload 5, 2) := by decide +kernel
theorem dX8_generous_80 : decode cX8_generous 80 = .ok (.iconst 0, 1) := by decide +kernel
theorem dX8_generous_81 : decode cX8_generous 81 = .ok (.iload 6, 2) := by decide +kernel
theorem dX8_generous_83 : decode cX8_generous 83 = .ok (.invokevirtual 105, 3) := by decide +kernel
theorem dX8_generous_86 : decode cX8_generous 86 = .ok (.aload_n 0, 1) := by decide +kernel
theorem dX8_generous_87 : decode cX8_generous 87 = .ok (.iconst 1, 1) := by decide +kernel
theorem dX8_generous_88 : decode cX8_generous 88 = .ok (.invokevirtual 239, 3) := by decide +kernel
theorem dX8_generous_91 : decode cX8_generous 91 = .ok (.iconst 1, 1) := by decide +kernel
theorem dX8_generous_92 : decode cX8_generous 92 = .ok (.iload 5, 2) := by decide +kernel
theorem dX8_generous_94 : decode cX8_generous 94 = .ok (.ishl, 1) := by decide +kernel
theorem dX8_generous_95 : decode cX8_generous 95 = .ok (.iconst (-1), 1) := by decide +kernel
theorem dX8_generous_96 : decode cX8_generous 96 = .ok (.ixor, 1) := by decide +kernel
theorem dX8_generous_97 : decode cX8_generous 97 = .ok (.iand, 1) := by decide +kernel
theorem dX8_generous_98 : decode cX8_generous 98 = .ok (.invokestatic 246, 3) := by decide +kernel
theorem dX8_generous_101 : decode cX8_generous 101 = .ok (.istore 7, 2) := by decide +kernel
theorem dX8_generous_103 : decode cX8_generous 103 = .ok (.iload 7, 2) := by decide +kernel
theorem dX8_generous_105 : decode cX8_generous 105 = .ok (.iload 4, 2) := by decide +kernel
theorem dX8_generous_107 : decode cX8_generous 107 = .ok (.if_icmp .le 8, 3) := by decide +kernel
theorem dX8_generous_110 : decode cX8_generous 110 = .ok (.iload 5, 2) := by decide +kernel
theorem dX8_generous_112 : decode cX8_generous 112 = .ok (.goto 4, 3) := by decide +kernel
theorem dX8_generous_115 : decode cX8_generous 115 = .ok (.iload_n 3, 1) := by decide +kernel
theorem dX8_generous_116 : decode cX8_generous 116 = .ok (.istore_n 3, 1) := by decide +kernel
theorem dX8_generous_117 : decode cX8_generous 117 = .ok (.iload 7, 2) := by decide +kernel
theorem dX8_generous_119 : decode cX8_generous 119 = .ok (.iload 4, 2) := by decide +kernel
theorem dX8_generous_121 : decode cX8_generous 121 = .ok (.if_icmp .le 8, 3) := by decide +kernel
theorem dX8_generous_124 : decode cX8_generous 124 = .ok (.iload 7, 2) := by decide +kernel
theorem dX8_generous_126 : decode cX8_generous 126 = .ok (.goto 5, 3) := by decide +kernel
theorem dX8_generous_129 : decode cX8_generous 129 = .ok (.iload 4, 2) := by decide +kernel
theorem dX8_generous_131 : decode cX8_generous 131 = .ok (.istore 4, 2) := by decide +kernel
theorem dX8_generous_133 : decode cX8_generous 133 = .ok (.iinc 5 1, 3) := by decide +kernel
theorem dX8_generous_136 : decode cX8_generous 136 = .ok (.goto (-92), 3) := by decide +kernel
theorem dX8_generous_139 : decode cX8_generous 139 = .ok (.iload_n 3, 1) := by decide +kernel
theorem dX8_generous_140 : decode cX8_generous 140 = .ok (.ireturn, 1) := by decide +kernel
set_option maxRecDepth 20000 in
theorem ggX8_findChips_X8_copies : GoodIn wsX8_findChips wsX8_copies := goodIn_r _ [13] (by exact rfl) (by decide +kernel)
set_option maxRecDepth 20000 in
theorem gX8_findChips_X8_copies : GoodIn wsX8_findChips (va_wsS RX8 189 yX8_copies wsX8_copies) := goodIn_app (goodIn_of _ (by decide +kernel)) ggX8_findChips_X8_copies
set_option maxRecDepth 20000 in
theorem ggX8_findChips_X8_sets : GoodIn wsX8_findChips wsX8_sets := goodIn_r _ [17, 1, 45, 46, 47, 48, 49, 50, 51, 52, 53, 54, 55, 56, 57, 58, 59, 60, 61, 62, 63, 64, 65, 66, 67, 68, 69, 70, 71, 72, 73, 74, 75, 76, 77, 78, 79, 80, 81, 82, 83, 84, 85, 86, 87] (by exact rfl) (by decide +kernel)
set_option maxRecDepth 20000 in
theorem gX8_findChips_X8_sets : GoodIn wsX8_findChips (wsV RX8 105 RX8 yX8_sets wsX8_sets) := goodIn_app (goodIn_of _ (by decide +kernel)) ggX8_findChips_X8_sets
set_option maxRecDepth 20000 in
theorem ggX8_findChips_X8_look : GoodIn wsX8_findChips wsX8_look := goodIn_r _ [21, 22, 23, 24, 25, 1, 8, 26, 27, 28, 29, 30, 12, 31, 32, 33, 34, 35, 36, 37, 38, 39, 40, 41, 42, 43, 44, 45, 46, 47, 48, 49, 50, 51, 52, 53, 54, 55, 56, 57, 58, 59, 60, 61, 62, 63, 64, 65, 66, 67, 68, 69, 70, 71, 72, 73, 74, 75, 76, 77, 78, 79, 80, 81, 82, 83, 84, 85, 86, 87] (by exact rfl) (by decide +kernel)
set_option maxRecDepth 20000 in
theorem gX8_findChips_X8_look : GoodIn wsX8_findChips (wsV RX8 102 RX8 yX8_look wsX8_look) := goodIn_app (goodIn_of _ (by decide +kernel)) ggX8_findChips_X8_look
theorem dX8_findChips_0 : decode cX8_findChips 0 = .ok (.aload_n 0, 1) := by decide +kernel
theorem dX8_findChips_1 : decode cX8_findChips 1 = .ok (.getfield 7, 3) := by decide +kernel
theorem dX8_findChips_4 : decode cX8_findChips 4 = .ok (.aload_n 0, 1) := by decide +kernel
theorem dX8_findChips_5 : decode cX8_findChips 5 = .ok (.getfield 13, 3) := by decide +kernel
theorem dX8_findChips_8 : decode cX8_findChips 8 = .ok (.invokestatic 189, 3) := by decide +kernel
theorem dX8_findChips_11 : decode cX8_findChips 11 = .ok (.aload_n 0, 1) := by decide +kernel
theorem dX8_findChips_12 : decode cX8_findChips 12 = .ok (.iconst 0, 1) := by decide +kernel
theorem dX8_findChips_13 : decode cX8_findChips 13 = .ok (.putfield 249, 3) := by decide +kernel
theorem dX8_findChips_16 : decode cX8_findChips 16 = .ok (.aload_n 0, 1) := by decide +kernel
theorem dX8_findChips_17 : decode cX8_findChips 17 = .ok (.iconst 0, 1) := by decide +kernel
theorem dX8_findChips_18 : decode cX8_findChips 18 = .ok (.putfield 252, 3) := by decide +kernel
theorem dX8_findChips_21 : decode cX8_findChips 21 = .ok (.aload_n 0, 1) := by decide +kernel
theorem dX8_findChips_22 : decode cX8_findChips 22 = .ok (.iconst 1, 1) := by decide +kernel
theorem dX8_findChips_23 : decode cX8_findChips 23 = .ok (.aload_n 0, 1) := by decide +kernel
theorem dX8_findChips_24 : decode cX8_findChips 24 = .ok (.getfield 7, 3) := by decide +kernel
theorem dX8_findChips_27 : decode cX8_findChips 27 = .ok (.iconst 0, 1) := by decide +kernel
theorem dX8_findChips_28 : decode cX8_findChips 28 = .ok (.iaload, 1) := by decide +kernel
theorem dX8_findChips_29 : decode cX8_findChips 29 = .ok (.ishl, 1) := by decide +kernel
theorem dX8_findChips_30 : decode cX8_findChips 30 = .ok (.iconst 1, 1) := by decide +kernel
theorem dX8_findChips_31 : decode cX8_findChips 31 = .ok (.isub, 1) := by decide +kernel
theorem dX8_findChips_32 : decode cX8_findChips 32 = .ok (.putfield 255, 3) := by decide +kernel
theorem dX8_findChips_35 : decode cX8_findChips 35 = .ok (.aload_n 0, 1) := by decide +kernel
theorem dX8_findChips_36 : decode cX8_findChips 36 = .ok (.iconst 0, 1) := by decide +kernel
theorem dX8_findChips_37 : decode cX8_findChips 37 = .ok (.putfield 258, 3) := by decide +kernel
theorem dX8_findChips_40 : decode cX8_findChips 40 = .ok (.iconst 0, 1) := by decide +kernel
theorem dX8_findChips_41 : decode cX8_findChips 41 = .ok (.istore_n 2, 1) := by decide +kernel
theorem dX8_findChips_42 : decode cX8_findChips 42 = .ok (.iload_n 2, 1) := by decide +kernel
theorem dX8_findChips_43 : decode cX8_findChips 43 = .ok (.iconst 1, 1) := by decide +kernel
theorem dX8_findChips_44 : decode cX8_findChips 44 = .ok (.aload_n 0, 1) := by decide +kernel
theorem dX8_findChips_45 : decode cX8_findChips 45 = .ok (.getfield 7, 3) := by decide +kernel
theorem dX8_findChips_48 : decode cX8_findChips 48 = .ok (.iconst 0, 1) := by decide +kernel
theorem dX8_findChips_49 : decode cX8_findChips 49 = .ok (.iaload, 1) := by decide +kernel
theorem dX8_findChips_50 : decode cX8_findChips 50 = .ok (.ishl, 1) := by decide +kernel
theorem dX8_findChips_51 : decode cX8_findChips 51 = .ok (.if_icmp .ge 160, 3) := by decide +kernel
theorem dX8_findChips_54 : decode cX8_findChips 54 = .ok (.iconst 0, 1) := by decide +kernel
theorem dX8_findChips_55 : decode cX8_findChips 55 = .ok (.istore_n 3, 1) := by decide +kernel
theorem dX8_findChips_56 : decode cX8_findChips 56 = .ok (.iload_n 3, 1) := by decide +kernel
theorem dX8_findChips_57 : decode cX8_findChips 57 = .ok (.aload_n 0, 1) := by decide +kernel
theorem dX8_findChips_58 : decode cX8_findChips 58 = .ok (.getfield 7, 3) := by decide +kernel
theorem dX8_findChips_61 : decode cX8_findChips 61 = .ok (.iconst 0, 1) := by decide +kernel
theorem dX8_findChips_62 : decode cX8_findChips 62 = .ok (.iaload, 1) := by decide +kernel
theorem dX8_findChips_63 : decode cX8_findChips 63 = .ok (.if_icmp .ge 20, 3) := by decide +kernel
theorem dX8_findChips_66 : decode cX8_findChips 66 = .ok (.aload_n 0, 1) := by decide +kernel
theorem dX8_findChips_67 : decode cX8_findChips 67 = .ok (.iload_n 3, 1) := by decide +kernel
theorem dX8_findChips_68 : decode cX8_findChips 68 = .ok (.iconst 0, 1) := by decide +kernel
theorem dX8_findChips_69 : decode cX8_findChips 69 = .ok (.iload_n 2, 1) := by decide +kernel
theorem dX8_findChips_70 : decode cX8_findChips 70 = .ok (.iload_n 3, 1) := by decide +kernel
theorem dX8_findChips_71 : decode cX8_findChips 71 = .ok (.ishr, 1) := by decide +kernel
theorem dX8_findChips_72 : decode cX8_findChips 72 = .ok (.iconst 1, 1) := by decide +kernel
theorem dX8_findChips_73 : decode cX8_findChips 73 = .ok (.iand, 1) := by decide +kernel
theorem dX8_findChips_74 : decode cX8_findChips 74 = .ok (.invokevirtual 105, 3) := by decide +kernel
theorem dX8_findChips_77 : decode cX8_findChips 77 = .ok (.iinc 3 1, 3) := by decide +kernel
theorem dX8_findChips_80 : decode cX8_findChips 80 = .ok (.goto (-24), 3) := by decide +kernel
theorem dX8_findChips_83 : decode cX8_findChips 83 = .ok (.aload_n 0, 1) := by decide +kernel
theorem dX8_findChips_84 : decode cX8_findChips 84 = .ok (.invokevirtual 102, 3) := by decide +kernel
theorem dX8_findChips_87 : decode cX8_findChips 87 = .ok (.iconst 1, 1) := by decide +kernel
theorem dX8_findChips_88 : decode cX8_findChips 88 = .ok (.istore_n 3, 1) := by decide +kernel
theorem dX8_findChips_89 : decode cX8_findChips 89 = .ok (.iconst 0, 1) := by decide +kernel
theorem dX8_findChips_90 : decode cX8_findChips 90 = .ok (.istore 4, 2) := by decide +kernel
theorem dX8_findChips_92 : decode cX8_findChips 92 = .ok (.iload 4, 2) := by decide +kernel
theorem dX8_findChips_94 : decode cX8_findChips 94 = .ok (.aload_n 0, 1) := by decide +kernel
theorem dX8_findChips_95 : decode cX8_findChips 95 = .ok (.getfield 7, 3) := by decide +kernel
theorem dX8_findChips_98 : decode cX8_findChips 98 = .ok (.iconst 0, 1) := by decide +kernel
theorem dX8_findChips_99 : decode cX8_findChips 99 = .ok (.iaload, 1) := by decide +kernel
theorem dX8_findChips_100 : decode cX8_findChips 100 = .ok (.if_icmp .ge 52, 3) := by decide +kernel
theorem dX8_findChips_103 : decode cX8_findChips 103 = .ok (.iload 4, 2) := by decide +kernel
theorem dX8_findChips_105 : decode cX8_findChips 105 = .ok (.aload_n 0, 1) := by decide +kernel
theorem dX8_findChips_106 : decode cX8_findChips 106 = .ok (.getfield 60, 3) := by decide +kernel
theorem dX8_findChips_109 : decode cX8_findChips 109 = .ok (.iload_n 1, 1) := by decide +kernel
theorem dX8_findChips_110 : decode cX8_findChips 110 = .ok (.iaload, 1) := by decide +kernel
theorem dX8_findChips_111 : decode cX8_findChips 111 = .ok (.if_icmp .ge 41, 3) := by decide +kernel
theorem dX8_findChips_114 : decode cX8_findChips 114 = .ok (.iload_n 3, 1) := by decide +kernel
theorem dX8_findChips_115 : decode cX8_findChips 115 = .ok (.ifCond .eq 29, 3) := by decide +kernel
theorem dX8_findChips_118 : decode cX8_findChips 118 = .ok (.aload_n 0, 1) := by decide +kernel
theorem dX8_findChips_119 : decode cX8_findChips 119 = .ok (.getfield 32, 3) := by decide +kernel
theorem dX8_findChips_122 : decode cX8_findChips 122 = .ok (.iload 4, 2) := by decide +kernel
theorem dX8_findChips_124 : decode cX8_findChips 124 = .ok (.iaload, 1) := by decide +kernel
theorem dX8_findChips_125 : decode cX8_findChips 125 = .ok (.aload_n 0, 1) := by decide +kernel
theorem dX8_findChips_126 : decode cX8_findChips 126 = .ok (.getfield 63, 3) := by decide +kernel
theorem dX8_findChips_129 : decode cX8_findChips 129 = .ok (.bipush 40, 2) := by decide +kernel
theorem dX8_findChips_131 : decode cX8_findChips 131 = .ok (.iload_n 1, 1) := by decide +kernel
theorem dX8_findChips_132 : decode cX8_findChips 132 = .ok (.imul, 1) := by decide +kernel
theorem dX8_findChips_133 : decode cX8_findChips 133 = .ok (.iload 4, 2) := by decide +kernel
theorem dX8_findChips_135 : decode cX8_findChips 135 = .ok (.iadd, 1) := by decide +kernel
theorem dX8_findChips_136 : decode cX8_findChips 136 = .ok (.iaload, 1) := by decide +kernel
theorem dX8_findChips_137 : decode cX8_findChips 137 = .ok (.if_icmp .ne 7, 3) := by decide +kernel
theorem dX8_findChips_140 : decode cX8_findChips 140 = .ok (.iconst 1, 1) := by decide +kernel
theorem dX8_findChips_141 : decode cX8_findChips 141 = .ok (.goto 4, 3) := by decide +kernel
theorem dX8_findChips_144 : decode cX8_findChips 144 = .ok (.iconst 0, 1) := by decide +kernel
theorem dX8_findChips_145 : decode cX8_findChips 145 = .ok (.istore_n 3, 1) := by decide +kernel
theorem dX8_findChips_146 : decode cX8_findChips 146 = .ok (.iinc 4 1, 3) := by decide +kernel
theorem dX8_findChips_149 : decode cX8_findChips 149 = .ok (.goto (-57), 3) := by decide +kernel
theorem dX8_findChips_152 : decode cX8_findChips 152 = .ok (.iload_n 3, 1) := by decide +kernel
theorem dX8_findChips_153 : decode cX8_findChips 153 = .ok (.ifCond .eq 52, 3) := by decide +kernel
theorem dX8_findChips_156 : decode cX8_findChips 156 = .ok (.aload_n 0, 1) := by decide +kernel
theorem dX8_findChips_157 : decode cX8_findChips 157 = .ok (.aload_n 0, 1) := by decide +kernel
theorem dX8_findChips_158 : decode cX8_findChips 158 = .ok (.getfield 249, 3) := by decide +kernel
theorem dX8_findChips_161 : decode cX8_findChips 161 = .ok (.ifCond .ne 7, 3) := by decide +kernel
theorem dX8_findChips_164 : decode cX8_findChips 164 = .ok (.iload_n 2, 1) := by decide +kernel
theorem dX8_findChips_165 : decode cX8_findChips 165 = .ok (.goto 7, 3) := by decide +kernel
theorem dX8_findChips_168 : decode cX8_findChips 168 = .ok (.aload_n 0, 1) := by decide +kernel
theorem dX8_findChips_169 : decode cX8_findChips 169 = .ok (.getfield 252, 3) := by decide +kernel
theorem dX8_findChips_172 : decode cX8_findChips 172 = .ok (.putfield 252, 3) := by decide +kernel
theorem dX8_findChips_175 : decode cX8_findChips 175 = .ok (.aload_n 0, 1) := by decide +kernel
theorem dX8_findChips_176 : decode cX8_findChips 176 = .ok (.dup, 1) := by decide +kernel
theorem dX8_findChips_177 : decode cX8_findChips 177 = .ok (.getfield 249, 3) := by decide +kernel
theorem dX8_findChips_180 : decode cX8_findChips 180 = .ok (.iconst 1, 1) := by decide +kernel
theorem dX8_findChips_181 : decode cX8_findChips 181 = .ok (.iadd, 1) := by decide +kernel
theorem dX8_findChips_182 : decode cX8_findChips 182 = .ok (.putfield 249, 3) := by decide +kernel
theorem dX8_findChips_185 : decode cX8_findChips 185 = .ok (.aload_n 0, 1) := by decide +kernel
theorem dX8_findChips_186 : decode cX8_findChips 186 = .ok (.dup, 1) := by decide +kernel
theorem dX8_findChips_187 : decode cX8_findChips 187 = .ok (.getfield 255, 3) := by decide +kernel
theorem dX8_findChips_190 : decode cX8_findChips 190 = .ok (.iload_n 2, 1) := by decide +kernel
theorem dX8_findChips_191 : decode cX8_findChips 191 = .ok (.iand, 1) := by decide +kernel
theorem dX8_findChips_192 : decode cX8_findChips 192 = .ok (.putfield 255, 3) := by decide +kernel
theorem dX8_findChips_195 : decode cX8_findChips 195 = .ok (.aload_n 0, 1) := by decide +kernel
theorem dX8_findChips_196 : decode cX8_findChips 196 = .ok (.dup, 1) := by decide +kernel
theorem dX8_findChips_197 : decode cX8_findChips 197 = .ok (.getfield 258, 3) := by decide +kernel
theorem dX8_findChips_200 : decode cX8_findChips 200 = .ok (.iload_n 2, 1) := by decide +kernel
theorem dX8_findChips_201 : decode cX8_findChips 201 = .ok (.ior, 1) := by decide +kernel
theorem dX8_findChips_202 : decode cX8_findChips 202 = .ok (.putfield 258, 3) := by decide +kernel
theorem dX8_findChips_205 : decode cX8_findChips 205 = .ok (.iinc 2 1, 3) := by decide +kernel
theorem dX8_findChips_208 : decode cX8_findChips 208 = .ok (.goto (-166), 3) := by decide +kernel
theorem dX8_findChips_211 : decode cX8_findChips 211 = .ok (.aload_n 0, 1) := by decide +kernel
theorem dX8_findChips_212 : decode cX8_findChips 212 = .ok (.getfield 13, 3) := by decide +kernel
theorem dX8_findChips_215 : decode cX8_findChips 215 = .ok (.aload_n 0, 1) := by decide +kernel
theorem dX8_findChips_216 : decode cX8_findChips 216 = .ok (.getfield 7, 3) := by decide +kernel
theorem dX8_findChips_219 : decode cX8_findChips 219 = .ok (.invokestatic 189, 3) := by decide +kernel
theorem dX8_findChips_222 : decode cX8_findChips 222 = .ok (.return_, 1) := by decide +kernel
set_option maxRecDepth 20000 in
theorem ggX8_chips_X8_whyNone : GoodIn wsX8_chips wsX8_whyNone := goodIn_r _ [6, 7, 8, 9, 5, 10, 11, 12, 13, 14, 67, 68, 69, 70, 71, 72, 73, 74, 75, 76, 77, 78, 79, 80, 81, 82, 83, 84, 85, 86, 87, 88, 89, 90, 91, 92, 93, 94, 95, 96, 97, 98, 99, 100, 101, 102, 103, 104, 105, 106, 107, 108, 109] (by exact rfl) (by decide +kernel)
set_option maxRecDepth 20000 in
theorem gX8_chips_X8_whyNone : GoodIn wsX8_chips (wsV RX8 261 RX8 yX8_whyNone wsX8_whyNone) := goodIn_app (goodIn_of _ (by decide +kernel)) ggX8_chips_X8_whyNone
set_option maxRecDepth 20000 in
theorem ggX8_chips_X8_finds : GoodIn wsX8_chips wsX8_finds := goodIn_r _ [18, 19, 20, 67, 68, 69, 70, 71, 72, 73, 74, 75, 76, 77, 78, 79, 80, 81, 82, 83, 84, 85, 86, 87, 88, 89, 90, 91, 92, 93, 94, 95, 96, 97, 98, 99, 100, 101, 102, 103, 104, 105, 106, 107, 108, 109] (by exact rfl) (by decide +kernel)
set_option maxRecDepth 20000 in
theorem gX8_chips_X8_finds : GoodIn wsX8_chips (wsV RX8 115 RX8 yX8_finds wsX8_finds) := goodIn_app (goodIn_of _ (by decide +kernel)) ggX8_chips_X8_finds
set_option maxRecDepth 20000 in
theorem ggX8_chips_X8_findChips : GoodIn wsX8_chips wsX8_findChips := goodIn_r _ [24, 25, 26, 1, 27, 28, 29, 30, 31, 32, 33, 34, 5, 35, 36, 37, 38, 39, 40, 41, 42, 43, 44, 45, 46, 47, 48, 49, 50, 51, 52, 53, 54, 55, 56, 57, 58, 59, 60, 61, 62, 63, 64, 65, 66, 67, 68, 69, 70, 71, 72, 73, 74, 75, 76, 77, 78, 79, 80, 81, 82, 83, 84, 85, 86, 87, 88, 89, 90, 91, 92, 93, 94, 95, 96, 97, 98, 99, 100, 101, 102, 103, 104, 105, 106, 107, 108, 109] (by exact rfl) (by decide +kernel)
set_option maxRecDepth 20000 in
theorem gX8_chips_X8_findChips : GoodIn wsX8_chips (wsV RX8 264 RX8 yX8_findChips wsX8_findChips) := goodIn_app (goodIn_of _ (by decide +kernel)) ggX8_chips_X8_findChips
theorem dX8_chips_0 : decode cX8_chips 0 = .ok (.aload_n 0, 1) := by decide +kernel
theorem dX8_chips_1 : decode cX8_chips 1 = .ok (.iload_n 1, 1) := by decide +kernel
theorem dX8_chips_2 : decode cX8_chips 2 = .ok (.invokevirtual 261, 3) := by decide +kernel
theorem dX8_chips_5 : decode cX8_chips 5 = .ok (.istore_n 2, 1) := by decide +kernel
theorem dX8_chips_6 : decode cX8_chips 6 = .ok (.iload_n 2, 1) := by decide +kernel
theorem dX8_chips_7 : decode cX8_chips 7 = .ok (.ifCond .lt 9, 3) := by decide +kernel
theorem dX8_chips_10 : decode cX8_chips 10 = .ok (.aload_n 0, 1) := by decide +kernel
theorem dX8_chips_11 : decode cX8_chips 11 = .ok (.iload_n 2, 1) := by decide +kernel
theorem dX8_chips_12 : decode cX8_chips 12 = .ok (.invokevirtual 115, 3) := by decide +kernel
theorem dX8_chips_15 : decode cX8_chips 15 = .ok (.ireturn, 1) := by decide +kernel
theorem dX8_chips_16 : decode cX8_chips 16 = .ok (.aload_n 0, 1) := by decide +kernel
theorem dX8_chips_17 : decode cX8_chips 17 = .ok (.iload_n 1, 1) := by decide +kernel
theorem dX8_chips_18 : decode cX8_chips 18 = .ok (.invokevirtual 264, 3) := by decide +kernel
theorem dX8_chips_21 : decode cX8_chips 21 = .ok (.aload_n 0, 1) := by decide +kernel
theorem dX8_chips_22 : decode cX8_chips 22 = .ok (.getfield 249, 3) := by decide +kernel
theorem dX8_chips_25 : decode cX8_chips 25 = .ok (.ireturn, 1) := by decide +kernel
set_option maxRecDepth 20000 in
theorem ggX8_chipped_X8_in : GoodIn wsX8_chipped wsX8_in := goodIn_r _ [9] (by exact rfl) (by decide +kernel)
set_option maxRecDepth 20000 in
theorem gX8_chipped_X8_in : GoodIn wsX8_chipped (va_wsS RX8 70 yX8_in wsX8_in) := goodIn_app (goodIn_of _ (by decide +kernel)) ggX8_chipped_X8_in
set_option maxRecDepth 20000 in
theorem ggX8_chipped_X8_finds : GoodIn wsX8_chipped wsX8_finds := goodIn_r _ [13, 14, 15, 68, 69, 70, 71, 72, 73, 74, 75, 76, 77, 78, 79, 80, 81, 82, 83, 84, 85, 86, 87, 88, 89, 90, 91, 92, 93, 94, 95, 96, 97, 98, 99, 100, 101, 102, 103, 104, 105, 106, 107, 108, 109, 110] (by exact rfl) (by decide +kernel)
set_option maxRecDepth 20000 in
theorem gX8_chipped_X8_finds : GoodIn wsX8_chipped (wsV RX8 115 RX8 yX8_finds wsX8_finds) := goodIn_app (goodIn_of _ (by decide +kernel)) ggX8_chipped_X8_finds
set_option maxRecDepth 20000 in
theorem ggX8_chipped_X8_whyNone : GoodIn wsX8_chipped wsX8_whyNone := goodIn_r _ [19, 20, 21, 22, 8, 23, 24, 6, 7, 9, 68, 69, 70, 71, 72, 73, 74, 75, 76, 77, 78, 79, 80, 81, 82, 83, 84, 85, 86, 87, 88, 89, 90, 91, 92, 93, 94, 95, 96, 97, 98, 99, 100, 101, 102, 103, 104, 105, 106, 107, 108, 109, 110] (by exact rfl) (by decide +kernel)
set_option maxRecDepth 20000 in
theorem gX8_chipped_X8_whyNone : GoodIn wsX8_chipped (wsV RX8 261 RX8 yX8_whyNone wsX8_whyNone) := goodIn_app (goodIn_of _ (by decide +kernel)) ggX8_chipped_X8_whyNone
set_option maxRecDepth 20000 in
theorem ggX8_chipped_X8_findChips : GoodIn wsX8_chipped wsX8_findChips := goodIn_r _ [28, 29, 30, 2, 3, 4, 5, 31, 32, 33, 34, 35, 8, 36, 37, 38, 39, 40, 41, 42, 43, 44, 45, 46, 47, 48, 49, 50, 51, 52, 53, 54, 55, 56, 57, 58, 59, 60, 61, 62, 63, 64, 65, 66, 67, 68, 69, 70, 71, 72, 73, 74, 75, 76, 77, 78, 79, 80, 81, 82, 83, 84, 85, 86, 87, 88, 89, 90, 91, 92, 93, 94, 95, 96, 97, 98, 99, 100, 101, 102, 103, 104, 105, 106, 107, 108, 109, 110] (by exact rfl) (by decide +kernel)
set_option maxRecDepth 20000 in
theorem gX8_chipped_X8_findChips : GoodIn wsX8_chipped (wsV RX8 264 RX8 yX8_findChips wsX8_findChips) := goodIn_app (goodIn_of _ (by decide +kernel)) ggX8_chipped_X8_findChips
theorem dX8_chipped_0 : decode cX8_chipped 0 = .ok (.iload_n 2, 1) := by decide +kernel
theorem dX8_chipped_1 : decode cX8_chipped 1 = .ok (.i2l, 1) := by decide +kernel
theorem dX8_chipped_2 : decode cX8_chipped 2 = .ok (.lconst 0, 1) := by decide +kernel
theorem dX8_chipped_3 : decode cX8_chipped 3 = .ok (.ldc2_w 156, 3) := by decide +kernel
theorem dX8_chipped_6 : decode cX8_chipped 6 = .ok (.invokestatic 70, 3) := by decide +kernel
theorem dX8_chipped_9 : decode cX8_chipped 9 = .ok (.ifCond .ne 9, 3) := by decide +kernel
theorem dX8_chipped_12 : decode cX8_chipped 12 = .ok (.aload_n 0, 1) := by decide +kernel
theorem dX8_chipped_13 : decode cX8_chipped 13 = .ok (.iconst 0, 1) := by decide +kernel
theorem dX8_chipped_14 : decode cX8_chipped 14 = .ok (.invokevirtual 115, 3) := by decide +kernel
theorem dX8_chipped_17 : decode cX8_chipped 17 = .ok (.ireturn, 1) := by decide +kernel
theorem dX8_chipped_18 : decode cX8_chipped 18 = .ok (.aload_n 0, 1) := by decide +kernel
theorem dX8_chipped_19 : decode cX8_chipped 19 = .ok (.iload_n 1, 1) := by decide +kernel
theorem dX8_chipped_20 : decode cX8_chipped 20 = .ok (.invokevirtual 261, 3) := by decide +kernel
theorem dX8_chipped_23 : decode cX8_chipped 23 = .ok (.istore_n 3, 1) := by decide +kernel
theorem dX8_chipped_24 : decode cX8_chipped 24 = .ok (.iload_n 3, 1) := by decide +kernel
theorem dX8_chipped_25 : decode cX8_chipped 25 = .ok (.ifCond .lt 9, 3) := by decide +kernel
theorem dX8_chipped_28 : decode cX8_chipped 28 = .ok (.aload_n 0, 1) := by decide +kernel
theorem dX8_chipped_29 : decode cX8_chipped 29 = .ok (.iload_n 3, 1) := by decide +kernel
theorem dX8_chipped_30 : decode cX8_chipped 30 = .ok (.invokevirtual 115, 3) := by decide +kernel
theorem dX8_chipped_33 : decode cX8_chipped 33 = .ok (.ireturn, 1) := by decide +kernel
theorem dX8_chipped_34 : decode cX8_chipped 34 = .ok (.aload_n 0, 1) := by decide +kernel
theorem dX8_chipped_35 : decode cX8_chipped 35 = .ok (.iload_n 1, 1) := by decide +kernel
theorem dX8_chipped_36 : decode cX8_chipped 36 = .ok (.invokevirtual 264, 3) := by decide +kernel
theorem dX8_chipped_39 : decode cX8_chipped 39 = .ok (.aload_n 0, 1) := by decide +kernel
theorem dX8_chipped_40 : decode cX8_chipped 40 = .ok (.getfield 249, 3) := by decide +kernel
theorem dX8_chipped_43 : decode cX8_chipped 43 = .ok (.ifCond .ne 11, 3) := by decide +kernel
theorem dX8_chipped_46 : decode cX8_chipped 46 = .ok (.aload_n 0, 1) := by decide +kernel
theorem dX8_chipped_47 : decode cX8_chipped 47 = .ok (.iconst 3, 1) := by decide +kernel
theorem dX8_chipped_48 : decode cX8_chipped 48 = .ok (.invokevirtual 115, 3) := by decide +kernel
theorem dX8_chipped_51 : decode cX8_chipped 51 = .ok (.goto 30, 3) := by decide +kernel
theorem dX8_chipped_54 : decode cX8_chipped 54 = .ok (.iload_n 2, 1) := by decide +kernel
theorem dX8_chipped_55 : decode cX8_chipped 55 = .ok (.ifCond .ne 10, 3) := by decide +kernel
theorem dX8_chipped_58 : decode cX8_chipped 58 = .ok (.aload_n 0, 1) := by decide +kernel
theorem dX8_chipped_59 : decode cX8_chipped 59 = .ok (.getfield 252, 3) := by decide +kernel
theorem dX8_chipped_62 : decode cX8_chipped 62 = .ok (.goto 19, 3) := by decide +kernel
theorem dX8_chipped_65 : decode cX8_chipped 65 = .ok (.iload_n 2, 1) := by decide +kernel
theorem dX8_chipped_66 : decode cX8_chipped 66 = .ok (.iconst 1, 1) := by decide +kernel
theorem dX8_chipped_67 : decode cX8_chipped 67 = .ok (.if_icmp .ne 10, 3) := by decide +kernel
theorem dX8_chipped_70 : decode cX8_chipped 70 = .ok (.aload_n 0, 1) := by decide +kernel
theorem dX8_chipped_71 : decode cX8_chipped 71 = .ok (.getfield 255, 3) := by decide +kernel
theorem dX8_chipped_74 : decode cX8_chipped 74 = .ok (.goto 7, 3) := by decide +kernel
theorem dX8_chipped_77 : decode cX8_chipped 77 = .ok (.aload_n 0, 1) := by decide +kernel
theorem dX8_chipped_78 : decode cX8_chipped 78 = .ok (.getfield 258, 3) := by decide +kernel
theorem dX8_chipped_81 : decode cX8_chipped 81 = .ok (.ireturn, 1) := by decide +kernel
set_option maxRecDepth 20000 in
theorem ggX8_truly_X8_isBasin : GoodIn wsX8_truly wsX8_isBasin := goodIn_r _ [8, 2, 9, 10, 7, 11, 45, 46, 47, 48, 49, 50, 51, 52, 53, 54, 55, 56, 57, 58, 59, 60, 61, 62, 63, 64, 65, 66, 67, 68, 69, 70, 71, 72, 73, 74, 75, 76, 77, 78, 79, 80, 81, 82, 83, 84, 85, 86, 87] (by exact rfl) (by decide +kernel)
set_option maxRecDepth 20000 in
theorem gX8_truly_X8_isBasin : GoodIn wsX8_truly (wsV RX8 109 RX8 yX8_isBasin wsX8_isBasin) := goodIn_app (goodIn_of _ (by decide +kernel)) ggX8_truly_X8_isBasin
set_option maxRecDepth 20000 in
theorem ggX8_truly_X8_in : GoodIn wsX8_truly wsX8_in := goodIn_r _ [11] (by exact rfl) (by decide +kernel)
set_option maxRecDepth 20000 in
theorem gX8_truly_X8_in : GoodIn wsX8_truly (va_wsS RX8 70 yX8_in wsX8_in) := goodIn_app (goodIn_of _ (by decide +kernel)) ggX8_truly_X8_in
set_option maxRecDepth 20000 in
theorem ggX8_truly_X8_finds : GoodIn wsX8_truly wsX8_finds := goodIn_r _ [15, 16, 17, 45, 46, 47, 48, 49, 50, 51, 52, 53, 54, 55, 56, 57, 58, 59, 60, 61, 62, 63, 64, 65, 66, 67, 68, 69, 70, 71, 72, 73, 74, 75, 76, 77, 78, 79, 80, 81, 82, 83, 84, 85, 86, 87] (by exact rfl) (by decide +kernel)
set_option maxRecDepth 20000 in
theorem gX8_truly_X8_finds : GoodIn wsX8_truly (wsV RX8 115 RX8 yX8_finds wsX8_finds) := goodIn_app (goodIn_of _ (by decide +kernel)) ggX8_truly_X8_finds
set_option maxRecDepth 20000 in
theorem ggX8_truly_X8_look : GoodIn wsX8_truly wsX8_look := goodIn_r _ [21, 22, 23, 24, 25, 2, 3, 26, 27, 28, 29, 30, 7, 31, 32, 33, 34, 35, 36, 37, 38, 39, 40, 41, 42, 43, 44, 45, 46, 47, 48, 49, 50, 51, 52, 53, 54, 55, 56, 57, 58, 59, 60, 61, 62, 63, 64, 65, 66, 67, 68, 69, 70, 71, 72, 73, 74, 75, 76, 77, 78, 79, 80, 81, 82, 83, 84, 85, 86, 87] (by exact rfl) (by decide +kernel)
set_option maxRecDepth 20000 in
theorem gX8_truly_X8_look : GoodIn wsX8_truly (wsV RX8 102 RX8 yX8_look wsX8_look) := goodIn_app (goodIn_of _ (by decide +kernel)) ggX8_truly_X8_look
theorem dX8_truly_0 : decode cX8_truly 0 = .ok (.aload_n 0, 1) := by decide +kernel
theorem dX8_truly_1 : decode cX8_truly 1 = .ok (.iload_n 1, 1) := by decide +kernel
theorem dX8_truly_2 : decode cX8_truly 2 = .ok (.invokevirtual 109, 3) := by decide +kernel
theorem dX8_truly_5 : decode cX8_truly 5 = .ok (.ifCond .eq 25, 3) := by decide +kernel
theorem dX8_truly_8 : decode cX8_truly 8 = .ok (.iload_n 2, 1) := by decide +kernel
theorem dX8_truly_9 : decode cX8_truly 9 = .ok (.i2l, 1) := by decide +kernel
theorem dX8_truly_10 : decode cX8_truly 10 = .ok (.lconst 0, 1) := by decide +kernel
theorem dX8_truly_11 : decode cX8_truly 11 = .ok (.ldc2_w 267, 3) := by decide +kernel
theorem dX8_truly_14 : decode cX8_truly 14 = .ok (.invokestatic 70, 3) := by decide +kernel
theorem dX8_truly_17 : decode cX8_truly 17 = .ok (.ifCond .eq 13, 3) := by decide +kernel
theorem dX8_truly_20 : decode cX8_truly 20 = .ok (.iload_n 3, 1) := by decide +kernel
theorem dX8_truly_21 : decode cX8_truly 21 = .ok (.i2l, 1) := by decide +kernel
theorem dX8_truly_22 : decode cX8_truly 22 = .ok (.lconst 0, 1) := by decide +kernel
theorem dX8_truly_23 : decode cX8_truly 23 = .ok (.lconst 1, 1) := by decide +kernel
theorem dX8_truly_24 : decode cX8_truly 24 = .ok (.invokestatic 70, 3) := by decide +kernel
theorem dX8_truly_27 : decode cX8_truly 27 = .ok (.ifCond .ne 9, 3) := by decide +kernel
theorem dX8_truly_30 : decode cX8_truly 30 = .ok (.aload_n 0, 1) := by decide +kernel
theorem dX8_truly_31 : decode cX8_truly 31 = .ok (.iconst 0, 1) := by decide +kernel
theorem dX8_truly_32 : decode cX8_truly 32 = .ok (.invokevirtual 115, 3) := by decide +kernel
theorem dX8_truly_35 : decode cX8_truly 35 = .ok (.ireturn, 1) := by decide +kernel
theorem dX8_truly_36 : decode cX8_truly 36 = .ok (.aload_n 0, 1) := by decide +kernel
theorem dX8_truly_37 : decode cX8_truly 37 = .ok (.getfield 7, 3) := by decide +kernel
theorem dX8_truly_40 : decode cX8_truly 40 = .ok (.iconst 3, 1) := by decide +kernel
theorem dX8_truly_41 : decode cX8_truly 41 = .ok (.iaload, 1) := by decide +kernel
theorem dX8_truly_42 : decode cX8_truly 42 = .ok (.istore 4, 2) := by decide +kernel
theorem dX8_truly_44 : decode cX8_truly 44 = .ok (.iconst (-1), 1) := by decide +kernel
theorem dX8_truly_45 : decode cX8_truly 45 = .ok (.istore 5, 2) := by decide +kernel
theorem dX8_truly_47 : decode cX8_truly 47 = .ok (.iconst 0, 1) := by decide +kernel
theorem dX8_truly_48 : decode cX8_truly 48 = .ok (.istore 6, 2) := by decide +kernel
theorem dX8_truly_50 : decode cX8_truly 50 = .ok (.iload 6, 2) := by decide +kernel
theorem dX8_truly_52 : decode cX8_truly 52 = .ok (.sipush 9999, 3) := by decide +kernel
theorem dX8_truly_55 : decode cX8_truly 55 = .ok (.if_icmp .gt 50, 3) := by decide +kernel
theorem dX8_truly_58 : decode cX8_truly 58 = .ok (.aload_n 0, 1) := by decide +kernel
theorem dX8_truly_59 : decode cX8_truly 59 = .ok (.getfield 7, 3) := by decide +kernel
theorem dX8_truly_62 : decode cX8_truly 62 = .ok (.iconst 3, 1) := by decide +kernel
theorem dX8_truly_63 : decode cX8_truly 63 = .ok (.iload 6, 2) := by decide +kernel
theorem dX8_truly_65 : decode cX8_truly 65 = .ok (.iastore, 1) := by decide +kernel
theorem dX8_truly_66 : decode cX8_truly 66 = .ok (.aload_n 0, 1) := by decide +kernel
theorem dX8_truly_67 : decode cX8_truly 67 = .ok (.invokevirtual 102, 3) := by decide +kernel
theorem dX8_truly_70 : decode cX8_truly 70 = .ok (.aload_n 0, 1) := by decide +kernel
theorem dX8_truly_71 : decode cX8_truly 71 = .ok (.getfield 32, 3) := by decide +kernel
theorem dX8_truly_74 : decode cX8_truly 74 = .ok (.iload_n 1, 1) := by decide +kernel
theorem dX8_truly_75 : decode cX8_truly 75 = .ok (.iaload, 1) := by decide +kernel
theorem dX8_truly_76 : decode cX8_truly 76 = .ok (.iload_n 2, 1) := by decide +kernel
theorem dX8_truly_77 : decode cX8_truly 77 = .ok (.if_icmp .ne 22, 3) := by decide +kernel
theorem dX8_truly_80 : decode cX8_truly 80 = .ok (.iload_n 3, 1) := by decide +kernel
theorem dX8_truly_81 : decode cX8_truly 81 = .ok (.iconst 1, 1) := by decide +kernel
theorem dX8_truly_82 : decode cX8_truly 82 = .ok (.if_icmp .eq 8, 3) := by decide +kernel
theorem dX8_truly_85 : decode cX8_truly 85 = .ok (.iload 5, 2) := by decide +kernel
theorem dX8_truly_87 : decode cX8_truly 87 = .ok (.ifCond .ge 8, 3) := by decide +kernel
theorem dX8_truly_90 : decode cX8_truly 90 = .ok (.iload 6, 2) := by decide +kernel
theorem dX8_truly_92 : decode cX8_truly 92 = .ok (.goto 5, 3) := by decide +kernel
theorem dX8_truly_95 : decode cX8_truly 95 = .ok (.iload 5, 2) := by decide +kernel
theorem dX8_truly_97 : decode cX8_truly 97 = .ok (.istore 5, 2) := by decide +kernel
theorem dX8_truly_99 : decode cX8_truly 99 = .ok (.iinc 6 1, 3) := by decide +kernel
theorem dX8_truly_102 : decode cX8_truly 102 = .ok (.goto (-52), 3) := by decide +kernel
theorem dX8_truly_105 : decode cX8_truly 105 = .ok (.aload_n 0, 1) := by decide +kernel
theorem dX8_truly_106 : decode cX8_truly 106 = .ok (.getfield 7, 3) := by decide +kernel
theorem dX8_truly_109 : decode cX8_truly 109 = .ok (.iconst 3, 1) := by decide +kernel
theorem dX8_truly_110 : decode cX8_truly 110 = .ok (.iload 4, 2) := by decide +kernel
theorem dX8_truly_112 : decode cX8_truly 112 = .ok (.iastore, 1) := by decide +kernel
theorem dX8_truly_113 : decode cX8_truly 113 = .ok (.iload 5, 2) := by decide +kernel
theorem dX8_truly_115 : decode cX8_truly 115 = .ok (.ifCond .ge 11, 3) := by decide +kernel
theorem dX8_truly_118 : decode cX8_truly 118 = .ok (.aload_n 0, 1) := by decide +kernel
theorem dX8_truly_119 : decode cX8_truly 119 = .ok (.iconst 3, 1) := by decide +kernel
theorem dX8_truly_120 : decode cX8_truly 120 = .ok (.invokevirtual 115, 3) := by decide +kernel
theorem dX8_truly_123 : decode cX8_truly 123 = .ok (.goto 5, 3) := by decide +kernel
theorem dX8_truly_126 : decode cX8_truly 126 = .ok (.iload 5, 2) := by decide +kernel
theorem dX8_truly_128 : decode cX8_truly 128 = .ok (.ireturn, 1) := by decide +kernel
theorem dX8_drawn_0 : decode cX8_drawn 0 = .ok (.aload_n 0, 1) := by decide +kernel
theorem dX8_drawn_1 : decode cX8_drawn 1 = .ok (.getfield 7, 3) := by decide +kernel
theorem dX8_drawn_4 : decode cX8_drawn 4 = .ok (.iconst 2, 1) := by decide +kernel
theorem dX8_drawn_5 : decode cX8_drawn 5 = .ok (.aload_n 0, 1) := by decide +kernel
theorem dX8_drawn_6 : decode cX8_drawn 6 = .ok (.getfield 7, 3) := by decide +kernel
theorem dX8_drawn_9 : decode cX8_drawn 9 = .ok (.iconst 2, 1) := by decide +kernel
theorem dX8_drawn_10 : decode cX8_drawn 10 = .ok (.iaload, 1) := by decide +kernel
theorem dX8_drawn_11 : decode cX8_drawn 11 = .ok (.ldc_w 269, 3) := by decide +kernel
theorem dX8_drawn_14 : decode cX8_drawn 14 = .ok (.imul, 1) := by decide +kernel
theorem dX8_drawn_15 : decode cX8_drawn 15 = .ok (.sipush 12345, 3) := by decide +kernel
theorem dX8_drawn_18 : decode cX8_drawn 18 = .ok (.iadd, 1) := by decide +kernel
theorem dX8_drawn_19 : decode cX8_drawn 19 = .ok (.iastore, 1) := by decide +kernel
theorem dX8_drawn_20 : decode cX8_drawn 20 = .ok (.aload_n 0, 1) := by decide +kernel
theorem dX8_drawn_21 : decode cX8_drawn 21 = .ok (.getfield 7, 3) := by decide +kernel
theorem dX8_drawn_24 : decode cX8_drawn 24 = .ok (.iconst 2, 1) := by decide +kernel
theorem dX8_drawn_25 : decode cX8_drawn 25 = .ok (.iaload, 1) := by decide +kernel
theorem dX8_drawn_26 : decode cX8_drawn 26 = .ok (.bipush 8, 2) := by decide +kernel
theorem dX8_drawn_28 : decode cX8_drawn 28 = .ok (.iushr, 1) := by decide +kernel
theorem dX8_drawn_29 : decode cX8_drawn 29 = .ok (.ireturn, 1) := by decide +kernel
set_option maxRecDepth 20000 in
theorem ggX8_weather_X8_in : GoodIn wsX8_weather wsX8_in := goodIn_r _ [6] (by exact rfl) (by decide +kernel)
set_option maxRecDepth 20000 in
theorem gX8_weather_X8_in : GoodIn wsX8_weather (va_wsS RX8 70 yX8_in wsX8_in) := goodIn_app (goodIn_of _ (by decide +kernel)) ggX8_weather_X8_in
set_option maxRecDepth 20000 in
theorem ggX8_weather_X8_finds : GoodIn wsX8_weather wsX8_finds := goodIn_r _ [10, 11, 12, 62, 63, 64, 65, 66, 67, 68, 69, 70, 71, 72, 73, 74, 75, 76, 77, 78, 79, 80, 81, 82, 83, 84, 85, 86, 87, 88, 89, 90, 91, 92, 93, 94, 95, 96, 97, 98, 99, 100, 101, 102, 103, 104] (by exact rfl) (by decide +kernel)
set_option maxRecDepth 20000 in
theorem gX8_weather_X8_finds : GoodIn wsX8_weather (wsV RX8 115 RX8 yX8_finds wsX8_finds) := goodIn_app (goodIn_of _ (by decide +kernel)) ggX8_weather_X8_finds
set_option maxRecDepth 20000 in
theorem ggX8_weather_X8_isLate : GoodIn wsX8_weather wsX8_isLate := goodIn_r _ [16, 2, 62, 63, 64, 65, 66, 67, 68, 69, 70, 71, 72, 73, 74, 75, 76, 77, 78, 79, 80, 81, 82, 83, 84, 85, 86, 87, 88, 89, 90, 91, 92, 93, 94, 95, 96, 97, 98, 99, 100, 101, 102, 103, 104] (by exact rfl) (by decide +kernel)
set_option maxRecDepth 20000 in
theorem gX8_weather_X8_isLate : GoodIn wsX8_weather (wsV RX8 206 RX8 yX8_isLate wsX8_isLate) := goodIn_app (goodIn_of _ (by decide +kernel)) ggX8_weather_X8_isLate
set_option maxRecDepth 20000 in
theorem ggX8_weather_X8_drawn : GoodIn wsX8_weather wsX8_drawn := goodIn_r _ [20, 2, 21, 62, 63, 64, 65, 66, 67, 68, 69, 70, 71, 72, 73, 74, 75, 76, 77, 78, 79, 80, 81, 82, 83, 84, 85, 86, 87, 88, 89, 90, 91, 92, 93, 94, 95, 96, 97, 98, 99, 100, 101, 102, 103, 104] (by exact rfl) (by decide +kernel)
set_option maxRecDepth 20000 in
theorem gX8_weather_X8_drawn : GoodIn wsX8_weather (wsV RX8 272 RX8 yX8_drawn wsX8_drawn) := goodIn_app (goodIn_of _ (by decide +kernel)) ggX8_weather_X8_drawn
set_option maxRecDepth 20000 in
theorem ggX8_weather_X8_goOn : GoodIn wsX8_weather wsX8_goOn := goodIn_r _ [25, 26, 27, 28, 29, 5, 30, 2, 31, 32, 33, 34, 35, 36, 37, 38, 39, 40, 41, 42, 43, 44, 45, 46, 47, 48, 49, 50, 51, 52, 53, 54, 55, 56, 57, 58, 59, 60, 61, 62, 63, 64, 65, 66, 67, 68, 69, 70, 71, 72, 73, 74, 75, 76, 77, 78, 79, 80, 81, 82, 83, 84, 85, 86, 87, 88, 89, 90, 91, 92, 93, 94, 95, 96, 97, 98, 99, 100, 101, 102, 103, 104] (by exact rfl) (by decide +kernel)
set_option maxRecDepth 20000 in
theorem gX8_weather_X8_goOn : GoodIn wsX8_weather (wsV RX8 209 RX8 yX8_goOn wsX8_goOn) := goodIn_app (goodIn_of _ (by decide +kernel)) ggX8_weather_X8_goOn
theorem dX8_weather_0 : decode cX8_weather 0 = .ok (.iload_n 1, 1) := by decide +kernel
theorem dX8_weather_1 : decode cX8_weather 1 = .ok (.i2l, 1) := by decide +kernel
theorem dX8_weather_2 : decode cX8_weather 2 = .ok (.lconst 1, 1) := by decide +kernel
theorem dX8_weather_3 : decode cX8_weather 3 = .ok (.ldc2_w 270, 3) := by decide +kernel
theorem dX8_weather_6 : decode cX8_weather 6 = .ok (.invokestatic 70, 3) := by decide +kernel
theorem dX8_weather_9 : decode cX8_weather 9 = .ok (.ifCond .ne 9, 3) := by decide +kernel
theorem dX8_weather_12 : decode cX8_weather 12 = .ok (.aload_n 0, 1) := by decide +kernel
theorem dX8_weather_13 : decode cX8_weather 13 = .ok (.iconst 0, 1) := by decide +kernel
theorem dX8_weather_14 : decode cX8_weather 14 = .ok (.invokevirtual 115, 3) := by decide +kernel
theorem dX8_weather_17 : decode cX8_weather 17 = .ok (.ireturn, 1) := by decide +kernel
theorem dX8_weather_18 : decode cX8_weather 18 = .ok (.aload_n 0, 1) := by decide +kernel
theorem dX8_weather_19 : decode cX8_weather 19 = .ok (.iload_n 1, 1) := by decide +kernel
theorem dX8_weather_20 : decode cX8_weather 20 = .ok (.invokevirtual 206, 3) := by decide +kernel
theorem dX8_weather_23 : decode cX8_weather 23 = .ok (.ifCond .eq 9, 3) := by decide +kernel
theorem dX8_weather_26 : decode cX8_weather 26 = .ok (.aload_n 0, 1) := by decide +kernel
theorem dX8_weather_27 : decode cX8_weather 27 = .ok (.iconst 4, 1) := by decide +kernel
theorem dX8_weather_28 : decode cX8_weather 28 = .ok (.invokevirtual 115, 3) := by decide +kernel
theorem dX8_weather_31 : decode cX8_weather 31 = .ok (.ireturn, 1) := by decide +kernel
theorem dX8_weather_32 : decode cX8_weather 32 = .ok (.iconst 0, 1) := by decide +kernel
theorem dX8_weather_33 : decode cX8_weather 33 = .ok (.istore_n 2, 1) := by decide +kernel
theorem dX8_weather_34 : decode cX8_weather 34 = .ok (.iconst 0, 1) := by decide +kernel
theorem dX8_weather_35 : decode cX8_weather 35 = .ok (.istore_n 3, 1) := by decide +kernel
theorem dX8_weather_36 : decode cX8_weather 36 = .ok (.iload_n 3, 1) := by decide +kernel
theorem dX8_weather_37 : decode cX8_weather 37 = .ok (.iload_n 1, 1) := by decide +kernel
theorem dX8_weather_38 : decode cX8_weather 38 = .ok (.if_icmp .ge 31, 3) := by decide +kernel
theorem dX8_weather_41 : decode cX8_weather 41 = .ok (.aload_n 0, 1) := by decide +kernel
theorem dX8_weather_42 : decode cX8_weather 42 = .ok (.getfield 7, 3) := by decide +kernel
theorem dX8_weather_45 : decode cX8_weather 45 = .ok (.iconst 3, 1) := by decide +kernel
theorem dX8_weather_46 : decode cX8_weather 46 = .ok (.aload_n 0, 1) := by decide +kernel
theorem dX8_weather_47 : decode cX8_weather 47 = .ok (.invokevirtual 272, 3) := by decide +kernel
theorem dX8_weather_50 : decode cX8_weather 50 = .ok (.sipush 300, 3) := by decide +kernel
theorem dX8_weather_53 : decode cX8_weather 53 = .ok (.irem, 1) := by decide +kernel
theorem dX8_weather_54 : decode cX8_weather 54 = .ok (.iastore, 1) := by decide +kernel
theorem dX8_weather_55 : decode cX8_weather 55 = .ok (.iload_n 2, 1) := by decide +kernel
theorem dX8_weather_56 : decode cX8_weather 56 = .ok (.aload_n 0, 1) := by decide +kernel
theorem dX8_weather_57 : decode cX8_weather 57 = .ok (.iconst 1, 1) := by decide +kernel
theorem dX8_weather_58 : decode cX8_weather 58 = .ok (.invokevirtual 209, 3) := by decide +kernel
theorem dX8_weather_61 : decode cX8_weather 61 = .ok (.iadd, 1) := by decide +kernel
theorem dX8_weather_62 : decode cX8_weather 62 = .ok (.istore_n 2, 1) := by decide +kernel
theorem dX8_weather_63 : decode cX8_weather 63 = .ok (.iinc 3 1, 3) := by decide +kernel
theorem dX8_weather_66 : decode cX8_weather 66 = .ok (.goto (-30), 3) := by decide +kernel
theorem dX8_weather_69 : decode cX8_weather 69 = .ok (.iload_n 2, 1) := by decide +kernel
theorem dX8_weather_70 : decode cX8_weather 70 = .ok (.ireturn, 1) := by decide +kernel
set_option maxRecDepth 20000 in
theorem ggX8_wear_X8_in : GoodIn wsX8_wear wsX8_in := goodIn_r _ [7] (by exact rfl) (by decide +kernel)
set_option maxRecDepth 20000 in
theorem gX8_wear_X8_in : GoodIn wsX8_wear (va_wsS RX8 70 yX8_in wsX8_in) := goodIn_app (goodIn_of _ (by decide +kernel)) ggX8_wear_X8_in
set_option maxRecDepth 20000 in
theorem ggX8_wear_X8_finds : GoodIn wsX8_wear wsX8_finds := goodIn_r _ [11, 12, 13, 50, 51, 52, 53, 54, 55, 56, 57, 58, 59, 60, 61, 62, 63, 64, 65, 66, 67, 68, 69, 70, 71, 72, 73, 74, 75, 76, 77, 78, 79, 80, 81, 82, 83, 84, 85, 86, 87, 88, 89, 90, 91, 92] (by exact rfl) (by decide +kernel)
set_option maxRecDepth 20000 in
theorem gX8_wear_X8_finds : GoodIn wsX8_wear (wsV RX8 115 RX8 yX8_finds wsX8_finds) := goodIn_app (goodIn_of _ (by decide +kernel)) ggX8_wear_X8_finds
set_option maxRecDepth 20000 in
theorem ggX8_wear_X8_drawn : GoodIn wsX8_wear wsX8_drawn := goodIn_r _ [17, 2, 18, 50, 51, 52, 53, 54, 55, 56, 57, 58, 59, 60, 61, 62, 63, 64, 65, 66, 67, 68, 69, 70, 71, 72, 73, 74, 75, 76, 77, 78, 79, 80, 81, 82, 83, 84, 85, 86, 87, 88, 89, 90, 91, 92] (by exact rfl) (by decide +kernel)
set_option maxRecDepth 20000 in
theorem gX8_wear_X8_drawn : GoodIn wsX8_wear (wsV RX8 272 RX8 yX8_drawn wsX8_drawn) := goodIn_app (goodIn_of _ (by decide +kernel)) ggX8_wear_X8_drawn
set_option maxRecDepth 20000 in
theorem ggX8_wear_X8_sets : GoodIn wsX8_wear wsX8_sets := goodIn_r _ [22, 2, 50, 51, 52, 53, 54, 55, 56, 57, 58, 59, 60, 61, 62, 63, 64, 65, 66, 67, 68, 69, 70, 71, 72, 73, 74, 75, 76, 77, 78, 79, 80, 81, 82, 83, 84, 85, 86, 87, 88, 89, 90, 91, 92] (by exact rfl) (by decide +kernel)
set_option maxRecDepth 20000 in
theorem gX8_wear_X8_sets : GoodIn wsX8_wear (wsV RX8 105 RX8 yX8_sets wsX8_sets) := goodIn_app (goodIn_of _ (by decide +kernel)) ggX8_wear_X8_sets
set_option maxRecDepth 20000 in
theorem ggX8_wear_X8_look : GoodIn wsX8_wear wsX8_look := goodIn_r _ [26, 27, 3, 28, 29, 2, 30, 31, 32, 33, 34, 35, 6, 36, 37, 38, 39, 40, 41, 42, 43, 44, 45, 46, 47, 48, 49, 50, 51, 52, 53, 54, 55, 56, 57, 58, 59, 60, 61, 62, 63, 64, 65, 66, 67, 68, 69, 70, 71, 72, 73, 74, 75, 76, 77, 78, 79, 80, 81, 82, 83, 84, 85, 86, 87, 88, 89, 90, 91, 92] (by exact rfl) (by decide +kernel)
set_option maxRecDepth 20000 in
theorem gX8_wear_X8_look : GoodIn wsX8_wear (wsV RX8 102 RX8 yX8_look wsX8_look) := goodIn_app (goodIn_of _ (by decide +kernel)) ggX8_wear_X8_look
theorem dX8_wear_0 : decode cX8_wear 0 = .ok (.iload_n 1, 1) := by decide +kernel
theorem dX8_wear_1 : decode cX8_wear 1 = .ok (.i2l, 1) := by decide +kernel
theorem dX8_wear_2 : decode cX8_wear 2 = .ok (.lconst 1, 1) := by decide +kernel
theorem dX8_wear_3 : decode cX8_wear 3 = .ok (.ldc2_w 270, 3) := by decide +kernel
theorem dX8_wear_6 : decode cX8_wear 6 = .ok (.invokestatic 70, 3) := by decide +kernel
theorem dX8_wear_9 : decode cX8_wear 9 = .ok (.ifCond .ne 9, 3) := by decide +kernel
theorem dX8_wear_12 : decode cX8_wear 12 = .ok (.aload_n 0, 1) := by decide +kernel
theorem dX8_wear_13 : decode cX8_wear 13 = .ok (.iconst 0, 1) := by decide +kernel
theorem dX8_wear_14 : decode cX8_wear 14 = .ok (.invokevirtual 115, 3) := by decide +kernel
theorem dX8_wear_17 : decode cX8_wear 17 = .ok (.ireturn, 1) := by decide +kernel
theorem dX8_wear_18 : decode cX8_wear 18 = .ok (.aload_n 0, 1) := by decide +kernel
theorem dX8_wear_19 : decode cX8_wear 19 = .ok (.getfield 7, 3) := by decide +kernel
theorem dX8_wear_22 : decode cX8_wear 22 = .ok (.iconst 0, 1) := by decide +kernel
theorem dX8_wear_23 : decode cX8_wear 23 = .ok (.iaload, 1) := by decide +kernel
theorem dX8_wear_24 : decode cX8_wear 24 = .ok (.ifCond .ne 9, 3) := by decide +kernel
theorem dX8_wear_27 : decode cX8_wear 27 = .ok (.aload_n 0, 1) := by decide +kernel
theorem dX8_wear_28 : decode cX8_wear 28 = .ok (.iconst 4, 1) := by decide +kernel
theorem dX8_wear_29 : decode cX8_wear 29 = .ok (.invokevirtual 115, 3) := by decide +kernel
theorem dX8_wear_32 : decode cX8_wear 32 = .ok (.ireturn, 1) := by decide +kernel
theorem dX8_wear_33 : decode cX8_wear 33 = .ok (.iconst 0, 1) := by decide +kernel
theorem dX8_wear_34 : decode cX8_wear 34 = .ok (.istore_n 2, 1) := by decide +kernel
theorem dX8_wear_35 : decode cX8_wear 35 = .ok (.iload_n 2, 1) := by decide +kernel
theorem dX8_wear_36 : decode cX8_wear 36 = .ok (.iload_n 1, 1) := by decide +kernel
theorem dX8_wear_37 : decode cX8_wear 37 = .ok (.if_icmp .ge 34, 3) := by decide +kernel
theorem dX8_wear_40 : decode cX8_wear 40 = .ok (.aload_n 0, 1) := by decide +kernel
theorem dX8_wear_41 : decode cX8_wear 41 = .ok (.invokevirtual 272, 3) := by decide +kernel
theorem dX8_wear_44 : decode cX8_wear 44 = .ok (.aload_n 0, 1) := by decide +kernel
theorem dX8_wear_45 : decode cX8_wear 45 = .ok (.getfield 7, 3) := by decide +kernel
theorem dX8_wear_48 : decode cX8_wear 48 = .ok (.iconst 0, 1) := by decide +kernel
theorem dX8_wear_49 : decode cX8_wear 49 = .ok (.iaload, 1) := by decide +kernel
theorem dX8_wear_50 : decode cX8_wear 50 = .ok (.irem, 1) := by decide +kernel
theorem dX8_wear_51 : decode cX8_wear 51 = .ok (.istore_n 3, 1) := by decide +kernel
theorem dX8_wear_52 : decode cX8_wear 52 = .ok (.aload_n 0, 1) := by decide +kernel
theorem dX8_wear_53 : decode cX8_wear 53 = .ok (.iload_n 3, 1) := by decide +kernel
theorem dX8_wear_54 : decode cX8_wear 54 = .ok (.iconst 0, 1) := by decide +kernel
theorem dX8_wear_55 : decode cX8_wear 55 = .ok (.aload_n 0, 1) := by decide +kernel
theorem dX8_wear_56 : decode cX8_wear 56 = .ok (.invokevirtual 272, 3) := by decide +kernel
theorem dX8_wear_59 : decode cX8_wear 59 = .ok (.bipush 7, 2) := by decide +kernel
theorem dX8_wear_61 : decode cX8_wear 61 = .ok (.irem, 1) := by decide +kernel
theorem dX8_wear_62 : decode cX8_wear 62 = .ok (.invokevirtual 105, 3) := by decide +kernel
theorem dX8_wear_65 : decode cX8_wear 65 = .ok (.iinc 2 1, 3) := by decide +kernel
theorem dX8_wear_68 : decode cX8_wear 68 = .ok (.goto (-33), 3) := by decide +kernel
theorem dX8_wear_71 : decode cX8_wear 71 = .ok (.aload_n 0, 1) := by decide +kernel
theorem dX8_wear_72 : decode cX8_wear 72 = .ok (.invokevirtual 102, 3) := by decide +kernel
theorem dX8_wear_75 : decode cX8_wear 75 = .ok (.aload_n 0, 1) := by decide +kernel
theorem dX8_wear_76 : decode cX8_wear 76 = .ok (.getfield 82, 3) := by decide +kernel
theorem dX8_wear_79 : decode cX8_wear 79 = .ok (.ireturn, 1) := by decide +kernel
theorem dX8_seed_0 : decode cX8_seed 0 = .ok (.aload_n 0, 1) := by decide +kernel
theorem dX8_seed_1 : decode cX8_seed 1 = .ok (.getfield 7, 3) := by decide +kernel
theorem dX8_seed_4 : decode cX8_seed 4 = .ok (.iconst 2, 1) := by decide +kernel
theorem dX8_seed_5 : decode cX8_seed 5 = .ok (.iaload, 1) := by decide +kernel
theorem dX8_seed_6 : decode cX8_seed 6 = .ok (.istore_n 2, 1) := by decide +kernel
theorem dX8_seed_7 : decode cX8_seed 7 = .ok (.aload_n 0, 1) := by decide +kernel
theorem dX8_seed_8 : decode cX8_seed 8 = .ok (.getfield 7, 3) := by decide +kernel
theorem dX8_seed_11 : decode cX8_seed 11 = .ok (.iconst 2, 1) := by decide +kernel
theorem dX8_seed_12 : decode cX8_seed 12 = .ok (.iload_n 1, 1) := by decide +kernel
theorem dX8_seed_13 : decode cX8_seed 13 = .ok (.iastore, 1) := by decide +kernel
theorem dX8_seed_14 : decode cX8_seed 14 = .ok (.iload_n 2, 1) := by decide +kernel
theorem dX8_seed_15 : decode cX8_seed 15 = .ok (.ireturn, 1) := by decide +kernel
set_option maxRecDepth 20000 in
theorem ggX8_feed_X8_in : GoodIn wsX8_feed wsX8_in := goodIn_r _ [7] (by exact rfl) (by decide +kernel)
set_option maxRecDepth 20000 in
theorem gX8_feed_X8_in : GoodIn wsX8_feed (va_wsS RX8 70 yX8_in wsX8_in) := goodIn_app (goodIn_of _ (by decide +kernel)) ggX8_feed_X8_in
set_option maxRecDepth 20000 in
theorem ggX8_feed_X8_finds : GoodIn wsX8_feed wsX8_finds := goodIn_r _ [11, 12, 13, 14, 15, 16, 17, 18, 19, 20, 21, 22, 23, 24, 25, 26, 27, 28, 29, 30, 31, 32, 33, 34, 35, 36, 37, 38, 39, 40, 41, 42, 43, 44, 45, 46, 47, 48, 49, 50, 51, 52, 53, 54, 55, 56] (by exact rfl) (by decide +kernel)
set_option maxRecDepth 20000 in
theorem gX8_feed_X8_finds : GoodIn wsX8_feed (wsV RX8 115 RX8 yX8_finds wsX8_finds) := goodIn_app (goodIn_of _ (by decide +kernel)) ggX8_feed_X8_finds
theorem dX8_feed_0 : decode cX8_feed 0 = .ok (.iload_n 2, 1) := by decide +kernel
theorem dX8_feed_1 : decode cX8_feed 1 = .ok (.i2l, 1) := by decide +kernel
theorem dX8_feed_2 : decode cX8_feed 2 = .ok (.lconst 1, 1) := by decide +kernel
theorem dX8_feed_3 : decode cX8_feed 3 = .ok (.ldc2_w 146, 3) := by decide +kernel
theorem dX8_feed_6 : decode cX8_feed 6 = .ok (.invokestatic 70, 3) := by decide +kernel
theorem dX8_feed_9 : decode cX8_feed 9 = .ok (.ifCond .ne 9, 3) := by decide +kernel
theorem dX8_feed_12 : decode cX8_feed 12 = .ok (.aload_n 0, 1) := by decide +kernel
theorem dX8_feed_13 : decode cX8_feed 13 = .ok (.iconst 0, 1) := by decide +kernel
theorem dX8_feed_14 : decode cX8_feed 14 = .ok (.invokevirtual 115, 3) := by decide +kernel
theorem dX8_feed_17 : decode cX8_feed 17 = .ok (.ireturn, 1) := by decide +kernel
theorem dX8_feed_18 : decode cX8_feed 18 = .ok (.aload_n 0, 1) := by decide +kernel
theorem dX8_feed_19 : decode cX8_feed 19 = .ok (.getfield 276, 3) := by decide +kernel
theorem dX8_feed_22 : decode cX8_feed 22 = .ok (.iload_n 2, 1) := by decide +kernel
theorem dX8_feed_23 : decode cX8_feed 23 = .ok (.iadd, 1) := by decide +kernel
theorem dX8_feed_24 : decode cX8_feed 24 = .ok (.bipush 120, 2) := by decide +kernel
theorem dX8_feed_26 : decode cX8_feed 26 = .ok (.if_icmp .le 9, 3) := by decide +kernel
theorem dX8_feed_29 : decode cX8_feed 29 = .ok (.aload_n 0, 1) := by decide +kernel
theorem dX8_feed_30 : decode cX8_feed 30 = .ok (.iconst 1, 1) := by decide +kernel
theorem dX8_feed_31 : decode cX8_feed 31 = .ok (.invokevirtual 115, 3) := by decide +kernel
theorem dX8_feed_34 : decode cX8_feed 34 = .ok (.ireturn, 1) := by decide +kernel
theorem dX8_feed_35 : decode cX8_feed 35 = .ok (.iload_n 2, 1) := by decide +kernel
theorem dX8_feed_36 : decode cX8_feed 36 = .ok (.iconst 1, 1) := by decide +kernel
theorem dX8_feed_37 : decode cX8_feed 37 = .ok (.isub, 1) := by decide +kernel
theorem dX8_feed_38 : decode cX8_feed 38 = .ok (.istore_n 3, 1) := by decide +kernel
theorem dX8_feed_39 : decode cX8_feed 39 = .ok (.iload_n 3, 1) := by decide +kernel
theorem dX8_feed_40 : decode cX8_feed 40 = .ok (.ifCond .lt 35, 3) := by decide +kernel
theorem dX8_feed_43 : decode cX8_feed 43 = .ok (.aload_n 0, 1) := by decide +kernel
theorem dX8_feed_44 : decode cX8_feed 44 = .ok (.getfield 25, 3) := by decide +kernel
theorem dX8_feed_47 : decode cX8_feed 47 = .ok (.aload_n 0, 1) := by decide +kernel
theorem dX8_feed_48 : decode cX8_feed 48 = .ok (.getfield 276, 3) := by decide +kernel
theorem dX8_feed_51 : decode cX8_feed 51 = .ok (.iload_n 1, 1) := by decide +kernel
theorem dX8_feed_52 : decode cX8_feed 52 = .ok (.bipush 8, 2) := by decide +kernel
theorem dX8_feed_54 : decode cX8_feed 54 = .ok (.iload_n 3, 1) := by decide +kernel
theorem dX8_feed_55 : decode cX8_feed 55 = .ok (.imul, 1) := by decide +kernel
theorem dX8_feed_56 : decode cX8_feed 56 = .ok (.ishr, 1) := by decide +kernel
theorem dX8_feed_57 : decode cX8_feed 57 = .ok (.i2b, 1) := by decide +kernel
theorem dX8_feed_58 : decode cX8_feed 58 = .ok (.bastore, 1) := by decide +kernel
theorem dX8_feed_59 : decode cX8_feed 59 = .ok (.aload_n 0, 1) := by decide +kernel
theorem dX8_feed_60 : decode cX8_feed 60 = .ok (.dup, 1) := by decide +kernel
theorem dX8_feed_61 : decode cX8_feed 61 = .ok (.getfield 276, 3) := by decide +kernel
theorem dX8_feed_64 : decode cX8_feed 64 = .ok (.iconst 1, 1) := by decide +kernel
theorem dX8_feed_65 : decode cX8_feed 65 = .ok (.iadd, 1) := by decide +kernel
theorem dX8_feed_66 : decode cX8_feed 66 = .ok (.putfield 276, 3) := by decide +kernel
theorem dX8_feed_69 : decode cX8_feed 69 = .ok (.iinc 3 (-1), 3) := by decide +kernel
theorem dX8_feed_72 : decode cX8_feed 72 = .ok (.goto (-33), 3) := by decide +kernel
theorem dX8_feed_75 : decode cX8_feed 75 = .ok (.aload_n 0, 1) := by decide +kernel
theorem dX8_feed_76 : decode cX8_feed 76 = .ok (.getfield 276, 3) := by decide +kernel
theorem dX8_feed_79 : decode cX8_feed 79 = .ok (.ireturn, 1) := by decide +kernel
theorem dX8_wipe_0 : decode cX8_wipe 0 = .ok (.aload_n 0, 1) := by decide +kernel
theorem dX8_wipe_1 : decode cX8_wipe 1 = .ok (.getfield 276, 3) := by decide +kernel
theorem dX8_wipe_4 : decode cX8_wipe 4 = .ok (.istore_n 1, 1) := by decide +kernel
theorem dX8_wipe_5 : decode cX8_wipe 5 = .ok (.aload_n 0, 1) := by decide +kernel
theorem dX8_wipe_6 : decode cX8_wipe 6 = .ok (.iconst 0, 1) := by decide +kernel
theorem dX8_wipe_7 : decode cX8_wipe 7 = .ok (.putfield 276, 3) := by decide +kernel
theorem dX8_wipe_10 : decode cX8_wipe 10 = .ok (.iload_n 1, 1) := by decide +kernel
theorem dX8_wipe_11 : decode cX8_wipe 11 = .ok (.ireturn, 1) := by decide +kernel
theorem dX8_letter_0 : decode cX8_letter 0 = .ok (.iload_n 0, 1) := by decide +kernel
theorem dX8_letter_1 : decode cX8_letter 1 = .ok (.bipush 97, 2) := by decide +kernel
theorem dX8_letter_3 : decode cX8_letter 3 = .ok (.if_icmp .lt 18, 3) := by decide +kernel
theorem dX8_letter_6 : decode cX8_letter 6 = .ok (.iload_n 0, 1) := by decide +kernel
theorem dX8_letter_7 : decode cX8_letter 7 = .ok (.bipush 122, 2) := by decide +kernel
theorem dX8_letter_9 : decode cX8_letter 9 = .ok (.if_icmp .gt 12, 3) := by decide +kernel
theorem dX8_letter_12 : decode cX8_letter 12 = .ok (.iload_n 0, 1) := by decide +kernel
theorem dX8_letter_13 : decode cX8_letter 13 = .ok (.bipush 97, 2) := by decide +kernel
theorem dX8_letter_15 : decode cX8_letter 15 = .ok (.isub, 1) := by decide +kernel
theorem dX8_letter_16 : decode cX8_letter 16 = .ok (.iconst 1, 1) := by decide +kernel
theorem dX8_letter_17 : decode cX8_letter 17 = .ok (.iadd, 1) := by decide +kernel
theorem dX8_letter_18 : decode cX8_letter 18 = .ok (.goto 4, 3) := by decide +kernel
theorem dX8_letter_21 : decode cX8_letter 21 = .ok (.iconst 0, 1) := by decide +kernel
theorem dX8_letter_22 : decode cX8_letter 22 = .ok (.ireturn, 1) := by decide +kernel
theorem dX8_isDigit_0 : decode cX8_isDigit 0 = .ok (.iload_n 0, 1) := by decide +kernel
theorem dX8_isDigit_1 : decode cX8_isDigit 1 = .ok (.bipush 48, 2) := by decide +kernel
theorem dX8_isDigit_3 : decode cX8_isDigit 3 = .ok (.if_icmp .lt 13, 3) := by decide +kernel
theorem dX8_isDigit_6 : decode cX8_isDigit 6 = .ok (.iload_n 0, 1) := by decide +kernel
theorem dX8_isDigit_7 : decode cX8_isDigit 7 = .ok (.bipush 57, 2) := by decide +kernel
theorem dX8_isDigit_9 : decode cX8_isDigit 9 = .ok (.if_icmp .gt 7, 3) := by decide +kernel
theorem dX8_isDigit_12 : decode cX8_isDigit 12 = .ok (.iconst 1, 1) := by decide +kernel
theorem dX8_isDigit_13 : decode cX8_isDigit 13 = .ok (.goto 4, 3) := by decide +kernel
theorem dX8_isDigit_16 : decode cX8_isDigit 16 = .ok (.iconst 0, 1) := by decide +kernel
theorem dX8_isDigit_17 : decode cX8_isDigit 17 = .ok (.ireturn, 1) := by decide +kernel
theorem dX8_byteAt_0 : decode cX8_byteAt 0 = .ok (.iload_n 1, 1) := by decide +kernel
theorem dX8_byteAt_1 : decode cX8_byteAt 1 = .ok (.aload_n 0, 1) := by decide +kernel
theorem dX8_byteAt_2 : decode cX8_byteAt 2 = .ok (.getfield 276, 3) := by decide +kernel
theorem dX8_byteAt_5 : decode cX8_byteAt 5 = .ok (.if_icmp .ge 12, 3) := by decide +kernel
theorem dX8_byteAt_8 : decode cX8_byteAt 8 = .ok (.aload_n 0, 1) := by decide +kernel
theorem dX8_byteAt_9 : decode cX8_byteAt 9 = .ok (.getfield 25, 3) := by decide +kernel
theorem dX8_byteAt_12 : decode cX8_byteAt 12 = .ok (.iload_n 1, 1) := by decide +kernel
theorem dX8_byteAt_13 : decode cX8_byteAt 13 = .ok (.baload, 1) := by decide +kernel
theorem dX8_byteAt_14 : decode cX8_byteAt 14 = .ok (.goto 4, 3) := by decide +kernel
theorem dX8_byteAt_17 : decode cX8_byteAt 17 = .ok (.iconst (-1), 1) := by decide +kernel
theorem dX8_byteAt_18 : decode cX8_byteAt 18 = .ok (.ireturn, 1) := by decide +kernel
set_option maxRecDepth 20000 in
theorem ggX8_next_X8_byteAt : GoodIn wsX8_next wsX8_byteAt := goodIn_r _ [15, 4, 16, 23, 24, 25, 26, 27, 28, 29, 30, 31, 32, 33, 34, 35, 36, 37, 38, 39, 40, 41, 42, 43, 44, 45, 46, 47, 48, 49, 50, 51, 52, 53, 54, 55, 56, 57, 58, 59, 60, 61, 62, 63, 64, 65] (by exact rfl) (by decide +kernel)
set_option maxRecDepth 20000 in
theorem gX8_next_X8_byteAt : GoodIn wsX8_next (wsV RX8 282 RX8 yX8_byteAt wsX8_byteAt) := goodIn_app (goodIn_of _ (by decide +kernel)) ggX8_next_X8_byteAt
set_option maxRecDepth 20000 in
theorem ggX8_next_X8_letter : GoodIn wsX8_next wsX8_letter := goodIn_r _ [19] (by exact rfl) (by decide +kernel)
set_option maxRecDepth 20000 in
theorem gX8_next_X8_letter : GoodIn wsX8_next (va_wsS RX8 294 yX8_letter wsX8_letter) := goodIn_app (goodIn_of _ (by decide +kernel)) ggX8_next_X8_letter
set_option maxRecDepth 20000 in
theorem ggX8_next_X8_isDigit : GoodIn wsX8_next wsX8_isDigit := goodIn_r _ [22] (by exact rfl) (by decide +kernel)
set_option maxRecDepth 20000 in
theorem gX8_next_X8_isDigit : GoodIn wsX8_next (va_wsS RX8 301 yX8_isDigit wsX8_isDigit) := goodIn_app (goodIn_of _ (by decide +kernel)) ggX8_next_X8_isDigit
theorem dX8_next_0 : decode cX8_next 0 = .ok (.aload_n 0, 1) := by decide +kernel
theorem dX8_next_1 : decode cX8_next 1 = .ok (.aload_n 0, 1) := by decide +kernel
theorem dX8_next_2 : decode cX8_next 2 = .ok (.getfield 279, 3) := by decide +kernel
theorem dX8_next_5 : decode cX8_next 5 = .ok (.invokevirtual 282, 3) := by decide +kernel
theorem dX8_next_8 : decode cX8_next 8 = .ok (.bipush 32, 2) := by decide +kernel
theorem dX8_next_10 : decode cX8_next 10 = .ok (.if_icmp .ne 16, 3) := by decide +kernel
theorem dX8_next_13 : decode cX8_next 13 = .ok (.aload_n 0, 1) := by decide +kernel
theorem dX8_next_14 : decode cX8_next 14 = .ok (.dup, 1) := by decide +kernel
theorem dX8_next_15 : decode cX8_next 15 = .ok (.getfield 279, 3) := by decide +kernel
theorem dX8_next_18 : decode cX8_next 18 = .ok (.iconst 1, 1) := by decide +kernel
theorem dX8_next_19 : decode cX8_next 19 = .ok (.iadd, 1) := by decide +kernel
theorem dX8_next_20 : decode cX8_next 20 = .ok (.putfield 279, 3) := by decide +kernel
theorem dX8_next_23 : decode cX8_next 23 = .ok (.goto (-23), 3) := by decide +kernel
theorem dX8_next_26 : decode cX8_next 26 = .ok (.aload_n 0, 1) := by decide +kernel
theorem dX8_next_27 : decode cX8_next 27 = .ok (.aload_n 0, 1) := by decide +kernel
theorem dX8_next_28 : decode cX8_next 28 = .ok (.getfield 279, 3) := by decide +kernel
theorem dX8_next_31 : decode cX8_next 31 = .ok (.putfield 285, 3) := by decide +kernel
theorem dX8_next_34 : decode cX8_next 34 = .ok (.aload_n 0, 1) := by decide +kernel
theorem dX8_next_35 : decode cX8_next 35 = .ok (.lconst 0, 1) := by decide +kernel
theorem dX8_next_36 : decode cX8_next 36 = .ok (.putfield 288, 3) := by decide +kernel
theorem dX8_next_39 : decode cX8_next 39 = .ok (.aload_n 0, 1) := by decide +kernel
theorem dX8_next_40 : decode cX8_next 40 = .ok (.aload_n 0, 1) := by decide +kernel
theorem dX8_next_41 : decode cX8_next 41 = .ok (.getfield 279, 3) := by decide +kernel
theorem dX8_next_44 : decode cX8_next 44 = .ok (.invokevirtual 282, 3) := by decide +kernel
theorem dX8_next_47 : decode cX8_next 47 = .ok (.istore_n 1, 1) := by decide +kernel
theorem dX8_next_48 : decode cX8_next 48 = .ok (.aload_n 0, 1) := by decide +kernel
theorem dX8_next_49 : decode cX8_next 49 = .ok (.getfield 279, 3) := by decide +kernel
theorem dX8_next_52 : decode cX8_next 52 = .ok (.aload_n 0, 1) := by decide +kernel
theorem dX8_next_53 : decode cX8_next 53 = .ok (.getfield 276, 3) := by decide +kernel
theorem dX8_next_56 : decode cX8_next 56 = .ok (.if_icmp .ne 11, 3) := by decide +kernel
theorem dX8_next_59 : decode cX8_next 59 = .ok (.aload_n 0, 1) := by decide +kernel
theorem dX8_next_60 : decode cX8_next 60 = .ok (.iconst 0, 1) := by decide +kernel
theorem dX8_next_61 : decode cX8_next 61 = .ok (.putfield 291, 3) := by decide +kernel
theorem dX8_next_64 : decode cX8_next 64 = .ok (.goto 197, 3) := by decide +kernel
theorem dX8_next_67 : decode cX8_next 67 = .ok (.iload_n 1, 1) := by decide +kernel
theorem dX8_next_68 : decode cX8_next 68 = .ok (.bipush 59, 2) := by decide +kernel
theorem dX8_next_70 : decode cX8_next 70 = .ok (.if_icmp .ne 21, 3) := by decide +kernel
theorem dX8_next_73 : decode cX8_next 73 = .ok (.aload_n 0, 1) := by decide +kernel
theorem dX8_next_74 : decode cX8_next 74 = .ok (.iconst 3, 1) := by decide +kernel
theorem dX8_next_75 : decode cX8_next 75 = .ok (.putfield 291, 3) := by decide +kernel
theorem dX8_next_78 : decode cX8_next 78 = .ok (.aload_n 0, 1) := by decide +kernel
theorem dX8_next_79 : decode cX8_next 79 = .ok (.dup, 1) := by decide +kernel
theorem dX8_next_80 : decode cX8_next 80 = .ok (.getfield 279, 3) := by decide +kernel
theorem dX8_next_83 : decode cX8_next 83 = .ok (.iconst 1, 1) := by decide +kernel
theorem dX8_next_84 : decode cX8_next 84 = .ok (.iadd, 1) := by decide +kernel
theorem dX8_next_85 : decode cX8_next 85 = .ok (.putfield 279, 3) := by decide +kernel
theorem dX8_next_88 : decode cX8_next 88 = .ok (.goto 173, 3) := by decide +kernel
theorem dX8_next_91 : decode cX8_next 91 = .ok (.iload_n 1, 1) := by decide +kernel
theorem dX8_next_92 : decode cX8_next 92 = .ok (.invokestatic 294, 3) := by decide +kernel
theorem dX8_next_95 : decode cX8_next 95 = .ok (.ifCond .le 78, 3) := by decide +kernel
theorem dX8_next_98 : decode cX8_next 98 = .ok (.aload_n 0, 1) := by decide +kernel
theorem dX8_next_99 : decode cX8_next 99 = .ok (.iconst 1, 1) := by decide +kernel
theorem dX8_next_100 : decode cX8_next 100 = .ok (.putfield 291, 3) := by decide +kernel
theorem dX8_next_103 : decode cX8_next 103 = .ok (.aload_n 0, 1) := by decide +kernel
theorem dX8_next_104 : decode cX8_next 104 = .ok (.aload_n 0, 1) := by decide +kernel
theorem dX8_next_105 : decode cX8_next 105 = .ok (.getfield 279, 3) := by decide +kernel
theorem dX8_next_108 : decode cX8_next 108 = .ok (.invokevirtual 282, 3) := by decide +kernel
theorem dX8_next_111 : decode cX8_next 111 = .ok (.invokestatic 294, 3) := by decide +kernel
theorem dX8_next_114 : decode cX8_next 114 = .ok (.ifCond .le 147, 3) := by decide +kernel
theorem dX8_next_117 : decode cX8_next 117 = .ok (.aload_n 0, 1) := by decide +kernel
theorem dX8_next_118 : decode cX8_next 118 = .ok (.aload_n 0, 1) := by decide +kernel
theorem dX8_next_119 : decode cX8_next 119 = .ok (.getfield 288, 3) := by decide +kernel
theorem dX8_next_122 : decode cX8_next 122 = .ok (.ldc2_w 297, 3) := by decide +kernel
theorem dX8_next_125 : decode cX8_next 125 = .ok (.lcmp, 1) := by decide +kernel
theorem dX8_next_126 : decode cX8_next 126 = .ok (.ifCond .le 10, 3) := by decide +kernel
theorem dX8_next_129 : decode cX8_next 129 = .ok (.aload_n 0, 1) := by decide +kernel
theorem dX8_next_130 : decode cX8_next 130 = .ok (.getfield 288, 3) := by decide +kernel
theorem dX8_next_133 : decode cX8_next 133 = .ok (.goto 24, 3) := by decide +kernel
theorem dX8_next_136 : decode cX8_next 136 = .ok (.aload_n 0, 1) := by decide +kernel
theorem dX8_next_137 : decode cX8_next 137 = .ok (.getfield 288, 3) := by decide +kernel
theorem dX8_next_140 : decode cX8_next 140 = .ok (.ldc2_w 299, 3) := by decide +kernel
theorem dX8_next_143 : decode cX8_next 143 = .ok (.lmul, 1) := by decide +kernel
theorem dX8_next_144 : decode cX8_next 144 = .ok (.aload_n 0, 1) := by decide +kernel
theorem dX8_next_145 : decode cX8_next 145 = .ok (.aload_n 0, 1) := by decide +kernel
theorem dX8_next_146 : decode cX8_next 146 = .ok (.getfield 279, 3) := by decide +kernel
theorem dX8_next_149 : decode cX8_next 149 = .ok (.invokevirtual 282, 3) := by decide +kernel
theorem dX8_next_152 : decode cX8_next 152 = .ok (.invokestatic 294, 3) := by decide +kernel
theorem dX8_next_155 : decode cX8_next 155 = .ok (.i2l, 1) := by decide +kernel
theorem dX8_next_156 : decode cX8_next 156 = .ok (.ladd, 1) := by decide +kernel
theorem dX8_next_157 : decode cX8_next 157 = .ok (.putfield 288, 3) := by decide +kernel
theorem dX8_next_160 : decode cX8_next 160 = .ok (.aload_n 0, 1) := by decide +kernel
theorem dX8_next_161 : decode cX8_next 161 = .ok (.dup, 1) := by decide +kernel
theorem dX8_next_162 : decode cX8_next 162 = .ok (.getfield 279, 3) := by decide +kernel
theorem dX8_next_165 : decode cX8_next 165 = .ok (.iconst 1, 1) := by decide +kernel
theorem dX8_next_166 : decode cX8_next 166 = .ok (.iadd, 1) := by decide +kernel
theorem dX8_next_167 : decode cX8_next 167 = .ok (.putfield 279, 3) := by decide +kernel
theorem dX8_next_170 : decode cX8_next 170 = .ok (.goto (-67), 3) := by decide +kernel
theorem dX8_next_173 : decode cX8_next 173 = .ok (.iload_n 1, 1) := by decide +kernel
theorem dX8_next_174 : decode cX8_next 174 = .ok (.invokestatic 301, 3) := by decide +kernel
theorem dX8_next_177 : decode cX8_next 177 = .ok (.ifCond .eq 79, 3) := by decide +kernel
theorem dX8_next_180 : decode cX8_next 180 = .ok (.aload_n 0, 1) := by decide +kernel
theorem dX8_next_181 : decode cX8_next 181 = .ok (.iconst 2, 1) := by decide +kernel
theorem dX8_next_182 : decode cX8_next 182 = .ok (.putfield 291, 3) := by decide +kernel
theorem dX8_next_185 : decode cX8_next 185 = .ok (.aload_n 0, 1) := by decide +kernel
theorem dX8_next_186 : decode cX8_next 186 = .ok (.aload_n 0, 1) := by decide +kernel
theorem dX8_next_187 : decode cX8_next 187 = .ok (.getfield 279, 3) := by decide +kernel
theorem dX8_next_190 : decode cX8_next 190 = .ok (.invokevirtual 282, 3) := by decide +kernel
theorem dX8_next_193 : decode cX8_next 193 = .ok (.invokestatic 301, 3) := by decide +kernel
theorem dX8_next_196 : decode cX8_next 196 = .ok (.ifCond .eq 65, 3) := by decide +kernel
theorem dX8_next_199 : decode cX8_next 199 = .ok (.aload_n 0, 1) := by decide +kernel
theorem dX8_next_200 : decode cX8_next 200 = .ok (.aload_n 0, 1) := by decide +kernel
theorem dX8_next_201 : decode cX8_next 201 = .ok (.getfield 288, 3) := by decide +kernel
theorem dX8_next_204 : decode cX8_next 204 = .ok (.ldc2_w 127, 3) := by decide +kernel
theorem dX8_next_207 : decode cX8_next 207 = .ok (.lcmp, 1) := by decide +kernel
theorem dX8_next_208 : decode cX8_next 208 = .ok (.ifCond .le 10, 3) := by decide +kernel
theorem dX8_next_211 : decode cX8_next 211 = .ok (.aload_n 0, 1) := by decide +kernel
theorem dX8_next_212 : decode cX8_next 212 = .ok (.getfield 288, 3) := by decide +kernel
theorem dX8_next_215 : decode cX8_next 215 = .ok (.goto 25, 3) := by decide +kernel
theorem dX8_next_218 : decode cX8_next 218 = .ok (.aload_n 0, 1) := by decide +kernel
theorem dX8_next_219 : decode cX8_next 219 = .ok (.getfield 288, 3) := by decide +kernel
theorem dX8_next_222 : decode cX8_next 222 = .ok (.ldc2_w 148, 3) := by decide +kernel
theorem dX8_next_225 : decode cX8_next 225 = .ok (.lmul, 1) := by decide +kernel
theorem dX8_next_226 : decode cX8_next 226 = .ok (.aload_n 0, 1) := by decide +kernel
theorem dX8_next_227 : decode cX8_next 227 = .ok (.aload_n 0, 1) := by decide +kernel
theorem dX8_next_228 : decode cX8_next 228 = .ok (.getfield 279, 3) := by decide +kernel
theorem dX8_next_231 : decode cX8_next 231 = .ok (.invokevirtual 282, 3) := by decide +kernel
theorem dX8_next_234 : decode cX8_next 234 = .ok (.i2l, 1) := by decide +kernel
theorem dX8_next_235 : decode cX8_next 235 = .ok (.ladd, 1) := by decide +kernel
theorem dX8_next_236 : decode cX8_next 236 = .ok (.ldc2_w 304, 3) := by decide +kernel
theorem dX8_next_239 : decode cX8_next 239 = .ok (.lsub, 1) := by decide +kernel
theorem dX8_next_240 : decode cX8_next 240 = .ok (.putfield 288, 3) := by decide +kernel
theorem dX8_next_243 : decode cX8_next 243 = .ok (.aload_n 0, 1) := by decide +kernel
theorem dX8_next_244 : decode cX8_next 244 = .ok (.dup, 1) := by decide +kernel
theorem dX8_next_245 : decode cX8_next 245 = .ok (.getfield 279, 3) := by decide +kernel
theorem dX8_next_248 : decode cX8_next 248 = .ok (.iconst 1, 1) := by decide +kernel
theorem dX8_next_249 : decode cX8_next 249 = .ok (.iadd, 1) := by decide +kernel
theorem dX8_next_250 : decode cX8_next 250 = .ok (.putfield 279, 3) := by decide +kernel
theorem dX8_next_253 : decode cX8_next 253 = .ok (.goto (-68), 3) := by decide +kernel
theorem dX8_next_256 : decode cX8_next 256 = .ok (.aload_n 0, 1) := by decide +kernel
theorem dX8_next_257 : decode cX8_next 257 = .ok (.iconst 4, 1) := by decide +kernel
theorem dX8_next_258 : decode cX8_next 258 = .ok (.putfield 291, 3) := by decide +kernel
theorem dX8_next_261 : decode cX8_next 261 = .ok (.return_, 1) := by decide +kernel
theorem dX8_wrongHere_0 : decode cX8_wrongHere 0 = .ok (.aload_n 0, 1) := by decide +kernel
theorem dX8_wrongHere_1 : decode cX8_wrongHere 1 = .ok (.aload_n 0, 1) := by decide +kernel
theorem dX8_wrongHere_2 : decode cX8_wrongHere 2 = .ok (.getfield 306, 3) := by decide +kernel
theorem dX8_wrongHere_5 : decode cX8_wrongHere 5 = .ok (.ifCond .ge 10, 3) := by decide +kernel
theorem dX8_wrongHere_8 : decode cX8_wrongHere 8 = .ok (.aload_n 0, 1) := by decide +kernel
theorem dX8_wrongHere_9 : decode cX8_wrongHere 9 = .ok (.getfield 285, 3) := by decide +kernel
theorem dX8_wrongHere_12 : decode cX8_wrongHere 12 = .ok (.goto 7, 3) := by decide +kernel
theorem dX8_wrongHere_15 : decode cX8_wrongHere 15 = .ok (.aload_n 0, 1) := by decide +kernel
theorem dX8_wrongHere_16 : decode cX8_wrongHere 16 = .ok (.getfield 306, 3) := by decide +kernel
theorem dX8_wrongHere_19 : decode cX8_wrongHere 19 = .ok (.putfield 306, 3) := by decide +kernel
theorem dX8_wrongHere_22 : decode cX8_wrongHere 22 = .ok (.return_, 1) := by decide +kernel
theorem dX8_isWord_0 : decode cX8_isWord 0 = .ok (.aload_n 0, 1) := by decide +kernel
theorem dX8_isWord_1 : decode cX8_isWord 1 = .ok (.getfield 291, 3) := by decide +kernel
theorem dX8_isWord_4 : decode cX8_isWord 4 = .ok (.iconst 1, 1) := by decide +kernel
theorem dX8_isWord_5 : decode cX8_isWord 5 = .ok (.if_icmp .ne 16, 3) := by decide +kernel
theorem dX8_isWord_8 : decode cX8_isWord 8 = .ok (.aload_n 0, 1) := by decide +kernel
theorem dX8_isWord_9 : decode cX8_isWord 9 = .ok (.getfield 288, 3) := by decide +kernel
theorem dX8_isWord_12 : decode cX8_isWord 12 = .ok (.lload_n 1, 1) := by decide +kernel
theorem dX8_isWord_13 : decode cX8_isWord 13 = .ok (.lcmp, 1) := by decide +kernel
theorem dX8_isWord_14 : decode cX8_isWord 14 = .ok (.ifCond .ne 7, 3) := by decide +kernel
theorem dX8_isWord_17 : decode cX8_isWord 17 = .ok (.iconst 1, 1) := by decide +kernel
theorem dX8_isWord_18 : decode cX8_isWord 18 = .ok (.goto 4, 3) := by decide +kernel
theorem dX8_isWord_21 : decode cX8_isWord 21 = .ok (.iconst 0, 1) := by decide +kernel
theorem dX8_isWord_22 : decode cX8_isWord 22 = .ok (.ireturn, 1) := by decide +kernel
set_option maxRecDepth 20000 in
theorem ggX8_kindHere_X8_isWord : GoodIn wsX8_kindHere wsX8_isWord := goodIn_r _ [12, 13, 14, 15, 16, 17, 18, 19, 20, 21, 22, 23, 24, 25, 26, 27, 28, 29, 30, 31, 32, 33, 34, 35, 36, 37, 38, 39, 40, 41, 42, 43, 44, 45, 46, 47, 48, 49, 50, 51, 52, 53, 54, 55, 56, 57] (by exact rfl) (by decide +kernel)
set_option maxRecDepth 20000 in
theorem gX8_kindHere_X8_isWord : GoodIn wsX8_kindHere (wsV RX8 311 RX8 yX8_isWord wsX8_isWord) := goodIn_app (goodIn_of _ (by decide +kernel)) ggX8_kindHere_X8_isWord
theorem dX8_kindHere_0 : decode cX8_kindHere 0 = .ok (.aload_n 0, 1) := by decide +kernel
theorem dX8_kindHere_1 : decode cX8_kindHere 1 = .ok (.ldc2_w 309, 3) := by decide +kernel
theorem dX8_kindHere_4 : decode cX8_kindHere 4 = .ok (.invokevirtual 311, 3) := by decide +kernel
theorem dX8_kindHere_7 : decode cX8_kindHere 7 = .ok (.ifCond .eq 7, 3) := by decide +kernel
theorem dX8_kindHere_10 : decode cX8_kindHere 10 = .ok (.iconst 0, 1) := by decide +kernel
theorem dX8_kindHere_11 : decode cX8_kindHere 11 = .ok (.goto 89, 3) := by decide +kernel
theorem dX8_kindHere_14 : decode cX8_kindHere 14 = .ok (.aload_n 0, 1) := by decide +kernel
theorem dX8_kindHere_15 : decode cX8_kindHere 15 = .ok (.ldc2_w 315, 3) := by decide +kernel
theorem dX8_kindHere_18 : decode cX8_kindHere 18 = .ok (.invokevirtual 311, 3) := by decide +kernel
theorem dX8_kindHere_21 : decode cX8_kindHere 21 = .ok (.ifCond .eq 7, 3) := by decide +kernel
theorem dX8_kindHere_24 : decode cX8_kindHere 24 = .ok (.iconst 1, 1) := by decide +kernel
theorem dX8_kindHere_25 : decode cX8_kindHere 25 = .ok (.goto 75, 3) := by decide +kernel
theorem dX8_kindHere_28 : decode cX8_kindHere 28 = .ok (.aload_n 0, 1) := by decide +kernel
theorem dX8_kindHere_29 : decode cX8_kindHere 29 = .ok (.ldc2_w 317, 3) := by decide +kernel
theorem dX8_kindHere_32 : decode cX8_kindHere 32 = .ok (.invokevirtual 311, 3) := by decide +kernel
theorem dX8_kindHere_35 : decode cX8_kindHere 35 = .ok (.ifCond .eq 7, 3) := by decide +kernel
theorem dX8_kindHere_38 : decode cX8_kindHere 38 = .ok (.iconst 2, 1) := by decide +kernel
theorem dX8_kindHere_39 : decode cX8_kindHere 39 = .ok (.goto 61, 3) := by decide +kernel
theorem dX8_kindHere_42 : decode cX8_kindHere 42 = .ok (.aload_n 0, 1) := by decide +kernel
theorem dX8_kindHere_43 : decode cX8_kindHere 43 = .ok (.ldc2_w 319, 3) := by decide +kernel
theorem dX8_kindHere_46 : decode cX8_kindHere 46 = .ok (.invokevirtual 311, 3) := by decide +kernel
theorem dX8_kindHere_49 : decode cX8_kindHere 49 = .ok (.ifCond .eq 7, 3) := by decide +kernel
theorem dX8_kindHere_52 : decode cX8_kindHere 52 = .ok (.iconst 3, 1) := by decide +kernel
theorem dX8_kindHere_53 : decode cX8_kindHere 53 = .ok (.goto 47, 3) := by decide +kernel
theorem dX8_kindHere_56 : decode cX8_kindHere 56 = .ok (.aload_n 0, 1) := by decide +kernel
theorem dX8_kindHere_57 : decode cX8_kindHere 57 = .ok (.ldc2_w 321, 3) := by decide +kernel
theorem dX8_kindHere_60 : decode cX8_kindHere 60 = .ok (.invokevirtual 311, 3) := by decide +kernel
theorem dX8_kindHere_63 : decode cX8_kindHere 63 = .ok (.ifCond .eq 7, 3) := by decide +kernel
theorem dX8_kindHere_66 : decode cX8_kindHere 66 = .ok (.iconst 4, 1) := by decide +kernel
theorem dX8_kindHere_67 : decode cX8_kindHere 67 = .ok (.goto 33, 3) := by decide +kernel
theorem dX8_kindHere_70 : decode cX8_kindHere 70 = .ok (.aload_n 0, 1) := by decide +kernel
theorem dX8_kindHere_71 : decode cX8_kindHere 71 = .ok (.ldc2_w 323, 3) := by decide +kernel
theorem dX8_kindHere_74 : decode cX8_kindHere 74 = .ok (.invokevirtual 311, 3) := by decide +kernel
theorem dX8_kindHere_77 : decode cX8_kindHere 77 = .ok (.ifCond .eq 7, 3) := by decide +kernel
theorem dX8_kindHere_80 : decode cX8_kindHere 80 = .ok (.iconst 5, 1) := by decide +kernel
theorem dX8_kindHere_81 : decode cX8_kindHere 81 = .ok (.goto 19, 3) := by decide +kernel
theorem dX8_kindHere_84 : decode cX8_kindHere 84 = .ok (.aload_n 0, 1) := by decide +kernel
theorem dX8_kindHere_85 : decode cX8_kindHere 85 = .ok (.ldc2_w 325, 3) := by decide +kernel
theorem dX8_kindHere_88 : decode cX8_kindHere 88 = .ok (.invokevirtual 311, 3) := by decide +kernel
theorem dX8_kindHere_91 : decode cX8_kindHere 91 = .ok (.ifCond .eq 8, 3) := by decide +kernel
theorem dX8_kindHere_94 : decode cX8_kindHere 94 = .ok (.bipush 6, 2) := by decide +kernel
theorem dX8_kindHere_96 : decode cX8_kindHere 96 = .ok (.goto 4, 3) := by decide +kernel
theorem dX8_kindHere_99 : decode cX8_kindHere 99 = .ok (.iconst (-1), 1) := by decide +kernel
theorem dX8_kindHere_100 : decode cX8_kindHere 100 = .ok (.ireturn, 1) := by decide +kernel
set_option maxRecDepth 20000 in
theorem ggX8_numberHere_X8_in : GoodIn wsX8_numberHere wsX8_in := goodIn_r _ [6] (by exact rfl) (by decide +kernel)
set_option maxRecDepth 20000 in
theorem gX8_numberHere_X8_in : GoodIn wsX8_numberHere (va_wsS RX8 70 yX8_in wsX8_in) := goodIn_app (goodIn_of _ (by decide +kernel)) ggX8_numberHere_X8_in
set_option maxRecDepth 20000 in
theorem ggX8_numberHere_X8_wrongHere : GoodIn wsX8_numberHere wsX8_wrongHere := goodIn_r _ [10, 11, 12, 35, 36, 37, 38, 39, 40, 41, 42, 43, 44, 45, 46, 47, 48, 49, 50, 51, 52, 53, 54, 55, 56, 57, 58, 59, 60, 61, 62, 63, 64, 65, 66, 67, 68, 69, 70, 71, 72, 73, 74, 75, 76, 77] (by exact rfl) (by decide +kernel)
set_option maxRecDepth 20000 in
theorem gX8_numberHere_X8_wrongHere : GoodIn wsX8_numberHere (wsV RX8 327 RX8 yX8_wrongHere wsX8_wrongHere) := goodIn_app (goodIn_of _ (by decide +kernel)) ggX8_numberHere_X8_wrongHere
set_option maxRecDepth 20000 in
theorem ggX8_numberHere_X8_next : GoodIn wsX8_numberHere wsX8_next := goodIn_r _ [16, 17, 12, 1, 18, 2, 19, 20, 21, 22, 23, 24, 25, 26, 5, 27, 28, 29, 30, 31, 32, 33, 34, 35, 36, 37, 38, 39, 40, 41, 42, 43, 44, 45, 46, 47, 48, 49, 50, 51, 52, 53, 54, 55, 56, 57, 58, 59, 60, 61, 62, 63, 64, 65, 66, 67, 68, 69, 70, 71, 72, 73, 74, 75, 76, 77] (by exact rfl) (by decide +kernel)
set_option maxRecDepth 20000 in
theorem gX8_numberHere_X8_next : GoodIn wsX8_numberHere (wsV RX8 330 RX8 yX8_next wsX8_next) := goodIn_app (goodIn_of _ (by decide +kernel)) ggX8_numberHere_X8_next
theorem dX8_numberHere_0 : decode cX8_numberHere 0 = .ok (.aload_n 0, 1) := by decide +kernel
theorem dX8_numberHere_1 : decode cX8_numberHere 1 = .ok (.getfield 288, 3) := by decide +kernel
theorem dX8_numberHere_4 : decode cX8_numberHere 4 = .ok (.l2i, 1) := by decide +kernel
theorem dX8_numberHere_5 : decode cX8_numberHere 5 = .ok (.istore_n 3, 1) := by decide +kernel
theorem dX8_numberHere_6 : decode cX8_numberHere 6 = .ok (.aload_n 0, 1) := by decide +kernel
theorem dX8_numberHere_7 : decode cX8_numberHere 7 = .ok (.getfield 291, 3) := by decide +kernel
theorem dX8_numberHere_10 : decode cX8_numberHere 10 = .ok (.iconst 2, 1) := by decide +kernel
theorem dX8_numberHere_11 : decode cX8_numberHere 11 = .ok (.if_icmp .ne 17, 3) := by decide +kernel
theorem dX8_numberHere_14 : decode cX8_numberHere 14 = .ok (.aload_n 0, 1) := by decide +kernel
theorem dX8_numberHere_15 : decode cX8_numberHere 15 = .ok (.getfield 288, 3) := by decide +kernel
theorem dX8_numberHere_18 : decode cX8_numberHere 18 = .ok (.iload_n 1, 1) := by decide +kernel
theorem dX8_numberHere_19 : decode cX8_numberHere 19 = .ok (.i2l, 1) := by decide +kernel
theorem dX8_numberHere_20 : decode cX8_numberHere 20 = .ok (.iload_n 2, 1) := by decide +kernel
theorem dX8_numberHere_21 : decode cX8_numberHere 21 = .ok (.i2l, 1) := by decide +kernel
theorem dX8_numberHere_22 : decode cX8_numberHere 22 = .ok (.invokestatic 70, 3) := by decide +kernel
theorem dX8_numberHere_25 : decode cX8_numberHere 25 = .ok (.ifCond .ne 9, 3) := by decide +kernel
theorem dX8_numberHere_28 : decode cX8_numberHere 28 = .ok (.aload_n 0, 1) := by decide +kernel
theorem dX8_numberHere_29 : decode cX8_numberHere 29 = .ok (.invokevirtual 327, 3) := by decide +kernel
theorem dX8_numberHere_32 : decode cX8_numberHere 32 = .ok (.iload_n 1, 1) := by decide +kernel
theorem dX8_numberHere_33 : decode cX8_numberHere 33 = .ok (.ireturn, 1) := by decide +kernel
theorem dX8_numberHere_34 : decode cX8_numberHere 34 = .ok (.aload_n 0, 1) := by decide +kernel
theorem dX8_numberHere_35 : decode cX8_numberHere 35 = .ok (.invokevirtual 330, 3) := by decide +kernel
theorem dX8_numberHere_38 : decode cX8_numberHere 38 = .ok (.iload_n 3, 1) := by decide +kernel
theorem dX8_numberHere_39 : decode cX8_numberHere 39 = .ok (.ireturn, 1) := by decide +kernel
set_option maxRecDepth 20000 in
theorem ggX8_basinHere_X8_wrongHere : GoodIn wsX8_basinHere wsX8_wrongHere := goodIn_r _ [9, 3, 10, 54, 55, 56, 57, 58, 59, 60, 61, 62, 63, 64, 65, 66, 67, 68, 69, 70, 71, 72, 73, 74, 75, 76, 77, 78, 79, 80, 81, 82, 83, 84, 85, 86, 87, 88, 89, 90, 91, 92, 93, 94, 95, 96] (by exact rfl) (by decide +kernel)
set_option maxRecDepth 20000 in
theorem gX8_basinHere_X8_wrongHere : GoodIn wsX8_basinHere (wsV RX8 327 RX8 yX8_wrongHere wsX8_wrongHere) := goodIn_app (goodIn_of _ (by decide +kernel)) ggX8_basinHere_X8_wrongHere
set_option maxRecDepth 20000 in
theorem ggX8_basinHere_X8_next : GoodIn wsX8_basinHere wsX8_next := goodIn_r _ [14, 15, 10, 16, 17, 18, 19, 20, 21, 22, 23, 24, 25, 26, 8, 27, 28, 29, 30, 31, 32, 33, 34, 54, 55, 56, 57, 58, 59, 60, 61, 62, 63, 64, 65, 66, 67, 68, 69, 70, 71, 72, 73, 74, 75, 76, 77, 78, 79, 80, 81, 82, 83, 84, 85, 86, 87, 88, 89, 90, 91, 92, 93, 94, 95, 96] (by exact rfl) (by decide +kernel)
set_option maxRecDepth 20000 in
theorem gX8_basinHere_X8_next : GoodIn wsX8_basinHere (wsV RX8 330 RX8 yX8_next wsX8_next) := goodIn_app (goodIn_of _ (by decide +kernel)) ggX8_basinHere_X8_next
set_option maxRecDepth 20000 in
theorem ggX8_basinHere_X8_isWord : GoodIn wsX8_basinHere wsX8_isWord := goodIn_r _ [38, 18, 16, 54, 55, 56, 57, 58, 59, 60, 61, 62, 63, 64, 65, 66, 67, 68, 69, 70, 71, 72, 73, 74, 75, 76, 77, 78, 79, 80, 81, 82, 83, 84, 85, 86, 87, 88, 89, 90, 91, 92, 93, 94, 95, 96] (by exact rfl) (by decide +kernel)
set_option maxRecDepth 20000 in
theorem gX8_basinHere_X8_isWord : GoodIn wsX8_basinHere (wsV RX8 311 RX8 yX8_isWord wsX8_isWord) := goodIn_app (goodIn_of _ (by decide +kernel)) ggX8_basinHere_X8_isWord
set_option maxRecDepth 20000 in
theorem ggX8_basinHere_X8_numberHere : GoodIn wsX8_basinHere wsX8_numberHere := goodIn_r _ [42, 16, 18, 43, 44, 8, 45, 5, 6, 7, 9, 3, 10, 11, 12, 13, 14, 15, 17, 19, 20, 21, 22, 23, 24, 25, 26, 27, 28, 29, 30, 31, 32, 33, 34, 54, 55, 56, 57, 58, 59, 60, 61, 62, 63, 64, 65, 66, 67, 68, 69, 70, 71, 72, 73, 74, 75, 76, 77, 78, 79, 80, 81, 82, 83, 84, 85, 86, 87, 88, 89, 90, 91, 92, 93, 94, 95, 96] (by exact rfl) (by decide +kernel)
set_option maxRecDepth 20000 in
theorem gX8_basinHere_X8_numberHere : GoodIn wsX8_basinHere (wsV RX8 335 RX8 yX8_numberHere wsX8_numberHere) := goodIn_app (goodIn_of _ (by decide +kernel)) ggX8_basinHere_X8_numberHere
set_option maxRecDepth 20000 in
theorem ggX8_basinHere_X8_comes : GoodIn wsX8_basinHere wsX8_comes := goodIn_r _ [49, 1, 50, 51, 52, 8, 53, 54, 55, 56, 57, 58, 59, 60, 61, 62, 63, 64, 65, 66, 67, 68, 69, 70, 71, 72, 73, 74, 75, 76, 77, 78, 79, 80, 81, 82, 83, 84, 85, 86, 87, 88, 89, 90, 91, 92, 93, 94, 95, 96] (by exact rfl) (by decide +kernel)
set_option maxRecDepth 20000 in
theorem gX8_basinHere_X8_comes : GoodIn wsX8_basinHere (wsV RX8 118 RX8 yX8_comes wsX8_comes) := goodIn_app (goodIn_of _ (by decide +kernel)) ggX8_basinHere_X8_comes
theorem dX8_basinHere_0 : decode cX8_basinHere 0 = .ok (.aload_n 0, 1) := by decide +kernel
theorem dX8_basinHere_1 : decode cX8_basinHere 1 = .ok (.getfield 7, 3) := by decide +kernel
theorem dX8_basinHere_4 : decode cX8_basinHere 4 = .ok (.iconst 0, 1) := by decide +kernel
theorem dX8_basinHere_5 : decode cX8_basinHere 5 = .ok (.iaload, 1) := by decide +kernel
theorem dX8_basinHere_6 : decode cX8_basinHere 6 = .ok (.bipush 10, 2) := by decide +kernel
theorem dX8_basinHere_8 : decode cX8_basinHere 8 = .ok (.if_icmp .ne 8, 3) := by decide +kernel
theorem dX8_basinHere_11 : decode cX8_basinHere 11 = .ok (.aload_n 0, 1) := by decide +kernel
theorem dX8_basinHere_12 : decode cX8_basinHere 12 = .ok (.invokevirtual 327, 3) := by decide +kernel
theorem dX8_basinHere_15 : decode cX8_basinHere 15 = .ok (.return_, 1) := by decide +kernel
theorem dX8_basinHere_16 : decode cX8_basinHere 16 = .ok (.aload_n 0, 1) := by decide +kernel
theorem dX8_basinHere_17 : decode cX8_basinHere 17 = .ok (.invokevirtual 330, 3) := by decide +kernel
theorem dX8_basinHere_20 : decode cX8_basinHere 20 = .ok (.iconst (-1), 1) := by decide +kernel
theorem dX8_basinHere_21 : decode cX8_basinHere 21 = .ok (.istore_n 2, 1) := by decide +kernel
theorem dX8_basinHere_22 : decode cX8_basinHere 22 = .ok (.aload_n 0, 1) := by decide +kernel
theorem dX8_basinHere_23 : decode cX8_basinHere 23 = .ok (.getfield 7, 3) := by decide +kernel
theorem dX8_basinHere_26 : decode cX8_basinHere 26 = .ok (.iconst 0, 1) := by decide +kernel
theorem dX8_basinHere_27 : decode cX8_basinHere 27 = .ok (.iaload, 1) := by decide +kernel
theorem dX8_basinHere_28 : decode cX8_basinHere 28 = .ok (.ifCond .le 44, 3) := by decide +kernel
theorem dX8_basinHere_31 : decode cX8_basinHere 31 = .ok (.aload_n 0, 1) := by decide +kernel
theorem dX8_basinHere_32 : decode cX8_basinHere 32 = .ok (.ldc2_w 333, 3) := by decide +kernel
theorem dX8_basinHere_35 : decode cX8_basinHere 35 = .ok (.invokevirtual 311, 3) := by decide +kernel
theorem dX8_basinHere_38 : decode cX8_basinHere 38 = .ok (.ifCond .ne 8, 3) := by decide +kernel
theorem dX8_basinHere_41 : decode cX8_basinHere 41 = .ok (.aload_n 0, 1) := by decide +kernel
theorem dX8_basinHere_42 : decode cX8_basinHere 42 = .ok (.invokevirtual 327, 3) := by decide +kernel
theorem dX8_basinHere_45 : decode cX8_basinHere 45 = .ok (.return_, 1) := by decide +kernel
theorem dX8_basinHere_46 : decode cX8_basinHere 46 = .ok (.aload_n 0, 1) := by decide +kernel
theorem dX8_basinHere_47 : decode cX8_basinHere 47 = .ok (.invokevirtual 330, 3) := by decide +kernel
theorem dX8_basinHere_50 : decode cX8_basinHere 50 = .ok (.aload_n 0, 1) := by decide +kernel
theorem dX8_basinHere_51 : decode cX8_basinHere 51 = .ok (.iconst 0, 1) := by decide +kernel
theorem dX8_basinHere_52 : decode cX8_basinHere 52 = .ok (.aload_n 0, 1) := by decide +kernel
theorem dX8_basinHere_53 : decode cX8_basinHere 53 = .ok (.getfield 7, 3) := by decide +kernel
theorem dX8_basinHere_56 : decode cX8_basinHere 56 = .ok (.iconst 0, 1) := by decide +kernel
theorem dX8_basinHere_57 : decode cX8_basinHere 57 = .ok (.iaload, 1) := by decide +kernel
theorem dX8_basinHere_58 : decode cX8_basinHere 58 = .ok (.iconst 1, 1) := by decide +kernel
theorem dX8_basinHere_59 : decode cX8_basinHere 59 = .ok (.isub, 1) := by decide +kernel
theorem dX8_basinHere_60 : decode cX8_basinHere 60 = .ok (.invokevirtual 335, 3) := by decide +kernel
theorem dX8_basinHere_63 : decode cX8_basinHere 63 = .ok (.istore_n 2, 1) := by decide +kernel
theorem dX8_basinHere_64 : decode cX8_basinHere 64 = .ok (.aload_n 0, 1) := by decide +kernel
theorem dX8_basinHere_65 : decode cX8_basinHere 65 = .ok (.getfield 306, 3) := by decide +kernel
theorem dX8_basinHere_68 : decode cX8_basinHere 68 = .ok (.ifCond .lt 4, 3) := by decide +kernel
theorem dX8_basinHere_71 : decode cX8_basinHere 71 = .ok (.return_, 1) := by decide +kernel
theorem dX8_basinHere_72 : decode cX8_basinHere 72 = .ok (.iconst 1, 1) := by decide +kernel
theorem dX8_basinHere_73 : decode cX8_basinHere 73 = .ok (.istore_n 3, 1) := by decide +kernel
theorem dX8_basinHere_74 : decode cX8_basinHere 74 = .ok (.aload_n 0, 1) := by decide +kernel
theorem dX8_basinHere_75 : decode cX8_basinHere 75 = .ok (.ldc2_w 338, 3) := by decide +kernel
theorem dX8_basinHere_78 : decode cX8_basinHere 78 = .ok (.invokevirtual 311, 3) := by decide +kernel
theorem dX8_basinHere_81 : decode cX8_basinHere 81 = .ok (.ifCond .eq 15, 3) := by decide +kernel
theorem dX8_basinHere_84 : decode cX8_basinHere 84 = .ok (.aload_n 0, 1) := by decide +kernel
theorem dX8_basinHere_85 : decode cX8_basinHere 85 = .ok (.invokevirtual 330, 3) := by decide +kernel
theorem dX8_basinHere_88 : decode cX8_basinHere 88 = .ok (.aload_n 0, 1) := by decide +kernel
theorem dX8_basinHere_89 : decode cX8_basinHere 89 = .ok (.iconst 1, 1) := by decide +kernel
theorem dX8_basinHere_90 : decode cX8_basinHere 90 = .ok (.bipush 9, 2) := by decide +kernel
theorem dX8_basinHere_92 : decode cX8_basinHere 92 = .ok (.invokevirtual 335, 3) := by decide +kernel
theorem dX8_basinHere_95 : decode cX8_basinHere 95 = .ok (.istore_n 3, 1) := by decide +kernel
theorem dX8_basinHere_96 : decode cX8_basinHere 96 = .ok (.aload_n 0, 1) := by decide +kernel
theorem dX8_basinHere_97 : decode cX8_basinHere 97 = .ok (.getfield 306, 3) := by decide +kernel
theorem dX8_basinHere_100 : decode cX8_basinHere 100 = .ok (.ifCond .ge 12, 3) := by decide +kernel
theorem dX8_basinHere_103 : decode cX8_basinHere 103 = .ok (.aload_n 0, 1) := by decide +kernel
theorem dX8_basinHere_104 : decode cX8_basinHere 104 = .ok (.iload_n 1, 1) := by decide +kernel
theorem dX8_basinHere_105 : decode cX8_basinHere 105 = .ok (.iload_n 2, 1) := by decide +kernel
theorem dX8_basinHere_106 : decode cX8_basinHere 106 = .ok (.iload_n 3, 1) := by decide +kernel
theorem dX8_basinHere_107 : decode cX8_basinHere 107 = .ok (.invokevirtual 118, 3) := by decide +kernel
theorem dX8_basinHere_110 : decode cX8_basinHere 110 = .ok (.istore 4, 2) := by decide +kernel
theorem dX8_basinHere_112 : decode cX8_basinHere 112 = .ok (.return_, 1) := by decide +kernel
set_option maxRecDepth 20000 in
theorem ggX8_item_X8_kindHere : GoodIn wsX8_item wsX8_kindHere := goodIn_r _ [9, 10, 11, 12, 13, 14, 15, 16, 17, 18, 19, 8, 20, 21, 22, 71, 72, 73, 74, 75, 76, 77, 78, 79, 80, 81, 82, 83, 84, 85, 86, 87, 88, 89, 90, 91, 92, 93, 94, 95, 96, 97, 98, 99, 100, 101, 102, 103, 104, 105, 106, 107, 108, 109, 110, 111, 112, 113] (by exact rfl) (by decide +kernel)
set_option maxRecDepth 20000 in
theorem gX8_item_X8_kindHere : GoodIn wsX8_item (wsV RX8 340 RX8 yX8_kindHere wsX8_kindHere) := goodIn_app (goodIn_of _ (by decide +kernel)) ggX8_item_X8_kindHere
set_option maxRecDepth 20000 in
theorem ggX8_item_X8_basinHere : GoodIn wsX8_item wsX8_basinHere := goodIn_r _ [26, 3, 27, 4, 28, 29, 30, 31, 8, 32, 33, 34, 35, 36, 37, 38, 22, 39, 21, 40, 41, 42, 43, 44, 45, 46, 47, 48, 49, 50, 51, 52, 53, 54, 55, 17, 18, 19, 20, 56, 57, 58, 59, 60, 61, 62, 63, 64, 65, 66, 67, 68, 69, 70, 71, 72, 73, 74, 75, 76, 77, 78, 79, 80, 81, 82, 83, 84, 85, 86, 87, 88, 89, 90, 91, 92, 93, 94, 95, 96, 97, 98, 99, 100, 101, 102, 103, 104, 105, 106, 107, 108, 109, 110, 111, 112, 113] (by exact rfl) (by decide +kernel)
set_option maxRecDepth 20000 in
theorem gX8_item_X8_basinHere : GoodIn wsX8_item (wsV RX8 343 RX8 yX8_basinHere wsX8_basinHere) := goodIn_app (goodIn_of _ (by decide +kernel)) ggX8_item_X8_basinHere
set_option maxRecDepth 20000 in
theorem ggX8_item_X8_isWord : GoodIn wsX8_item wsX8_isWord := goodIn_r _ [20, 21, 22, 71, 72, 73, 74, 75, 76, 77, 78, 79, 80, 81, 82, 83, 84, 85, 86, 87, 88, 89, 90, 91, 92, 93, 94, 95, 96, 97, 98, 99, 100, 101, 102, 103, 104, 105, 106, 107, 108, 109, 110, 111, 112, 113] (by exact rfl) (by decide +kernel)
set_option maxRecDepth 20000 in
theorem gX8_item_X8_isWord : GoodIn wsX8_item (wsV RX8 311 RX8 yX8_isWord wsX8_isWord) := goodIn_app (goodIn_of _ (by decide +kernel)) ggX8_item_X8_isWord
set_option maxRecDepth 20000 in
theorem ggX8_item_X8_next : GoodIn wsX8_item wsX8_next := goodIn_r _ [37, 38, 33, 22, 39, 21, 40, 41, 42, 43, 44, 45, 46, 47, 8, 48, 49, 50, 51, 52, 53, 54, 55, 71, 72, 73, 74, 75, 76, 77, 78, 79, 80, 81, 82, 83, 84, 85, 86, 87, 88, 89, 90, 91, 92, 93, 94, 95, 96, 97, 98, 99, 100, 101, 102, 103, 104, 105, 106, 107, 108, 109, 110, 111, 112, 113] (by exact rfl) (by decide +kernel)
set_option maxRecDepth 20000 in
theorem gX8_item_X8_next : GoodIn wsX8_item (wsV RX8 330 RX8 yX8_next wsX8_next) := goodIn_app (goodIn_of _ (by decide +kernel)) ggX8_item_X8_next
set_option maxRecDepth 20000 in
theorem ggX8_item_X8_numberHere : GoodIn wsX8_item wsX8_numberHere := goodIn_r _ [59, 22, 21, 60, 61, 8, 62, 29, 30, 31, 32, 4, 33, 34, 35, 36, 37, 38, 39, 40, 41, 42, 43, 44, 45, 46, 47, 48, 49, 50, 51, 52, 53, 54, 55, 71, 72, 73, 74, 75, 76, 77, 78, 79, 80, 81, 82, 83, 84, 85, 86, 87, 88, 89, 90, 91, 92, 93, 94, 95, 96, 97, 98, 99, 100, 101, 102, 103, 104, 105, 106, 107, 108, 109, 110, 111, 112, 113] (by exact rfl) (by decide +kernel)
set_option maxRecDepth 20000 in
theorem gX8_item_X8_numberHere : GoodIn wsX8_item (wsV RX8 335 RX8 yX8_numberHere wsX8_numberHere) := goodIn_app (goodIn_of _ (by decide +kernel)) ggX8_item_X8_numberHere
set_option maxRecDepth 20000 in
theorem ggX8_item_X8_wrongHere : GoodIn wsX8_item wsX8_wrongHere := goodIn_r _ [32, 4, 33, 71, 72, 73, 74, 75, 76, 77, 78, 79, 80, 81, 82, 83, 84, 85, 86, 87, 88, 89, 90, 91, 92, 93, 94, 95, 96, 97, 98, 99, 100, 101, 102, 103, 104, 105, 106, 107, 108, 109, 110, 111, 112, 113] (by exact rfl) (by decide +kernel)
set_option maxRecDepth 20000 in
theorem gX8_item_X8_wrongHere : GoodIn wsX8_item (wsV RX8 327 RX8 yX8_wrongHere wsX8_wrongHere) := goodIn_app (goodIn_of _ (by decide +kernel)) ggX8_item_X8_wrongHere
theorem dX8_item_0 : decode cX8_item 0 = .ok (.aload_n 0, 1) := by decide +kernel
theorem dX8_item_1 : decode cX8_item 1 = .ok (.invokevirtual 340, 3) := by decide +kernel
theorem dX8_item_4 : decode cX8_item 4 = .ok (.istore_n 1, 1) := by decide +kernel
theorem dX8_item_5 : decode cX8_item 5 = .ok (.iload_n 1, 1) := by decide +kernel
theorem dX8_item_6 : decode cX8_item 6 = .ok (.ifCond .lt 11, 3) := by decide +kernel
theorem dX8_item_9 : decode cX8_item 9 = .ok (.aload_n 0, 1) := by decide +kernel
theorem dX8_item_10 : decode cX8_item 10 = .ok (.iload_n 1, 1) := by decide +kernel
theorem dX8_item_11 : decode cX8_item 11 = .ok (.invokevirtual 343, 3) := by decide +kernel
theorem dX8_item_14 : decode cX8_item 14 = .ok (.goto 55, 3) := by decide +kernel
theorem dX8_item_17 : decode cX8_item 17 = .ok (.aload_n 0, 1) := by decide +kernel
theorem dX8_item_18 : decode cX8_item 18 = .ok (.ldc2_w 346, 3) := by decide +kernel
theorem dX8_item_21 : decode cX8_item 21 = .ok (.invokevirtual 311, 3) := by decide +kernel
theorem dX8_item_24 : decode cX8_item 24 = .ok (.ifCond .eq 41, 3) := by decide +kernel
theorem dX8_item_27 : decode cX8_item 27 = .ok (.aload_n 0, 1) := by decide +kernel
theorem dX8_item_28 : decode cX8_item 28 = .ok (.invokevirtual 330, 3) := by decide +kernel
theorem dX8_item_31 : decode cX8_item 31 = .ok (.aload_n 0, 1) := by decide +kernel
theorem dX8_item_32 : decode cX8_item 32 = .ok (.iconst 0, 1) := by decide +kernel
theorem dX8_item_33 : decode cX8_item 33 = .ok (.ldc 193, 2) := by decide +kernel
theorem dX8_item_35 : decode cX8_item 35 = .ok (.invokevirtual 335, 3) := by decide +kernel
theorem dX8_item_38 : decode cX8_item 38 = .ok (.istore_n 2, 1) := by decide +kernel
theorem dX8_item_39 : decode cX8_item 39 = .ok (.aload_n 0, 1) := by decide +kernel
theorem dX8_item_40 : decode cX8_item 40 = .ok (.getfield 7, 3) := by decide +kernel
theorem dX8_item_43 : decode cX8_item 43 = .ok (.iconst 3, 1) := by decide +kernel
theorem dX8_item_44 : decode cX8_item 44 = .ok (.aload_n 0, 1) := by decide +kernel
theorem dX8_item_45 : decode cX8_item 45 = .ok (.getfield 306, 3) := by decide +kernel
theorem dX8_item_48 : decode cX8_item 48 = .ok (.ifCond .ge 7, 3) := by decide +kernel
theorem dX8_item_51 : decode cX8_item 51 = .ok (.iload_n 2, 1) := by decide +kernel
theorem dX8_item_52 : decode cX8_item 52 = .ok (.goto 9, 3) := by decide +kernel
theorem dX8_item_55 : decode cX8_item 55 = .ok (.aload_n 0, 1) := by decide +kernel
theorem dX8_item_56 : decode cX8_item 56 = .ok (.getfield 7, 3) := by decide +kernel
theorem dX8_item_59 : decode cX8_item 59 = .ok (.iconst 3, 1) := by decide +kernel
theorem dX8_item_60 : decode cX8_item 60 = .ok (.iaload, 1) := by decide +kernel
theorem dX8_item_61 : decode cX8_item 61 = .ok (.iastore, 1) := by decide +kernel
theorem dX8_item_62 : decode cX8_item 62 = .ok (.goto 7, 3) := by decide +kernel
theorem dX8_item_65 : decode cX8_item 65 = .ok (.aload_n 0, 1) := by decide +kernel
theorem dX8_item_66 : decode cX8_item 66 = .ok (.invokevirtual 327, 3) := by decide +kernel
theorem dX8_item_69 : decode cX8_item 69 = .ok (.return_, 1) := by decide +kernel
set_option maxRecDepth 20000 in
theorem ggX8_items_X8_next : GoodIn wsX8_items wsX8_next := goodIn_r _ [8, 1, 9, 10, 11, 3, 12, 13, 14, 15, 16, 17, 18, 19, 7, 20, 21, 22, 23, 24, 25, 26, 27, 75, 76, 77, 78, 79, 80, 81, 82, 83, 84, 85, 86, 87, 88, 89, 90, 91, 92, 93, 94, 95, 96, 97, 98, 99, 100, 101, 102, 103, 104, 105, 106, 107, 108, 109, 110, 111, 112, 113, 114, 115, 116, 117] (by exact rfl) (by decide +kernel)
set_option maxRecDepth 20000 in
theorem gX8_items_X8_next : GoodIn wsX8_items (wsV RX8 330 RX8 yX8_next wsX8_next) := goodIn_app (goodIn_of _ (by decide +kernel)) ggX8_items_X8_next
set_option maxRecDepth 20000 in
theorem ggX8_items_X8_item : GoodIn wsX8_items wsX8_item := goodIn_r _ [31, 32, 33, 34, 2, 35, 36, 37, 7, 38, 39, 40, 41, 42, 43, 44, 45, 46, 47, 48, 49, 3, 10, 50, 51, 52, 53, 54, 55, 56, 57, 58, 59, 9, 4, 5, 6, 8, 1, 11, 12, 13, 14, 15, 16, 17, 18, 19, 20, 21, 22, 23, 24, 25, 26, 27, 60, 61, 62, 63, 64, 65, 66, 67, 68, 69, 70, 71, 72, 73, 74, 75, 76, 77, 78, 79, 80, 81, 82, 83, 84, 85, 86, 87, 88, 89, 90, 91, 92, 93, 94, 95, 96, 97, 98, 99, 100, 101, 102, 103, 104, 105, 106, 107, 108, 109, 110, 111, 112, 113, 114, 115, 116, 117] (by exact rfl) (by decide +kernel)
set_option maxRecDepth 20000 in
theorem gX8_items_X8_item : GoodIn wsX8_items (wsV RX8 348 RX8 yX8_item wsX8_item) := goodIn_app (goodIn_of _ (by decide +kernel)) ggX8_items_X8_item
set_option maxRecDepth 20000 in
theorem ggX8_items_X8_wrongHere : GoodIn wsX8_items wsX8_wrongHere := goodIn_r _ [59, 2, 9, 75, 76, 77, 78, 79, 80, 81, 82, 83, 84, 85, 86, 87, 88, 89, 90, 91, 92, 93, 94, 95, 96, 97, 98, 99, 100, 101, 102, 103, 104, 105, 106, 107, 108, 109, 110, 111, 112, 113, 114, 115, 116, 117] (by exact rfl) (by decide +kernel)
set_option maxRecDepth 20000 in
theorem gX8_items_X8_wrongHere : GoodIn wsX8_items (wsV RX8 327 RX8 yX8_wrongHere wsX8_wrongHere) := goodIn_app (goodIn_of _ (by decide +kernel)) ggX8_items_X8_wrongHere
theorem dX8_items_0 : decode cX8_items 0 = .ok (.aload_n 0, 1) := by decide +kernel
theorem dX8_items_1 : decode cX8_items 1 = .ok (.iconst 0, 1) := by decide +kernel
theorem dX8_items_2 : decode cX8_items 2 = .ok (.putfield 279, 3) := by decide +kernel
theorem dX8_items_5 : decode cX8_items 5 = .ok (.aload_n 0, 1) := by decide +kernel
theorem dX8_items_6 : decode cX8_items 6 = .ok (.iconst (-1), 1) := by decide +kernel
theorem dX8_items_7 : decode cX8_items 7 = .ok (.putfield 306, 3) := by decide +kernel
theorem dX8_items_10 : decode cX8_items 10 = .ok (.aload_n 0, 1) := by decide +kernel
theorem dX8_items_11 : decode cX8_items 11 = .ok (.invokevirtual 330, 3) := by decide +kernel
theorem dX8_items_14 : decode cX8_items 14 = .ok (.aload_n 0, 1) := by decide +kernel
theorem dX8_items_15 : decode cX8_items 15 = .ok (.invokevirtual 348, 3) := by decide +kernel
theorem dX8_items_18 : decode cX8_items 18 = .ok (.iconst 1, 1) := by decide +kernel
theorem dX8_items_19 : decode cX8_items 19 = .ok (.istore_n 1, 1) := by decide +kernel
theorem dX8_items_20 : decode cX8_items 20 = .ok (.aload_n 0, 1) := by decide +kernel
theorem dX8_items_21 : decode cX8_items 21 = .ok (.getfield 306, 3) := by decide +kernel
theorem dX8_items_24 : decode cX8_items 24 = .ok (.ifCond .ge 25, 3) := by decide +kernel
theorem dX8_items_27 : decode cX8_items 27 = .ok (.aload_n 0, 1) := by decide +kernel
theorem dX8_items_28 : decode cX8_items 28 = .ok (.getfield 291, 3) := by decide +kernel
theorem dX8_items_31 : decode cX8_items 31 = .ok (.iconst 3, 1) := by decide +kernel
theorem dX8_items_32 : decode cX8_items 32 = .ok (.if_icmp .ne 17, 3) := by decide +kernel
theorem dX8_items_35 : decode cX8_items 35 = .ok (.aload_n 0, 1) := by decide +kernel
theorem dX8_items_36 : decode cX8_items 36 = .ok (.invokevirtual 330, 3) := by decide +kernel
theorem dX8_items_39 : decode cX8_items 39 = .ok (.aload_n 0, 1) := by decide +kernel
theorem dX8_items_40 : decode cX8_items 40 = .ok (.invokevirtual 348, 3) := by decide +kernel
theorem dX8_items_43 : decode cX8_items 43 = .ok (.iinc 1 1, 3) := by decide +kernel
theorem dX8_items_46 : decode cX8_items 46 = .ok (.goto (-26), 3) := by decide +kernel
theorem dX8_items_49 : decode cX8_items 49 = .ok (.aload_n 0, 1) := by decide +kernel
theorem dX8_items_50 : decode cX8_items 50 = .ok (.getfield 306, 3) := by decide +kernel
theorem dX8_items_53 : decode cX8_items 53 = .ok (.ifCond .ge 14, 3) := by decide +kernel
theorem dX8_items_56 : decode cX8_items 56 = .ok (.aload_n 0, 1) := by decide +kernel
theorem dX8_items_57 : decode cX8_items 57 = .ok (.getfield 291, 3) := by decide +kernel
theorem dX8_items_60 : decode cX8_items 60 = .ok (.ifCond .eq 7, 3) := by decide +kernel
theorem dX8_items_63 : decode cX8_items 63 = .ok (.aload_n 0, 1) := by decide +kernel
theorem dX8_items_64 : decode cX8_items 64 = .ok (.invokevirtual 327, 3) := by decide +kernel
theorem dX8_items_67 : decode cX8_items 67 = .ok (.iload_n 1, 1) := by decide +kernel
theorem dX8_items_68 : decode cX8_items 68 = .ok (.ireturn, 1) := by decide +kernel
set_option maxRecDepth 20000 in
theorem ggX8_text_X8_copies : GoodIn wsX8_text wsX8_copies := goodIn_r _ [8] (by exact rfl) (by decide +kernel)
set_option maxRecDepth 20000 in
theorem gX8_text_X8_copies : GoodIn wsX8_text (va_wsS RX8 189 yX8_copies wsX8_copies) := goodIn_app (goodIn_of _ (by decide +kernel)) ggX8_text_X8_copies
set_option maxRecDepth 20000 in
theorem ggX8_text_X8_items : GoodIn wsX8_text wsX8_items := goodIn_r _ [12, 13, 4, 14, 15, 16, 17, 7, 18, 19, 20, 3, 21, 22, 23, 24, 25, 26, 27, 28, 29, 30, 31, 32, 33, 34, 35, 36, 37, 38, 39, 40, 41, 42, 1, 43, 44, 45, 46, 47, 48, 49, 50, 51, 52, 53, 54, 55, 56, 57, 58, 59, 60, 61, 62, 63, 64, 65, 66, 67, 68, 69, 70, 71, 72, 73, 74, 75, 76, 77, 78, 79, 80, 81, 82, 83, 84, 85, 86, 87, 88, 89, 90, 91, 92, 93, 94, 95, 96, 97, 98, 99, 100, 101, 102, 103, 104, 105, 106, 107, 108, 109, 110, 111, 112, 113, 114, 115, 116, 117, 118, 119, 120, 121, 122, 123, 124, 125] (by exact rfl) (by decide +kernel)
set_option maxRecDepth 20000 in
theorem gX8_text_X8_items : GoodIn wsX8_text (wsV RX8 351 RX8 yX8_items wsX8_items) := goodIn_app (goodIn_of _ (by decide +kernel)) ggX8_text_X8_items
theorem dX8_text_0 : decode cX8_text 0 = .ok (.aload_n 0, 1) := by decide +kernel
theorem dX8_text_1 : decode cX8_text 1 = .ok (.getfield 7, 3) := by decide +kernel
theorem dX8_text_4 : decode cX8_text 4 = .ok (.aload_n 0, 1) := by decide +kernel
theorem dX8_text_5 : decode cX8_text 5 = .ok (.getfield 13, 3) := by decide +kernel
theorem dX8_text_8 : decode cX8_text 8 = .ok (.invokestatic 189, 3) := by decide +kernel
theorem dX8_text_11 : decode cX8_text 11 = .ok (.aload_n 0, 1) := by decide +kernel
theorem dX8_text_12 : decode cX8_text 12 = .ok (.invokevirtual 351, 3) := by decide +kernel
theorem dX8_text_15 : decode cX8_text 15 = .ok (.istore_n 1, 1) := by decide +kernel
theorem dX8_text_16 : decode cX8_text 16 = .ok (.aload_n 0, 1) := by decide +kernel
theorem dX8_text_17 : decode cX8_text 17 = .ok (.iconst 0, 1) := by decide +kernel
theorem dX8_text_18 : decode cX8_text 18 = .ok (.putfield 276, 3) := by decide +kernel
theorem dX8_text_21 : decode cX8_text 21 = .ok (.aload_n 0, 1) := by decide +kernel
theorem dX8_text_22 : decode cX8_text 22 = .ok (.getfield 306, 3) := by decide +kernel
theorem dX8_text_25 : decode cX8_text 25 = .ok (.ifCond .lt 21, 3) := by decide +kernel
theorem dX8_text_28 : decode cX8_text 28 = .ok (.aload_n 0, 1) := by decide +kernel
theorem dX8_text_29 : decode cX8_text 29 = .ok (.getfield 13, 3) := by decide +kernel
theorem dX8_text_32 : decode cX8_text 32 = .ok (.aload_n 0, 1) := by decide +kernel
theorem dX8_text_33 : decode cX8_text 33 = .ok (.getfield 7, 3) := by decide +kernel
theorem dX8_text_36 : decode cX8_text 36 = .ok (.invokestatic 189, 3) := by decide +kernel
theorem dX8_text_39 : decode cX8_text 39 = .ok (.iconst (-1), 1) := by decide +kernel
theorem dX8_text_40 : decode cX8_text 40 = .ok (.aload_n 0, 1) := by decide +kernel
theorem dX8_text_41 : decode cX8_text 41 = .ok (.getfield 306, 3) := by decide +kernel
theorem dX8_text_44 : decode cX8_text 44 = .ok (.isub, 1) := by decide +kernel
theorem dX8_text_45 : decode cX8_text 45 = .ok (.ireturn, 1) := by decide +kernel
theorem dX8_text_46 : decode cX8_text 46 = .ok (.iload_n 1, 1) := by decide +kernel
theorem dX8_text_47 : decode cX8_text 47 = .ok (.ireturn, 1) := by decide +kernel
set_option maxRecDepth 20000 in
theorem ggX8_hold_X8_in : GoodIn wsX8_hold wsX8_in := goodIn_r _ [7] (by exact rfl) (by decide +kernel)
set_option maxRecDepth 20000 in
theorem gX8_hold_X8_in : GoodIn wsX8_hold (va_wsS RX8 70 yX8_in wsX8_in) := goodIn_app (goodIn_of _ (by decide +kernel)) ggX8_hold_X8_in
set_option maxRecDepth 20000 in
theorem ggX8_hold_X8_finds : GoodIn wsX8_hold wsX8_finds := goodIn_r _ [11, 12, 13, 14, 15, 16, 17, 18, 19, 20, 21, 22, 23, 24, 25, 26, 27, 28, 29, 30, 31, 32, 33, 34, 35, 36, 37, 38, 39, 40, 41, 42, 43, 44, 45, 46, 47, 48, 49, 50, 51, 52, 53, 54, 55, 56] (by exact rfl) (by decide +kernel)
set_option maxRecDepth 20000 in
theorem gX8_hold_X8_finds : GoodIn wsX8_hold (wsV RX8 115 RX8 yX8_finds wsX8_finds) := goodIn_app (goodIn_of _ (by decide +kernel)) ggX8_hold_X8_finds
theorem dX8_hold_0 : decode cX8_hold 0 = .ok (.iload_n 1, 1) := by decide +kernel
theorem dX8_hold_1 : decode cX8_hold 1 = .ok (.i2l, 1) := by decide +kernel
theorem dX8_hold_2 : decode cX8_hold 2 = .ok (.lconst 0, 1) := by decide +kernel
theorem dX8_hold_3 : decode cX8_hold 3 = .ok (.ldc2_w 121, 3) := by decide +kernel
theorem dX8_hold_6 : decode cX8_hold 6 = .ok (.invokestatic 70, 3) := by decide +kernel
theorem dX8_hold_9 : decode cX8_hold 9 = .ok (.ifCond .eq 23, 3) := by decide +kernel
theorem dX8_hold_12 : decode cX8_hold 12 = .ok (.iload_n 2, 1) := by decide +kernel
theorem dX8_hold_13 : decode cX8_hold 13 = .ok (.i2l, 1) := by decide +kernel
theorem dX8_hold_14 : decode cX8_hold 14 = .ok (.ldc2_w 354, 3) := by decide +kernel
theorem dX8_hold_17 : decode cX8_hold 17 = .ok (.aload_n 0, 1) := by decide +kernel
theorem dX8_hold_18 : decode cX8_hold 18 = .ok (.getfield 7, 3) := by decide +kernel
theorem dX8_hold_21 : decode cX8_hold 21 = .ok (.iconst 0, 1) := by decide +kernel
theorem dX8_hold_22 : decode cX8_hold 22 = .ok (.iaload, 1) := by decide +kernel
theorem dX8_hold_23 : decode cX8_hold 23 = .ok (.iconst 1, 1) := by decide +kernel
theorem dX8_hold_24 : decode cX8_hold 24 = .ok (.isub, 1) := by decide +kernel
theorem dX8_hold_25 : decode cX8_hold 25 = .ok (.i2l, 1) := by decide +kernel
theorem dX8_hold_26 : decode cX8_hold 26 = .ok (.invokestatic 70, 3) := by decide +kernel
theorem dX8_hold_29 : decode cX8_hold 29 = .ok (.ifCond .ne 9, 3) := by decide +kernel
theorem dX8_hold_32 : decode cX8_hold 32 = .ok (.aload_n 0, 1) := by decide +kernel
theorem dX8_hold_33 : decode cX8_hold 33 = .ok (.iconst 0, 1) := by decide +kernel
theorem dX8_hold_34 : decode cX8_hold 34 = .ok (.invokevirtual 115, 3) := by decide +kernel
theorem dX8_hold_37 : decode cX8_hold 37 = .ok (.ireturn, 1) := by decide +kernel
theorem dX8_hold_38 : decode cX8_hold 38 = .ok (.aload_n 0, 1) := by decide +kernel
theorem dX8_hold_39 : decode cX8_hold 39 = .ok (.getfield 7, 3) := by decide +kernel
theorem dX8_hold_42 : decode cX8_hold 42 = .ok (.bipush 54, 2) := by decide +kernel
theorem dX8_hold_44 : decode cX8_hold 44 = .ok (.iload_n 1, 1) := by decide +kernel
theorem dX8_hold_45 : decode cX8_hold 45 = .ok (.iadd, 1) := by decide +kernel
theorem dX8_hold_46 : decode cX8_hold 46 = .ok (.iload_n 2, 1) := by decide +kernel
theorem dX8_hold_47 : decode cX8_hold 47 = .ok (.iconst 1, 1) := by decide +kernel
theorem dX8_hold_48 : decode cX8_hold 48 = .ok (.iadd, 1) := by decide +kernel
theorem dX8_hold_49 : decode cX8_hold 49 = .ok (.iastore, 1) := by decide +kernel
theorem dX8_hold_50 : decode cX8_hold 50 = .ok (.iconst 1, 1) := by decide +kernel
theorem dX8_hold_51 : decode cX8_hold 51 = .ok (.ireturn, 1) := by decide +kernel
theorem dX8_above_0 : decode cX8_above 0 = .ok (.iload_n 0, 1) := by decide +kernel
theorem dX8_above_1 : decode cX8_above 1 = .ok (.iconst 3, 1) := by decide +kernel
theorem dX8_above_2 : decode cX8_above 2 = .ok (.if_icmp .ne 7, 3) := by decide +kernel
theorem dX8_above_5 : decode cX8_above 5 = .ok (.iconst 1, 1) := by decide +kernel
theorem dX8_above_6 : decode cX8_above 6 = .ok (.goto 23, 3) := by decide +kernel
theorem dX8_above_9 : decode cX8_above 9 = .ok (.iload_n 0, 1) := by decide +kernel
theorem dX8_above_10 : decode cX8_above 10 = .ok (.iconst 4, 1) := by decide +kernel
theorem dX8_above_11 : decode cX8_above 11 = .ok (.if_icmp .ne 7, 3) := by decide +kernel
theorem dX8_above_14 : decode cX8_above 14 = .ok (.iconst 2, 1) := by decide +kernel
theorem dX8_above_15 : decode cX8_above 15 = .ok (.goto 14, 3) := by decide +kernel
theorem dX8_above_18 : decode cX8_above 18 = .ok (.iload_n 0, 1) := by decide +kernel
theorem dX8_above_19 : decode cX8_above 19 = .ok (.bipush 6, 2) := by decide +kernel
theorem dX8_above_21 : decode cX8_above 21 = .ok (.if_icmp .ne 7, 3) := by decide +kernel
theorem dX8_above_24 : decode cX8_above 24 = .ok (.iconst 5, 1) := by decide +kernel
theorem dX8_above_25 : decode cX8_above 25 = .ok (.goto 4, 3) := by decide +kernel
theorem dX8_above_28 : decode cX8_above 28 = .ok (.iconst 0, 1) := by decide +kernel
theorem dX8_above_29 : decode cX8_above 29 = .ok (.ireturn, 1) := by decide +kernel
set_option maxRecDepth 20000 in
theorem ggX8_as_X8_in : GoodIn wsX8_as wsX8_in := goodIn_r _ [7] (by exact rfl) (by decide +kernel)
set_option maxRecDepth 20000 in
theorem gX8_as_X8_in : GoodIn wsX8_as (va_wsS RX8 70 yX8_in wsX8_in) := goodIn_app (goodIn_of _ (by decide +kernel)) ggX8_as_X8_in
set_option maxRecDepth 20000 in
theorem ggX8_as_X8_finds : GoodIn wsX8_as wsX8_finds := goodIn_r _ [11, 12, 13, 21, 22, 23, 24, 25, 26, 27, 28, 29, 30, 31, 32, 33, 34, 35, 36, 37, 38, 39, 40, 41, 42, 43, 44, 45, 46, 47, 48, 49, 50, 51, 52, 53, 54, 55, 56, 57, 58, 59, 60, 61, 62, 63] (by exact rfl) (by decide +kernel)
set_option maxRecDepth 20000 in
theorem gX8_as_X8_finds : GoodIn wsX8_as (wsV RX8 115 RX8 yX8_finds wsX8_finds) := goodIn_app (goodIn_of _ (by decide +kernel)) ggX8_as_X8_finds
set_option maxRecDepth 20000 in
theorem ggX8_as_X8_its : GoodIn wsX8_as wsX8_its := goodIn_r _ [17, 3, 21, 22, 23, 24, 25, 26, 27, 28, 29, 30, 31, 32, 33, 34, 35, 36, 37, 38, 39, 40, 41, 42, 43, 44, 45, 46, 47, 48, 49, 50, 51, 52, 53, 54, 55, 56, 57, 58, 59, 60, 61, 62, 63] (by exact rfl) (by decide +kernel)
set_option maxRecDepth 20000 in
theorem gX8_as_X8_its : GoodIn wsX8_as (wsV RX8 74 RX8 yX8_its wsX8_its) := goodIn_app (goodIn_of _ (by decide +kernel)) ggX8_as_X8_its
set_option maxRecDepth 20000 in
theorem ggX8_as_X8_above : GoodIn wsX8_as wsX8_above := goodIn_r _ [20] (by exact rfl) (by decide +kernel)
set_option maxRecDepth 20000 in
theorem gX8_as_X8_above : GoodIn wsX8_as (va_wsS RX8 356 yX8_above wsX8_above) := goodIn_app (goodIn_of _ (by decide +kernel)) ggX8_as_X8_above
theorem dX8_as_0 : decode cX8_as 0 = .ok (.iload_n 1, 1) := by decide +kernel
theorem dX8_as_1 : decode cX8_as 1 = .ok (.i2l, 1) := by decide +kernel
theorem dX8_as_2 : decode cX8_as 2 = .ok (.lconst 0, 1) := by decide +kernel
theorem dX8_as_3 : decode cX8_as 3 = .ok (.ldc2_w 121, 3) := by decide +kernel
theorem dX8_as_6 : decode cX8_as 6 = .ok (.invokestatic 70, 3) := by decide +kernel
theorem dX8_as_9 : decode cX8_as 9 = .ok (.ifCond .eq 15, 3) := by decide +kernel
theorem dX8_as_12 : decode cX8_as 12 = .ok (.iload_n 2, 1) := by decide +kernel
theorem dX8_as_13 : decode cX8_as 13 = .ok (.i2l, 1) := by decide +kernel
theorem dX8_as_14 : decode cX8_as 14 = .ok (.lconst 0, 1) := by decide +kernel
theorem dX8_as_15 : decode cX8_as 15 = .ok (.ldc2_w 113, 3) := by decide +kernel
theorem dX8_as_18 : decode cX8_as 18 = .ok (.invokestatic 70, 3) := by decide +kernel
theorem dX8_as_21 : decode cX8_as 21 = .ok (.ifCond .ne 9, 3) := by decide +kernel
theorem dX8_as_24 : decode cX8_as 24 = .ok (.aload_n 0, 1) := by decide +kernel
theorem dX8_as_25 : decode cX8_as 25 = .ok (.iconst 0, 1) := by decide +kernel
theorem dX8_as_26 : decode cX8_as 26 = .ok (.invokevirtual 115, 3) := by decide +kernel
theorem dX8_as_29 : decode cX8_as 29 = .ok (.ireturn, 1) := by decide +kernel
theorem dX8_as_30 : decode cX8_as 30 = .ok (.aload_n 0, 1) := by decide +kernel
theorem dX8_as_31 : decode cX8_as 31 = .ok (.getfield 7, 3) := by decide +kernel
theorem dX8_as_34 : decode cX8_as 34 = .ok (.bipush 54, 2) := by decide +kernel
theorem dX8_as_36 : decode cX8_as 36 = .ok (.iload_n 1, 1) := by decide +kernel
theorem dX8_as_37 : decode cX8_as 37 = .ok (.iadd, 1) := by decide +kernel
theorem dX8_as_38 : decode cX8_as 38 = .ok (.iaload, 1) := by decide +kernel
theorem dX8_as_39 : decode cX8_as 39 = .ok (.ifCond .ne 9, 3) := by decide +kernel
theorem dX8_as_42 : decode cX8_as 42 = .ok (.aload_n 0, 1) := by decide +kernel
theorem dX8_as_43 : decode cX8_as 43 = .ok (.iconst 5, 1) := by decide +kernel
theorem dX8_as_44 : decode cX8_as 44 = .ok (.invokevirtual 115, 3) := by decide +kernel
theorem dX8_as_47 : decode cX8_as 47 = .ok (.ireturn, 1) := by decide +kernel
theorem dX8_as_48 : decode cX8_as 48 = .ok (.aload_n 0, 1) := by decide +kernel
theorem dX8_as_49 : decode cX8_as 49 = .ok (.getfield 7, 3) := by decide +kernel
theorem dX8_as_52 : decode cX8_as 52 = .ok (.bipush 54, 2) := by decide +kernel
theorem dX8_as_54 : decode cX8_as 54 = .ok (.iload_n 1, 1) := by decide +kernel
theorem dX8_as_55 : decode cX8_as 55 = .ok (.iadd, 1) := by decide +kernel
theorem dX8_as_56 : decode cX8_as 56 = .ok (.iaload, 1) := by decide +kernel
theorem dX8_as_57 : decode cX8_as 57 = .ok (.iconst 1, 1) := by decide +kernel
theorem dX8_as_58 : decode cX8_as 58 = .ok (.isub, 1) := by decide +kernel
theorem dX8_as_59 : decode cX8_as 59 = .ok (.istore_n 3, 1) := by decide +kernel
theorem dX8_as_60 : decode cX8_as 60 = .ok (.aload_n 0, 1) := by decide +kernel
theorem dX8_as_61 : decode cX8_as 61 = .ok (.iload_n 3, 1) := by decide +kernel
theorem dX8_as_62 : decode cX8_as 62 = .ok (.iconst 0, 1) := by decide +kernel
theorem dX8_as_63 : decode cX8_as 63 = .ok (.invokevirtual 74, 3) := by decide +kernel
theorem dX8_as_66 : decode cX8_as 66 = .ok (.istore 4, 2) := by decide +kernel
theorem dX8_as_68 : decode cX8_as 68 = .ok (.iload_n 2, 1) := by decide +kernel
theorem dX8_as_69 : decode cX8_as 69 = .ok (.ifCond .eq 18, 3) := by decide +kernel
theorem dX8_as_72 : decode cX8_as 72 = .ok (.iload_n 2, 1) := by decide +kernel
theorem dX8_as_73 : decode cX8_as 73 = .ok (.iload 4, 2) := by decide +kernel
theorem dX8_as_75 : decode cX8_as 75 = .ok (.if_icmp .eq 12, 3) := by decide +kernel
theorem dX8_as_78 : decode cX8_as 78 = .ok (.iload_n 2, 1) := by decide +kernel
theorem dX8_as_79 : decode cX8_as 79 = .ok (.iload 4, 2) := by decide +kernel
theorem dX8_as_81 : decode cX8_as 81 = .ok (.invokestatic 356, 3) := by decide +kernel
theorem dX8_as_84 : decode cX8_as 84 = .ok (.if_icmp .ne 7, 3) := by decide +kernel
theorem dX8_as_87 : decode cX8_as 87 = .ok (.iload_n 3, 1) := by decide +kernel
theorem dX8_as_88 : decode cX8_as 88 = .ok (.goto 8, 3) := by decide +kernel
theorem dX8_as_91 : decode cX8_as 91 = .ok (.aload_n 0, 1) := by decide +kernel
theorem dX8_as_92 : decode cX8_as 92 = .ok (.iconst 2, 1) := by decide +kernel
theorem dX8_as_93 : decode cX8_as 93 = .ok (.invokevirtual 115, 3) := by decide +kernel
theorem dX8_as_96 : decode cX8_as 96 = .ok (.ireturn, 1) := by decide +kernel
set_option maxRecDepth 20000 in
theorem ggX8_isSheet_X8_in : GoodIn wsX8_isSheet wsX8_in := goodIn_r _ [5] (by exact rfl) (by decide +kernel)
set_option maxRecDepth 20000 in
theorem gX8_isSheet_X8_in : GoodIn wsX8_isSheet (va_wsS RX8 70 yX8_in wsX8_in) := goodIn_app (goodIn_of _ (by decide +kernel)) ggX8_isSheet_X8_in
theorem dX8_isSheet_0 : decode cX8_isSheet 0 = .ok (.iload_n 0, 1) := by decide +kernel
theorem dX8_isSheet_1 : decode cX8_isSheet 1 = .ok (.i2l, 1) := by decide +kernel
theorem dX8_isSheet_2 : decode cX8_isSheet 2 = .ok (.lconst 0, 1) := by decide +kernel
theorem dX8_isSheet_3 : decode cX8_isSheet 3 = .ok (.ldc2_w 158, 3) := by decide +kernel
theorem dX8_isSheet_6 : decode cX8_isSheet 6 = .ok (.invokestatic 70, 3) := by decide +kernel
theorem dX8_isSheet_9 : decode cX8_isSheet 9 = .ok (.ireturn, 1) := by decide +kernel
set_option maxRecDepth 20000 in
theorem ggX8_sheet_X8_isSheet : GoodIn wsX8_sheet wsX8_isSheet := goodIn_r _ [7, 8, 9, 10, 6, 11] (by exact rfl) (by decide +kernel)
set_option maxRecDepth 20000 in
theorem gX8_sheet_X8_isSheet : GoodIn wsX8_sheet (va_wsS RX8 359 yX8_isSheet wsX8_isSheet) := goodIn_app (goodIn_of _ (by decide +kernel)) ggX8_sheet_X8_isSheet
set_option maxRecDepth 20000 in
theorem ggX8_sheet_X8_finds : GoodIn wsX8_sheet wsX8_finds := goodIn_r _ [15, 16, 17, 18, 19, 20, 21, 22, 23, 24, 25, 26, 27, 28, 29, 30, 31, 32, 33, 34, 35, 36, 37, 38, 39, 40, 41, 42, 43, 44, 45, 46, 47, 48, 49, 50, 51, 52, 53, 54, 55, 56, 57, 58, 59, 60] (by exact rfl) (by decide +kernel)
set_option maxRecDepth 20000 in
theorem gX8_sheet_X8_finds : GoodIn wsX8_sheet (wsV RX8 115 RX8 yX8_finds wsX8_finds) := goodIn_app (goodIn_of _ (by decide +kernel)) ggX8_sheet_X8_finds
theorem dX8_sheet_0 : decode cX8_sheet 0 = .ok (.iload_n 1, 1) := by decide +kernel
theorem dX8_sheet_1 : decode cX8_sheet 1 = .ok (.invokestatic 359, 3) := by decide +kernel
theorem dX8_sheet_4 : decode cX8_sheet 4 = .ok (.ifCond .eq 25, 3) := by decide +kernel
theorem dX8_sheet_7 : decode cX8_sheet 7 = .ok (.iload_n 2, 1) := by decide +kernel
theorem dX8_sheet_8 : decode cX8_sheet 8 = .ok (.ifCond .eq 27, 3) := by decide +kernel
theorem dX8_sheet_11 : decode cX8_sheet 11 = .ok (.iload_n 2, 1) := by decide +kernel
theorem dX8_sheet_12 : decode cX8_sheet 12 = .ok (.bipush 8, 2) := by decide +kernel
theorem dX8_sheet_14 : decode cX8_sheet 14 = .ok (.if_icmp .eq 21, 3) := by decide +kernel
theorem dX8_sheet_17 : decode cX8_sheet 17 = .ok (.iload_n 2, 1) := by decide +kernel
theorem dX8_sheet_18 : decode cX8_sheet 18 = .ok (.bipush 16, 2) := by decide +kernel
theorem dX8_sheet_20 : decode cX8_sheet 20 = .ok (.if_icmp .eq 15, 3) := by decide +kernel
theorem dX8_sheet_23 : decode cX8_sheet 23 = .ok (.iload_n 2, 1) := by decide +kernel
theorem dX8_sheet_24 : decode cX8_sheet 24 = .ok (.bipush 32, 2) := by decide +kernel
theorem dX8_sheet_26 : decode cX8_sheet 26 = .ok (.if_icmp .eq 9, 3) := by decide +kernel
theorem dX8_sheet_29 : decode cX8_sheet 29 = .ok (.aload_n 0, 1) := by decide +kernel
theorem dX8_sheet_30 : decode cX8_sheet 30 = .ok (.iconst 0, 1) := by decide +kernel
theorem dX8_sheet_31 : decode cX8_sheet 31 = .ok (.invokevirtual 115, 3) := by decide +kernel
theorem dX8_sheet_34 : decode cX8_sheet 34 = .ok (.ireturn, 1) := by decide +kernel
theorem dX8_sheet_35 : decode cX8_sheet 35 = .ok (.iload_n 3, 1) := by decide +kernel
theorem dX8_sheet_36 : decode cX8_sheet 36 = .ok (.ifCond .ge 10, 3) := by decide +kernel
theorem dX8_sheet_39 : decode cX8_sheet 39 = .ok (.aload_n 0, 1) := by decide +kernel
theorem dX8_sheet_40 : decode cX8_sheet 40 = .ok (.bipush 6, 2) := by decide +kernel
theorem dX8_sheet_42 : decode cX8_sheet 42 = .ok (.invokevirtual 115, 3) := by decide +kernel
theorem dX8_sheet_45 : decode cX8_sheet 45 = .ok (.ireturn, 1) := by decide +kernel
theorem dX8_sheet_46 : decode cX8_sheet 46 = .ok (.iload_n 3, 1) := by decide +kernel
theorem dX8_sheet_47 : decode cX8_sheet 47 = .ok (.bipush 40, 2) := by decide +kernel
theorem dX8_sheet_49 : decode cX8_sheet 49 = .ok (.if_icmp .le 9, 3) := by decide +kernel
theorem dX8_sheet_52 : decode cX8_sheet 52 = .ok (.aload_n 0, 1) := by decide +kernel
theorem dX8_sheet_53 : decode cX8_sheet 53 = .ok (.iconst 0, 1) := by decide +kernel
theorem dX8_sheet_54 : decode cX8_sheet 54 = .ok (.invokevirtual 115, 3) := by decide +kernel
theorem dX8_sheet_57 : decode cX8_sheet 57 = .ok (.ireturn, 1) := by decide +kernel
theorem dX8_sheet_58 : decode cX8_sheet 58 = .ok (.aload_n 0, 1) := by decide +kernel
theorem dX8_sheet_59 : decode cX8_sheet 59 = .ok (.getfield 57, 3) := by decide +kernel
theorem dX8_sheet_62 : decode cX8_sheet 62 = .ok (.iload_n 1, 1) := by decide +kernel
theorem dX8_sheet_63 : decode cX8_sheet 63 = .ok (.iload_n 2, 1) := by decide +kernel
theorem dX8_sheet_64 : decode cX8_sheet 64 = .ok (.iastore, 1) := by decide +kernel
theorem dX8_sheet_65 : decode cX8_sheet 65 = .ok (.aload_n 0, 1) := by decide +kernel
theorem dX8_sheet_66 : decode cX8_sheet 66 = .ok (.getfield 60, 3) := by decide +kernel
theorem dX8_sheet_69 : decode cX8_sheet 69 = .ok (.iload_n 1, 1) := by decide +kernel
theorem dX8_sheet_70 : decode cX8_sheet 70 = .ok (.iload_n 2, 1) := by decide +kernel
theorem dX8_sheet_71 : decode cX8_sheet 71 = .ok (.ifCond .ne 7, 3) := by decide +kernel
theorem dX8_sheet_74 : decode cX8_sheet 74 = .ok (.iconst 0, 1) := by decide +kernel
theorem dX8_sheet_75 : decode cX8_sheet 75 = .ok (.goto 4, 3) := by decide +kernel
theorem dX8_sheet_78 : decode cX8_sheet 78 = .ok (.iload_n 3, 1) := by decide +kernel
theorem dX8_sheet_79 : decode cX8_sheet 79 = .ok (.iastore, 1) := by decide +kernel
theorem dX8_sheet_80 : decode cX8_sheet 80 = .ok (.iconst 0, 1) := by decide +kernel
theorem dX8_sheet_81 : decode cX8_sheet 81 = .ok (.istore 4, 2) := by decide +kernel
theorem dX8_sheet_83 : decode cX8_sheet 83 = .ok (.iload 4, 2) := by decide +kernel
theorem dX8_sheet_85 : decode cX8_sheet 85 = .ok (.bipush 40, 2) := by decide +kernel
theorem dX8_sheet_87 : decode cX8_sheet 87 = .ok (.if_icmp .ge 22, 3) := by decide +kernel
theorem dX8_sheet_90 : decode cX8_sheet 90 = .ok (.aload_n 0, 1) := by decide +kernel
theorem dX8_sheet_91 : decode cX8_sheet 91 = .ok (.getfield 63, 3) := by decide +kernel
theorem dX8_sheet_94 : decode cX8_sheet 94 = .ok (.bipush 40, 2) := by decide +kernel
theorem dX8_sheet_96 : decode cX8_sheet 96 = .ok (.iload_n 1, 1) := by decide +kernel
theorem dX8_sheet_97 : decode cX8_sheet 97 = .ok (.imul, 1) := by decide +kernel
theorem dX8_sheet_98 : decode cX8_sheet 98 = .ok (.iload 4, 2) := by decide +kernel
theorem dX8_sheet_100 : decode cX8_sheet 100 = .ok (.iadd, 1) := by decide +kernel
theorem dX8_sheet_101 : decode cX8_sheet 101 = .ok (.iconst 0, 1) := by decide +kernel
theorem dX8_sheet_102 : decode cX8_sheet 102 = .ok (.iastore, 1) := by decide +kernel
theorem dX8_sheet_103 : decode cX8_sheet 103 = .ok (.iinc 4 1, 3) := by decide +kernel
theorem dX8_sheet_106 : decode cX8_sheet 106 = .ok (.goto (-23), 3) := by decide +kernel
theorem dX8_sheet_109 : decode cX8_sheet 109 = .ok (.aload_n 0, 1) := by decide +kernel
theorem dX8_sheet_110 : decode cX8_sheet 110 = .ok (.getfield 60, 3) := by decide +kernel
theorem dX8_sheet_113 : decode cX8_sheet 113 = .ok (.iload_n 1, 1) := by decide +kernel
theorem dX8_sheet_114 : decode cX8_sheet 114 = .ok (.iaload, 1) := by decide +kernel
theorem dX8_sheet_115 : decode cX8_sheet 115 = .ok (.ireturn, 1) := by decide +kernel
set_option maxRecDepth 20000 in
theorem ggX8_whyNone_X8_isSheet : GoodIn wsX8_whyNone wsX8_isSheet := goodIn_r _ [5, 6, 7, 8, 4, 9] (by exact rfl) (by decide +kernel)
set_option maxRecDepth 20000 in
theorem gX8_whyNone_X8_isSheet : GoodIn wsX8_whyNone (va_wsS RX8 359 yX8_isSheet wsX8_isSheet) := goodIn_app (goodIn_of _ (by decide +kernel)) ggX8_whyNone_X8_isSheet
theorem dX8_whyNone_0 : decode cX8_whyNone 0 = .ok (.iload_n 1, 1) := by decide +kernel
theorem dX8_whyNone_1 : decode cX8_whyNone 1 = .ok (.invokestatic 359, 3) := by decide +kernel
theorem dX8_whyNone_4 : decode cX8_whyNone 4 = .ok (.ifCond .ne 7, 3) := by decide +kernel
theorem dX8_whyNone_7 : decode cX8_whyNone 7 = .ok (.iconst 0, 1) := by decide +kernel
theorem dX8_whyNone_8 : decode cX8_whyNone 8 = .ok (.goto 17, 3) := by decide +kernel
theorem dX8_whyNone_11 : decode cX8_whyNone 11 = .ok (.aload_n 0, 1) := by decide +kernel
theorem dX8_whyNone_12 : decode cX8_whyNone 12 = .ok (.getfield 57, 3) := by decide +kernel
theorem dX8_whyNone_15 : decode cX8_whyNone 15 = .ok (.iload_n 1, 1) := by decide +kernel
theorem dX8_whyNone_16 : decode cX8_whyNone 16 = .ok (.iaload, 1) := by decide +kernel
theorem dX8_whyNone_17 : decode cX8_whyNone 17 = .ok (.ifCond .ne 7, 3) := by decide +kernel
theorem dX8_whyNone_20 : decode cX8_whyNone 20 = .ok (.iconst 5, 1) := by decide +kernel
theorem dX8_whyNone_21 : decode cX8_whyNone 21 = .ok (.goto 4, 3) := by decide +kernel
theorem dX8_whyNone_24 : decode cX8_whyNone 24 = .ok (.iconst (-1), 1) := by decide +kernel
theorem dX8_whyNone_25 : decode cX8_whyNone 25 = .ok (.ireturn, 1) := by decide +kernel
set_option maxRecDepth 20000 in
theorem ggX8_write_X8_whyNone : GoodIn wsX8_write wsX8_whyNone := goodIn_r _ [8, 3, 9, 10, 7, 11, 12, 13, 14, 15, 22, 23, 24, 25, 26, 27, 28, 29, 30, 31, 32, 33, 34, 35, 36, 37, 38, 39, 40, 41, 42, 43, 44, 45, 46, 47, 48, 49, 50, 51, 52, 53, 54, 55, 56, 57, 58, 59, 60, 61, 62, 63, 64] (by exact rfl) (by decide +kernel)
set_option maxRecDepth 20000 in
theorem gX8_write_X8_whyNone : GoodIn wsX8_write (wsV RX8 261 RX8 yX8_whyNone wsX8_whyNone) := goodIn_app (goodIn_of _ (by decide +kernel)) ggX8_write_X8_whyNone
set_option maxRecDepth 20000 in
theorem ggX8_write_X8_in : GoodIn wsX8_write wsX8_in := goodIn_r _ [15] (by exact rfl) (by decide +kernel)
set_option maxRecDepth 20000 in
theorem gX8_write_X8_in : GoodIn wsX8_write (va_wsS RX8 70 yX8_in wsX8_in) := goodIn_app (goodIn_of _ (by decide +kernel)) ggX8_write_X8_in
set_option maxRecDepth 20000 in
theorem ggX8_write_X8_finds : GoodIn wsX8_write wsX8_finds := goodIn_r _ [19, 20, 21, 22, 23, 24, 25, 26, 27, 28, 29, 30, 31, 32, 33, 34, 35, 36, 37, 38, 39, 40, 41, 42, 43, 44, 45, 46, 47, 48, 49, 50, 51, 52, 53, 54, 55, 56, 57, 58, 59, 60, 61, 62, 63, 64] (by exact rfl) (by decide +kernel)
set_option maxRecDepth 20000 in
theorem gX8_write_X8_finds : GoodIn wsX8_write (wsV RX8 115 RX8 yX8_finds wsX8_finds) := goodIn_app (goodIn_of _ (by decide +kernel)) ggX8_write_X8_finds
theorem dX8_write_0 : decode cX8_write 0 = .ok (.aload_n 0, 1) := by decide +kernel
theorem dX8_write_1 : decode cX8_write 1 = .ok (.iload_n 1, 1) := by decide +kernel
theorem dX8_write_2 : decode cX8_write 2 = .ok (.invokevirtual 261, 3) := by decide +kernel
theorem dX8_write_5 : decode cX8_write 5 = .ok (.istore 4, 2) := by decide +kernel
theorem dX8_write_7 : decode cX8_write 7 = .ok (.iload 4, 2) := by decide +kernel
theorem dX8_write_9 : decode cX8_write 9 = .ok (.ifCond .ge 25, 3) := by decide +kernel
theorem dX8_write_12 : decode cX8_write 12 = .ok (.iload_n 2, 1) := by decide +kernel
theorem dX8_write_13 : decode cX8_write 13 = .ok (.i2l, 1) := by decide +kernel
theorem dX8_write_14 : decode cX8_write 14 = .ok (.lconst 0, 1) := by decide +kernel
theorem dX8_write_15 : decode cX8_write 15 = .ok (.aload_n 0, 1) := by decide +kernel
theorem dX8_write_16 : decode cX8_write 16 = .ok (.getfield 60, 3) := by decide +kernel
theorem dX8_write_19 : decode cX8_write 19 = .ok (.iload_n 1, 1) := by decide +kernel
theorem dX8_write_20 : decode cX8_write 20 = .ok (.iaload, 1) := by decide +kernel
theorem dX8_write_21 : decode cX8_write 21 = .ok (.iconst 1, 1) := by decide +kernel
theorem dX8_write_22 : decode cX8_write 22 = .ok (.isub, 1) := by decide +kernel
theorem dX8_write_23 : decode cX8_write 23 = .ok (.i2l, 1) := by decide +kernel
theorem dX8_write_24 : decode cX8_write 24 = .ok (.invokestatic 70, 3) := by decide +kernel
theorem dX8_write_27 : decode cX8_write 27 = .ok (.ifCond .ne 7, 3) := by decide +kernel
theorem dX8_write_30 : decode cX8_write 30 = .ok (.iconst 0, 1) := by decide +kernel
theorem dX8_write_31 : decode cX8_write 31 = .ok (.goto 5, 3) := by decide +kernel
theorem dX8_write_34 : decode cX8_write 34 = .ok (.iload 4, 2) := by decide +kernel
theorem dX8_write_36 : decode cX8_write 36 = .ok (.istore 4, 2) := by decide +kernel
theorem dX8_write_38 : decode cX8_write 38 = .ok (.iload 4, 2) := by decide +kernel
theorem dX8_write_40 : decode cX8_write 40 = .ok (.ifCond .lt 10, 3) := by decide +kernel
theorem dX8_write_43 : decode cX8_write 43 = .ok (.aload_n 0, 1) := by decide +kernel
theorem dX8_write_44 : decode cX8_write 44 = .ok (.iload 4, 2) := by decide +kernel
theorem dX8_write_46 : decode cX8_write 46 = .ok (.invokevirtual 115, 3) := by decide +kernel
theorem dX8_write_49 : decode cX8_write 49 = .ok (.ireturn, 1) := by decide +kernel
theorem dX8_write_50 : decode cX8_write 50 = .ok (.aload_n 0, 1) := by decide +kernel
theorem dX8_write_51 : decode cX8_write 51 = .ok (.getfield 63, 3) := by decide +kernel
theorem dX8_write_54 : decode cX8_write 54 = .ok (.bipush 40, 2) := by decide +kernel
theorem dX8_write_56 : decode cX8_write 56 = .ok (.iload_n 1, 1) := by decide +kernel
theorem dX8_write_57 : decode cX8_write 57 = .ok (.imul, 1) := by decide +kernel
theorem dX8_write_58 : decode cX8_write 58 = .ok (.iload_n 2, 1) := by decide +kernel
theorem dX8_write_59 : decode cX8_write 59 = .ok (.iadd, 1) := by decide +kernel
theorem dX8_write_60 : decode cX8_write 60 = .ok (.aload_n 0, 1) := by decide +kernel
theorem dX8_write_61 : decode cX8_write 61 = .ok (.getfield 57, 3) := by decide +kernel
theorem dX8_write_64 : decode cX8_write 64 = .ok (.iload_n 1, 1) := by decide +kernel
theorem dX8_write_65 : decode cX8_write 65 = .ok (.iaload, 1) := by decide +kernel
theorem dX8_write_66 : decode cX8_write 66 = .ok (.bipush 8, 2) := by decide +kernel
theorem dX8_write_68 : decode cX8_write 68 = .ok (.if_icmp .ne 8, 3) := by decide +kernel
theorem dX8_write_71 : decode cX8_write 71 = .ok (.iload_n 3, 1) := by decide +kernel
theorem dX8_write_72 : decode cX8_write 72 = .ok (.i2b, 1) := by decide +kernel
theorem dX8_write_73 : decode cX8_write 73 = .ok (.goto 20, 3) := by decide +kernel
theorem dX8_write_76 : decode cX8_write 76 = .ok (.aload_n 0, 1) := by decide +kernel
theorem dX8_write_77 : decode cX8_write 77 = .ok (.getfield 57, 3) := by decide +kernel
theorem dX8_write_80 : decode cX8_write 80 = .ok (.iload_n 1, 1) := by decide +kernel
theorem dX8_write_81 : decode cX8_write 81 = .ok (.iaload, 1) := by decide +kernel
theorem dX8_write_82 : decode cX8_write 82 = .ok (.bipush 16, 2) := by decide +kernel
theorem dX8_write_84 : decode cX8_write 84 = .ok (.if_icmp .ne 8, 3) := by decide +kernel
theorem dX8_write_87 : decode cX8_write 87 = .ok (.iload_n 3, 1) := by decide +kernel
theorem dX8_write_88 : decode cX8_write 88 = .ok (.i2s, 1) := by decide +kernel
theorem dX8_write_89 : decode cX8_write 89 = .ok (.goto 4, 3) := by decide +kernel
theorem dX8_write_92 : decode cX8_write 92 = .ok (.iload_n 3, 1) := by decide +kernel
theorem dX8_write_93 : decode cX8_write 93 = .ok (.iastore, 1) := by decide +kernel
theorem dX8_write_94 : decode cX8_write 94 = .ok (.iconst 1, 1) := by decide +kernel
theorem dX8_write_95 : decode cX8_write 95 = .ok (.ireturn, 1) := by decide +kernel
set_option maxRecDepth 20000 in
theorem ggX8_copy_X8_isSheet : GoodIn wsX8_copy wsX8_isSheet := goodIn_r _ [8, 9, 10, 11, 7, 12] (by exact rfl) (by decide +kernel)
set_option maxRecDepth 20000 in
theorem gX8_copy_X8_isSheet : GoodIn wsX8_copy (va_wsS RX8 359 yX8_isSheet wsX8_isSheet) := goodIn_app (goodIn_of _ (by decide +kernel)) ggX8_copy_X8_isSheet
set_option maxRecDepth 20000 in
theorem ggX8_copy_X8_finds : GoodIn wsX8_copy wsX8_finds := goodIn_r _ [16, 17, 18, 19, 20, 21, 22, 23, 24, 25, 26, 27, 28, 29, 30, 31, 32, 33, 34, 35, 36, 37, 38, 39, 40, 41, 42, 43, 44, 45, 46, 47, 48, 49, 50, 51, 52, 53, 54, 55, 56, 57, 58, 59, 60, 61] (by exact rfl) (by decide +kernel)
set_option maxRecDepth 20000 in
theorem gX8_copy_X8_finds : GoodIn wsX8_copy (wsV RX8 115 RX8 yX8_finds wsX8_finds) := goodIn_app (goodIn_of _ (by decide +kernel)) ggX8_copy_X8_finds
theorem dX8_copy_0 : decode cX8_copy 0 = .ok (.iload_n 1, 1) := by decide +kernel
theorem dX8_copy_1 : decode cX8_copy 1 = .ok (.invokestatic 359, 3) := by decide +kernel
theorem dX8_copy_4 : decode cX8_copy 4 = .ok (.ifCond .eq 10, 3) := by decide +kernel
theorem dX8_copy_7 : decode cX8_copy 7 = .ok (.iload_n 3, 1) := by decide +kernel
theorem dX8_copy_8 : decode cX8_copy 8 = .ok (.invokestatic 359, 3) := by decide +kernel
theorem dX8_copy_11 : decode cX8_copy 11 = .ok (.ifCond .ne 9, 3) := by decide +kernel
theorem dX8_copy_14 : decode cX8_copy 14 = .ok (.aload_n 0, 1) := by decide +kernel
theorem dX8_copy_15 : decode cX8_copy 15 = .ok (.iconst 0, 1) := by decide +kernel
theorem dX8_copy_16 : decode cX8_copy 16 = .ok (.invokevirtual 115, 3) := by decide +kernel
theorem dX8_copy_19 : decode cX8_copy 19 = .ok (.ireturn, 1) := by decide +kernel
theorem dX8_copy_20 : decode cX8_copy 20 = .ok (.aload_n 0, 1) := by decide +kernel
theorem dX8_copy_21 : decode cX8_copy 21 = .ok (.getfield 57, 3) := by decide +kernel
theorem dX8_copy_24 : decode cX8_copy 24 = .ok (.iload_n 1, 1) := by decide +kernel
theorem dX8_copy_25 : decode cX8_copy 25 = .ok (.iaload, 1) := by decide +kernel
theorem dX8_copy_26 : decode cX8_copy 26 = .ok (.ifCond .eq 12, 3) := by decide +kernel
theorem dX8_copy_29 : decode cX8_copy 29 = .ok (.aload_n 0, 1) := by decide +kernel
theorem dX8_copy_30 : decode cX8_copy 30 = .ok (.getfield 57, 3) := by decide +kernel
theorem dX8_copy_33 : decode cX8_copy 33 = .ok (.iload_n 3, 1) := by decide +kernel
theorem dX8_copy_34 : decode cX8_copy 34 = .ok (.iaload, 1) := by decide +kernel
theorem dX8_copy_35 : decode cX8_copy 35 = .ok (.ifCond .ne 9, 3) := by decide +kernel
theorem dX8_copy_38 : decode cX8_copy 38 = .ok (.aload_n 0, 1) := by decide +kernel
theorem dX8_copy_39 : decode cX8_copy 39 = .ok (.iconst 5, 1) := by decide +kernel
theorem dX8_copy_40 : decode cX8_copy 40 = .ok (.invokevirtual 115, 3) := by decide +kernel
theorem dX8_copy_43 : decode cX8_copy 43 = .ok (.ireturn, 1) := by decide +kernel
theorem dX8_copy_44 : decode cX8_copy 44 = .ok (.aload_n 0, 1) := by decide +kernel
theorem dX8_copy_45 : decode cX8_copy 45 = .ok (.getfield 57, 3) := by decide +kernel
theorem dX8_copy_48 : decode cX8_copy 48 = .ok (.iload_n 1, 1) := by decide +kernel
theorem dX8_copy_49 : decode cX8_copy 49 = .ok (.iaload, 1) := by decide +kernel
theorem dX8_copy_50 : decode cX8_copy 50 = .ok (.aload_n 0, 1) := by decide +kernel
theorem dX8_copy_51 : decode cX8_copy 51 = .ok (.getfield 57, 3) := by decide +kernel
theorem dX8_copy_54 : decode cX8_copy 54 = .ok (.iload_n 3, 1) := by decide +kernel
theorem dX8_copy_55 : decode cX8_copy 55 = .ok (.iaload, 1) := by decide +kernel
theorem dX8_copy_56 : decode cX8_copy 56 = .ok (.if_icmp .eq 9, 3) := by decide +kernel
theorem dX8_copy_59 : decode cX8_copy 59 = .ok (.aload_n 0, 1) := by decide +kernel
theorem dX8_copy_60 : decode cX8_copy 60 = .ok (.iconst 2, 1) := by decide +kernel
theorem dX8_copy_61 : decode cX8_copy 61 = .ok (.invokevirtual 115, 3) := by decide +kernel
theorem dX8_copy_64 : decode cX8_copy 64 = .ok (.ireturn, 1) := by decide +kernel
theorem dX8_copy_65 : decode cX8_copy 65 = .ok (.iload_n 2, 1) := by decide +kernel
theorem dX8_copy_66 : decode cX8_copy 66 = .ok (.ifCond .lt 48, 3) := by decide +kernel
theorem dX8_copy_69 : decode cX8_copy 69 = .ok (.iload 4, 2) := by decide +kernel
theorem dX8_copy_71 : decode cX8_copy 71 = .ok (.ifCond .lt 43, 3) := by decide +kernel
theorem dX8_copy_74 : decode cX8_copy 74 = .ok (.iload 5, 2) := by decide +kernel
theorem dX8_copy_76 : decode cX8_copy 76 = .ok (.ifCond .lt 38, 3) := by decide +kernel
theorem dX8_copy_79 : decode cX8_copy 79 = .ok (.iload_n 2, 1) := by decide +kernel
theorem dX8_copy_80 : decode cX8_copy 80 = .ok (.i2l, 1) := by decide +kernel
theorem dX8_copy_81 : decode cX8_copy 81 = .ok (.iload 5, 2) := by decide +kernel
theorem dX8_copy_83 : decode cX8_copy 83 = .ok (.i2l, 1) := by decide +kernel
theorem dX8_copy_84 : decode cX8_copy 84 = .ok (.ladd, 1) := by decide +kernel
theorem dX8_copy_85 : decode cX8_copy 85 = .ok (.aload_n 0, 1) := by decide +kernel
theorem dX8_copy_86 : decode cX8_copy 86 = .ok (.getfield 60, 3) := by decide +kernel
theorem dX8_copy_89 : decode cX8_copy 89 = .ok (.iload_n 1, 1) := by decide +kernel
theorem dX8_copy_90 : decode cX8_copy 90 = .ok (.iaload, 1) := by decide +kernel
theorem dX8_copy_91 : decode cX8_copy 91 = .ok (.i2l, 1) := by decide +kernel
theorem dX8_copy_92 : decode cX8_copy 92 = .ok (.lcmp, 1) := by decide +kernel
theorem dX8_copy_93 : decode cX8_copy 93 = .ok (.ifCond .gt 21, 3) := by decide +kernel
theorem dX8_copy_96 : decode cX8_copy 96 = .ok (.iload 4, 2) := by decide +kernel
theorem dX8_copy_98 : decode cX8_copy 98 = .ok (.i2l, 1) := by decide +kernel
theorem dX8_copy_99 : decode cX8_copy 99 = .ok (.iload 5, 2) := by decide +kernel
theorem dX8_copy_101 : decode cX8_copy 101 = .ok (.i2l, 1) := by decide +kernel
theorem dX8_copy_102 : decode cX8_copy 102 = .ok (.ladd, 1) := by decide +kernel
theorem dX8_copy_103 : decode cX8_copy 103 = .ok (.aload_n 0, 1) := by decide +kernel
theorem dX8_copy_104 : decode cX8_copy 104 = .ok (.getfield 60, 3) := by decide +kernel
theorem dX8_copy_107 : decode cX8_copy 107 = .ok (.iload_n 3, 1) := by decide +kernel
theorem dX8_copy_108 : decode cX8_copy 108 = .ok (.iaload, 1) := by decide +kernel
theorem dX8_copy_109 : decode cX8_copy 109 = .ok (.i2l, 1) := by decide +kernel
theorem dX8_copy_110 : decode cX8_copy 110 = .ok (.lcmp, 1) := by decide +kernel
theorem dX8_copy_111 : decode cX8_copy 111 = .ok (.ifCond .le 9, 3) := by decide +kernel
theorem dX8_copy_114 : decode cX8_copy 114 = .ok (.aload_n 0, 1) := by decide +kernel
theorem dX8_copy_115 : decode cX8_copy 115 = .ok (.iconst 0, 1) := by decide +kernel
theorem dX8_copy_116 : decode cX8_copy 116 = .ok (.invokevirtual 115, 3) := by decide +kernel
theorem dX8_copy_119 : decode cX8_copy 119 = .ok (.ireturn, 1) := by decide +kernel
theorem dX8_copy_120 : decode cX8_copy 120 = .ok (.iconst 0, 1) := by decide +kernel
theorem dX8_copy_121 : decode cX8_copy 121 = .ok (.istore 6, 2) := by decide +kernel
theorem dX8_copy_123 : decode cX8_copy 123 = .ok (.iload 6, 2) := by decide +kernel
theorem dX8_copy_125 : decode cX8_copy 125 = .ok (.iload 5, 2) := by decide +kernel
theorem dX8_copy_127 : decode cX8_copy 127 = .ok (.if_icmp .ge 30, 3) := by decide +kernel
theorem dX8_copy_130 : decode cX8_copy 130 = .ok (.aload_n 0, 1) := by decide +kernel
theorem dX8_copy_131 : decode cX8_copy 131 = .ok (.getfield 66, 3) := by decide +kernel
theorem dX8_copy_134 : decode cX8_copy 134 = .ok (.iload 6, 2) := by decide +kernel
theorem dX8_copy_136 : decode cX8_copy 136 = .ok (.aload_n 0, 1) := by decide +kernel
theorem dX8_copy_137 : decode cX8_copy 137 = .ok (.getfield 63, 3) := by decide +kernel
theorem dX8_copy_140 : decode cX8_copy 140 = .ok (.bipush 40, 2) := by decide +kernel
theorem dX8_copy_142 : decode cX8_copy 142 = .ok (.iload_n 1, 1) := by decide +kernel
theorem dX8_copy_143 : decode cX8_copy 143 = .ok (.imul, 1) := by decide +kernel
theorem dX8_copy_144 : decode cX8_copy 144 = .ok (.iload_n 2, 1) := by decide +kernel
theorem dX8_copy_145 : decode cX8_copy 145 = .ok (.iadd, 1) := by decide +kernel
theorem dX8_copy_146 : decode cX8_copy 146 = .ok (.iload 6, 2) := by decide +kernel
theorem dX8_copy_148 : decode cX8_copy 148 = .ok (.iadd, 1) := by decide +kernel
theorem dX8_copy_149 : decode cX8_copy 149 = .ok (.iaload, 1) := by decide +kernel
theorem dX8_copy_150 : decode cX8_copy 150 = .ok (.iastore, 1) := by decide +kernel
theorem dX8_copy_151 : decode cX8_copy 151 = .ok (.iinc 6 1, 3) := by decide +kernel
theorem dX8_copy_154 : decode cX8_copy 154 = .ok (.goto (-31), 3) := by decide +kernel
theorem dX8_copy_157 : decode cX8_copy 157 = .ok (.iconst 0, 1) := by decide +kernel
theorem dX8_copy_158 : decode cX8_copy 158 = .ok (.istore 6, 2) := by decide +kernel
theorem dX8_copy_160 : decode cX8_copy 160 = .ok (.iload 6, 2) := by decide +kernel
theorem dX8_copy_162 : decode cX8_copy 162 = .ok (.iload 5, 2) := by decide +kernel
theorem dX8_copy_164 : decode cX8_copy 164 = .ok (.if_icmp .ge 31, 3) := by decide +kernel
theorem dX8_copy_167 : decode cX8_copy 167 = .ok (.aload_n 0, 1) := by decide +kernel
theorem dX8_copy_168 : decode cX8_copy 168 = .ok (.getfield 63, 3) := by decide +kernel
theorem dX8_copy_171 : decode cX8_copy 171 = .ok (.bipush 40, 2) := by decide +kernel
theorem dX8_copy_173 : decode cX8_copy 173 = .ok (.iload_n 3, 1) := by decide +kernel
theorem dX8_copy_174 : decode cX8_copy 174 = .ok (.imul, 1) := by decide +kernel
theorem dX8_copy_175 : decode cX8_copy 175 = .ok (.iload 4, 2) := by decide +kernel
theorem dX8_copy_177 : decode cX8_copy 177 = .ok (.iadd, 1) := by decide +kernel
theorem dX8_copy_178 : decode cX8_copy 178 = .ok (.iload 6, 2) := by decide +kernel
theorem dX8_copy_180 : decode cX8_copy 180 = .ok (.iadd, 1) := by decide +kernel
theorem dX8_copy_181 : decode cX8_copy 181 = .ok (.aload_n 0, 1) := by decide +kernel
theorem dX8_copy_182 : decode cX8_copy 182 = .ok (.getfield 66, 3) := by decide +kernel
theorem dX8_copy_185 : decode cX8_copy 185 = .ok (.iload 6, 2) := by decide +kernel
theorem dX8_copy_187 : decode cX8_copy 187 = .ok (.iaload, 1) := by decide +kernel
theorem dX8_copy_188 : decode cX8_copy 188 = .ok (.iastore, 1) := by decide +kernel
theorem dX8_copy_189 : decode cX8_copy 189 = .ok (.iinc 6 1, 3) := by decide +kernel
theorem dX8_copy_192 : decode cX8_copy 192 = .ok (.goto (-32), 3) := by decide +kernel
theorem dX8_copy_195 : decode cX8_copy 195 = .ok (.iload 5, 2) := by decide +kernel
theorem dX8_copy_197 : decode cX8_copy 197 = .ok (.ireturn, 1) := by decide +kernel
set_option maxRecDepth 20000 in
theorem ggX8_load_X8_whyNone : GoodIn wsX8_load wsX8_whyNone := goodIn_r _ [9, 10, 11, 12, 8, 13, 14, 15, 16, 17, 28, 29, 30, 31, 32, 33, 34, 35, 36, 37, 38, 39, 40, 41, 42, 43, 44, 45, 46, 47, 48, 49, 50, 51, 52, 53, 54, 55, 56, 57, 58, 59, 60, 61, 62, 63, 64, 65, 66, 67, 68, 69, 70] (by exact rfl) (by decide +kernel)
set_option maxRecDepth 20000 in
theorem gX8_load_X8_whyNone : GoodIn wsX8_load (wsV RX8 261 RX8 yX8_whyNone wsX8_whyNone) := goodIn_app (goodIn_of _ (by decide +kernel)) ggX8_load_X8_whyNone
set_option maxRecDepth 20000 in
theorem ggX8_load_X8_finds : GoodIn wsX8_load wsX8_finds := goodIn_r _ [21, 22, 23, 28, 29, 30, 31, 32, 33, 34, 35, 36, 37, 38, 39, 40, 41, 42, 43, 44, 45, 46, 47, 48, 49, 50, 51, 52, 53, 54, 55, 56, 57, 58, 59, 60, 61, 62, 63, 64, 65, 66, 67, 68, 69, 70] (by exact rfl) (by decide +kernel)
set_option maxRecDepth 20000 in
theorem gX8_load_X8_finds : GoodIn wsX8_load (wsV RX8 115 RX8 yX8_finds wsX8_finds) := goodIn_app (goodIn_of _ (by decide +kernel)) ggX8_load_X8_finds
set_option maxRecDepth 20000 in
theorem ggX8_load_X8_in : GoodIn wsX8_load wsX8_in := goodIn_r _ [17] (by exact rfl) (by decide +kernel)
set_option maxRecDepth 20000 in
theorem gX8_load_X8_in : GoodIn wsX8_load (va_wsS RX8 70 yX8_in wsX8_in) := goodIn_app (goodIn_of _ (by decide +kernel)) ggX8_load_X8_in
set_option maxRecDepth 20000 in
theorem ggX8_load_X8_sets : GoodIn wsX8_load wsX8_sets := goodIn_r _ [27, 2, 28, 29, 30, 31, 32, 33, 34, 35, 36, 37, 38, 39, 40, 41, 42, 43, 44, 45, 46, 47, 48, 49, 50, 51, 52, 53, 54, 55, 56, 57, 58, 59, 60, 61, 62, 63, 64, 65, 66, 67, 68, 69, 70] (by exact rfl) (by decide +kernel)
set_option maxRecDepth 20000 in
theorem gX8_load_X8_sets : GoodIn wsX8_load (wsV RX8 105 RX8 yX8_sets wsX8_sets) := goodIn_app (goodIn_of _ (by decide +kernel)) ggX8_load_X8_sets
theorem dX8_load_0 : decode cX8_load 0 = .ok (.aload_n 0, 1) := by decide +kernel
theorem dX8_load_1 : decode cX8_load 1 = .ok (.iload_n 1, 1) := by decide +kernel
theorem dX8_load_2 : decode cX8_load 2 = .ok (.invokevirtual 261, 3) := by decide +kernel
theorem dX8_load_5 : decode cX8_load 5 = .ok (.istore_n 2, 1) := by decide +kernel
theorem dX8_load_6 : decode cX8_load 6 = .ok (.iload_n 2, 1) := by decide +kernel
theorem dX8_load_7 : decode cX8_load 7 = .ok (.ifCond .lt 9, 3) := by decide +kernel
theorem dX8_load_10 : decode cX8_load 10 = .ok (.aload_n 0, 1) := by decide +kernel
theorem dX8_load_11 : decode cX8_load 11 = .ok (.iload_n 2, 1) := by decide +kernel
theorem dX8_load_12 : decode cX8_load 12 = .ok (.invokevirtual 115, 3) := by decide +kernel
theorem dX8_load_15 : decode cX8_load 15 = .ok (.ireturn, 1) := by decide +kernel
theorem dX8_load_16 : decode cX8_load 16 = .ok (.iconst 0, 1) := by decide +kernel
theorem dX8_load_17 : decode cX8_load 17 = .ok (.istore_n 3, 1) := by decide +kernel
theorem dX8_load_18 : decode cX8_load 18 = .ok (.iload_n 3, 1) := by decide +kernel
theorem dX8_load_19 : decode cX8_load 19 = .ok (.aload_n 0, 1) := by decide +kernel
theorem dX8_load_20 : decode cX8_load 20 = .ok (.getfield 60, 3) := by decide +kernel
theorem dX8_load_23 : decode cX8_load 23 = .ok (.iload_n 1, 1) := by decide +kernel
theorem dX8_load_24 : decode cX8_load 24 = .ok (.iaload, 1) := by decide +kernel
theorem dX8_load_25 : decode cX8_load 25 = .ok (.if_icmp .ge 58, 3) := by decide +kernel
theorem dX8_load_28 : decode cX8_load 28 = .ok (.iload_n 3, 1) := by decide +kernel
theorem dX8_load_29 : decode cX8_load 29 = .ok (.aload_n 0, 1) := by decide +kernel
theorem dX8_load_30 : decode cX8_load 30 = .ok (.getfield 7, 3) := by decide +kernel
theorem dX8_load_33 : decode cX8_load 33 = .ok (.iconst 0, 1) := by decide +kernel
theorem dX8_load_34 : decode cX8_load 34 = .ok (.iaload, 1) := by decide +kernel
theorem dX8_load_35 : decode cX8_load 35 = .ok (.if_icmp .ge 48, 3) := by decide +kernel
theorem dX8_load_38 : decode cX8_load 38 = .ok (.aload_n 0, 1) := by decide +kernel
theorem dX8_load_39 : decode cX8_load 39 = .ok (.getfield 63, 3) := by decide +kernel
theorem dX8_load_42 : decode cX8_load 42 = .ok (.bipush 40, 2) := by decide +kernel
theorem dX8_load_44 : decode cX8_load 44 = .ok (.iload_n 1, 1) := by decide +kernel
theorem dX8_load_45 : decode cX8_load 45 = .ok (.imul, 1) := by decide +kernel
theorem dX8_load_46 : decode cX8_load 46 = .ok (.iload_n 3, 1) := by decide +kernel
theorem dX8_load_47 : decode cX8_load 47 = .ok (.iadd, 1) := by decide +kernel
theorem dX8_load_48 : decode cX8_load 48 = .ok (.iaload, 1) := by decide +kernel
theorem dX8_load_49 : decode cX8_load 49 = .ok (.i2l, 1) := by decide +kernel
theorem dX8_load_50 : decode cX8_load 50 = .ok (.lconst 1, 1) := by decide +kernel
theorem dX8_load_51 : decode cX8_load 51 = .ok (.ldc2_w 121, 3) := by decide +kernel
theorem dX8_load_54 : decode cX8_load 54 = .ok (.invokestatic 70, 3) := by decide +kernel
theorem dX8_load_57 : decode cX8_load 57 = .ok (.ifCond .eq 26, 3) := by decide +kernel
theorem dX8_load_60 : decode cX8_load 60 = .ok (.aload_n 0, 1) := by decide +kernel
theorem dX8_load_61 : decode cX8_load 61 = .ok (.iload_n 3, 1) := by decide +kernel
theorem dX8_load_62 : decode cX8_load 62 = .ok (.iconst 2, 1) := by decide +kernel
theorem dX8_load_63 : decode cX8_load 63 = .ok (.aload_n 0, 1) := by decide +kernel
theorem dX8_load_64 : decode cX8_load 64 = .ok (.getfield 63, 3) := by decide +kernel
theorem dX8_load_67 : decode cX8_load 67 = .ok (.bipush 40, 2) := by decide +kernel
theorem dX8_load_69 : decode cX8_load 69 = .ok (.iload_n 1, 1) := by decide +kernel
theorem dX8_load_70 : decode cX8_load 70 = .ok (.imul, 1) := by decide +kernel
theorem dX8_load_71 : decode cX8_load 71 = .ok (.iload_n 3, 1) := by decide +kernel
theorem dX8_load_72 : decode cX8_load 72 = .ok (.iadd, 1) := by decide +kernel
theorem dX8_load_73 : decode cX8_load 73 = .ok (.iaload, 1) := by decide +kernel
theorem dX8_load_74 : decode cX8_load 74 = .ok (.invokevirtual 105, 3) := by decide +kernel
theorem dX8_load_77 : decode cX8_load 77 = .ok (.iinc 3 1, 3) := by decide +kernel
theorem dX8_load_80 : decode cX8_load 80 = .ok (.goto (-62), 3) := by decide +kernel
theorem dX8_load_83 : decode cX8_load 83 = .ok (.iload_n 3, 1) := by decide +kernel
theorem dX8_load_84 : decode cX8_load 84 = .ok (.ireturn, 1) := by decide +kernel
set_option maxRecDepth 20000 in
theorem ggX8_judge_X8_whyNone : GoodIn wsX8_judge wsX8_whyNone := goodIn_r _ [10, 11, 12, 13, 9, 14, 15, 16, 17, 18, 71, 72, 73, 74, 75, 76, 77, 78, 79, 80, 81, 82, 83, 84, 85, 86, 87, 88, 89, 90, 91, 92, 93, 94, 95, 96, 97, 98, 99, 100, 101, 102, 103, 104, 105, 106, 107, 108, 109, 110, 111, 112, 113] (by exact rfl) (by decide +kernel)
set_option maxRecDepth 20000 in
theorem gX8_judge_X8_whyNone : GoodIn wsX8_judge (wsV RX8 261 RX8 yX8_whyNone wsX8_whyNone) := goodIn_app (goodIn_of _ (by decide +kernel)) ggX8_judge_X8_whyNone
set_option maxRecDepth 20000 in
theorem ggX8_judge_X8_isBasin : GoodIn wsX8_judge wsX8_isBasin := goodIn_r _ [22, 2, 16, 17, 9, 18, 71, 72, 73, 74, 75, 76, 77, 78, 79, 80, 81, 82, 83, 84, 85, 86, 87, 88, 89, 90, 91, 92, 93, 94, 95, 96, 97, 98, 99, 100, 101, 102, 103, 104, 105, 106, 107, 108, 109, 110, 111, 112, 113] (by exact rfl) (by decide +kernel)
set_option maxRecDepth 20000 in
theorem gX8_judge_X8_isBasin : GoodIn wsX8_judge (wsV RX8 109 RX8 yX8_isBasin wsX8_isBasin) := goodIn_app (goodIn_of _ (by decide +kernel)) ggX8_judge_X8_isBasin
set_option maxRecDepth 20000 in
theorem ggX8_judge_X8_isLate : GoodIn wsX8_judge wsX8_isLate := goodIn_r _ [26, 2, 71, 72, 73, 74, 75, 76, 77, 78, 79, 80, 81, 82, 83, 84, 85, 86, 87, 88, 89, 90, 91, 92, 93, 94, 95, 96, 97, 98, 99, 100, 101, 102, 103, 104, 105, 106, 107, 108, 109, 110, 111, 112, 113] (by exact rfl) (by decide +kernel)
set_option maxRecDepth 20000 in
theorem gX8_judge_X8_isLate : GoodIn wsX8_judge (wsV RX8 206 RX8 yX8_isLate wsX8_isLate) := goodIn_app (goodIn_of _ (by decide +kernel)) ggX8_judge_X8_isLate
set_option maxRecDepth 20000 in
theorem ggX8_judge_X8_finds : GoodIn wsX8_judge wsX8_finds := goodIn_r _ [30, 31, 32, 71, 72, 73, 74, 75, 76, 77, 78, 79, 80, 81, 82, 83, 84, 85, 86, 87, 88, 89, 90, 91, 92, 93, 94, 95, 96, 97, 98, 99, 100, 101, 102, 103, 104, 105, 106, 107, 108, 109, 110, 111, 112, 113] (by exact rfl) (by decide +kernel)
set_option maxRecDepth 20000 in
theorem gX8_judge_X8_finds : GoodIn wsX8_judge (wsV RX8 115 RX8 yX8_finds wsX8_finds) := goodIn_app (goodIn_of _ (by decide +kernel)) ggX8_judge_X8_finds
set_option maxRecDepth 20000 in
theorem ggX8_judge_X8_copies : GoodIn wsX8_judge wsX8_copies := goodIn_r _ [35] (by exact rfl) (by decide +kernel)
set_option maxRecDepth 20000 in
theorem gX8_judge_X8_copies : GoodIn wsX8_judge (va_wsS RX8 189 yX8_copies wsX8_copies) := goodIn_app (goodIn_of _ (by decide +kernel)) ggX8_judge_X8_copies
set_option maxRecDepth 20000 in
theorem ggX8_judge_X8_anHour : GoodIn wsX8_judge wsX8_anHour := goodIn_r _ [39, 2, 4, 40, 41, 42, 43, 9, 44, 45, 46, 47, 48, 49, 50, 51, 52, 53, 54, 55, 56, 57, 58, 59, 60, 61, 62, 63, 64, 65, 66, 67, 68, 69, 70, 71, 72, 73, 74, 75, 76, 77, 78, 79, 80, 81, 82, 83, 84, 85, 86, 87, 88, 89, 90, 91, 92, 93, 94, 95, 96, 97, 98, 99, 100, 101, 102, 103, 104, 105, 106, 107, 108, 109, 110, 111, 112, 113] (by exact rfl) (by decide +kernel)
set_option maxRecDepth 20000 in
theorem gX8_judge_X8_anHour : GoodIn wsX8_judge (wsV RX8 201 RX8 yX8_anHour wsX8_anHour) := goodIn_app (goodIn_of _ (by decide +kernel)) ggX8_judge_X8_anHour
theorem dX8_judge_0 : decode cX8_judge 0 = .ok (.aload_n 0, 1) := by decide +kernel
theorem dX8_judge_1 : decode cX8_judge 1 = .ok (.iload_n 1, 1) := by decide +kernel
theorem dX8_judge_2 : decode cX8_judge 2 = .ok (.invokevirtual 261, 3) := by decide +kernel
theorem dX8_judge_5 : decode cX8_judge 5 = .ok (.istore_n 3, 1) := by decide +kernel
theorem dX8_judge_6 : decode cX8_judge 6 = .ok (.iload_n 3, 1) := by decide +kernel
theorem dX8_judge_7 : decode cX8_judge 7 = .ok (.ifCond .ge 34, 3) := by decide +kernel
theorem dX8_judge_10 : decode cX8_judge 10 = .ok (.aload_n 0, 1) := by decide +kernel
theorem dX8_judge_11 : decode cX8_judge 11 = .ok (.iload_n 2, 1) := by decide +kernel
theorem dX8_judge_12 : decode cX8_judge 12 = .ok (.invokevirtual 109, 3) := by decide +kernel
theorem dX8_judge_15 : decode cX8_judge 15 = .ok (.ifCond .ne 7, 3) := by decide +kernel
theorem dX8_judge_18 : decode cX8_judge 18 = .ok (.iconst 0, 1) := by decide +kernel
theorem dX8_judge_19 : decode cX8_judge 19 = .ok (.goto 21, 3) := by decide +kernel
theorem dX8_judge_22 : decode cX8_judge 22 = .ok (.aload_n 0, 1) := by decide +kernel
theorem dX8_judge_23 : decode cX8_judge 23 = .ok (.aload_n 0, 1) := by decide +kernel
theorem dX8_judge_24 : decode cX8_judge 24 = .ok (.getfield 60, 3) := by decide +kernel
theorem dX8_judge_27 : decode cX8_judge 27 = .ok (.iload_n 1, 1) := by decide +kernel
theorem dX8_judge_28 : decode cX8_judge 28 = .ok (.iaload, 1) := by decide +kernel
theorem dX8_judge_29 : decode cX8_judge 29 = .ok (.invokevirtual 206, 3) := by decide +kernel
theorem dX8_judge_32 : decode cX8_judge 32 = .ok (.ifCond .eq 7, 3) := by decide +kernel
theorem dX8_judge_35 : decode cX8_judge 35 = .ok (.iconst 4, 1) := by decide +kernel
theorem dX8_judge_36 : decode cX8_judge 36 = .ok (.goto 4, 3) := by decide +kernel
theorem dX8_judge_39 : decode cX8_judge 39 = .ok (.iconst (-1), 1) := by decide +kernel
theorem dX8_judge_40 : decode cX8_judge 40 = .ok (.istore_n 3, 1) := by decide +kernel
theorem dX8_judge_41 : decode cX8_judge 41 = .ok (.iload_n 3, 1) := by decide +kernel
theorem dX8_judge_42 : decode cX8_judge 42 = .ok (.ifCond .lt 9, 3) := by decide +kernel
theorem dX8_judge_45 : decode cX8_judge 45 = .ok (.aload_n 0, 1) := by decide +kernel
theorem dX8_judge_46 : decode cX8_judge 46 = .ok (.iload_n 3, 1) := by decide +kernel
theorem dX8_judge_47 : decode cX8_judge 47 = .ok (.invokevirtual 115, 3) := by decide +kernel
theorem dX8_judge_50 : decode cX8_judge 50 = .ok (.ireturn, 1) := by decide +kernel
theorem dX8_judge_51 : decode cX8_judge 51 = .ok (.aload_n 0, 1) := by decide +kernel
theorem dX8_judge_52 : decode cX8_judge 52 = .ok (.getfield 7, 3) := by decide +kernel
theorem dX8_judge_55 : decode cX8_judge 55 = .ok (.aload_n 0, 1) := by decide +kernel
theorem dX8_judge_56 : decode cX8_judge 56 = .ok (.getfield 16, 3) := by decide +kernel
theorem dX8_judge_59 : decode cX8_judge 59 = .ok (.invokestatic 189, 3) := by decide +kernel
theorem dX8_judge_62 : decode cX8_judge 62 = .ok (.iconst 0, 1) := by decide +kernel
theorem dX8_judge_63 : decode cX8_judge 63 = .ok (.istore 4, 2) := by decide +kernel
theorem dX8_judge_65 : decode cX8_judge 65 = .ok (.iconst 0, 1) := by decide +kernel
theorem dX8_judge_66 : decode cX8_judge 66 = .ok (.istore 5, 2) := by decide +kernel
theorem dX8_judge_68 : decode cX8_judge 68 = .ok (.iload 5, 2) := by decide +kernel
theorem dX8_judge_70 : decode cX8_judge 70 = .ok (.aload_n 0, 1) := by decide +kernel
theorem dX8_judge_71 : decode cX8_judge 71 = .ok (.getfield 60, 3) := by decide +kernel
theorem dX8_judge_74 : decode cX8_judge 74 = .ok (.iload_n 1, 1) := by decide +kernel
theorem dX8_judge_75 : decode cX8_judge 75 = .ok (.iaload, 1) := by decide +kernel
theorem dX8_judge_76 : decode cX8_judge 76 = .ok (.if_icmp .ge 49, 3) := by decide +kernel
theorem dX8_judge_79 : decode cX8_judge 79 = .ok (.iload 4, 2) := by decide +kernel
theorem dX8_judge_81 : decode cX8_judge 81 = .ok (.ifCond .ne 44, 3) := by decide +kernel
theorem dX8_judge_84 : decode cX8_judge 84 = .ok (.aload_n 0, 1) := by decide +kernel
theorem dX8_judge_85 : decode cX8_judge 85 = .ok (.invokevirtual 201, 3) := by decide +kernel
theorem dX8_judge_88 : decode cX8_judge 88 = .ok (.aload_n 0, 1) := by decide +kernel
theorem dX8_judge_89 : decode cX8_judge 89 = .ok (.getfield 32, 3) := by decide +kernel
theorem dX8_judge_92 : decode cX8_judge 92 = .ok (.iload_n 2, 1) := by decide +kernel
theorem dX8_judge_93 : decode cX8_judge 93 = .ok (.iaload, 1) := by decide +kernel
theorem dX8_judge_94 : decode cX8_judge 94 = .ok (.aload_n 0, 1) := by decide +kernel
theorem dX8_judge_95 : decode cX8_judge 95 = .ok (.getfield 63, 3) := by decide +kernel
theorem dX8_judge_98 : decode cX8_judge 98 = .ok (.bipush 40, 2) := by decide +kernel
theorem dX8_judge_100 : decode cX8_judge 100 = .ok (.iload_n 1, 1) := by decide +kernel
theorem dX8_judge_101 : decode cX8_judge 101 = .ok (.imul, 1) := by decide +kernel
theorem dX8_judge_102 : decode cX8_judge 102 = .ok (.iload 5, 2) := by decide +kernel
theorem dX8_judge_104 : decode cX8_judge 104 = .ok (.iadd, 1) := by decide +kernel
theorem dX8_judge_105 : decode cX8_judge 105 = .ok (.iaload, 1) := by decide +kernel
theorem dX8_judge_106 : decode cX8_judge 106 = .ok (.if_icmp .ne 7, 3) := by decide +kernel
theorem dX8_judge_109 : decode cX8_judge 109 = .ok (.iconst 0, 1) := by decide +kernel
theorem dX8_judge_110 : decode cX8_judge 110 = .ok (.goto 7, 3) := by decide +kernel
theorem dX8_judge_113 : decode cX8_judge 113 = .ok (.iconst 1, 1) := by decide +kernel
theorem dX8_judge_114 : decode cX8_judge 114 = .ok (.iload 5, 2) := by decide +kernel
theorem dX8_judge_116 : decode cX8_judge 116 = .ok (.iadd, 1) := by decide +kernel
theorem dX8_judge_117 : decode cX8_judge 117 = .ok (.istore 4, 2) := by decide +kernel
theorem dX8_judge_119 : decode cX8_judge 119 = .ok (.iinc 5 1, 3) := by decide +kernel
theorem dX8_judge_122 : decode cX8_judge 122 = .ok (.goto (-54), 3) := by decide +kernel
theorem dX8_judge_125 : decode cX8_judge 125 = .ok (.aload_n 0, 1) := by decide +kernel
theorem dX8_judge_126 : decode cX8_judge 126 = .ok (.getfield 16, 3) := by decide +kernel
theorem dX8_judge_129 : decode cX8_judge 129 = .ok (.aload_n 0, 1) := by decide +kernel
theorem dX8_judge_130 : decode cX8_judge 130 = .ok (.getfield 7, 3) := by decide +kernel
theorem dX8_judge_133 : decode cX8_judge 133 = .ok (.invokestatic 189, 3) := by decide +kernel
theorem dX8_judge_136 : decode cX8_judge 136 = .ok (.iload 4, 2) := by decide +kernel
theorem dX8_judge_138 : decode cX8_judge 138 = .ok (.ireturn, 1) := by decide +kernel
set_option maxRecDepth 20000 in
theorem ggX8_image_X8_copies : GoodIn wsX8_image wsX8_copies := goodIn_r _ [7] (by exact rfl) (by decide +kernel)
set_option maxRecDepth 20000 in
theorem gX8_image_X8_copies : GoodIn wsX8_image (va_wsS RX8 189 yX8_copies wsX8_copies) := goodIn_app (goodIn_of _ (by decide +kernel)) ggX8_image_X8_copies
theorem dX8_image_0 : decode cX8_image 0 = .ok (.aload_n 0, 1) := by decide +kernel
theorem dX8_image_1 : decode cX8_image 1 = .ok (.getfield 7, 3) := by decide +kernel
theorem dX8_image_4 : decode cX8_image 4 = .ok (.aload_n 0, 1) := by decide +kernel
theorem dX8_image_5 : decode cX8_image 5 = .ok (.getfield 19, 3) := by decide +kernel
theorem dX8_image_8 : decode cX8_image 8 = .ok (.invokestatic 189, 3) := by decide +kernel
theorem dX8_image_11 : decode cX8_image 11 = .ok (.aload_n 0, 1) := by decide +kernel
theorem dX8_image_12 : decode cX8_image 12 = .ok (.iconst 1, 1) := by decide +kernel
theorem dX8_image_13 : decode cX8_image 13 = .ok (.putfield 362, 3) := by decide +kernel
theorem dX8_image_16 : decode cX8_image 16 = .ok (.iconst 1, 1) := by decide +kernel
theorem dX8_image_17 : decode cX8_image 17 = .ok (.ireturn, 1) := by decide +kernel
set_option maxRecDepth 20000 in
theorem ggX8_undo_X8_finds : GoodIn wsX8_undo wsX8_finds := goodIn_r _ [8, 9, 10, 14, 15, 16, 17, 18, 19, 20, 21, 22, 23, 24, 25, 26, 27, 28, 29, 30, 31, 32, 33, 34, 35, 36, 37, 38, 39, 40, 41, 42, 43, 44, 45, 46, 47, 48, 49, 50, 51, 52, 53, 54, 55, 56] (by exact rfl) (by decide +kernel)
set_option maxRecDepth 20000 in
theorem gX8_undo_X8_finds : GoodIn wsX8_undo (wsV RX8 115 RX8 yX8_finds wsX8_finds) := goodIn_app (goodIn_of _ (by decide +kernel)) ggX8_undo_X8_finds
set_option maxRecDepth 20000 in
theorem ggX8_undo_X8_copies : GoodIn wsX8_undo wsX8_copies := goodIn_r _ [13] (by exact rfl) (by decide +kernel)
set_option maxRecDepth 20000 in
theorem gX8_undo_X8_copies : GoodIn wsX8_undo (va_wsS RX8 189 yX8_copies wsX8_copies) := goodIn_app (goodIn_of _ (by decide +kernel)) ggX8_undo_X8_copies
theorem dX8_undo_0 : decode cX8_undo 0 = .ok (.aload_n 0, 1) := by decide +kernel
theorem dX8_undo_1 : decode cX8_undo 1 = .ok (.getfield 362, 3) := by decide +kernel
theorem dX8_undo_4 : decode cX8_undo 4 = .ok (.ifCond .ne 9, 3) := by decide +kernel
theorem dX8_undo_7 : decode cX8_undo 7 = .ok (.aload_n 0, 1) := by decide +kernel
theorem dX8_undo_8 : decode cX8_undo 8 = .ok (.iconst 3, 1) := by decide +kernel
theorem dX8_undo_9 : decode cX8_undo 9 = .ok (.invokevirtual 115, 3) := by decide +kernel
theorem dX8_undo_12 : decode cX8_undo 12 = .ok (.ireturn, 1) := by decide +kernel
theorem dX8_undo_13 : decode cX8_undo 13 = .ok (.aload_n 0, 1) := by decide +kernel
theorem dX8_undo_14 : decode cX8_undo 14 = .ok (.getfield 19, 3) := by decide +kernel
theorem dX8_undo_17 : decode cX8_undo 17 = .ok (.aload_n 0, 1) := by decide +kernel
theorem dX8_undo_18 : decode cX8_undo 18 = .ok (.getfield 7, 3) := by decide +kernel
theorem dX8_undo_21 : decode cX8_undo 21 = .ok (.invokestatic 189, 3) := by decide +kernel
theorem dX8_undo_24 : decode cX8_undo 24 = .ok (.aload_n 0, 1) := by decide +kernel
theorem dX8_undo_25 : decode cX8_undo 25 = .ok (.getfield 7, 3) := by decide +kernel
theorem dX8_undo_28 : decode cX8_undo 28 = .ok (.iconst 1, 1) := by decide +kernel
theorem dX8_undo_29 : decode cX8_undo 29 = .ok (.iaload, 1) := by decide +kernel
theorem dX8_undo_30 : decode cX8_undo 30 = .ok (.ireturn, 1) := by decide +kernel
theorem dX8_tear_0 : decode cX8_tear 0 = .ok (.aload_n 0, 1) := by decide +kernel
theorem dX8_tear_1 : decode cX8_tear 1 = .ok (.getfield 362, 3) := by decide +kernel
theorem dX8_tear_4 : decode cX8_tear 4 = .ok (.ifCond .eq 7, 3) := by decide +kernel
theorem dX8_tear_7 : decode cX8_tear 7 = .ok (.iconst 1, 1) := by decide +kernel
theorem dX8_tear_8 : decode cX8_tear 8 = .ok (.goto 4, 3) := by decide +kernel
theorem dX8_tear_11 : decode cX8_tear 11 = .ok (.iconst 0, 1) := by decide +kernel
theorem dX8_tear_12 : decode cX8_tear 12 = .ok (.istore_n 1, 1) := by decide +kernel
theorem dX8_tear_13 : decode cX8_tear 13 = .ok (.aload_n 0, 1) := by decide +kernel
theorem dX8_tear_14 : decode cX8_tear 14 = .ok (.iconst 0, 1) := by decide +kernel
theorem dX8_tear_15 : decode cX8_tear 15 = .ok (.putfield 362, 3) := by decide +kernel
theorem dX8_tear_18 : decode cX8_tear 18 = .ok (.iload_n 1, 1) := by decide +kernel
theorem dX8_tear_19 : decode cX8_tear 19 = .ok (.ireturn, 1) := by decide +kernel
theorem dX8_holding_0 : decode cX8_holding 0 = .ok (.iconst 0, 1) := by decide +kernel
theorem dX8_holding_1 : decode cX8_holding 1 = .ok (.istore_n 1, 1) := by decide +kernel
theorem dX8_holding_2 : decode cX8_holding 2 = .ok (.iconst 0, 1) := by decide +kernel
theorem dX8_holding_3 : decode cX8_holding 3 = .ok (.istore_n 2, 1) := by decide +kernel
theorem dX8_holding_4 : decode cX8_holding 4 = .ok (.iload_n 2, 1) := by decide +kernel
theorem dX8_holding_5 : decode cX8_holding 5 = .ok (.bipush 10, 2) := by decide +kernel
theorem dX8_holding_7 : decode cX8_holding 7 = .ok (.if_icmp .ge 29, 3) := by decide +kernel
theorem dX8_holding_10 : decode cX8_holding 10 = .ok (.iload_n 1, 1) := by decide +kernel
theorem dX8_holding_11 : decode cX8_holding 11 = .ok (.aload_n 0, 1) := by decide +kernel
theorem dX8_holding_12 : decode cX8_holding 12 = .ok (.getfield 7, 3) := by decide +kernel
theorem dX8_holding_15 : decode cX8_holding 15 = .ok (.bipush 54, 2) := by decide +kernel
theorem dX8_holding_17 : decode cX8_holding 17 = .ok (.iload_n 2, 1) := by decide +kernel
theorem dX8_holding_18 : decode cX8_holding 18 = .ok (.iadd, 1) := by decide +kernel
theorem dX8_holding_19 : decode cX8_holding 19 = .ok (.iaload, 1) := by decide +kernel
theorem dX8_holding_20 : decode cX8_holding 20 = .ok (.ifCond .le 7, 3) := by decide +kernel
theorem dX8_holding_23 : decode cX8_holding 23 = .ok (.iconst 1, 1) := by decide +kernel
theorem dX8_holding_24 : decode cX8_holding 24 = .ok (.goto 4, 3) := by decide +kernel
theorem dX8_holding_27 : decode cX8_holding 27 = .ok (.iconst 0, 1) := by decide +kernel
theorem dX8_holding_28 : decode cX8_holding 28 = .ok (.iadd, 1) := by decide +kernel
theorem dX8_holding_29 : decode cX8_holding 29 = .ok (.istore_n 1, 1) := by decide +kernel
theorem dX8_holding_30 : decode cX8_holding 30 = .ok (.iinc 2 1, 3) := by decide +kernel
theorem dX8_holding_33 : decode cX8_holding 33 = .ok (.goto (-29), 3) := by decide +kernel
theorem dX8_holding_36 : decode cX8_holding 36 = .ok (.iload_n 1, 1) := by decide +kernel
theorem dX8_holding_37 : decode cX8_holding 37 = .ok (.ireturn, 1) := by decide +kernel
set_option maxRecDepth 20000 in
theorem ggX8_count_X8_sumOf : GoodIn wsX8_count wsX8_sumOf := goodIn_r _ [7, 1, 8, 9, 10, 6, 11, 22, 23, 24, 25, 26, 27, 28, 29, 30, 31, 32, 33, 34, 35, 36, 37, 38, 39, 40, 41, 42, 43, 44, 45, 46, 47, 48, 49, 50, 51, 52, 53, 54, 55, 56, 57, 58, 59, 60, 61, 62, 63, 64] (by exact rfl) (by decide +kernel)
set_option maxRecDepth 20000 in
theorem gX8_count_X8_sumOf : GoodIn wsX8_count (wsV RX8 212 RX8 yX8_sumOf wsX8_sumOf) := goodIn_app (goodIn_of _ (by decide +kernel)) ggX8_count_X8_sumOf
set_option maxRecDepth 20000 in
theorem ggX8_count_X8_holding : GoodIn wsX8_count wsX8_holding := goodIn_r _ [15, 1, 22, 23, 24, 25, 26, 27, 28, 29, 30, 31, 32, 33, 34, 35, 36, 37, 38, 39, 40, 41, 42, 43, 44, 45, 46, 47, 48, 49, 50, 51, 52, 53, 54, 55, 56, 57, 58, 59, 60, 61, 62, 63, 64] (by exact rfl) (by decide +kernel)
set_option maxRecDepth 20000 in
theorem gX8_count_X8_holding : GoodIn wsX8_count (wsV RX8 365 RX8 yX8_holding wsX8_holding) := goodIn_app (goodIn_of _ (by decide +kernel)) ggX8_count_X8_holding
set_option maxRecDepth 20000 in
theorem ggX8_count_X8_finds : GoodIn wsX8_count wsX8_finds := goodIn_r _ [19, 20, 21, 22, 23, 24, 25, 26, 27, 28, 29, 30, 31, 32, 33, 34, 35, 36, 37, 38, 39, 40, 41, 42, 43, 44, 45, 46, 47, 48, 49, 50, 51, 52, 53, 54, 55, 56, 57, 58, 59, 60, 61, 62, 63, 64] (by exact rfl) (by decide +kernel)
set_option maxRecDepth 20000 in
theorem gX8_count_X8_finds : GoodIn wsX8_count (wsV RX8 115 RX8 yX8_finds wsX8_finds) := goodIn_app (goodIn_of _ (by decide +kernel)) ggX8_count_X8_finds
theorem dX8_count_0 : decode cX8_count 0 = .ok (.iload_n 1, 1) := by decide +kernel
theorem dX8_count_1 : decode cX8_count 1 = .ok (.tableswitch 97 0 7 #[47, 54, 61, 67, 73, 80, 85, 92], 47) := by decide +kernel
theorem dX8_count_48 : decode cX8_count 48 = .ok (.aload_n 0, 1) := by decide +kernel
theorem dX8_count_49 : decode cX8_count 49 = .ok (.getfield 7, 3) := by decide +kernel
theorem dX8_count_52 : decode cX8_count 52 = .ok (.iconst 1, 1) := by decide +kernel
theorem dX8_count_53 : decode cX8_count 53 = .ok (.iaload, 1) := by decide +kernel
theorem dX8_count_54 : decode cX8_count 54 = .ok (.ireturn, 1) := by decide +kernel
theorem dX8_count_55 : decode cX8_count 55 = .ok (.aload_n 0, 1) := by decide +kernel
theorem dX8_count_56 : decode cX8_count 56 = .ok (.getfield 7, 3) := by decide +kernel
theorem dX8_count_59 : decode cX8_count 59 = .ok (.iconst 0, 1) := by decide +kernel
theorem dX8_count_60 : decode cX8_count 60 = .ok (.iaload, 1) := by decide +kernel
theorem dX8_count_61 : decode cX8_count 61 = .ok (.ireturn, 1) := by decide +kernel
theorem dX8_count_62 : decode cX8_count 62 = .ok (.aload_n 0, 1) := by decide +kernel
theorem dX8_count_63 : decode cX8_count 63 = .ok (.iconst 2, 1) := by decide +kernel
theorem dX8_count_64 : decode cX8_count 64 = .ok (.invokevirtual 212, 3) := by decide +kernel
theorem dX8_count_67 : decode cX8_count 67 = .ok (.ireturn, 1) := by decide +kernel
theorem dX8_count_68 : decode cX8_count 68 = .ok (.aload_n 0, 1) := by decide +kernel
theorem dX8_count_69 : decode cX8_count 69 = .ok (.iconst 3, 1) := by decide +kernel
theorem dX8_count_70 : decode cX8_count 70 = .ok (.invokevirtual 212, 3) := by decide +kernel
theorem dX8_count_73 : decode cX8_count 73 = .ok (.ireturn, 1) := by decide +kernel
theorem dX8_count_74 : decode cX8_count 74 = .ok (.aload_n 0, 1) := by decide +kernel
theorem dX8_count_75 : decode cX8_count 75 = .ok (.getfield 7, 3) := by decide +kernel
theorem dX8_count_78 : decode cX8_count 78 = .ok (.iconst 3, 1) := by decide +kernel
theorem dX8_count_79 : decode cX8_count 79 = .ok (.iaload, 1) := by decide +kernel
theorem dX8_count_80 : decode cX8_count 80 = .ok (.ireturn, 1) := by decide +kernel
theorem dX8_count_81 : decode cX8_count 81 = .ok (.aload_n 0, 1) := by decide +kernel
theorem dX8_count_82 : decode cX8_count 82 = .ok (.getfield 276, 3) := by decide +kernel
theorem dX8_count_85 : decode cX8_count 85 = .ok (.ireturn, 1) := by decide +kernel
theorem dX8_count_86 : decode cX8_count 86 = .ok (.aload_n 0, 1) := by decide +kernel
theorem dX8_count_87 : decode cX8_count 87 = .ok (.getfield 7, 3) := by decide +kernel
theorem dX8_count_90 : decode cX8_count 90 = .ok (.iconst 2, 1) := by decide +kernel
theorem dX8_count_91 : decode cX8_count 91 = .ok (.iaload, 1) := by decide +kernel
theorem dX8_count_92 : decode cX8_count 92 = .ok (.ireturn, 1) := by decide +kernel
theorem dX8_count_93 : decode cX8_count 93 = .ok (.aload_n 0, 1) := by decide +kernel
theorem dX8_count_94 : decode cX8_count 94 = .ok (.invokevirtual 365, 3) := by decide +kernel
theorem dX8_count_97 : decode cX8_count 97 = .ok (.ireturn, 1) := by decide +kernel
theorem dX8_count_98 : decode cX8_count 98 = .ok (.aload_n 0, 1) := by decide +kernel
theorem dX8_count_99 : decode cX8_count 99 = .ok (.iconst 0, 1) := by decide +kernel
theorem dX8_count_100 : decode cX8_count 100 = .ok (.invokevirtual 115, 3) := by decide +kernel
theorem dX8_count_103 : decode cX8_count 103 = .ok (.ireturn, 1) := by decide +kernel
set_option maxRecDepth 20000 in
theorem ggX8_status_X8_in : GoodIn wsX8_status wsX8_in := goodIn_r _ [7] (by exact rfl) (by decide +kernel)
set_option maxRecDepth 20000 in
theorem gX8_status_X8_in : GoodIn wsX8_status (va_wsS RX8 70 yX8_in wsX8_in) := goodIn_app (goodIn_of _ (by decide +kernel)) ggX8_status_X8_in
set_option maxRecDepth 20000 in
theorem ggX8_status_X8_finds : GoodIn wsX8_status wsX8_finds := goodIn_r _ [11, 3, 12, 13, 14, 15, 16, 17, 18, 19, 20, 21, 22, 23, 24, 25, 26, 27, 28, 29, 30, 31, 32, 33, 34, 35, 36, 37, 38, 39, 40, 41, 42, 43, 44, 45, 46, 47, 48, 49, 50, 51, 52, 53, 54, 55] (by exact rfl) (by decide +kernel)
set_option maxRecDepth 20000 in
theorem gX8_status_X8_finds : GoodIn wsX8_status (wsV RX8 115 RX8 yX8_finds wsX8_finds) := goodIn_app (goodIn_of _ (by decide +kernel)) ggX8_status_X8_finds
theorem dX8_status_0 : decode cX8_status 0 = .ok (.iload_n 1, 1) := by decide +kernel
theorem dX8_status_1 : decode cX8_status 1 = .ok (.i2l, 1) := by decide +kernel
theorem dX8_status_2 : decode cX8_status 2 = .ok (.ldc2_w 354, 3) := by decide +kernel
theorem dX8_status_5 : decode cX8_status 5 = .ok (.ldc2_w 113, 3) := by decide +kernel
theorem dX8_status_8 : decode cX8_status 8 = .ok (.invokestatic 70, 3) := by decide +kernel
theorem dX8_status_11 : decode cX8_status 11 = .ok (.ifCond .ne 9, 3) := by decide +kernel
theorem dX8_status_14 : decode cX8_status 14 = .ok (.aload_n 0, 1) := by decide +kernel
theorem dX8_status_15 : decode cX8_status 15 = .ok (.iconst 0, 1) := by decide +kernel
theorem dX8_status_16 : decode cX8_status 16 = .ok (.invokevirtual 115, 3) := by decide +kernel
theorem dX8_status_19 : decode cX8_status 19 = .ok (.ireturn, 1) := by decide +kernel
theorem dX8_status_20 : decode cX8_status 20 = .ok (.iconst 0, 1) := by decide +kernel
theorem dX8_status_21 : decode cX8_status 21 = .ok (.istore_n 2, 1) := by decide +kernel
theorem dX8_status_22 : decode cX8_status 22 = .ok (.iconst 0, 1) := by decide +kernel
theorem dX8_status_23 : decode cX8_status 23 = .ok (.istore_n 3, 1) := by decide +kernel
theorem dX8_status_24 : decode cX8_status 24 = .ok (.iload_n 3, 1) := by decide +kernel
theorem dX8_status_25 : decode cX8_status 25 = .ok (.bipush 7, 2) := by decide +kernel
theorem dX8_status_27 : decode cX8_status 27 = .ok (.if_icmp .ge 18, 3) := by decide +kernel
theorem dX8_status_30 : decode cX8_status 30 = .ok (.iload_n 2, 1) := by decide +kernel
theorem dX8_status_31 : decode cX8_status 31 = .ok (.aload_n 0, 1) := by decide +kernel
theorem dX8_status_32 : decode cX8_status 32 = .ok (.getfield 22, 3) := by decide +kernel
theorem dX8_status_35 : decode cX8_status 35 = .ok (.iload_n 3, 1) := by decide +kernel
theorem dX8_status_36 : decode cX8_status 36 = .ok (.iaload, 1) := by decide +kernel
theorem dX8_status_37 : decode cX8_status 37 = .ok (.iadd, 1) := by decide +kernel
theorem dX8_status_38 : decode cX8_status 38 = .ok (.istore_n 2, 1) := by decide +kernel
theorem dX8_status_39 : decode cX8_status 39 = .ok (.iinc 3 1, 3) := by decide +kernel
theorem dX8_status_42 : decode cX8_status 42 = .ok (.goto (-18), 3) := by decide +kernel
theorem dX8_status_45 : decode cX8_status 45 = .ok (.iload_n 1, 1) := by decide +kernel
theorem dX8_status_46 : decode cX8_status 46 = .ok (.ifCond .ge 7, 3) := by decide +kernel
theorem dX8_status_49 : decode cX8_status 49 = .ok (.iload_n 2, 1) := by decide +kernel
theorem dX8_status_50 : decode cX8_status 50 = .ok (.goto 9, 3) := by decide +kernel
theorem dX8_status_53 : decode cX8_status 53 = .ok (.aload_n 0, 1) := by decide +kernel
theorem dX8_status_54 : decode cX8_status 54 = .ok (.getfield 22, 3) := by decide +kernel
theorem dX8_status_57 : decode cX8_status 57 = .ok (.iload_n 1, 1) := by decide +kernel
theorem dX8_status_58 : decode cX8_status 58 = .ok (.iaload, 1) := by decide +kernel
theorem dX8_status_59 : decode cX8_status 59 = .ok (.ireturn, 1) := by decide +kernel
