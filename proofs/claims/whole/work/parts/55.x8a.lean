theorem dX8_init_0 : decode cX8_init 0 = .ok (.aload_n 0, 1) := by decide +kernel
theorem dX8_init_1 : decode cX8_init 1 = .ok (.invokespecial 1, 3) := by decide +kernel
theorem dX8_init_4 : decode cX8_init 4 = .ok (.aload_n 0, 1) := by decide +kernel
theorem dX8_init_5 : decode cX8_init 5 = .ok (.bipush 64, 2) := by decide +kernel
theorem dX8_init_7 : decode cX8_init 7 = .ok (.newarray .int, 2) := by decide +kernel
theorem dX8_init_9 : decode cX8_init 9 = .ok (.putfield 7, 3) := by decide +kernel
theorem dX8_init_12 : decode cX8_init 12 = .ok (.aload_n 0, 1) := by decide +kernel
theorem dX8_init_13 : decode cX8_init 13 = .ok (.bipush 64, 2) := by decide +kernel
theorem dX8_init_15 : decode cX8_init 15 = .ok (.newarray .int, 2) := by decide +kernel
theorem dX8_init_17 : decode cX8_init 17 = .ok (.putfield 13, 3) := by decide +kernel
theorem dX8_init_20 : decode cX8_init 20 = .ok (.aload_n 0, 1) := by decide +kernel
theorem dX8_init_21 : decode cX8_init 21 = .ok (.bipush 64, 2) := by decide +kernel
theorem dX8_init_23 : decode cX8_init 23 = .ok (.newarray .int, 2) := by decide +kernel
theorem dX8_init_25 : decode cX8_init 25 = .ok (.putfield 16, 3) := by decide +kernel
theorem dX8_init_28 : decode cX8_init 28 = .ok (.aload_n 0, 1) := by decide +kernel
theorem dX8_init_29 : decode cX8_init 29 = .ok (.bipush 64, 2) := by decide +kernel
theorem dX8_init_31 : decode cX8_init 31 = .ok (.newarray .int, 2) := by decide +kernel
theorem dX8_init_33 : decode cX8_init 33 = .ok (.putfield 19, 3) := by decide +kernel
theorem dX8_init_36 : decode cX8_init 36 = .ok (.aload_n 0, 1) := by decide +kernel
theorem dX8_init_37 : decode cX8_init 37 = .ok (.bipush 7, 2) := by decide +kernel
theorem dX8_init_39 : decode cX8_init 39 = .ok (.newarray .int, 2) := by decide +kernel
theorem dX8_init_41 : decode cX8_init 41 = .ok (.putfield 22, 3) := by decide +kernel
theorem dX8_init_44 : decode cX8_init 44 = .ok (.aload_n 0, 1) := by decide +kernel
theorem dX8_init_45 : decode cX8_init 45 = .ok (.bipush 120, 2) := by decide +kernel
theorem dX8_init_47 : decode cX8_init 47 = .ok (.newarray .byte, 2) := by decide +kernel
theorem dX8_init_49 : decode cX8_init 49 = .ok (.putfield 25, 3) := by decide +kernel
theorem dX8_init_52 : decode cX8_init 52 = .ok (.aload_n 0, 1) := by decide +kernel
theorem dX8_init_53 : decode cX8_init 53 = .ok (.bipush 10, 2) := by decide +kernel
theorem dX8_init_55 : decode cX8_init 55 = .ok (.newarray .int, 2) := by decide +kernel
theorem dX8_init_57 : decode cX8_init 57 = .ok (.putfield 29, 3) := by decide +kernel
theorem dX8_init_60 : decode cX8_init 60 = .ok (.aload_n 0, 1) := by decide +kernel
theorem dX8_init_61 : decode cX8_init 61 = .ok (.bipush 10, 2) := by decide +kernel
theorem dX8_init_63 : decode cX8_init 63 = .ok (.newarray .int, 2) := by decide +kernel
theorem dX8_init_65 : decode cX8_init 65 = .ok (.putfield 32, 3) := by decide +kernel
theorem dX8_init_68 : decode cX8_init 68 = .ok (.aload_n 0, 1) := by decide +kernel
theorem dX8_init_69 : decode cX8_init 69 = .ok (.bipush 10, 2) := by decide +kernel
theorem dX8_init_71 : decode cX8_init 71 = .ok (.newarray .int, 2) := by decide +kernel
theorem dX8_init_73 : decode cX8_init 73 = .ok (.putfield 35, 3) := by decide +kernel
theorem dX8_init_76 : decode cX8_init 76 = .ok (.aload_n 0, 1) := by decide +kernel
theorem dX8_init_77 : decode cX8_init 77 = .ok (.bipush 10, 2) := by decide +kernel
theorem dX8_init_79 : decode cX8_init 79 = .ok (.newarray .int, 2) := by decide +kernel
theorem dX8_init_81 : decode cX8_init 81 = .ok (.putfield 38, 3) := by decide +kernel
theorem dX8_init_84 : decode cX8_init 84 = .ok (.aload_n 0, 1) := by decide +kernel
theorem dX8_init_85 : decode cX8_init 85 = .ok (.bipush 10, 2) := by decide +kernel
theorem dX8_init_87 : decode cX8_init 87 = .ok (.newarray .long, 2) := by decide +kernel
theorem dX8_init_89 : decode cX8_init 89 = .ok (.putfield 41, 3) := by decide +kernel
theorem dX8_init_92 : decode cX8_init 92 = .ok (.aload_n 0, 1) := by decide +kernel
theorem dX8_init_93 : decode cX8_init 93 = .ok (.bipush 10, 2) := by decide +kernel
theorem dX8_init_95 : decode cX8_init 95 = .ok (.newarray .long, 2) := by decide +kernel
theorem dX8_init_97 : decode cX8_init 97 = .ok (.putfield 45, 3) := by decide +kernel
theorem dX8_init_100 : decode cX8_init 100 = .ok (.aload_n 0, 1) := by decide +kernel
theorem dX8_init_101 : decode cX8_init 101 = .ok (.bipush 10, 2) := by decide +kernel
theorem dX8_init_103 : decode cX8_init 103 = .ok (.newarray .int, 2) := by decide +kernel
theorem dX8_init_105 : decode cX8_init 105 = .ok (.putfield 48, 3) := by decide +kernel
theorem dX8_init_108 : decode cX8_init 108 = .ok (.aload_n 0, 1) := by decide +kernel
theorem dX8_init_109 : decode cX8_init 109 = .ok (.bipush 10, 2) := by decide +kernel
theorem dX8_init_111 : decode cX8_init 111 = .ok (.newarray .int, 2) := by decide +kernel
theorem dX8_init_113 : decode cX8_init 113 = .ok (.putfield 51, 3) := by decide +kernel
theorem dX8_init_116 : decode cX8_init 116 = .ok (.aload_n 0, 1) := by decide +kernel
theorem dX8_init_117 : decode cX8_init 117 = .ok (.bipush 10, 2) := by decide +kernel
theorem dX8_init_119 : decode cX8_init 119 = .ok (.newarray .int, 2) := by decide +kernel
theorem dX8_init_121 : decode cX8_init 121 = .ok (.putfield 54, 3) := by decide +kernel
theorem dX8_init_124 : decode cX8_init 124 = .ok (.aload_n 0, 1) := by decide +kernel
theorem dX8_init_125 : decode cX8_init 125 = .ok (.iconst 4, 1) := by decide +kernel
theorem dX8_init_126 : decode cX8_init 126 = .ok (.newarray .int, 2) := by decide +kernel
theorem dX8_init_128 : decode cX8_init 128 = .ok (.putfield 57, 3) := by decide +kernel
theorem dX8_init_131 : decode cX8_init 131 = .ok (.aload_n 0, 1) := by decide +kernel
theorem dX8_init_132 : decode cX8_init 132 = .ok (.iconst 4, 1) := by decide +kernel
theorem dX8_init_133 : decode cX8_init 133 = .ok (.newarray .int, 2) := by decide +kernel
theorem dX8_init_135 : decode cX8_init 135 = .ok (.putfield 60, 3) := by decide +kernel
theorem dX8_init_138 : decode cX8_init 138 = .ok (.aload_n 0, 1) := by decide +kernel
theorem dX8_init_139 : decode cX8_init 139 = .ok (.sipush 160, 3) := by decide +kernel
theorem dX8_init_142 : decode cX8_init 142 = .ok (.newarray .int, 2) := by decide +kernel
theorem dX8_init_144 : decode cX8_init 144 = .ok (.putfield 63, 3) := by decide +kernel
theorem dX8_init_147 : decode cX8_init 147 = .ok (.aload_n 0, 1) := by decide +kernel
theorem dX8_init_148 : decode cX8_init 148 = .ok (.bipush 40, 2) := by decide +kernel
theorem dX8_init_150 : decode cX8_init 150 = .ok (.newarray .int, 2) := by decide +kernel
theorem dX8_init_152 : decode cX8_init 152 = .ok (.putfield 66, 3) := by decide +kernel
theorem dX8_init_155 : decode cX8_init 155 = .ok (.aload_n 0, 1) := by decide +kernel
theorem dX8_init_156 : decode cX8_init 156 = .ok (.getfield 7, 3) := by decide +kernel
theorem dX8_init_159 : decode cX8_init 159 = .ok (.iconst 2, 1) := by decide +kernel
theorem dX8_init_160 : decode cX8_init 160 = .ok (.iconst 1, 1) := by decide +kernel
theorem dX8_init_161 : decode cX8_init 161 = .ok (.iastore, 1) := by decide +kernel
theorem dX8_init_162 : decode cX8_init 162 = .ok (.aload_n 0, 1) := by decide +kernel
theorem dX8_init_163 : decode cX8_init 163 = .ok (.getfield 7, 3) := by decide +kernel
theorem dX8_init_166 : decode cX8_init 166 = .ok (.iconst 3, 1) := by decide +kernel
theorem dX8_init_167 : decode cX8_init 167 = .ok (.bipush 81, 2) := by decide +kernel
theorem dX8_init_169 : decode cX8_init 169 = .ok (.iastore, 1) := by decide +kernel
theorem dX8_init_170 : decode cX8_init 170 = .ok (.return_, 1) := by decide +kernel
theorem dX8_finds_0 : decode cX8_finds 0 = .ok (.aload_n 0, 1) := by decide +kernel
theorem dX8_finds_1 : decode cX8_finds 1 = .ok (.getfield 22, 3) := by decide +kernel
theorem dX8_finds_4 : decode cX8_finds 4 = .ok (.iload_n 1, 1) := by decide +kernel
theorem dX8_finds_5 : decode cX8_finds 5 = .ok (.dup2, 1) := by decide +kernel
theorem dX8_finds_6 : decode cX8_finds 6 = .ok (.iaload, 1) := by decide +kernel
theorem dX8_finds_7 : decode cX8_finds 7 = .ok (.iconst 1, 1) := by decide +kernel
theorem dX8_finds_8 : decode cX8_finds 8 = .ok (.iadd, 1) := by decide +kernel
theorem dX8_finds_9 : decode cX8_finds 9 = .ok (.iastore, 1) := by decide +kernel
theorem dX8_finds_10 : decode cX8_finds 10 = .ok (.ldc 69, 2) := by decide +kernel
theorem dX8_finds_12 : decode cX8_finds 12 = .ok (.iload_n 1, 1) := by decide +kernel
theorem dX8_finds_13 : decode cX8_finds 13 = .ok (.isub, 1) := by decide +kernel
theorem dX8_finds_14 : decode cX8_finds 14 = .ok (.ireturn, 1) := by decide +kernel
theorem dX8_in_0 : decode cX8_in 0 = .ok (.lload_n 0, 1) := by decide +kernel
theorem dX8_in_1 : decode cX8_in 1 = .ok (.lload_n 2, 1) := by decide +kernel
theorem dX8_in_2 : decode cX8_in 2 = .ok (.lcmp, 1) := by decide +kernel
theorem dX8_in_3 : decode cX8_in 3 = .ok (.ifCond .lt 14, 3) := by decide +kernel
theorem dX8_in_6 : decode cX8_in 6 = .ok (.lload_n 0, 1) := by decide +kernel
theorem dX8_in_7 : decode cX8_in 7 = .ok (.lload 4, 2) := by decide +kernel
theorem dX8_in_9 : decode cX8_in 9 = .ok (.lcmp, 1) := by decide +kernel
theorem dX8_in_10 : decode cX8_in 10 = .ok (.ifCond .gt 7, 3) := by decide +kernel
theorem dX8_in_13 : decode cX8_in 13 = .ok (.iconst 1, 1) := by decide +kernel
theorem dX8_in_14 : decode cX8_in 14 = .ok (.goto 4, 3) := by decide +kernel
theorem dX8_in_17 : decode cX8_in 17 = .ok (.iconst 0, 1) := by decide +kernel
theorem dX8_in_18 : decode cX8_in 18 = .ok (.ireturn, 1) := by decide +kernel
theorem dX8_copies_0 : decode cX8_copies 0 = .ok (.iconst 0, 1) := by decide +kernel
theorem dX8_copies_1 : decode cX8_copies 1 = .ok (.istore_n 2, 1) := by decide +kernel
theorem dX8_copies_2 : decode cX8_copies 2 = .ok (.iload_n 2, 1) := by decide +kernel
theorem dX8_copies_3 : decode cX8_copies 3 = .ok (.bipush 64, 2) := by decide +kernel
theorem dX8_copies_5 : decode cX8_copies 5 = .ok (.if_icmp .ge 15, 3) := by decide +kernel
theorem dX8_copies_8 : decode cX8_copies 8 = .ok (.aload_n 1, 1) := by decide +kernel
theorem dX8_copies_9 : decode cX8_copies 9 = .ok (.iload_n 2, 1) := by decide +kernel
theorem dX8_copies_10 : decode cX8_copies 10 = .ok (.aload_n 0, 1) := by decide +kernel
theorem dX8_copies_11 : decode cX8_copies 11 = .ok (.iload_n 2, 1) := by decide +kernel
theorem dX8_copies_12 : decode cX8_copies 12 = .ok (.iaload, 1) := by decide +kernel
theorem dX8_copies_13 : decode cX8_copies 13 = .ok (.iastore, 1) := by decide +kernel
theorem dX8_copies_14 : decode cX8_copies 14 = .ok (.iinc 2 1, 3) := by decide +kernel
theorem dX8_copies_17 : decode cX8_copies 17 = .ok (.goto (-15), 3) := by decide +kernel
theorem dX8_copies_20 : decode cX8_copies 20 = .ok (.return_, 1) := by decide +kernel
set_option maxRecDepth 20000 in
theorem ggX8_isBasin_X8_in : GoodIn wsX8_isBasin wsX8_in := goodIn_r _ [5] (by exact rfl) (by decide +kernel)
set_option maxRecDepth 20000 in
theorem gX8_isBasin_X8_in : GoodIn wsX8_isBasin (va_wsS RX8 70 yX8_in wsX8_in) := goodIn_app (goodIn_of _ (by decide +kernel)) ggX8_isBasin_X8_in
theorem dX8_isBasin_0 : decode cX8_isBasin 0 = .ok (.iload_n 1, 1) := by decide +kernel
theorem dX8_isBasin_1 : decode cX8_isBasin 1 = .ok (.i2l, 1) := by decide +kernel
theorem dX8_isBasin_2 : decode cX8_isBasin 2 = .ok (.lconst 0, 1) := by decide +kernel
theorem dX8_isBasin_3 : decode cX8_isBasin 3 = .ok (.aload_n 0, 1) := by decide +kernel
theorem dX8_isBasin_4 : decode cX8_isBasin 4 = .ok (.getfield 7, 3) := by decide +kernel
theorem dX8_isBasin_7 : decode cX8_isBasin 7 = .ok (.iconst 0, 1) := by decide +kernel
theorem dX8_isBasin_8 : decode cX8_isBasin 8 = .ok (.iaload, 1) := by decide +kernel
theorem dX8_isBasin_9 : decode cX8_isBasin 9 = .ok (.iconst 1, 1) := by decide +kernel
theorem dX8_isBasin_10 : decode cX8_isBasin 10 = .ok (.isub, 1) := by decide +kernel
theorem dX8_isBasin_11 : decode cX8_isBasin 11 = .ok (.i2l, 1) := by decide +kernel
theorem dX8_isBasin_12 : decode cX8_isBasin 12 = .ok (.invokestatic 70, 3) := by decide +kernel
theorem dX8_isBasin_15 : decode cX8_isBasin 15 = .ok (.ireturn, 1) := by decide +kernel
theorem dX8_its_0 : decode cX8_its 0 = .ok (.aload_n 0, 1) := by decide +kernel
theorem dX8_its_1 : decode cX8_its 1 = .ok (.getfield 7, 3) := by decide +kernel
theorem dX8_its_4 : decode cX8_its 4 = .ok (.iconst 4, 1) := by decide +kernel
theorem dX8_its_5 : decode cX8_its 5 = .ok (.iconst 5, 1) := by decide +kernel
theorem dX8_its_6 : decode cX8_its 6 = .ok (.iload_n 1, 1) := by decide +kernel
theorem dX8_its_7 : decode cX8_its 7 = .ok (.imul, 1) := by decide +kernel
theorem dX8_its_8 : decode cX8_its 8 = .ok (.iadd, 1) := by decide +kernel
theorem dX8_its_9 : decode cX8_its 9 = .ok (.iload_n 2, 1) := by decide +kernel
theorem dX8_its_10 : decode cX8_its 10 = .ok (.iadd, 1) := by decide +kernel
theorem dX8_its_11 : decode cX8_its 11 = .ok (.iaload, 1) := by decide +kernel
theorem dX8_its_12 : decode cX8_its 12 = .ok (.ireturn, 1) := by decide +kernel
theorem dX8_sets_0 : decode cX8_sets 0 = .ok (.aload_n 0, 1) := by decide +kernel
theorem dX8_sets_1 : decode cX8_sets 1 = .ok (.getfield 7, 3) := by decide +kernel
theorem dX8_sets_4 : decode cX8_sets 4 = .ok (.iconst 4, 1) := by decide +kernel
theorem dX8_sets_5 : decode cX8_sets 5 = .ok (.iconst 5, 1) := by decide +kernel
theorem dX8_sets_6 : decode cX8_sets 6 = .ok (.iload_n 1, 1) := by decide +kernel
theorem dX8_sets_7 : decode cX8_sets 7 = .ok (.imul, 1) := by decide +kernel
theorem dX8_sets_8 : decode cX8_sets 8 = .ok (.iadd, 1) := by decide +kernel
theorem dX8_sets_9 : decode cX8_sets 9 = .ok (.iload_n 2, 1) := by decide +kernel
theorem dX8_sets_10 : decode cX8_sets 10 = .ok (.iadd, 1) := by decide +kernel
theorem dX8_sets_11 : decode cX8_sets 11 = .ok (.iload_n 3, 1) := by decide +kernel
theorem dX8_sets_12 : decode cX8_sets 12 = .ok (.iastore, 1) := by decide +kernel
theorem dX8_sets_13 : decode cX8_sets 13 = .ok (.return_, 1) := by decide +kernel
theorem dX8_leaks_0 : decode cX8_leaks 0 = .ok (.iload_n 0, 1) := by decide +kernel
theorem dX8_leaks_1 : decode cX8_leaks 1 = .ok (.iconst 2, 1) := by decide +kernel
theorem dX8_leaks_2 : decode cX8_leaks 2 = .ok (.if_icmp .ne 10, 3) := by decide +kernel
theorem dX8_leaks_5 : decode cX8_leaks 5 = .ok (.iload_n 1, 1) := by decide +kernel
theorem dX8_leaks_6 : decode cX8_leaks 6 = .ok (.bipush 10, 2) := by decide +kernel
theorem dX8_leaks_8 : decode cX8_leaks 8 = .ok (.idiv, 1) := by decide +kernel
theorem dX8_leaks_9 : decode cX8_leaks 9 = .ok (.goto 18, 3) := by decide +kernel
theorem dX8_leaks_12 : decode cX8_leaks 12 = .ok (.iload_n 0, 1) := by decide +kernel
theorem dX8_leaks_13 : decode cX8_leaks 13 = .ok (.iconst 4, 1) := by decide +kernel
theorem dX8_leaks_14 : decode cX8_leaks 14 = .ok (.if_icmp .ne 12, 3) := by decide +kernel
theorem dX8_leaks_17 : decode cX8_leaks 17 = .ok (.iconst 2, 1) := by decide +kernel
theorem dX8_leaks_18 : decode cX8_leaks 18 = .ok (.iload_n 1, 1) := by decide +kernel
theorem dX8_leaks_19 : decode cX8_leaks 19 = .ok (.bipush 10, 2) := by decide +kernel
theorem dX8_leaks_21 : decode cX8_leaks 21 = .ok (.idiv, 1) := by decide +kernel
theorem dX8_leaks_22 : decode cX8_leaks 22 = .ok (.imul, 1) := by decide +kernel
theorem dX8_leaks_23 : decode cX8_leaks 23 = .ok (.goto 4, 3) := by decide +kernel
theorem dX8_leaks_26 : decode cX8_leaks 26 = .ok (.iconst 0, 1) := by decide +kernel
theorem dX8_leaks_27 : decode cX8_leaks 27 = .ok (.ireturn, 1) := by decide +kernel
theorem dX8_keeps_0 : decode cX8_keeps 0 = .ok (.iload_n 0, 1) := by decide +kernel
theorem dX8_keeps_1 : decode cX8_keeps 1 = .ok (.iconst 3, 1) := by decide +kernel
theorem dX8_keeps_2 : decode cX8_keeps 2 = .ok (.if_icmp .ne 7, 3) := by decide +kernel
theorem dX8_keeps_5 : decode cX8_keeps 5 = .ok (.iconst 0, 1) := by decide +kernel
theorem dX8_keeps_6 : decode cX8_keeps 6 = .ok (.goto 19, 3) := by decide +kernel
theorem dX8_keeps_9 : decode cX8_keeps 9 = .ok (.iload_n 0, 1) := by decide +kernel
theorem dX8_keeps_10 : decode cX8_keeps 10 = .ok (.iconst 1, 1) := by decide +kernel
theorem dX8_keeps_11 : decode cX8_keeps 11 = .ok (.if_icmp .ne 11, 3) := by decide +kernel
theorem dX8_keeps_14 : decode cX8_keeps 14 = .ok (.iconst 2, 1) := by decide +kernel
theorem dX8_keeps_15 : decode cX8_keeps 15 = .ok (.iload_n 1, 1) := by decide +kernel
theorem dX8_keeps_16 : decode cX8_keeps 16 = .ok (.imul, 1) := by decide +kernel
theorem dX8_keeps_17 : decode cX8_keeps 17 = .ok (.iconst 5, 1) := by decide +kernel
theorem dX8_keeps_18 : decode cX8_keeps 18 = .ok (.idiv, 1) := by decide +kernel
theorem dX8_keeps_19 : decode cX8_keeps 19 = .ok (.goto 6, 3) := by decide +kernel
theorem dX8_keeps_22 : decode cX8_keeps 22 = .ok (.iload_n 1, 1) := by decide +kernel
theorem dX8_keeps_23 : decode cX8_keeps 23 = .ok (.iconst 3, 1) := by decide +kernel
theorem dX8_keeps_24 : decode cX8_keeps 24 = .ok (.idiv, 1) := by decide +kernel
theorem dX8_keeps_25 : decode cX8_keeps 25 = .ok (.ireturn, 1) := by decide +kernel
theorem dX8_holds_0 : decode cX8_holds 0 = .ok (.iload_n 0, 1) := by decide +kernel
theorem dX8_holds_1 : decode cX8_holds 1 = .ok (.iconst 5, 1) := by decide +kernel
theorem dX8_holds_2 : decode cX8_holds 2 = .ok (.if_icmp .eq 9, 3) := by decide +kernel
theorem dX8_holds_5 : decode cX8_holds 5 = .ok (.iload_n 0, 1) := by decide +kernel
theorem dX8_holds_6 : decode cX8_holds 6 = .ok (.bipush 6, 2) := by decide +kernel
theorem dX8_holds_8 : decode cX8_holds 8 = .ok (.if_icmp .ne 15, 3) := by decide +kernel
theorem dX8_holds_11 : decode cX8_holds 11 = .ok (.iload_n 0, 1) := by decide +kernel
theorem dX8_holds_12 : decode cX8_holds 12 = .ok (.bipush 6, 2) := by decide +kernel
theorem dX8_holds_14 : decode cX8_holds 14 = .ok (.if_icmp .ne 11, 3) := by decide +kernel
theorem dX8_holds_17 : decode cX8_holds 17 = .ok (.iload_n 1, 1) := by decide +kernel
theorem dX8_holds_18 : decode cX8_holds 18 = .ok (.bipush 100, 2) := by decide +kernel
theorem dX8_holds_20 : decode cX8_holds 20 = .ok (.if_icmp .le 5, 3) := by decide +kernel
theorem dX8_holds_23 : decode cX8_holds 23 = .ok (.iconst 0, 1) := by decide +kernel
theorem dX8_holds_24 : decode cX8_holds 24 = .ok (.ireturn, 1) := by decide +kernel
theorem dX8_holds_25 : decode cX8_holds 25 = .ok (.iload_n 1, 1) := by decide +kernel
theorem dX8_holds_26 : decode cX8_holds 26 = .ok (.bipush 30, 2) := by decide +kernel
theorem dX8_holds_28 : decode cX8_holds 28 = .ok (.iload_n 2, 1) := by decide +kernel
theorem dX8_holds_29 : decode cX8_holds 29 = .ok (.isub, 1) := by decide +kernel
theorem dX8_holds_30 : decode cX8_holds 30 = .ok (.if_icmp .ge 7, 3) := by decide +kernel
theorem dX8_holds_33 : decode cX8_holds 33 = .ok (.iload_n 1, 1) := by decide +kernel
theorem dX8_holds_34 : decode cX8_holds 34 = .ok (.goto 7, 3) := by decide +kernel
theorem dX8_holds_37 : decode cX8_holds 37 = .ok (.bipush 30, 2) := by decide +kernel
theorem dX8_holds_39 : decode cX8_holds 39 = .ok (.iload_n 2, 1) := by decide +kernel
theorem dX8_holds_40 : decode cX8_holds 40 = .ok (.isub, 1) := by decide +kernel
theorem dX8_holds_41 : decode cX8_holds 41 = .ok (.ireturn, 1) := by decide +kernel
set_option maxRecDepth 20000 in
theorem ggX8_edgesBelow_X8_its : GoodIn wsX8_edgesBelow wsX8_its := goodIn_r _ [6, 1, 7, 8, 9, 10, 11, 12, 13, 14, 15, 16, 17, 18, 19, 20, 21, 22, 23, 24, 25, 26, 27, 28, 29, 30, 31, 32, 33, 34, 35, 36, 37, 38, 39, 40, 41, 42, 43, 44, 45, 46, 47, 48, 49] (by exact rfl) (by decide +kernel)
set_option maxRecDepth 20000 in
theorem gX8_edgesBelow_X8_its : GoodIn wsX8_edgesBelow (wsV RX8 74 RX8 yX8_its wsX8_its) := goodIn_app (goodIn_of _ (by decide +kernel)) ggX8_edgesBelow_X8_its
theorem dX8_edgesBelow_0 : decode cX8_edgesBelow 0 = .ok (.iconst 0, 1) := by decide +kernel
theorem dX8_edgesBelow_1 : decode cX8_edgesBelow 1 = .ok (.istore_n 2, 1) := by decide +kernel
theorem dX8_edgesBelow_2 : decode cX8_edgesBelow 2 = .ok (.iload_n 1, 1) := by decide +kernel
theorem dX8_edgesBelow_3 : decode cX8_edgesBelow 3 = .ok (.iconst 1, 1) := by decide +kernel
theorem dX8_edgesBelow_4 : decode cX8_edgesBelow 4 = .ok (.iadd, 1) := by decide +kernel
theorem dX8_edgesBelow_5 : decode cX8_edgesBelow 5 = .ok (.istore_n 3, 1) := by decide +kernel
theorem dX8_edgesBelow_6 : decode cX8_edgesBelow 6 = .ok (.iload_n 3, 1) := by decide +kernel
theorem dX8_edgesBelow_7 : decode cX8_edgesBelow 7 = .ok (.aload_n 0, 1) := by decide +kernel
theorem dX8_edgesBelow_8 : decode cX8_edgesBelow 8 = .ok (.getfield 7, 3) := by decide +kernel
theorem dX8_edgesBelow_11 : decode cX8_edgesBelow 11 = .ok (.iconst 0, 1) := by decide +kernel
theorem dX8_edgesBelow_12 : decode cX8_edgesBelow 12 = .ok (.iaload, 1) := by decide +kernel
theorem dX8_edgesBelow_13 : decode cX8_edgesBelow 13 = .ok (.if_icmp .ge 32, 3) := by decide +kernel
theorem dX8_edgesBelow_16 : decode cX8_edgesBelow 16 = .ok (.iload_n 2, 1) := by decide +kernel
theorem dX8_edgesBelow_17 : decode cX8_edgesBelow 17 = .ok (.aload_n 0, 1) := by decide +kernel
theorem dX8_edgesBelow_18 : decode cX8_edgesBelow 18 = .ok (.iload_n 3, 1) := by decide +kernel
theorem dX8_edgesBelow_19 : decode cX8_edgesBelow 19 = .ok (.iconst 1, 1) := by decide +kernel
theorem dX8_edgesBelow_20 : decode cX8_edgesBelow 20 = .ok (.invokevirtual 74, 3) := by decide +kernel
theorem dX8_edgesBelow_23 : decode cX8_edgesBelow 23 = .ok (.iload_n 1, 1) := by decide +kernel
theorem dX8_edgesBelow_24 : decode cX8_edgesBelow 24 = .ok (.if_icmp .ne 12, 3) := by decide +kernel
theorem dX8_edgesBelow_27 : decode cX8_edgesBelow 27 = .ok (.aload_n 0, 1) := by decide +kernel
theorem dX8_edgesBelow_28 : decode cX8_edgesBelow 28 = .ok (.iload_n 3, 1) := by decide +kernel
theorem dX8_edgesBelow_29 : decode cX8_edgesBelow 29 = .ok (.iconst 2, 1) := by decide +kernel
theorem dX8_edgesBelow_30 : decode cX8_edgesBelow 30 = .ok (.invokevirtual 74, 3) := by decide +kernel
theorem dX8_edgesBelow_33 : decode cX8_edgesBelow 33 = .ok (.goto 4, 3) := by decide +kernel
theorem dX8_edgesBelow_36 : decode cX8_edgesBelow 36 = .ok (.iconst 0, 1) := by decide +kernel
theorem dX8_edgesBelow_37 : decode cX8_edgesBelow 37 = .ok (.iadd, 1) := by decide +kernel
theorem dX8_edgesBelow_38 : decode cX8_edgesBelow 38 = .ok (.istore_n 2, 1) := by decide +kernel
theorem dX8_edgesBelow_39 : decode cX8_edgesBelow 39 = .ok (.iinc 3 1, 3) := by decide +kernel
theorem dX8_edgesBelow_42 : decode cX8_edgesBelow 42 = .ok (.goto (-36), 3) := by decide +kernel
theorem dX8_edgesBelow_45 : decode cX8_edgesBelow 45 = .ok (.iload_n 2, 1) := by decide +kernel
theorem dX8_edgesBelow_46 : decode cX8_edgesBelow 46 = .ok (.ireturn, 1) := by decide +kernel
set_option maxRecDepth 20000 in
theorem ggX8_look_X8_its : GoodIn wsX8_look wsX8_its := goodIn_r _ [13, 5, 27, 28, 29, 30, 31, 32, 33, 34, 35, 36, 37, 38, 39, 40, 41, 42, 43, 44, 45, 46, 47, 48, 49, 50, 51, 52, 53, 54, 55, 56, 57, 58, 59, 60, 61, 62, 63, 64, 65, 66, 67, 68, 69] (by exact rfl) (by decide +kernel)
set_option maxRecDepth 20000 in
theorem gX8_look_X8_its : GoodIn wsX8_look (wsV RX8 74 RX8 yX8_its wsX8_its) := goodIn_app (goodIn_of _ (by decide +kernel)) ggX8_look_X8_its
set_option maxRecDepth 20000 in
theorem ggX8_look_X8_leaks : GoodIn wsX8_look wsX8_leaks := goodIn_r _ [16] (by exact rfl) (by decide +kernel)
set_option maxRecDepth 20000 in
theorem gX8_look_X8_leaks : GoodIn wsX8_look (va_wsS RX8 88 yX8_leaks wsX8_leaks) := goodIn_app (goodIn_of _ (by decide +kernel)) ggX8_look_X8_leaks
set_option maxRecDepth 20000 in
theorem ggX8_look_X8_keeps : GoodIn wsX8_look wsX8_keeps := goodIn_r _ [19] (by exact rfl) (by decide +kernel)
set_option maxRecDepth 20000 in
theorem gX8_look_X8_keeps : GoodIn wsX8_look (va_wsS RX8 91 yX8_keeps wsX8_keeps) := goodIn_app (goodIn_of _ (by decide +kernel)) ggX8_look_X8_keeps
set_option maxRecDepth 20000 in
theorem ggX8_look_X8_holds : GoodIn wsX8_look wsX8_holds := goodIn_r _ [22] (by exact rfl) (by decide +kernel)
set_option maxRecDepth 20000 in
theorem gX8_look_X8_holds : GoodIn wsX8_look (va_wsS RX8 94 yX8_holds wsX8_holds) := goodIn_app (goodIn_of _ (by decide +kernel)) ggX8_look_X8_holds
set_option maxRecDepth 20000 in
theorem ggX8_look_X8_edgesBelow : GoodIn wsX8_look wsX8_edgesBelow := goodIn_r _ [26, 5, 9, 10, 11, 12, 13, 27, 28, 29, 30, 31, 32, 33, 34, 35, 36, 37, 38, 39, 40, 41, 42, 43, 44, 45, 46, 47, 48, 49, 50, 51, 52, 53, 54, 55, 56, 57, 58, 59, 60, 61, 62, 63, 64, 65, 66, 67, 68, 69] (by exact rfl) (by decide +kernel)
set_option maxRecDepth 20000 in
theorem gX8_look_X8_edgesBelow : GoodIn wsX8_look (wsV RX8 98 RX8 yX8_edgesBelow wsX8_edgesBelow) := goodIn_app (goodIn_of _ (by decide +kernel)) ggX8_look_X8_edgesBelow
theorem dX8_look_0 : decode cX8_look 0 = .ok (.aload_n 0, 1) := by decide +kernel
theorem dX8_look_1 : decode cX8_look 1 = .ok (.iconst 0, 1) := by decide +kernel
theorem dX8_look_2 : decode cX8_look 2 = .ok (.putfield 78, 3) := by decide +kernel
theorem dX8_look_5 : decode cX8_look 5 = .ok (.aload_n 0, 1) := by decide +kernel
theorem dX8_look_6 : decode cX8_look 6 = .ok (.iconst 0, 1) := by decide +kernel
theorem dX8_look_7 : decode cX8_look 7 = .ok (.putfield 82, 3) := by decide +kernel
theorem dX8_look_10 : decode cX8_look 10 = .ok (.aload_n 0, 1) := by decide +kernel
theorem dX8_look_11 : decode cX8_look 11 = .ok (.iconst 0, 1) := by decide +kernel
theorem dX8_look_12 : decode cX8_look 12 = .ok (.putfield 85, 3) := by decide +kernel
theorem dX8_look_15 : decode cX8_look 15 = .ok (.iconst 0, 1) := by decide +kernel
theorem dX8_look_16 : decode cX8_look 16 = .ok (.istore_n 1, 1) := by decide +kernel
theorem dX8_look_17 : decode cX8_look 17 = .ok (.iload_n 1, 1) := by decide +kernel
theorem dX8_look_18 : decode cX8_look 18 = .ok (.bipush 10, 2) := by decide +kernel
theorem dX8_look_20 : decode cX8_look 20 = .ok (.if_icmp .ge 29, 3) := by decide +kernel
theorem dX8_look_23 : decode cX8_look 23 = .ok (.aload_n 0, 1) := by decide +kernel
theorem dX8_look_24 : decode cX8_look 24 = .ok (.getfield 29, 3) := by decide +kernel
theorem dX8_look_27 : decode cX8_look 27 = .ok (.iload_n 1, 1) := by decide +kernel
theorem dX8_look_28 : decode cX8_look 28 = .ok (.iload_n 1, 1) := by decide +kernel
theorem dX8_look_29 : decode cX8_look 29 = .ok (.ifCond .ne 12, 3) := by decide +kernel
theorem dX8_look_32 : decode cX8_look 32 = .ok (.aload_n 0, 1) := by decide +kernel
theorem dX8_look_33 : decode cX8_look 33 = .ok (.getfield 7, 3) := by decide +kernel
theorem dX8_look_36 : decode cX8_look 36 = .ok (.iconst 3, 1) := by decide +kernel
theorem dX8_look_37 : decode cX8_look 37 = .ok (.iaload, 1) := by decide +kernel
theorem dX8_look_38 : decode cX8_look 38 = .ok (.goto 4, 3) := by decide +kernel
theorem dX8_look_41 : decode cX8_look 41 = .ok (.iconst 0, 1) := by decide +kernel
theorem dX8_look_42 : decode cX8_look 42 = .ok (.iastore, 1) := by decide +kernel
theorem dX8_look_43 : decode cX8_look 43 = .ok (.iinc 1 1, 3) := by decide +kernel
theorem dX8_look_46 : decode cX8_look 46 = .ok (.goto (-29), 3) := by decide +kernel
theorem dX8_look_49 : decode cX8_look 49 = .ok (.iconst 0, 1) := by decide +kernel
theorem dX8_look_50 : decode cX8_look 50 = .ok (.istore_n 1, 1) := by decide +kernel
theorem dX8_look_51 : decode cX8_look 51 = .ok (.iload_n 1, 1) := by decide +kernel
theorem dX8_look_52 : decode cX8_look 52 = .ok (.aload_n 0, 1) := by decide +kernel
theorem dX8_look_53 : decode cX8_look 53 = .ok (.getfield 7, 3) := by decide +kernel
theorem dX8_look_56 : decode cX8_look 56 = .ok (.iconst 0, 1) := by decide +kernel
theorem dX8_look_57 : decode cX8_look 57 = .ok (.iaload, 1) := by decide +kernel
theorem dX8_look_58 : decode cX8_look 58 = .ok (.if_icmp .ge 211, 3) := by decide +kernel
theorem dX8_look_61 : decode cX8_look 61 = .ok (.aload_n 0, 1) := by decide +kernel
theorem dX8_look_62 : decode cX8_look 62 = .ok (.iload_n 1, 1) := by decide +kernel
theorem dX8_look_63 : decode cX8_look 63 = .ok (.iconst 0, 1) := by decide +kernel
theorem dX8_look_64 : decode cX8_look 64 = .ok (.invokevirtual 74, 3) := by decide +kernel
theorem dX8_look_67 : decode cX8_look 67 = .ok (.istore_n 2, 1) := by decide +kernel
theorem dX8_look_68 : decode cX8_look 68 = .ok (.aload_n 0, 1) := by decide +kernel
theorem dX8_look_69 : decode cX8_look 69 = .ok (.getfield 29, 3) := by decide +kernel
theorem dX8_look_72 : decode cX8_look 72 = .ok (.iload_n 1, 1) := by decide +kernel
theorem dX8_look_73 : decode cX8_look 73 = .ok (.iaload, 1) := by decide +kernel
theorem dX8_look_74 : decode cX8_look 74 = .ok (.istore_n 3, 1) := by decide +kernel
theorem dX8_look_75 : decode cX8_look 75 = .ok (.iload_n 2, 1) := by decide +kernel
theorem dX8_look_76 : decode cX8_look 76 = .ok (.iload_n 3, 1) := by decide +kernel
theorem dX8_look_77 : decode cX8_look 77 = .ok (.invokestatic 88, 3) := by decide +kernel
theorem dX8_look_80 : decode cX8_look 80 = .ok (.istore 4, 2) := by decide +kernel
theorem dX8_look_82 : decode cX8_look 82 = .ok (.aload_n 0, 1) := by decide +kernel
theorem dX8_look_83 : decode cX8_look 83 = .ok (.getfield 32, 3) := by decide +kernel
theorem dX8_look_86 : decode cX8_look 86 = .ok (.iload_n 1, 1) := by decide +kernel
theorem dX8_look_87 : decode cX8_look 87 = .ok (.iload_n 2, 1) := by decide +kernel
theorem dX8_look_88 : decode cX8_look 88 = .ok (.iload_n 3, 1) := by decide +kernel
theorem dX8_look_89 : decode cX8_look 89 = .ok (.iload 4, 2) := by decide +kernel
theorem dX8_look_91 : decode cX8_look 91 = .ok (.isub, 1) := by decide +kernel
theorem dX8_look_92 : decode cX8_look 92 = .ok (.invokestatic 91, 3) := by decide +kernel
theorem dX8_look_95 : decode cX8_look 95 = .ok (.iastore, 1) := by decide +kernel
theorem dX8_look_96 : decode cX8_look 96 = .ok (.iload_n 3, 1) := by decide +kernel
theorem dX8_look_97 : decode cX8_look 97 = .ok (.iload 4, 2) := by decide +kernel
theorem dX8_look_99 : decode cX8_look 99 = .ok (.isub, 1) := by decide +kernel
theorem dX8_look_100 : decode cX8_look 100 = .ok (.aload_n 0, 1) := by decide +kernel
theorem dX8_look_101 : decode cX8_look 101 = .ok (.getfield 32, 3) := by decide +kernel
theorem dX8_look_104 : decode cX8_look 104 = .ok (.iload_n 1, 1) := by decide +kernel
theorem dX8_look_105 : decode cX8_look 105 = .ok (.iaload, 1) := by decide +kernel
theorem dX8_look_106 : decode cX8_look 106 = .ok (.isub, 1) := by decide +kernel
theorem dX8_look_107 : decode cX8_look 107 = .ok (.istore 5, 2) := by decide +kernel
theorem dX8_look_109 : decode cX8_look 109 = .ok (.aload_n 0, 1) := by decide +kernel
theorem dX8_look_110 : decode cX8_look 110 = .ok (.getfield 35, 3) := by decide +kernel
theorem dX8_look_113 : decode cX8_look 113 = .ok (.iload_n 1, 1) := by decide +kernel
theorem dX8_look_114 : decode cX8_look 114 = .ok (.iload_n 2, 1) := by decide +kernel
theorem dX8_look_115 : decode cX8_look 115 = .ok (.iload 5, 2) := by decide +kernel
theorem dX8_look_117 : decode cX8_look 117 = .ok (.aload_n 0, 1) := by decide +kernel
theorem dX8_look_118 : decode cX8_look 118 = .ok (.iload_n 1, 1) := by decide +kernel
theorem dX8_look_119 : decode cX8_look 119 = .ok (.iconst 3, 1) := by decide +kernel
theorem dX8_look_120 : decode cX8_look 120 = .ok (.invokevirtual 74, 3) := by decide +kernel
theorem dX8_look_123 : decode cX8_look 123 = .ok (.invokestatic 94, 3) := by decide +kernel
theorem dX8_look_126 : decode cX8_look 126 = .ok (.iastore, 1) := by decide +kernel
theorem dX8_look_127 : decode cX8_look 127 = .ok (.iload 5, 2) := by decide +kernel
theorem dX8_look_129 : decode cX8_look 129 = .ok (.aload_n 0, 1) := by decide +kernel
theorem dX8_look_130 : decode cX8_look 130 = .ok (.getfield 35, 3) := by decide +kernel
theorem dX8_look_133 : decode cX8_look 133 = .ok (.iload_n 1, 1) := by decide +kernel
theorem dX8_look_134 : decode cX8_look 134 = .ok (.iaload, 1) := by decide +kernel
theorem dX8_look_135 : decode cX8_look 135 = .ok (.isub, 1) := by decide +kernel
theorem dX8_look_136 : decode cX8_look 136 = .ok (.istore 6, 2) := by decide +kernel
theorem dX8_look_138 : decode cX8_look 138 = .ok (.aload_n 0, 1) := by decide +kernel
theorem dX8_look_139 : decode cX8_look 139 = .ok (.iload_n 1, 1) := by decide +kernel
theorem dX8_look_140 : decode cX8_look 140 = .ok (.invokevirtual 98, 3) := by decide +kernel
theorem dX8_look_143 : decode cX8_look 143 = .ok (.istore 7, 2) := by decide +kernel
theorem dX8_look_145 : decode cX8_look 145 = .ok (.iload 6, 2) := by decide +kernel
theorem dX8_look_147 : decode cX8_look 147 = .ok (.istore 8, 2) := by decide +kernel
theorem dX8_look_149 : decode cX8_look 149 = .ok (.iload_n 1, 1) := by decide +kernel
theorem dX8_look_150 : decode cX8_look 150 = .ok (.iconst 1, 1) := by decide +kernel
theorem dX8_look_151 : decode cX8_look 151 = .ok (.iadd, 1) := by decide +kernel
theorem dX8_look_152 : decode cX8_look 152 = .ok (.istore 9, 2) := by decide +kernel
theorem dX8_look_154 : decode cX8_look 154 = .ok (.iload 9, 2) := by decide +kernel
theorem dX8_look_156 : decode cX8_look 156 = .ok (.aload_n 0, 1) := by decide +kernel
theorem dX8_look_157 : decode cX8_look 157 = .ok (.getfield 7, 3) := by decide +kernel
theorem dX8_look_160 : decode cX8_look 160 = .ok (.iconst 0, 1) := by decide +kernel
theorem dX8_look_161 : decode cX8_look 161 = .ok (.iaload, 1) := by decide +kernel
theorem dX8_look_162 : decode cX8_look 162 = .ok (.if_icmp .ge 56, 3) := by decide +kernel
theorem dX8_look_165 : decode cX8_look 165 = .ok (.aload_n 0, 1) := by decide +kernel
theorem dX8_look_166 : decode cX8_look 166 = .ok (.iload 9, 2) := by decide +kernel
theorem dX8_look_168 : decode cX8_look 168 = .ok (.iconst 1, 1) := by decide +kernel
theorem dX8_look_169 : decode cX8_look 169 = .ok (.invokevirtual 74, 3) := by decide +kernel
theorem dX8_look_172 : decode cX8_look 172 = .ok (.iload_n 1, 1) := by decide +kernel
theorem dX8_look_173 : decode cX8_look 173 = .ok (.if_icmp .ne 39, 3) := by decide +kernel
theorem dX8_look_176 : decode cX8_look 176 = .ok (.aload_n 0, 1) := by decide +kernel
theorem dX8_look_177 : decode cX8_look 177 = .ok (.getfield 29, 3) := by decide +kernel
theorem dX8_look_180 : decode cX8_look 180 = .ok (.iload 9, 2) := by decide +kernel
theorem dX8_look_182 : decode cX8_look 182 = .ok (.iload 6, 2) := by decide +kernel
theorem dX8_look_184 : decode cX8_look 184 = .ok (.i2l, 1) := by decide +kernel
theorem dX8_look_185 : decode cX8_look 185 = .ok (.aload_n 0, 1) := by decide +kernel
theorem dX8_look_186 : decode cX8_look 186 = .ok (.iload 9, 2) := by decide +kernel
theorem dX8_look_188 : decode cX8_look 188 = .ok (.iconst 2, 1) := by decide +kernel
theorem dX8_look_189 : decode cX8_look 189 = .ok (.invokevirtual 74, 3) := by decide +kernel
theorem dX8_look_192 : decode cX8_look 192 = .ok (.i2l, 1) := by decide +kernel
theorem dX8_look_193 : decode cX8_look 193 = .ok (.lmul, 1) := by decide +kernel
theorem dX8_look_194 : decode cX8_look 194 = .ok (.iload 7, 2) := by decide +kernel
theorem dX8_look_196 : decode cX8_look 196 = .ok (.i2l, 1) := by decide +kernel
theorem dX8_look_197 : decode cX8_look 197 = .ok (.ldiv, 1) := by decide +kernel
theorem dX8_look_198 : decode cX8_look 198 = .ok (.l2i, 1) := by decide +kernel
theorem dX8_look_199 : decode cX8_look 199 = .ok (.iastore, 1) := by decide +kernel
theorem dX8_look_200 : decode cX8_look 200 = .ok (.iload 8, 2) := by decide +kernel
theorem dX8_look_202 : decode cX8_look 202 = .ok (.aload_n 0, 1) := by decide +kernel
theorem dX8_look_203 : decode cX8_look 203 = .ok (.getfield 29, 3) := by decide +kernel
theorem dX8_look_206 : decode cX8_look 206 = .ok (.iload 9, 2) := by decide +kernel
theorem dX8_look_208 : decode cX8_look 208 = .ok (.iaload, 1) := by decide +kernel
theorem dX8_look_209 : decode cX8_look 209 = .ok (.isub, 1) := by decide +kernel
theorem dX8_look_210 : decode cX8_look 210 = .ok (.istore 8, 2) := by decide +kernel
theorem dX8_look_212 : decode cX8_look 212 = .ok (.iinc 9 1, 3) := by decide +kernel
theorem dX8_look_215 : decode cX8_look 215 = .ok (.goto (-61), 3) := by decide +kernel
theorem dX8_look_218 : decode cX8_look 218 = .ok (.aload_n 0, 1) := by decide +kernel
theorem dX8_look_219 : decode cX8_look 219 = .ok (.getfield 38, 3) := by decide +kernel
theorem dX8_look_222 : decode cX8_look 222 = .ok (.iload_n 1, 1) := by decide +kernel
theorem dX8_look_223 : decode cX8_look 223 = .ok (.iload 8, 2) := by decide +kernel
theorem dX8_look_225 : decode cX8_look 225 = .ok (.iastore, 1) := by decide +kernel
theorem dX8_look_226 : decode cX8_look 226 = .ok (.aload_n 0, 1) := by decide +kernel
theorem dX8_look_227 : decode cX8_look 227 = .ok (.dup, 1) := by decide +kernel
theorem dX8_look_228 : decode cX8_look 228 = .ok (.getfield 78, 3) := by decide +kernel
theorem dX8_look_231 : decode cX8_look 231 = .ok (.iload 4, 2) := by decide +kernel
theorem dX8_look_233 : decode cX8_look 233 = .ok (.iadd, 1) := by decide +kernel
theorem dX8_look_234 : decode cX8_look 234 = .ok (.putfield 78, 3) := by decide +kernel
theorem dX8_look_237 : decode cX8_look 237 = .ok (.aload_n 0, 1) := by decide +kernel
theorem dX8_look_238 : decode cX8_look 238 = .ok (.dup, 1) := by decide +kernel
theorem dX8_look_239 : decode cX8_look 239 = .ok (.getfield 82, 3) := by decide +kernel
theorem dX8_look_242 : decode cX8_look 242 = .ok (.aload_n 0, 1) := by decide +kernel
theorem dX8_look_243 : decode cX8_look 243 = .ok (.getfield 32, 3) := by decide +kernel
theorem dX8_look_246 : decode cX8_look 246 = .ok (.iload_n 1, 1) := by decide +kernel
theorem dX8_look_247 : decode cX8_look 247 = .ok (.iaload, 1) := by decide +kernel
theorem dX8_look_248 : decode cX8_look 248 = .ok (.iadd, 1) := by decide +kernel
theorem dX8_look_249 : decode cX8_look 249 = .ok (.putfield 82, 3) := by decide +kernel
theorem dX8_look_252 : decode cX8_look 252 = .ok (.aload_n 0, 1) := by decide +kernel
theorem dX8_look_253 : decode cX8_look 253 = .ok (.dup, 1) := by decide +kernel
theorem dX8_look_254 : decode cX8_look 254 = .ok (.getfield 85, 3) := by decide +kernel
theorem dX8_look_257 : decode cX8_look 257 = .ok (.iload 8, 2) := by decide +kernel
theorem dX8_look_259 : decode cX8_look 259 = .ok (.iadd, 1) := by decide +kernel
theorem dX8_look_260 : decode cX8_look 260 = .ok (.putfield 85, 3) := by decide +kernel
theorem dX8_look_263 : decode cX8_look 263 = .ok (.iinc 1 1, 3) := by decide +kernel
theorem dX8_look_266 : decode cX8_look 266 = .ok (.goto (-215), 3) := by decide +kernel
theorem dX8_look_269 : decode cX8_look 269 = .ok (.return_, 1) := by decide +kernel
set_option maxRecDepth 20000 in
theorem ggX8_anHour_X8_look : GoodIn wsX8_anHour wsX8_look := goodIn_r _ [8, 9, 10, 11, 12, 1, 2, 3, 13, 14, 15, 16, 7, 17, 18, 19, 20, 21, 22, 23, 24, 25, 26, 27, 28, 29, 30, 35, 36, 37, 38, 39, 40, 41, 42, 43, 44, 45, 46, 47, 48, 49, 50, 51, 52, 53, 54, 55, 56, 57, 58, 59, 60, 61, 62, 63, 64, 65, 66, 67, 68, 69, 70, 71, 72, 73, 74, 75, 76, 77] (by exact rfl) (by decide +kernel)
set_option maxRecDepth 20000 in
theorem gX8_anHour_X8_look : GoodIn wsX8_anHour (wsV RX8 102 RX8 yX8_look wsX8_look) := goodIn_app (goodIn_of _ (by decide +kernel)) ggX8_anHour_X8_look
set_option maxRecDepth 20000 in
theorem ggX8_anHour_X8_its : GoodIn wsX8_anHour wsX8_its := goodIn_r _ [17, 1, 35, 36, 37, 38, 39, 40, 41, 42, 43, 44, 45, 46, 47, 48, 49, 50, 51, 52, 53, 54, 55, 56, 57, 58, 59, 60, 61, 62, 63, 64, 65, 66, 67, 68, 69, 70, 71, 72, 73, 74, 75, 76, 77] (by exact rfl) (by decide +kernel)
set_option maxRecDepth 20000 in
theorem gX8_anHour_X8_its : GoodIn wsX8_anHour (wsV RX8 74 RX8 yX8_its wsX8_its) := goodIn_app (goodIn_of _ (by decide +kernel)) ggX8_anHour_X8_its
set_option maxRecDepth 20000 in
theorem ggX8_anHour_X8_sets : GoodIn wsX8_anHour wsX8_sets := goodIn_r _ [34, 1, 35, 36, 37, 38, 39, 40, 41, 42, 43, 44, 45, 46, 47, 48, 49, 50, 51, 52, 53, 54, 55, 56, 57, 58, 59, 60, 61, 62, 63, 64, 65, 66, 67, 68, 69, 70, 71, 72, 73, 74, 75, 76, 77] (by exact rfl) (by decide +kernel)
set_option maxRecDepth 20000 in
theorem gX8_anHour_X8_sets : GoodIn wsX8_anHour (wsV RX8 105 RX8 yX8_sets wsX8_sets) := goodIn_app (goodIn_of _ (by decide +kernel)) ggX8_anHour_X8_sets
theorem dX8_anHour_0 : decode cX8_anHour 0 = .ok (.aload_n 0, 1) := by decide +kernel
theorem dX8_anHour_1 : decode cX8_anHour 1 = .ok (.invokevirtual 102, 3) := by decide +kernel
theorem dX8_anHour_4 : decode cX8_anHour 4 = .ok (.iconst 0, 1) := by decide +kernel
theorem dX8_anHour_5 : decode cX8_anHour 5 = .ok (.istore_n 1, 1) := by decide +kernel
theorem dX8_anHour_6 : decode cX8_anHour 6 = .ok (.iload_n 1, 1) := by decide +kernel
theorem dX8_anHour_7 : decode cX8_anHour 7 = .ok (.aload_n 0, 1) := by decide +kernel
theorem dX8_anHour_8 : decode cX8_anHour 8 = .ok (.getfield 7, 3) := by decide +kernel
theorem dX8_anHour_11 : decode cX8_anHour 11 = .ok (.iconst 0, 1) := by decide +kernel
theorem dX8_anHour_12 : decode cX8_anHour 12 = .ok (.iaload, 1) := by decide +kernel
theorem dX8_anHour_13 : decode cX8_anHour 13 = .ok (.if_icmp .ge 47, 3) := by decide +kernel
theorem dX8_anHour_16 : decode cX8_anHour 16 = .ok (.aload_n 0, 1) := by decide +kernel
theorem dX8_anHour_17 : decode cX8_anHour 17 = .ok (.iload_n 1, 1) := by decide +kernel
theorem dX8_anHour_18 : decode cX8_anHour 18 = .ok (.iconst 4, 1) := by decide +kernel
theorem dX8_anHour_19 : decode cX8_anHour 19 = .ok (.aload_n 0, 1) := by decide +kernel
theorem dX8_anHour_20 : decode cX8_anHour 20 = .ok (.iload_n 1, 1) := by decide +kernel
theorem dX8_anHour_21 : decode cX8_anHour 21 = .ok (.iconst 4, 1) := by decide +kernel
theorem dX8_anHour_22 : decode cX8_anHour 22 = .ok (.invokevirtual 74, 3) := by decide +kernel
theorem dX8_anHour_25 : decode cX8_anHour 25 = .ok (.aload_n 0, 1) := by decide +kernel
theorem dX8_anHour_26 : decode cX8_anHour 26 = .ok (.getfield 32, 3) := by decide +kernel
theorem dX8_anHour_29 : decode cX8_anHour 29 = .ok (.iload_n 1, 1) := by decide +kernel
theorem dX8_anHour_30 : decode cX8_anHour 30 = .ok (.iaload, 1) := by decide +kernel
theorem dX8_anHour_31 : decode cX8_anHour 31 = .ok (.iadd, 1) := by decide +kernel
theorem dX8_anHour_32 : decode cX8_anHour 32 = .ok (.invokevirtual 105, 3) := by decide +kernel
theorem dX8_anHour_35 : decode cX8_anHour 35 = .ok (.aload_n 0, 1) := by decide +kernel
theorem dX8_anHour_36 : decode cX8_anHour 36 = .ok (.iload_n 1, 1) := by decide +kernel
theorem dX8_anHour_37 : decode cX8_anHour 37 = .ok (.iconst 3, 1) := by decide +kernel
theorem dX8_anHour_38 : decode cX8_anHour 38 = .ok (.aload_n 0, 1) := by decide +kernel
theorem dX8_anHour_39 : decode cX8_anHour 39 = .ok (.iload_n 1, 1) := by decide +kernel
theorem dX8_anHour_40 : decode cX8_anHour 40 = .ok (.iconst 3, 1) := by decide +kernel
theorem dX8_anHour_41 : decode cX8_anHour 41 = .ok (.invokevirtual 74, 3) := by decide +kernel
theorem dX8_anHour_44 : decode cX8_anHour 44 = .ok (.aload_n 0, 1) := by decide +kernel
theorem dX8_anHour_45 : decode cX8_anHour 45 = .ok (.getfield 35, 3) := by decide +kernel
theorem dX8_anHour_48 : decode cX8_anHour 48 = .ok (.iload_n 1, 1) := by decide +kernel
theorem dX8_anHour_49 : decode cX8_anHour 49 = .ok (.iaload, 1) := by decide +kernel
theorem dX8_anHour_50 : decode cX8_anHour 50 = .ok (.iadd, 1) := by decide +kernel
theorem dX8_anHour_51 : decode cX8_anHour 51 = .ok (.invokevirtual 105, 3) := by decide +kernel
theorem dX8_anHour_54 : decode cX8_anHour 54 = .ok (.iinc 1 1, 3) := by decide +kernel
theorem dX8_anHour_57 : decode cX8_anHour 57 = .ok (.goto (-51), 3) := by decide +kernel
theorem dX8_anHour_60 : decode cX8_anHour 60 = .ok (.aload_n 0, 1) := by decide +kernel
theorem dX8_anHour_61 : decode cX8_anHour 61 = .ok (.getfield 7, 3) := by decide +kernel
theorem dX8_anHour_64 : decode cX8_anHour 64 = .ok (.iconst 1, 1) := by decide +kernel
theorem dX8_anHour_65 : decode cX8_anHour 65 = .ok (.dup2, 1) := by decide +kernel
theorem dX8_anHour_66 : decode cX8_anHour 66 = .ok (.iaload, 1) := by decide +kernel
theorem dX8_anHour_67 : decode cX8_anHour 67 = .ok (.iconst 1, 1) := by decide +kernel
theorem dX8_anHour_68 : decode cX8_anHour 68 = .ok (.iadd, 1) := by decide +kernel
theorem dX8_anHour_69 : decode cX8_anHour 69 = .ok (.iastore, 1) := by decide +kernel
theorem dX8_anHour_70 : decode cX8_anHour 70 = .ok (.return_, 1) := by decide +kernel
set_option maxRecDepth 20000 in
theorem ggX8_comes_X8_sets : GoodIn wsX8_comes wsX8_sets := goodIn_r _ [6, 1, 7, 8, 9, 10, 11, 12, 13, 14, 15, 16, 17, 18, 19, 20, 21, 22, 23, 24, 25, 26, 27, 28, 29, 30, 31, 32, 33, 34, 35, 36, 37, 38, 39, 40, 41, 42, 43, 44, 45, 46, 47, 48, 49] (by exact rfl) (by decide +kernel)
set_option maxRecDepth 20000 in
theorem gX8_comes_X8_sets : GoodIn wsX8_comes (wsV RX8 105 RX8 yX8_sets wsX8_sets) := goodIn_app (goodIn_of _ (by decide +kernel)) ggX8_comes_X8_sets
theorem dX8_comes_0 : decode cX8_comes 0 = .ok (.aload_n 0, 1) := by decide +kernel
theorem dX8_comes_1 : decode cX8_comes 1 = .ok (.getfield 7, 3) := by decide +kernel
theorem dX8_comes_4 : decode cX8_comes 4 = .ok (.iconst 0, 1) := by decide +kernel
theorem dX8_comes_5 : decode cX8_comes 5 = .ok (.iaload, 1) := by decide +kernel
theorem dX8_comes_6 : decode cX8_comes 6 = .ok (.istore 4, 2) := by decide +kernel
theorem dX8_comes_8 : decode cX8_comes 8 = .ok (.aload_n 0, 1) := by decide +kernel
theorem dX8_comes_9 : decode cX8_comes 9 = .ok (.getfield 7, 3) := by decide +kernel
theorem dX8_comes_12 : decode cX8_comes 12 = .ok (.iconst 0, 1) := by decide +kernel
theorem dX8_comes_13 : decode cX8_comes 13 = .ok (.dup2, 1) := by decide +kernel
theorem dX8_comes_14 : decode cX8_comes 14 = .ok (.iaload, 1) := by decide +kernel
theorem dX8_comes_15 : decode cX8_comes 15 = .ok (.iconst 1, 1) := by decide +kernel
theorem dX8_comes_16 : decode cX8_comes 16 = .ok (.iadd, 1) := by decide +kernel
theorem dX8_comes_17 : decode cX8_comes 17 = .ok (.iastore, 1) := by decide +kernel
theorem dX8_comes_18 : decode cX8_comes 18 = .ok (.aload_n 0, 1) := by decide +kernel
theorem dX8_comes_19 : decode cX8_comes 19 = .ok (.iload 4, 2) := by decide +kernel
theorem dX8_comes_21 : decode cX8_comes 21 = .ok (.iconst 0, 1) := by decide +kernel
theorem dX8_comes_22 : decode cX8_comes 22 = .ok (.iload_n 1, 1) := by decide +kernel
theorem dX8_comes_23 : decode cX8_comes 23 = .ok (.invokevirtual 105, 3) := by decide +kernel
theorem dX8_comes_26 : decode cX8_comes 26 = .ok (.aload_n 0, 1) := by decide +kernel
theorem dX8_comes_27 : decode cX8_comes 27 = .ok (.iload 4, 2) := by decide +kernel
theorem dX8_comes_29 : decode cX8_comes 29 = .ok (.iconst 1, 1) := by decide +kernel
theorem dX8_comes_30 : decode cX8_comes 30 = .ok (.iload_n 2, 1) := by decide +kernel
theorem dX8_comes_31 : decode cX8_comes 31 = .ok (.invokevirtual 105, 3) := by decide +kernel
theorem dX8_comes_34 : decode cX8_comes 34 = .ok (.aload_n 0, 1) := by decide +kernel
theorem dX8_comes_35 : decode cX8_comes 35 = .ok (.iload 4, 2) := by decide +kernel
theorem dX8_comes_37 : decode cX8_comes 37 = .ok (.iconst 2, 1) := by decide +kernel
theorem dX8_comes_38 : decode cX8_comes 38 = .ok (.iload_n 3, 1) := by decide +kernel
theorem dX8_comes_39 : decode cX8_comes 39 = .ok (.invokevirtual 105, 3) := by decide +kernel
theorem dX8_comes_42 : decode cX8_comes 42 = .ok (.aload_n 0, 1) := by decide +kernel
theorem dX8_comes_43 : decode cX8_comes 43 = .ok (.iload 4, 2) := by decide +kernel
theorem dX8_comes_45 : decode cX8_comes 45 = .ok (.iconst 3, 1) := by decide +kernel
theorem dX8_comes_46 : decode cX8_comes 46 = .ok (.iconst 0, 1) := by decide +kernel
theorem dX8_comes_47 : decode cX8_comes 47 = .ok (.invokevirtual 105, 3) := by decide +kernel
theorem dX8_comes_50 : decode cX8_comes 50 = .ok (.aload_n 0, 1) := by decide +kernel
theorem dX8_comes_51 : decode cX8_comes 51 = .ok (.iload 4, 2) := by decide +kernel
theorem dX8_comes_53 : decode cX8_comes 53 = .ok (.iconst 4, 1) := by decide +kernel
theorem dX8_comes_54 : decode cX8_comes 54 = .ok (.iconst 0, 1) := by decide +kernel
theorem dX8_comes_55 : decode cX8_comes 55 = .ok (.invokevirtual 105, 3) := by decide +kernel
theorem dX8_comes_58 : decode cX8_comes 58 = .ok (.iload 4, 2) := by decide +kernel
theorem dX8_comes_60 : decode cX8_comes 60 = .ok (.ireturn, 1) := by decide +kernel
set_option maxRecDepth 20000 in
theorem ggX8_basin_X8_isBasin : GoodIn wsX8_basin wsX8_isBasin := goodIn_r _ [7, 1, 8, 9, 6, 10, 25, 26, 27, 28, 29, 30, 31, 32, 33, 34, 35, 36, 37, 38, 39, 40, 41, 42, 43, 44, 45, 46, 47, 48, 49, 50, 51, 52, 53, 54, 55, 56, 57, 58, 59, 60, 61, 62, 63, 64, 65, 66, 67] (by exact rfl) (by decide +kernel)
set_option maxRecDepth 20000 in
theorem gX8_basin_X8_isBasin : GoodIn wsX8_basin (wsV RX8 109 RX8 yX8_isBasin wsX8_isBasin) := goodIn_app (goodIn_of _ (by decide +kernel)) ggX8_basin_X8_isBasin
set_option maxRecDepth 20000 in
theorem ggX8_basin_X8_in : GoodIn wsX8_basin wsX8_in := goodIn_r _ [10] (by exact rfl) (by decide +kernel)
set_option maxRecDepth 20000 in
theorem gX8_basin_X8_in : GoodIn wsX8_basin (va_wsS RX8 70 yX8_in wsX8_in) := goodIn_app (goodIn_of _ (by decide +kernel)) ggX8_basin_X8_in
set_option maxRecDepth 20000 in
theorem ggX8_basin_X8_finds : GoodIn wsX8_basin wsX8_finds := goodIn_r _ [14, 15, 16, 25, 26, 27, 28, 29, 30, 31, 32, 33, 34, 35, 36, 37, 38, 39, 40, 41, 42, 43, 44, 45, 46, 47, 48, 49, 50, 51, 52, 53, 54, 55, 56, 57, 58, 59, 60, 61, 62, 63, 64, 65, 66, 67] (by exact rfl) (by decide +kernel)
set_option maxRecDepth 20000 in
theorem gX8_basin_X8_finds : GoodIn wsX8_basin (wsV RX8 115 RX8 yX8_finds wsX8_finds) := goodIn_app (goodIn_of _ (by decide +kernel)) ggX8_basin_X8_finds
set_option maxRecDepth 20000 in
theorem ggX8_basin_X8_comes : GoodIn wsX8_basin wsX8_comes := goodIn_r _ [20, 1, 21, 22, 23, 6, 24, 25, 26, 27, 28, 29, 30, 31, 32, 33, 34, 35, 36, 37, 38, 39, 40, 41, 42, 43, 44, 45, 46, 47, 48, 49, 50, 51, 52, 53, 54, 55, 56, 57, 58, 59, 60, 61, 62, 63, 64, 65, 66, 67] (by exact rfl) (by decide +kernel)
set_option maxRecDepth 20000 in
theorem gX8_basin_X8_comes : GoodIn wsX8_basin (wsV RX8 118 RX8 yX8_comes wsX8_comes) := goodIn_app (goodIn_of _ (by decide +kernel)) ggX8_basin_X8_comes
theorem dX8_basin_0 : decode cX8_basin 0 = .ok (.aload_n 0, 1) := by decide +kernel
theorem dX8_basin_1 : decode cX8_basin 1 = .ok (.getfield 7, 3) := by decide +kernel
theorem dX8_basin_4 : decode cX8_basin 4 = .ok (.iconst 0, 1) := by decide +kernel
theorem dX8_basin_5 : decode cX8_basin 5 = .ok (.iaload, 1) := by decide +kernel
theorem dX8_basin_6 : decode cX8_basin 6 = .ok (.ifCond .ne 16, 3) := by decide +kernel
theorem dX8_basin_9 : decode cX8_basin 9 = .ok (.iload_n 2, 1) := by decide +kernel
theorem dX8_basin_10 : decode cX8_basin 10 = .ok (.iconst (-1), 1) := by decide +kernel
theorem dX8_basin_11 : decode cX8_basin 11 = .ok (.if_icmp .ne 7, 3) := by decide +kernel
theorem dX8_basin_14 : decode cX8_basin 14 = .ok (.iconst 1, 1) := by decide +kernel
theorem dX8_basin_15 : decode cX8_basin 15 = .ok (.goto 12, 3) := by decide +kernel
theorem dX8_basin_18 : decode cX8_basin 18 = .ok (.iconst 0, 1) := by decide +kernel
theorem dX8_basin_19 : decode cX8_basin 19 = .ok (.goto 8, 3) := by decide +kernel
theorem dX8_basin_22 : decode cX8_basin 22 = .ok (.aload_n 0, 1) := by decide +kernel
theorem dX8_basin_23 : decode cX8_basin 23 = .ok (.iload_n 2, 1) := by decide +kernel
theorem dX8_basin_24 : decode cX8_basin 24 = .ok (.invokevirtual 109, 3) := by decide +kernel
theorem dX8_basin_27 : decode cX8_basin 27 = .ok (.istore_n 3, 1) := by decide +kernel
theorem dX8_basin_28 : decode cX8_basin 28 = .ok (.iload_n 1, 1) := by decide +kernel
theorem dX8_basin_29 : decode cX8_basin 29 = .ok (.i2l, 1) := by decide +kernel
theorem dX8_basin_30 : decode cX8_basin 30 = .ok (.lconst 0, 1) := by decide +kernel
theorem dX8_basin_31 : decode cX8_basin 31 = .ok (.ldc2_w 113, 3) := by decide +kernel
theorem dX8_basin_34 : decode cX8_basin 34 = .ok (.invokestatic 70, 3) := by decide +kernel
theorem dX8_basin_37 : decode cX8_basin 37 = .ok (.ifCond .eq 7, 3) := by decide +kernel
theorem dX8_basin_40 : decode cX8_basin 40 = .ok (.iload_n 3, 1) := by decide +kernel
theorem dX8_basin_41 : decode cX8_basin 41 = .ok (.ifCond .ne 9, 3) := by decide +kernel
theorem dX8_basin_44 : decode cX8_basin 44 = .ok (.aload_n 0, 1) := by decide +kernel
theorem dX8_basin_45 : decode cX8_basin 45 = .ok (.iconst 0, 1) := by decide +kernel
theorem dX8_basin_46 : decode cX8_basin 46 = .ok (.invokevirtual 115, 3) := by decide +kernel
theorem dX8_basin_49 : decode cX8_basin 49 = .ok (.ireturn, 1) := by decide +kernel
theorem dX8_basin_50 : decode cX8_basin 50 = .ok (.aload_n 0, 1) := by decide +kernel
theorem dX8_basin_51 : decode cX8_basin 51 = .ok (.getfield 7, 3) := by decide +kernel
theorem dX8_basin_54 : decode cX8_basin 54 = .ok (.iconst 0, 1) := by decide +kernel
theorem dX8_basin_55 : decode cX8_basin 55 = .ok (.iaload, 1) := by decide +kernel
theorem dX8_basin_56 : decode cX8_basin 56 = .ok (.bipush 10, 2) := by decide +kernel
theorem dX8_basin_58 : decode cX8_basin 58 = .ok (.if_icmp .ne 11, 3) := by decide +kernel
theorem dX8_basin_61 : decode cX8_basin 61 = .ok (.aload_n 0, 1) := by decide +kernel
theorem dX8_basin_62 : decode cX8_basin 62 = .ok (.iconst 1, 1) := by decide +kernel
theorem dX8_basin_63 : decode cX8_basin 63 = .ok (.invokevirtual 115, 3) := by decide +kernel
theorem dX8_basin_66 : decode cX8_basin 66 = .ok (.goto 10, 3) := by decide +kernel
theorem dX8_basin_69 : decode cX8_basin 69 = .ok (.aload_n 0, 1) := by decide +kernel
theorem dX8_basin_70 : decode cX8_basin 70 = .ok (.iload_n 1, 1) := by decide +kernel
theorem dX8_basin_71 : decode cX8_basin 71 = .ok (.iload_n 2, 1) := by decide +kernel
theorem dX8_basin_72 : decode cX8_basin 72 = .ok (.iconst 1, 1) := by decide +kernel
theorem dX8_basin_73 : decode cX8_basin 73 = .ok (.invokevirtual 118, 3) := by decide +kernel
theorem dX8_basin_76 : decode cX8_basin 76 = .ok (.ireturn, 1) := by decide +kernel
set_option maxRecDepth 20000 in
theorem ggX8_of_X8_isBasin : GoodIn wsX8_of wsX8_isBasin := goodIn_r _ [8, 9, 10, 11, 7, 12, 45, 46, 47, 48, 49, 50, 51, 52, 53, 54, 55, 56, 57, 58, 59, 60, 61, 62, 63, 64, 65, 66, 67, 68, 69, 70, 71, 72, 73, 74, 75, 76, 77, 78, 79, 80, 81, 82, 83, 84, 85, 86, 87] (by exact rfl) (by decide +kernel)
set_option maxRecDepth 20000 in
theorem gX8_of_X8_isBasin : GoodIn wsX8_of (wsV RX8 109 RX8 yX8_isBasin wsX8_isBasin) := goodIn_app (goodIn_of _ (by decide +kernel)) ggX8_of_X8_isBasin
set_option maxRecDepth 20000 in
theorem ggX8_of_X8_in : GoodIn wsX8_of wsX8_in := goodIn_r _ [12] (by exact rfl) (by decide +kernel)
set_option maxRecDepth 20000 in
theorem gX8_of_X8_in : GoodIn wsX8_of (va_wsS RX8 70 yX8_in wsX8_in) := goodIn_app (goodIn_of _ (by decide +kernel)) ggX8_of_X8_in
set_option maxRecDepth 20000 in
theorem ggX8_of_X8_finds : GoodIn wsX8_of wsX8_finds := goodIn_r _ [16, 17, 18, 45, 46, 47, 48, 49, 50, 51, 52, 53, 54, 55, 56, 57, 58, 59, 60, 61, 62, 63, 64, 65, 66, 67, 68, 69, 70, 71, 72, 73, 74, 75, 76, 77, 78, 79, 80, 81, 82, 83, 84, 85, 86, 87] (by exact rfl) (by decide +kernel)
set_option maxRecDepth 20000 in
theorem gX8_of_X8_finds : GoodIn wsX8_of (wsV RX8 115 RX8 yX8_finds wsX8_finds) := goodIn_app (goodIn_of _ (by decide +kernel)) ggX8_of_X8_finds
set_option maxRecDepth 20000 in
theorem ggX8_of_X8_look : GoodIn wsX8_of wsX8_look := goodIn_r _ [22, 23, 24, 25, 2, 9, 3, 26, 27, 28, 29, 30, 7, 31, 32, 33, 34, 35, 36, 37, 38, 39, 40, 41, 42, 43, 44, 45, 46, 47, 48, 49, 50, 51, 52, 53, 54, 55, 56, 57, 58, 59, 60, 61, 62, 63, 64, 65, 66, 67, 68, 69, 70, 71, 72, 73, 74, 75, 76, 77, 78, 79, 80, 81, 82, 83, 84, 85, 86, 87] (by exact rfl) (by decide +kernel)
set_option maxRecDepth 20000 in
theorem gX8_of_X8_look : GoodIn wsX8_of (wsV RX8 102 RX8 yX8_look wsX8_look) := goodIn_app (goodIn_of _ (by decide +kernel)) ggX8_of_X8_look
set_option maxRecDepth 20000 in
theorem ggX8_of_X8_its : GoodIn wsX8_of wsX8_its := goodIn_r _ [31, 9, 45, 46, 47, 48, 49, 50, 51, 52, 53, 54, 55, 56, 57, 58, 59, 60, 61, 62, 63, 64, 65, 66, 67, 68, 69, 70, 71, 72, 73, 74, 75, 76, 77, 78, 79, 80, 81, 82, 83, 84, 85, 86, 87] (by exact rfl) (by decide +kernel)
set_option maxRecDepth 20000 in
theorem gX8_of_X8_its : GoodIn wsX8_of (wsV RX8 74 RX8 yX8_its wsX8_its) := goodIn_app (goodIn_of _ (by decide +kernel)) ggX8_of_X8_its
theorem dX8_of_0 : decode cX8_of 0 = .ok (.aload_n 0, 1) := by decide +kernel
theorem dX8_of_1 : decode cX8_of 1 = .ok (.iload_n 1, 1) := by decide +kernel
theorem dX8_of_2 : decode cX8_of 2 = .ok (.invokevirtual 109, 3) := by decide +kernel
theorem dX8_of_5 : decode cX8_of 5 = .ok (.ifCond .eq 15, 3) := by decide +kernel
theorem dX8_of_8 : decode cX8_of 8 = .ok (.iload_n 2, 1) := by decide +kernel
theorem dX8_of_9 : decode cX8_of 9 = .ok (.i2l, 1) := by decide +kernel
theorem dX8_of_10 : decode cX8_of 10 = .ok (.lconst 0, 1) := by decide +kernel
theorem dX8_of_11 : decode cX8_of 11 = .ok (.ldc2_w 113, 3) := by decide +kernel
theorem dX8_of_14 : decode cX8_of 14 = .ok (.invokestatic 70, 3) := by decide +kernel
theorem dX8_of_17 : decode cX8_of 17 = .ok (.ifCond .ne 9, 3) := by decide +kernel
theorem dX8_of_20 : decode cX8_of 20 = .ok (.aload_n 0, 1) := by decide +kernel
theorem dX8_of_21 : decode cX8_of 21 = .ok (.iconst 0, 1) := by decide +kernel
theorem dX8_of_22 : decode cX8_of 22 = .ok (.invokevirtual 115, 3) := by decide +kernel
theorem dX8_of_25 : decode cX8_of 25 = .ok (.ireturn, 1) := by decide +kernel
theorem dX8_of_26 : decode cX8_of 26 = .ok (.aload_n 0, 1) := by decide +kernel
theorem dX8_of_27 : decode cX8_of 27 = .ok (.invokevirtual 102, 3) := by decide +kernel
theorem dX8_of_30 : decode cX8_of 30 = .ok (.iload_n 2, 1) := by decide +kernel
theorem dX8_of_31 : decode cX8_of 31 = .ok (.iconst 5, 1) := by decide +kernel
theorem dX8_of_32 : decode cX8_of 32 = .ok (.if_icmp .ge 12, 3) := by decide +kernel
theorem dX8_of_35 : decode cX8_of 35 = .ok (.aload_n 0, 1) := by decide +kernel
theorem dX8_of_36 : decode cX8_of 36 = .ok (.iload_n 1, 1) := by decide +kernel
theorem dX8_of_37 : decode cX8_of 37 = .ok (.iload_n 2, 1) := by decide +kernel
theorem dX8_of_38 : decode cX8_of 38 = .ok (.invokevirtual 74, 3) := by decide +kernel
theorem dX8_of_41 : decode cX8_of 41 = .ok (.goto 23, 3) := by decide +kernel
theorem dX8_of_44 : decode cX8_of 44 = .ok (.iload_n 2, 1) := by decide +kernel
theorem dX8_of_45 : decode cX8_of 45 = .ok (.iconst 5, 1) := by decide +kernel
theorem dX8_of_46 : decode cX8_of 46 = .ok (.if_icmp .ne 12, 3) := by decide +kernel
theorem dX8_of_49 : decode cX8_of 49 = .ok (.aload_n 0, 1) := by decide +kernel
theorem dX8_of_50 : decode cX8_of 50 = .ok (.getfield 29, 3) := by decide +kernel
theorem dX8_of_53 : decode cX8_of 53 = .ok (.iload_n 1, 1) := by decide +kernel
theorem dX8_of_54 : decode cX8_of 54 = .ok (.iaload, 1) := by decide +kernel
theorem dX8_of_55 : decode cX8_of 55 = .ok (.goto 9, 3) := by decide +kernel
theorem dX8_of_58 : decode cX8_of 58 = .ok (.aload_n 0, 1) := by decide +kernel
theorem dX8_of_59 : decode cX8_of 59 = .ok (.getfield 32, 3) := by decide +kernel
theorem dX8_of_62 : decode cX8_of 62 = .ok (.iload_n 1, 1) := by decide +kernel
theorem dX8_of_63 : decode cX8_of 63 = .ok (.iaload, 1) := by decide +kernel
theorem dX8_of_64 : decode cX8_of 64 = .ok (.ireturn, 1) := by decide +kernel
set_option maxRecDepth 20000 in
theorem ggX8_change_X8_in : GoodIn wsX8_change wsX8_in := goodIn_r _ [8] (by exact rfl) (by decide +kernel)
set_option maxRecDepth 20000 in
theorem gX8_change_X8_in : GoodIn wsX8_change (va_wsS RX8 70 yX8_in wsX8_in) := goodIn_app (goodIn_of _ (by decide +kernel)) ggX8_change_X8_in
set_option maxRecDepth 20000 in
theorem ggX8_change_X8_isBasin : GoodIn wsX8_change wsX8_isBasin := goodIn_r _ [12, 13, 5, 6, 7, 8, 28, 29, 30, 31, 32, 33, 34, 35, 36, 37, 38, 39, 40, 41, 42, 43, 44, 45, 46, 47, 48, 49, 50, 51, 52, 53, 54, 55, 56, 57, 58, 59, 60, 61, 62, 63, 64, 65, 66, 67, 68, 69, 70] (by exact rfl) (by decide +kernel)
set_option maxRecDepth 20000 in
theorem gX8_change_X8_isBasin : GoodIn wsX8_change (wsV RX8 109 RX8 yX8_isBasin wsX8_isBasin) := goodIn_app (goodIn_of _ (by decide +kernel)) ggX8_change_X8_isBasin
set_option maxRecDepth 20000 in
theorem ggX8_change_X8_finds : GoodIn wsX8_change wsX8_finds := goodIn_r _ [17, 18, 19, 28, 29, 30, 31, 32, 33, 34, 35, 36, 37, 38, 39, 40, 41, 42, 43, 44, 45, 46, 47, 48, 49, 50, 51, 52, 53, 54, 55, 56, 57, 58, 59, 60, 61, 62, 63, 64, 65, 66, 67, 68, 69, 70] (by exact rfl) (by decide +kernel)
set_option maxRecDepth 20000 in
theorem gX8_change_X8_finds : GoodIn wsX8_change (wsV RX8 115 RX8 yX8_finds wsX8_finds) := goodIn_app (goodIn_of _ (by decide +kernel)) ggX8_change_X8_finds
set_option maxRecDepth 20000 in
theorem ggX8_change_X8_its : GoodIn wsX8_change wsX8_its := goodIn_r _ [23, 13, 28, 29, 30, 31, 32, 33, 34, 35, 36, 37, 38, 39, 40, 41, 42, 43, 44, 45, 46, 47, 48, 49, 50, 51, 52, 53, 54, 55, 56, 57, 58, 59, 60, 61, 62, 63, 64, 65, 66, 67, 68, 69, 70] (by exact rfl) (by decide +kernel)
set_option maxRecDepth 20000 in
theorem gX8_change_X8_its : GoodIn wsX8_change (wsV RX8 74 RX8 yX8_its wsX8_its) := goodIn_app (goodIn_of _ (by decide +kernel)) ggX8_change_X8_its
set_option maxRecDepth 20000 in
theorem ggX8_change_X8_sets : GoodIn wsX8_change wsX8_sets := goodIn_r _ [27, 13, 28, 29, 30, 31, 32, 33, 34, 35, 36, 37, 38, 39, 40, 41, 42, 43, 44, 45, 46, 47, 48, 49, 50, 51, 52, 53, 54, 55, 56, 57, 58, 59, 60, 61, 62, 63, 64, 65, 66, 67, 68, 69, 70] (by exact rfl) (by decide +kernel)
set_option maxRecDepth 20000 in
theorem gX8_change_X8_sets : GoodIn wsX8_change (wsV RX8 105 RX8 yX8_sets wsX8_sets) := goodIn_app (goodIn_of _ (by decide +kernel)) ggX8_change_X8_sets
theorem dX8_change_0 : decode cX8_change 0 = .ok (.iload_n 2, 1) := by decide +kernel
theorem dX8_change_1 : decode cX8_change 1 = .ok (.ifCond .ne 15, 3) := by decide +kernel
theorem dX8_change_4 : decode cX8_change 4 = .ok (.iload_n 3, 1) := by decide +kernel
theorem dX8_change_5 : decode cX8_change 5 = .ok (.i2l, 1) := by decide +kernel
theorem dX8_change_6 : decode cX8_change 6 = .ok (.lconst 0, 1) := by decide +kernel
theorem dX8_change_7 : decode cX8_change 7 = .ok (.ldc2_w 113, 3) := by decide +kernel
theorem dX8_change_10 : decode cX8_change 10 = .ok (.invokestatic 70, 3) := by decide +kernel
theorem dX8_change_13 : decode cX8_change 13 = .ok (.goto 59, 3) := by decide +kernel
theorem dX8_change_16 : decode cX8_change 16 = .ok (.iload_n 2, 1) := by decide +kernel
theorem dX8_change_17 : decode cX8_change 17 = .ok (.iconst 2, 1) := by decide +kernel
theorem dX8_change_18 : decode cX8_change 18 = .ok (.if_icmp .ne 15, 3) := by decide +kernel
theorem dX8_change_21 : decode cX8_change 21 = .ok (.iload_n 3, 1) := by decide +kernel
theorem dX8_change_22 : decode cX8_change 22 = .ok (.i2l, 1) := by decide +kernel
theorem dX8_change_23 : decode cX8_change 23 = .ok (.lconst 1, 1) := by decide +kernel
theorem dX8_change_24 : decode cX8_change 24 = .ok (.ldc2_w 121, 3) := by decide +kernel
theorem dX8_change_27 : decode cX8_change 27 = .ok (.invokestatic 70, 3) := by decide +kernel
theorem dX8_change_30 : decode cX8_change 30 = .ok (.goto 42, 3) := by decide +kernel
theorem dX8_change_33 : decode cX8_change 33 = .ok (.iload_n 2, 1) := by decide +kernel
theorem dX8_change_34 : decode cX8_change 34 = .ok (.iconst 3, 1) := by decide +kernel
theorem dX8_change_35 : decode cX8_change 35 = .ok (.if_icmp .ne 15, 3) := by decide +kernel
theorem dX8_change_38 : decode cX8_change 38 = .ok (.iload_n 3, 1) := by decide +kernel
theorem dX8_change_39 : decode cX8_change 39 = .ok (.i2l, 1) := by decide +kernel
theorem dX8_change_40 : decode cX8_change 40 = .ok (.lconst 0, 1) := by decide +kernel
theorem dX8_change_41 : decode cX8_change 41 = .ok (.ldc2_w 123, 3) := by decide +kernel
theorem dX8_change_44 : decode cX8_change 44 = .ok (.invokestatic 70, 3) := by decide +kernel
theorem dX8_change_47 : decode cX8_change 47 = .ok (.goto 25, 3) := by decide +kernel
theorem dX8_change_50 : decode cX8_change 50 = .ok (.iload_n 2, 1) := by decide +kernel
theorem dX8_change_51 : decode cX8_change 51 = .ok (.iconst 4, 1) := by decide +kernel
theorem dX8_change_52 : decode cX8_change 52 = .ok (.if_icmp .ne 19, 3) := by decide +kernel
theorem dX8_change_55 : decode cX8_change 55 = .ok (.iload_n 3, 1) := by decide +kernel
theorem dX8_change_56 : decode cX8_change 56 = .ok (.i2l, 1) := by decide +kernel
theorem dX8_change_57 : decode cX8_change 57 = .ok (.lconst 0, 1) := by decide +kernel
theorem dX8_change_58 : decode cX8_change 58 = .ok (.ldc2_w 125, 3) := by decide +kernel
theorem dX8_change_61 : decode cX8_change 61 = .ok (.invokestatic 70, 3) := by decide +kernel
theorem dX8_change_64 : decode cX8_change 64 = .ok (.ifCond .eq 7, 3) := by decide +kernel
theorem dX8_change_67 : decode cX8_change 67 = .ok (.iconst 1, 1) := by decide +kernel
theorem dX8_change_68 : decode cX8_change 68 = .ok (.goto 4, 3) := by decide +kernel
theorem dX8_change_71 : decode cX8_change 71 = .ok (.iconst 0, 1) := by decide +kernel
theorem dX8_change_72 : decode cX8_change 72 = .ok (.istore 4, 2) := by decide +kernel
theorem dX8_change_74 : decode cX8_change 74 = .ok (.aload_n 0, 1) := by decide +kernel
theorem dX8_change_75 : decode cX8_change 75 = .ok (.iload_n 1, 1) := by decide +kernel
theorem dX8_change_76 : decode cX8_change 76 = .ok (.invokevirtual 109, 3) := by decide +kernel
theorem dX8_change_79 : decode cX8_change 79 = .ok (.ifCond .eq 8, 3) := by decide +kernel
theorem dX8_change_82 : decode cX8_change 82 = .ok (.iload 4, 2) := by decide +kernel
theorem dX8_change_84 : decode cX8_change 84 = .ok (.ifCond .ne 9, 3) := by decide +kernel
theorem dX8_change_87 : decode cX8_change 87 = .ok (.aload_n 0, 1) := by decide +kernel
theorem dX8_change_88 : decode cX8_change 88 = .ok (.iconst 0, 1) := by decide +kernel
theorem dX8_change_89 : decode cX8_change 89 = .ok (.invokevirtual 115, 3) := by decide +kernel
theorem dX8_change_92 : decode cX8_change 92 = .ok (.ireturn, 1) := by decide +kernel
theorem dX8_change_93 : decode cX8_change 93 = .ok (.aload_n 0, 1) := by decide +kernel
theorem dX8_change_94 : decode cX8_change 94 = .ok (.iload_n 1, 1) := by decide +kernel
theorem dX8_change_95 : decode cX8_change 95 = .ok (.iload_n 2, 1) := by decide +kernel
theorem dX8_change_96 : decode cX8_change 96 = .ok (.invokevirtual 74, 3) := by decide +kernel
theorem dX8_change_99 : decode cX8_change 99 = .ok (.istore 5, 2) := by decide +kernel
theorem dX8_change_101 : decode cX8_change 101 = .ok (.aload_n 0, 1) := by decide +kernel
theorem dX8_change_102 : decode cX8_change 102 = .ok (.iload_n 1, 1) := by decide +kernel
theorem dX8_change_103 : decode cX8_change 103 = .ok (.iload_n 2, 1) := by decide +kernel
theorem dX8_change_104 : decode cX8_change 104 = .ok (.iload_n 3, 1) := by decide +kernel
theorem dX8_change_105 : decode cX8_change 105 = .ok (.invokevirtual 105, 3) := by decide +kernel
theorem dX8_change_108 : decode cX8_change 108 = .ok (.iload 5, 2) := by decide +kernel
theorem dX8_change_110 : decode cX8_change 110 = .ok (.ireturn, 1) := by decide +kernel
set_option maxRecDepth 20000 in
theorem ggX8_join_X8_isBasin : GoodIn wsX8_join wsX8_isBasin := goodIn_r _ [5, 6, 7, 8, 4, 9, 24, 25, 26, 27, 28, 29, 30, 31, 32, 33, 34, 35, 36, 37, 38, 39, 40, 41, 42, 43, 44, 45, 46, 47, 48, 49, 50, 51, 52, 53, 54, 55, 56, 57, 58, 59, 60, 61, 62, 63, 64, 65, 66] (by exact rfl) (by decide +kernel)
set_option maxRecDepth 20000 in
theorem gX8_join_X8_isBasin : GoodIn wsX8_join (wsV RX8 109 RX8 yX8_isBasin wsX8_isBasin) := goodIn_app (goodIn_of _ (by decide +kernel)) ggX8_join_X8_isBasin
set_option maxRecDepth 20000 in
theorem ggX8_join_X8_in : GoodIn wsX8_join wsX8_in := goodIn_r _ [9] (by exact rfl) (by decide +kernel)
set_option maxRecDepth 20000 in
theorem gX8_join_X8_in : GoodIn wsX8_join (va_wsS RX8 70 yX8_in wsX8_in) := goodIn_app (goodIn_of _ (by decide +kernel)) ggX8_join_X8_in
set_option maxRecDepth 20000 in
theorem ggX8_join_X8_finds : GoodIn wsX8_join wsX8_finds := goodIn_r _ [13, 14, 15, 24, 25, 26, 27, 28, 29, 30, 31, 32, 33, 34, 35, 36, 37, 38, 39, 40, 41, 42, 43, 44, 45, 46, 47, 48, 49, 50, 51, 52, 53, 54, 55, 56, 57, 58, 59, 60, 61, 62, 63, 64, 65, 66] (by exact rfl) (by decide +kernel)
set_option maxRecDepth 20000 in
theorem gX8_join_X8_finds : GoodIn wsX8_join (wsV RX8 115 RX8 yX8_finds wsX8_finds) := goodIn_app (goodIn_of _ (by decide +kernel)) ggX8_join_X8_finds
set_option maxRecDepth 20000 in
theorem ggX8_join_X8_its : GoodIn wsX8_join wsX8_its := goodIn_r _ [19, 6, 24, 25, 26, 27, 28, 29, 30, 31, 32, 33, 34, 35, 36, 37, 38, 39, 40, 41, 42, 43, 44, 45, 46, 47, 48, 49, 50, 51, 52, 53, 54, 55, 56, 57, 58, 59, 60, 61, 62, 63, 64, 65, 66] (by exact rfl) (by decide +kernel)
set_option maxRecDepth 20000 in
theorem gX8_join_X8_its : GoodIn wsX8_join (wsV RX8 74 RX8 yX8_its wsX8_its) := goodIn_app (goodIn_of _ (by decide +kernel)) ggX8_join_X8_its
set_option maxRecDepth 20000 in
theorem ggX8_join_X8_sets : GoodIn wsX8_join wsX8_sets := goodIn_r _ [23, 6, 24, 25, 26, 27, 28, 29, 30, 31, 32, 33, 34, 35, 36, 37, 38, 39, 40, 41, 42, 43, 44, 45, 46, 47, 48, 49, 50, 51, 52, 53, 54, 55, 56, 57, 58, 59, 60, 61, 62, 63, 64, 65, 66] (by exact rfl) (by decide +kernel)
set_option maxRecDepth 20000 in
theorem gX8_join_X8_sets : GoodIn wsX8_join (wsV RX8 105 RX8 yX8_sets wsX8_sets) := goodIn_app (goodIn_of _ (by decide +kernel)) ggX8_join_X8_sets
theorem dX8_join_0 : decode cX8_join 0 = .ok (.aload_n 0, 1) := by decide +kernel
theorem dX8_join_1 : decode cX8_join 1 = .ok (.iload_n 1, 1) := by decide +kernel
theorem dX8_join_2 : decode cX8_join 2 = .ok (.invokevirtual 109, 3) := by decide +kernel
theorem dX8_join_5 : decode cX8_join 5 = .ok (.ifCond .eq 20, 3) := by decide +kernel
theorem dX8_join_8 : decode cX8_join 8 = .ok (.iload_n 1, 1) := by decide +kernel
theorem dX8_join_9 : decode cX8_join 9 = .ok (.ifCond .eq 16, 3) := by decide +kernel
theorem dX8_join_12 : decode cX8_join 12 = .ok (.iload_n 2, 1) := by decide +kernel
theorem dX8_join_13 : decode cX8_join 13 = .ok (.i2l, 1) := by decide +kernel
theorem dX8_join_14 : decode cX8_join 14 = .ok (.lconst 0, 1) := by decide +kernel
theorem dX8_join_15 : decode cX8_join 15 = .ok (.iload_n 1, 1) := by decide +kernel
theorem dX8_join_16 : decode cX8_join 16 = .ok (.iconst 1, 1) := by decide +kernel
theorem dX8_join_17 : decode cX8_join 17 = .ok (.isub, 1) := by decide +kernel
theorem dX8_join_18 : decode cX8_join 18 = .ok (.i2l, 1) := by decide +kernel
theorem dX8_join_19 : decode cX8_join 19 = .ok (.invokestatic 70, 3) := by decide +kernel
theorem dX8_join_22 : decode cX8_join 22 = .ok (.ifCond .ne 9, 3) := by decide +kernel
theorem dX8_join_25 : decode cX8_join 25 = .ok (.aload_n 0, 1) := by decide +kernel
theorem dX8_join_26 : decode cX8_join 26 = .ok (.iconst 0, 1) := by decide +kernel
theorem dX8_join_27 : decode cX8_join 27 = .ok (.invokevirtual 115, 3) := by decide +kernel
theorem dX8_join_30 : decode cX8_join 30 = .ok (.ireturn, 1) := by decide +kernel
theorem dX8_join_31 : decode cX8_join 31 = .ok (.aload_n 0, 1) := by decide +kernel
theorem dX8_join_32 : decode cX8_join 32 = .ok (.iload_n 1, 1) := by decide +kernel
theorem dX8_join_33 : decode cX8_join 33 = .ok (.iconst 1, 1) := by decide +kernel
theorem dX8_join_34 : decode cX8_join 34 = .ok (.invokevirtual 74, 3) := by decide +kernel
theorem dX8_join_37 : decode cX8_join 37 = .ok (.istore_n 3, 1) := by decide +kernel
theorem dX8_join_38 : decode cX8_join 38 = .ok (.aload_n 0, 1) := by decide +kernel
theorem dX8_join_39 : decode cX8_join 39 = .ok (.iload_n 1, 1) := by decide +kernel
theorem dX8_join_40 : decode cX8_join 40 = .ok (.iconst 1, 1) := by decide +kernel
theorem dX8_join_41 : decode cX8_join 41 = .ok (.iload_n 2, 1) := by decide +kernel
theorem dX8_join_42 : decode cX8_join 42 = .ok (.invokevirtual 105, 3) := by decide +kernel
theorem dX8_join_45 : decode cX8_join 45 = .ok (.iload_n 3, 1) := by decide +kernel
theorem dX8_join_46 : decode cX8_join 46 = .ok (.ireturn, 1) := by decide +kernel
set_option maxRecDepth 20000 in
theorem ggX8_spring_X8_in : GoodIn wsX8_spring wsX8_in := goodIn_r _ [6] (by exact rfl) (by decide +kernel)
set_option maxRecDepth 20000 in
theorem gX8_spring_X8_in : GoodIn wsX8_spring (va_wsS RX8 70 yX8_in wsX8_in) := goodIn_app (goodIn_of _ (by decide +kernel)) ggX8_spring_X8_in
set_option maxRecDepth 20000 in
theorem ggX8_spring_X8_finds : GoodIn wsX8_spring wsX8_finds := goodIn_r _ [10, 11, 12, 13, 14, 15, 16, 17, 18, 19, 20, 21, 22, 23, 24, 25, 26, 27, 28, 29, 30, 31, 32, 33, 34, 35, 36, 37, 38, 39, 40, 41, 42, 43, 44, 45, 46, 47, 48, 49, 50, 51, 52, 53, 54, 55] (by exact rfl) (by decide +kernel)
set_option maxRecDepth 20000 in
theorem gX8_spring_X8_finds : GoodIn wsX8_spring (wsV RX8 115 RX8 yX8_finds wsX8_finds) := goodIn_app (goodIn_of _ (by decide +kernel)) ggX8_spring_X8_finds
theorem dX8_spring_0 : decode cX8_spring 0 = .ok (.iload_n 1, 1) := by decide +kernel
theorem dX8_spring_1 : decode cX8_spring 1 = .ok (.i2l, 1) := by decide +kernel
theorem dX8_spring_2 : decode cX8_spring 2 = .ok (.lconst 0, 1) := by decide +kernel
theorem dX8_spring_3 : decode cX8_spring 3 = .ok (.ldc2_w 127, 3) := by decide +kernel
theorem dX8_spring_6 : decode cX8_spring 6 = .ok (.invokestatic 70, 3) := by decide +kernel
theorem dX8_spring_9 : decode cX8_spring 9 = .ok (.ifCond .ne 9, 3) := by decide +kernel
theorem dX8_spring_12 : decode cX8_spring 12 = .ok (.aload_n 0, 1) := by decide +kernel
theorem dX8_spring_13 : decode cX8_spring 13 = .ok (.iconst 0, 1) := by decide +kernel
theorem dX8_spring_14 : decode cX8_spring 14 = .ok (.invokevirtual 115, 3) := by decide +kernel
theorem dX8_spring_17 : decode cX8_spring 17 = .ok (.ireturn, 1) := by decide +kernel
theorem dX8_spring_18 : decode cX8_spring 18 = .ok (.aload_n 0, 1) := by decide +kernel
theorem dX8_spring_19 : decode cX8_spring 19 = .ok (.getfield 7, 3) := by decide +kernel
theorem dX8_spring_22 : decode cX8_spring 22 = .ok (.iconst 3, 1) := by decide +kernel
theorem dX8_spring_23 : decode cX8_spring 23 = .ok (.iaload, 1) := by decide +kernel
theorem dX8_spring_24 : decode cX8_spring 24 = .ok (.istore_n 2, 1) := by decide +kernel
theorem dX8_spring_25 : decode cX8_spring 25 = .ok (.aload_n 0, 1) := by decide +kernel
theorem dX8_spring_26 : decode cX8_spring 26 = .ok (.getfield 7, 3) := by decide +kernel
theorem dX8_spring_29 : decode cX8_spring 29 = .ok (.iconst 3, 1) := by decide +kernel
theorem dX8_spring_30 : decode cX8_spring 30 = .ok (.iload_n 1, 1) := by decide +kernel
theorem dX8_spring_31 : decode cX8_spring 31 = .ok (.iastore, 1) := by decide +kernel
theorem dX8_spring_32 : decode cX8_spring 32 = .ok (.iload_n 2, 1) := by decide +kernel
theorem dX8_spring_33 : decode cX8_spring 33 = .ok (.ireturn, 1) := by decide +kernel
set_option maxRecDepth 20000 in
theorem ggX8_under_X8_isBasin : GoodIn wsX8_under wsX8_isBasin := goodIn_r _ [6, 1, 7, 8, 5, 9, 20, 21, 22, 23, 24, 25, 26, 27, 28, 29, 30, 31, 32, 33, 34, 35, 36, 37, 38, 39, 40, 41, 42, 43, 44, 45, 46, 47, 48, 49, 50, 51, 52, 53, 54, 55, 56, 57, 58, 59, 60, 61, 62] (by exact rfl) (by decide +kernel)
set_option maxRecDepth 20000 in
theorem gX8_under_X8_isBasin : GoodIn wsX8_under (wsV RX8 109 RX8 yX8_isBasin wsX8_isBasin) := goodIn_app (goodIn_of _ (by decide +kernel)) ggX8_under_X8_isBasin
set_option maxRecDepth 20000 in
theorem ggX8_under_X8_in : GoodIn wsX8_under wsX8_in := goodIn_r _ [9] (by exact rfl) (by decide +kernel)
set_option maxRecDepth 20000 in
theorem gX8_under_X8_in : GoodIn wsX8_under (va_wsS RX8 70 yX8_in wsX8_in) := goodIn_app (goodIn_of _ (by decide +kernel)) ggX8_under_X8_in
set_option maxRecDepth 20000 in
theorem ggX8_under_X8_finds : GoodIn wsX8_under wsX8_finds := goodIn_r _ [13, 14, 15, 20, 21, 22, 23, 24, 25, 26, 27, 28, 29, 30, 31, 32, 33, 34, 35, 36, 37, 38, 39, 40, 41, 42, 43, 44, 45, 46, 47, 48, 49, 50, 51, 52, 53, 54, 55, 56, 57, 58, 59, 60, 61, 62] (by exact rfl) (by decide +kernel)
set_option maxRecDepth 20000 in
theorem gX8_under_X8_finds : GoodIn wsX8_under (wsV RX8 115 RX8 yX8_finds wsX8_finds) := goodIn_app (goodIn_of _ (by decide +kernel)) ggX8_under_X8_finds
set_option maxRecDepth 20000 in
theorem ggX8_under_X8_its : GoodIn wsX8_under wsX8_its := goodIn_r _ [19, 1, 20, 21, 22, 23, 24, 25, 26, 27, 28, 29, 30, 31, 32, 33, 34, 35, 36, 37, 38, 39, 40, 41, 42, 43, 44, 45, 46, 47, 48, 49, 50, 51, 52, 53, 54, 55, 56, 57, 58, 59, 60, 61, 62] (by exact rfl) (by decide +kernel)
set_option maxRecDepth 20000 in
theorem gX8_under_X8_its : GoodIn wsX8_under (wsV RX8 74 RX8 yX8_its wsX8_its) := goodIn_app (goodIn_of _ (by decide +kernel)) ggX8_under_X8_its
theorem dX8_under_0 : decode cX8_under 0 = .ok (.aload_n 0, 1) := by decide +kernel
theorem dX8_under_1 : decode cX8_under 1 = .ok (.iload_n 1, 1) := by decide +kernel
theorem dX8_under_2 : decode cX8_under 2 = .ok (.invokevirtual 109, 3) := by decide +kernel
theorem dX8_under_5 : decode cX8_under 5 = .ok (.ifCond .eq 13, 3) := by decide +kernel
theorem dX8_under_8 : decode cX8_under 8 = .ok (.iload_n 2, 1) := by decide +kernel
theorem dX8_under_9 : decode cX8_under 9 = .ok (.i2l, 1) := by decide +kernel
theorem dX8_under_10 : decode cX8_under 10 = .ok (.lconst 0, 1) := by decide +kernel
theorem dX8_under_11 : decode cX8_under 11 = .ok (.lconst 1, 1) := by decide +kernel
theorem dX8_under_12 : decode cX8_under 12 = .ok (.invokestatic 70, 3) := by decide +kernel
theorem dX8_under_15 : decode cX8_under 15 = .ok (.ifCond .ne 9, 3) := by decide +kernel
theorem dX8_under_18 : decode cX8_under 18 = .ok (.aload_n 0, 1) := by decide +kernel
theorem dX8_under_19 : decode cX8_under 19 = .ok (.iconst 0, 1) := by decide +kernel
theorem dX8_under_20 : decode cX8_under 20 = .ok (.invokevirtual 115, 3) := by decide +kernel
theorem dX8_under_23 : decode cX8_under 23 = .ok (.ireturn, 1) := by decide +kernel
theorem dX8_under_24 : decode cX8_under 24 = .ok (.iconst 0, 1) := by decide +kernel
theorem dX8_under_25 : decode cX8_under 25 = .ok (.istore_n 3, 1) := by decide +kernel
theorem dX8_under_26 : decode cX8_under 26 = .ok (.iload_n 1, 1) := by decide +kernel
theorem dX8_under_27 : decode cX8_under 27 = .ok (.iconst 1, 1) := by decide +kernel
theorem dX8_under_28 : decode cX8_under 28 = .ok (.iadd, 1) := by decide +kernel
theorem dX8_under_29 : decode cX8_under 29 = .ok (.istore 4, 2) := by decide +kernel
theorem dX8_under_31 : decode cX8_under 31 = .ok (.iload 4, 2) := by decide +kernel
theorem dX8_under_33 : decode cX8_under 33 = .ok (.aload_n 0, 1) := by decide +kernel
theorem dX8_under_34 : decode cX8_under 34 = .ok (.getfield 7, 3) := by decide +kernel
theorem dX8_under_37 : decode cX8_under 37 = .ok (.iconst 0, 1) := by decide +kernel
theorem dX8_under_38 : decode cX8_under 38 = .ok (.iaload, 1) := by decide +kernel
theorem dX8_under_39 : decode cX8_under 39 = .ok (.if_icmp .ge 62, 3) := by decide +kernel
theorem dX8_under_42 : decode cX8_under 42 = .ok (.aload_n 0, 1) := by decide +kernel
theorem dX8_under_43 : decode cX8_under 43 = .ok (.iload 4, 2) := by decide +kernel
theorem dX8_under_45 : decode cX8_under 45 = .ok (.iconst 1, 1) := by decide +kernel
theorem dX8_under_46 : decode cX8_under 46 = .ok (.invokevirtual 74, 3) := by decide +kernel
theorem dX8_under_49 : decode cX8_under 49 = .ok (.istore 5, 2) := by decide +kernel
theorem dX8_under_51 : decode cX8_under 51 = .ok (.iload 5, 2) := by decide +kernel
theorem dX8_under_53 : decode cX8_under 53 = .ok (.iload_n 1, 1) := by decide +kernel
theorem dX8_under_54 : decode cX8_under 54 = .ok (.if_icmp .eq 18, 3) := by decide +kernel
theorem dX8_under_57 : decode cX8_under 57 = .ok (.iload_n 2, 1) := by decide +kernel
theorem dX8_under_58 : decode cX8_under 58 = .ok (.iconst 1, 1) := by decide +kernel
theorem dX8_under_59 : decode cX8_under 59 = .ok (.if_icmp .ne 17, 3) := by decide +kernel
theorem dX8_under_62 : decode cX8_under 62 = .ok (.iload_n 3, 1) := by decide +kernel
theorem dX8_under_63 : decode cX8_under 63 = .ok (.iload 5, 2) := by decide +kernel
theorem dX8_under_65 : decode cX8_under 65 = .ok (.ishr, 1) := by decide +kernel
theorem dX8_under_66 : decode cX8_under 66 = .ok (.iconst 1, 1) := by decide +kernel
theorem dX8_under_67 : decode cX8_under 67 = .ok (.iand, 1) := by decide +kernel
theorem dX8_under_68 : decode cX8_under 68 = .ok (.iconst 1, 1) := by decide +kernel
theorem dX8_under_69 : decode cX8_under 69 = .ok (.if_icmp .ne 7, 3) := by decide +kernel
theorem dX8_under_72 : decode cX8_under 72 = .ok (.iconst 1, 1) := by decide +kernel
theorem dX8_under_73 : decode cX8_under 73 = .ok (.goto 4, 3) := by decide +kernel
theorem dX8_under_76 : decode cX8_under 76 = .ok (.iconst 0, 1) := by decide +kernel
theorem dX8_under_77 : decode cX8_under 77 = .ok (.istore 6, 2) := by decide +kernel
theorem dX8_under_79 : decode cX8_under 79 = .ok (.iload_n 3, 1) := by decide +kernel
theorem dX8_under_80 : decode cX8_under 80 = .ok (.iload 6, 2) := by decide +kernel
theorem dX8_under_82 : decode cX8_under 82 = .ok (.ifCond .eq 10, 3) := by decide +kernel
theorem dX8_under_85 : decode cX8_under 85 = .ok (.iconst 1, 1) := by decide +kernel
theorem dX8_under_86 : decode cX8_under 86 = .ok (.iload 4, 2) := by decide +kernel
theorem dX8_under_88 : decode cX8_under 88 = .ok (.ishl, 1) := by decide +kernel
theorem dX8_under_89 : decode cX8_under 89 = .ok (.goto 4, 3) := by decide +kernel
theorem dX8_under_92 : decode cX8_under 92 = .ok (.iconst 0, 1) := by decide +kernel
theorem dX8_under_93 : decode cX8_under 93 = .ok (.ior, 1) := by decide +kernel
theorem dX8_under_94 : decode cX8_under 94 = .ok (.istore_n 3, 1) := by decide +kernel
theorem dX8_under_95 : decode cX8_under 95 = .ok (.iinc 4 1, 3) := by decide +kernel
theorem dX8_under_98 : decode cX8_under 98 = .ok (.goto (-67), 3) := by decide +kernel
theorem dX8_under_101 : decode cX8_under 101 = .ok (.iload_n 3, 1) := by decide +kernel
theorem dX8_under_102 : decode cX8_under 102 = .ok (.ireturn, 1) := by decide +kernel
set_option maxRecDepth 20000 in
theorem ggX8_steps_X8_isBasin : GoodIn wsX8_steps wsX8_isBasin := goodIn_r _ [5, 6, 7, 8, 4, 9, 20, 21, 22, 23, 24, 25, 26, 27, 28, 29, 30, 31, 32, 33, 34, 35, 36, 37, 38, 39, 40, 41, 42, 43, 44, 45, 46, 47, 48, 49, 50, 51, 52, 53, 54, 55, 56, 57, 58, 59, 60, 61, 62] (by exact rfl) (by decide +kernel)
set_option maxRecDepth 20000 in
theorem gX8_steps_X8_isBasin : GoodIn wsX8_steps (wsV RX8 109 RX8 yX8_isBasin wsX8_isBasin) := goodIn_app (goodIn_of _ (by decide +kernel)) ggX8_steps_X8_isBasin
set_option maxRecDepth 20000 in
theorem ggX8_steps_X8_finds : GoodIn wsX8_steps wsX8_finds := goodIn_r _ [13, 14, 15, 20, 21, 22, 23, 24, 25, 26, 27, 28, 29, 30, 31, 32, 33, 34, 35, 36, 37, 38, 39, 40, 41, 42, 43, 44, 45, 46, 47, 48, 49, 50, 51, 52, 53, 54, 55, 56, 57, 58, 59, 60, 61, 62] (by exact rfl) (by decide +kernel)
set_option maxRecDepth 20000 in
theorem gX8_steps_X8_finds : GoodIn wsX8_steps (wsV RX8 115 RX8 yX8_finds wsX8_finds) := goodIn_app (goodIn_of _ (by decide +kernel)) ggX8_steps_X8_finds
set_option maxRecDepth 20000 in
theorem ggX8_steps_X8_its : GoodIn wsX8_steps wsX8_its := goodIn_r _ [19, 6, 20, 21, 22, 23, 24, 25, 26, 27, 28, 29, 30, 31, 32, 33, 34, 35, 36, 37, 38, 39, 40, 41, 42, 43, 44, 45, 46, 47, 48, 49, 50, 51, 52, 53, 54, 55, 56, 57, 58, 59, 60, 61, 62] (by exact rfl) (by decide +kernel)
set_option maxRecDepth 20000 in
theorem gX8_steps_X8_its : GoodIn wsX8_steps (wsV RX8 74 RX8 yX8_its wsX8_its) := goodIn_app (goodIn_of _ (by decide +kernel)) ggX8_steps_X8_its
theorem dX8_steps_0 : decode cX8_steps 0 = .ok (.aload_n 0, 1) := by decide +kernel
theorem dX8_steps_1 : decode cX8_steps 1 = .ok (.iload_n 1, 1) := by decide +kernel
theorem dX8_steps_2 : decode cX8_steps 2 = .ok (.invokevirtual 109, 3) := by decide +kernel
theorem dX8_steps_5 : decode cX8_steps 5 = .ok (.ifCond .ne 9, 3) := by decide +kernel
theorem dX8_steps_8 : decode cX8_steps 8 = .ok (.aload_n 0, 1) := by decide +kernel
theorem dX8_steps_9 : decode cX8_steps 9 = .ok (.iconst 0, 1) := by decide +kernel
theorem dX8_steps_10 : decode cX8_steps 10 = .ok (.invokevirtual 115, 3) := by decide +kernel
theorem dX8_steps_13 : decode cX8_steps 13 = .ok (.ireturn, 1) := by decide +kernel
theorem dX8_steps_14 : decode cX8_steps 14 = .ok (.iconst 0, 1) := by decide +kernel
theorem dX8_steps_15 : decode cX8_steps 15 = .ok (.istore_n 2, 1) := by decide +kernel
theorem dX8_steps_16 : decode cX8_steps 16 = .ok (.iload_n 1, 1) := by decide +kernel
theorem dX8_steps_17 : decode cX8_steps 17 = .ok (.istore_n 3, 1) := by decide +kernel
theorem dX8_steps_18 : decode cX8_steps 18 = .ok (.iload_n 3, 1) := by decide +kernel
theorem dX8_steps_19 : decode cX8_steps 19 = .ok (.ifCond .le 16, 3) := by decide +kernel
theorem dX8_steps_22 : decode cX8_steps 22 = .ok (.iinc 2 1, 3) := by decide +kernel
theorem dX8_steps_25 : decode cX8_steps 25 = .ok (.aload_n 0, 1) := by decide +kernel
theorem dX8_steps_26 : decode cX8_steps 26 = .ok (.iload_n 3, 1) := by decide +kernel
theorem dX8_steps_27 : decode cX8_steps 27 = .ok (.iconst 1, 1) := by decide +kernel
theorem dX8_steps_28 : decode cX8_steps 28 = .ok (.invokevirtual 74, 3) := by decide +kernel
theorem dX8_steps_31 : decode cX8_steps 31 = .ok (.istore_n 3, 1) := by decide +kernel
theorem dX8_steps_32 : decode cX8_steps 32 = .ok (.goto (-14), 3) := by decide +kernel
theorem dX8_steps_35 : decode cX8_steps 35 = .ok (.iload_n 2, 1) := by decide +kernel
theorem dX8_steps_36 : decode cX8_steps 36 = .ok (.ireturn, 1) := by decide +kernel
theorem dX8_common_0 : decode cX8_common 0 = .ok (.lload_n 0, 1) := by decide +kernel
theorem dX8_common_1 : decode cX8_common 1 = .ok (.lstore 4, 2) := by decide +kernel
theorem dX8_common_3 : decode cX8_common 3 = .ok (.lload_n 2, 1) := by decide +kernel
theorem dX8_common_4 : decode cX8_common 4 = .ok (.lstore 6, 2) := by decide +kernel
theorem dX8_common_6 : decode cX8_common 6 = .ok (.lload 6, 2) := by decide +kernel
theorem dX8_common_8 : decode cX8_common 8 = .ok (.lconst 0, 1) := by decide +kernel
theorem dX8_common_9 : decode cX8_common 9 = .ok (.lcmp, 1) := by decide +kernel
theorem dX8_common_10 : decode cX8_common 10 = .ok (.ifCond .eq 21, 3) := by decide +kernel
theorem dX8_common_13 : decode cX8_common 13 = .ok (.lload 4, 2) := by decide +kernel
theorem dX8_common_15 : decode cX8_common 15 = .ok (.lload 6, 2) := by decide +kernel
theorem dX8_common_17 : decode cX8_common 17 = .ok (.lrem, 1) := by decide +kernel
theorem dX8_common_18 : decode cX8_common 18 = .ok (.lstore 8, 2) := by decide +kernel
theorem dX8_common_20 : decode cX8_common 20 = .ok (.lload 6, 2) := by decide +kernel
theorem dX8_common_22 : decode cX8_common 22 = .ok (.lstore 4, 2) := by decide +kernel
theorem dX8_common_24 : decode cX8_common 24 = .ok (.lload 8, 2) := by decide +kernel
theorem dX8_common_26 : decode cX8_common 26 = .ok (.lstore 6, 2) := by decide +kernel
theorem dX8_common_28 : decode cX8_common 28 = .ok (.goto (-22), 3) := by decide +kernel
theorem dX8_common_31 : decode cX8_common 31 = .ok (.lload 4, 2) := by decide +kernel
theorem dX8_common_33 : decode cX8_common 33 = .ok (.lreturn, 1) := by decide +kernel
set_option maxRecDepth 20000 in
theorem ggX8_times_X8_common : GoodIn wsX8_times wsX8_common := goodIn_r _ [8] (by exact rfl) (by decide +kernel)
set_option maxRecDepth 20000 in
theorem gX8_times_X8_common : GoodIn wsX8_times (va_wsS RX8 129 yX8_common wsX8_common) := goodIn_app (goodIn_of _ (by decide +kernel)) ggX8_times_X8_common
theorem dX8_times_0 : decode cX8_times 0 = .ok (.lload 5, 2) := by decide +kernel
theorem dX8_times_2 : decode cX8_times 2 = .ok (.lload 7, 2) := by decide +kernel
theorem dX8_times_4 : decode cX8_times 4 = .ok (.invokestatic 129, 3) := by decide +kernel
theorem dX8_times_7 : decode cX8_times 7 = .ok (.lstore 9, 2) := by decide +kernel
theorem dX8_times_9 : decode cX8_times 9 = .ok (.lload_n 1, 1) := by decide +kernel
theorem dX8_times_10 : decode cX8_times 10 = .ok (.lload 7, 2) := by decide +kernel
theorem dX8_times_12 : decode cX8_times 12 = .ok (.lload 9, 2) := by decide +kernel
theorem dX8_times_14 : decode cX8_times 14 = .ok (.ldiv, 1) := by decide +kernel
theorem dX8_times_15 : decode cX8_times 15 = .ok (.invokestatic 129, 3) := by decide +kernel
theorem dX8_times_18 : decode cX8_times 18 = .ok (.lstore 11, 2) := by decide +kernel
theorem dX8_times_20 : decode cX8_times 20 = .ok (.lload 5, 2) := by decide +kernel
theorem dX8_times_22 : decode cX8_times 22 = .ok (.lload 9, 2) := by decide +kernel
theorem dX8_times_24 : decode cX8_times 24 = .ok (.ldiv, 1) := by decide +kernel
theorem dX8_times_25 : decode cX8_times 25 = .ok (.lload_n 3, 1) := by decide +kernel
theorem dX8_times_26 : decode cX8_times 26 = .ok (.invokestatic 129, 3) := by decide +kernel
theorem dX8_times_29 : decode cX8_times 29 = .ok (.lstore 13, 2) := by decide +kernel
theorem dX8_times_31 : decode cX8_times 31 = .ok (.aload_n 0, 1) := by decide +kernel
theorem dX8_times_32 : decode cX8_times 32 = .ok (.lload_n 1, 1) := by decide +kernel
theorem dX8_times_33 : decode cX8_times 33 = .ok (.lload 11, 2) := by decide +kernel
theorem dX8_times_35 : decode cX8_times 35 = .ok (.ldiv, 1) := by decide +kernel
theorem dX8_times_36 : decode cX8_times 36 = .ok (.lload 5, 2) := by decide +kernel
theorem dX8_times_38 : decode cX8_times 38 = .ok (.lload 9, 2) := by decide +kernel
theorem dX8_times_40 : decode cX8_times 40 = .ok (.ldiv, 1) := by decide +kernel
theorem dX8_times_41 : decode cX8_times 41 = .ok (.lload 13, 2) := by decide +kernel
theorem dX8_times_43 : decode cX8_times 43 = .ok (.ldiv, 1) := by decide +kernel
theorem dX8_times_44 : decode cX8_times 44 = .ok (.lmul, 1) := by decide +kernel
theorem dX8_times_45 : decode cX8_times 45 = .ok (.putfield 133, 3) := by decide +kernel
theorem dX8_times_48 : decode cX8_times 48 = .ok (.aload_n 0, 1) := by decide +kernel
theorem dX8_times_49 : decode cX8_times 49 = .ok (.lload_n 3, 1) := by decide +kernel
theorem dX8_times_50 : decode cX8_times 50 = .ok (.lload 13, 2) := by decide +kernel
theorem dX8_times_52 : decode cX8_times 52 = .ok (.ldiv, 1) := by decide +kernel
theorem dX8_times_53 : decode cX8_times 53 = .ok (.lload 7, 2) := by decide +kernel
theorem dX8_times_55 : decode cX8_times 55 = .ok (.lload 9, 2) := by decide +kernel
theorem dX8_times_57 : decode cX8_times 57 = .ok (.ldiv, 1) := by decide +kernel
theorem dX8_times_58 : decode cX8_times 58 = .ok (.lload 11, 2) := by decide +kernel
theorem dX8_times_60 : decode cX8_times 60 = .ok (.ldiv, 1) := by decide +kernel
theorem dX8_times_61 : decode cX8_times 61 = .ok (.lmul, 1) := by decide +kernel
theorem dX8_times_62 : decode cX8_times 62 = .ok (.putfield 137, 3) := by decide +kernel
theorem dX8_times_65 : decode cX8_times 65 = .ok (.aload_n 0, 1) := by decide +kernel
theorem dX8_times_66 : decode cX8_times 66 = .ok (.getfield 133, 3) := by decide +kernel
theorem dX8_times_69 : decode cX8_times 69 = .ok (.lconst 0, 1) := by decide +kernel
theorem dX8_times_70 : decode cX8_times 70 = .ok (.lcmp, 1) := by decide +kernel
theorem dX8_times_71 : decode cX8_times 71 = .ok (.ifCond .ne 8, 3) := by decide +kernel
theorem dX8_times_74 : decode cX8_times 74 = .ok (.aload_n 0, 1) := by decide +kernel
theorem dX8_times_75 : decode cX8_times 75 = .ok (.lconst 1, 1) := by decide +kernel
theorem dX8_times_76 : decode cX8_times 76 = .ok (.putfield 137, 3) := by decide +kernel
theorem dX8_times_79 : decode cX8_times 79 = .ok (.aload_n 0, 1) := by decide +kernel
theorem dX8_times_80 : decode cX8_times 80 = .ok (.aload_n 0, 1) := by decide +kernel
theorem dX8_times_81 : decode cX8_times 81 = .ok (.getfield 140, 3) := by decide +kernel
theorem dX8_times_84 : decode cX8_times 84 = .ok (.ifCond .ne 25, 3) := by decide +kernel
theorem dX8_times_87 : decode cX8_times 87 = .ok (.aload_n 0, 1) := by decide +kernel
theorem dX8_times_88 : decode cX8_times 88 = .ok (.getfield 133, 3) := by decide +kernel
theorem dX8_times_91 : decode cX8_times 91 = .ok (.ldc2_w 144, 3) := by decide +kernel
theorem dX8_times_94 : decode cX8_times 94 = .ok (.lcmp, 1) := by decide +kernel
theorem dX8_times_95 : decode cX8_times 95 = .ok (.ifCond .gt 14, 3) := by decide +kernel
theorem dX8_times_98 : decode cX8_times 98 = .ok (.aload_n 0, 1) := by decide +kernel
theorem dX8_times_99 : decode cX8_times 99 = .ok (.getfield 137, 3) := by decide +kernel
theorem dX8_times_102 : decode cX8_times 102 = .ok (.ldc2_w 144, 3) := by decide +kernel
theorem dX8_times_105 : decode cX8_times 105 = .ok (.lcmp, 1) := by decide +kernel
theorem dX8_times_106 : decode cX8_times 106 = .ok (.ifCond .le 7, 3) := by decide +kernel
theorem dX8_times_109 : decode cX8_times 109 = .ok (.iconst 1, 1) := by decide +kernel
theorem dX8_times_110 : decode cX8_times 110 = .ok (.goto 4, 3) := by decide +kernel
theorem dX8_times_113 : decode cX8_times 113 = .ok (.iconst 0, 1) := by decide +kernel
theorem dX8_times_114 : decode cX8_times 114 = .ok (.putfield 140, 3) := by decide +kernel
theorem dX8_times_117 : decode cX8_times 117 = .ok (.return_, 1) := by decide +kernel
set_option maxRecDepth 20000 in
theorem ggX8_shareOf_X8_its : GoodIn wsX8_shareOf wsX8_its := goodIn_r _ [19, 20, 30, 31, 32, 33, 34, 35, 36, 37, 38, 39, 40, 41, 42, 43, 44, 45, 46, 47, 48, 49, 50, 51, 52, 53, 54, 55, 56, 57, 58, 59, 60, 61, 62, 63, 64, 65, 66, 67, 68, 69, 70, 71, 72] (by exact rfl) (by decide +kernel)
set_option maxRecDepth 20000 in
theorem gX8_shareOf_X8_its : GoodIn wsX8_shareOf (wsV RX8 74 RX8 yX8_its wsX8_its) := goodIn_app (goodIn_of _ (by decide +kernel)) ggX8_shareOf_X8_its
set_option maxRecDepth 20000 in
theorem ggX8_shareOf_X8_times : GoodIn wsX8_shareOf wsX8_times := goodIn_r _ [24, 7, 8, 25, 26, 27, 28, 18, 29, 30, 31, 32, 33, 34, 35, 36, 37, 38, 39, 40, 41, 42, 43, 44, 45, 46, 47, 48, 49, 50, 51, 52, 53, 54, 55, 56, 57, 58, 59, 60, 61, 62, 63, 64, 65, 66, 67, 68, 69, 70, 71, 72] (by exact rfl) (by decide +kernel)
set_option maxRecDepth 20000 in
theorem gX8_shareOf_X8_times : GoodIn wsX8_shareOf (wsV RX8 152 RX8 yX8_times wsX8_times) := goodIn_app (goodIn_of _ (by decide +kernel)) ggX8_shareOf_X8_times
theorem dX8_shareOf_0 : decode cX8_shareOf 0 = .ok (.aload_n 0, 1) := by decide +kernel
theorem dX8_shareOf_1 : decode cX8_shareOf 1 = .ok (.iload_n 1, 1) := by decide +kernel
theorem dX8_shareOf_2 : decode cX8_shareOf 2 = .ok (.iconst 0, 1) := by decide +kernel
theorem dX8_shareOf_3 : decode cX8_shareOf 3 = .ok (.invokevirtual 74, 3) := by decide +kernel
theorem dX8_shareOf_6 : decode cX8_shareOf 6 = .ok (.istore_n 3, 1) := by decide +kernel
theorem dX8_shareOf_7 : decode cX8_shareOf 7 = .ok (.aload_n 0, 1) := by decide +kernel
theorem dX8_shareOf_8 : decode cX8_shareOf 8 = .ok (.aload_n 0, 1) := by decide +kernel
theorem dX8_shareOf_9 : decode cX8_shareOf 9 = .ok (.getfield 41, 3) := by decide +kernel
theorem dX8_shareOf_12 : decode cX8_shareOf 12 = .ok (.iload_n 1, 1) := by decide +kernel
theorem dX8_shareOf_13 : decode cX8_shareOf 13 = .ok (.laload, 1) := by decide +kernel
theorem dX8_shareOf_14 : decode cX8_shareOf 14 = .ok (.aload_n 0, 1) := by decide +kernel
theorem dX8_shareOf_15 : decode cX8_shareOf 15 = .ok (.getfield 45, 3) := by decide +kernel
theorem dX8_shareOf_18 : decode cX8_shareOf 18 = .ok (.iload_n 1, 1) := by decide +kernel
theorem dX8_shareOf_19 : decode cX8_shareOf 19 = .ok (.laload, 1) := by decide +kernel
theorem dX8_shareOf_20 : decode cX8_shareOf 20 = .ok (.iload_n 3, 1) := by decide +kernel
theorem dX8_shareOf_21 : decode cX8_shareOf 21 = .ok (.iconst 2, 1) := by decide +kernel
theorem dX8_shareOf_22 : decode cX8_shareOf 22 = .ok (.if_icmp .ne 9, 3) := by decide +kernel
theorem dX8_shareOf_25 : decode cX8_shareOf 25 = .ok (.ldc2_w 121, 3) := by decide +kernel
theorem dX8_shareOf_28 : decode cX8_shareOf 28 = .ok (.goto 15, 3) := by decide +kernel
theorem dX8_shareOf_31 : decode cX8_shareOf 31 = .ok (.iload_n 3, 1) := by decide +kernel
theorem dX8_shareOf_32 : decode cX8_shareOf 32 = .ok (.iconst 4, 1) := by decide +kernel
theorem dX8_shareOf_33 : decode cX8_shareOf 33 = .ok (.if_icmp .ne 9, 3) := by decide +kernel
theorem dX8_shareOf_36 : decode cX8_shareOf 36 = .ok (.ldc2_w 146, 3) := by decide +kernel
theorem dX8_shareOf_39 : decode cX8_shareOf 39 = .ok (.goto 4, 3) := by decide +kernel
theorem dX8_shareOf_42 : decode cX8_shareOf 42 = .ok (.lconst 1, 1) := by decide +kernel
theorem dX8_shareOf_43 : decode cX8_shareOf 43 = .ok (.iload_n 3, 1) := by decide +kernel
theorem dX8_shareOf_44 : decode cX8_shareOf 44 = .ok (.iconst 2, 1) := by decide +kernel
theorem dX8_shareOf_45 : decode cX8_shareOf 45 = .ok (.if_icmp .ne 9, 3) := by decide +kernel
theorem dX8_shareOf_48 : decode cX8_shareOf 48 = .ok (.ldc2_w 148, 3) := by decide +kernel
theorem dX8_shareOf_51 : decode cX8_shareOf 51 = .ok (.goto 15, 3) := by decide +kernel
theorem dX8_shareOf_54 : decode cX8_shareOf 54 = .ok (.iload_n 3, 1) := by decide +kernel
theorem dX8_shareOf_55 : decode cX8_shareOf 55 = .ok (.iconst 4, 1) := by decide +kernel
theorem dX8_shareOf_56 : decode cX8_shareOf 56 = .ok (.if_icmp .ne 9, 3) := by decide +kernel
theorem dX8_shareOf_59 : decode cX8_shareOf 59 = .ok (.ldc2_w 150, 3) := by decide +kernel
theorem dX8_shareOf_62 : decode cX8_shareOf 62 = .ok (.goto 4, 3) := by decide +kernel
theorem dX8_shareOf_65 : decode cX8_shareOf 65 = .ok (.lconst 1, 1) := by decide +kernel
theorem dX8_shareOf_66 : decode cX8_shareOf 66 = .ok (.invokevirtual 152, 3) := by decide +kernel
theorem dX8_shareOf_69 : decode cX8_shareOf 69 = .ok (.aload_n 0, 1) := by decide +kernel
theorem dX8_shareOf_70 : decode cX8_shareOf 70 = .ok (.getfield 133, 3) := by decide +kernel
theorem dX8_shareOf_73 : decode cX8_shareOf 73 = .ok (.lstore 4, 2) := by decide +kernel
theorem dX8_shareOf_75 : decode cX8_shareOf 75 = .ok (.aload_n 0, 1) := by decide +kernel
theorem dX8_shareOf_76 : decode cX8_shareOf 76 = .ok (.getfield 137, 3) := by decide +kernel
theorem dX8_shareOf_79 : decode cX8_shareOf 79 = .ok (.lstore 6, 2) := by decide +kernel
theorem dX8_shareOf_81 : decode cX8_shareOf 81 = .ok (.aload_n 0, 1) := by decide +kernel
theorem dX8_shareOf_82 : decode cX8_shareOf 82 = .ok (.lload 4, 2) := by decide +kernel
theorem dX8_shareOf_84 : decode cX8_shareOf 84 = .ok (.lload 6, 2) := by decide +kernel
theorem dX8_shareOf_86 : decode cX8_shareOf 86 = .ok (.iload_n 3, 1) := by decide +kernel
theorem dX8_shareOf_87 : decode cX8_shareOf 87 = .ok (.iconst 3, 1) := by decide +kernel
theorem dX8_shareOf_88 : decode cX8_shareOf 88 = .ok (.if_icmp .ne 7, 3) := by decide +kernel
theorem dX8_shareOf_91 : decode cX8_shareOf 91 = .ok (.lconst 0, 1) := by decide +kernel
theorem dX8_shareOf_92 : decode cX8_shareOf 92 = .ok (.goto 15, 3) := by decide +kernel
theorem dX8_shareOf_95 : decode cX8_shareOf 95 = .ok (.iload_n 3, 1) := by decide +kernel
theorem dX8_shareOf_96 : decode cX8_shareOf 96 = .ok (.iconst 1, 1) := by decide +kernel
theorem dX8_shareOf_97 : decode cX8_shareOf 97 = .ok (.if_icmp .ne 9, 3) := by decide +kernel
theorem dX8_shareOf_100 : decode cX8_shareOf 100 = .ok (.ldc2_w 156, 3) := by decide +kernel
theorem dX8_shareOf_103 : decode cX8_shareOf 103 = .ok (.goto 4, 3) := by decide +kernel
theorem dX8_shareOf_106 : decode cX8_shareOf 106 = .ok (.lconst 1, 1) := by decide +kernel
theorem dX8_shareOf_107 : decode cX8_shareOf 107 = .ok (.iload_n 3, 1) := by decide +kernel
theorem dX8_shareOf_108 : decode cX8_shareOf 108 = .ok (.iconst 1, 1) := by decide +kernel
theorem dX8_shareOf_109 : decode cX8_shareOf 109 = .ok (.if_icmp .ne 9, 3) := by decide +kernel
theorem dX8_shareOf_112 : decode cX8_shareOf 112 = .ok (.ldc2_w 150, 3) := by decide +kernel
theorem dX8_shareOf_115 : decode cX8_shareOf 115 = .ok (.goto 6, 3) := by decide +kernel
theorem dX8_shareOf_118 : decode cX8_shareOf 118 = .ok (.ldc2_w 158, 3) := by decide +kernel
theorem dX8_shareOf_121 : decode cX8_shareOf 121 = .ok (.invokevirtual 152, 3) := by decide +kernel
theorem dX8_shareOf_124 : decode cX8_shareOf 124 = .ok (.aload_n 0, 1) := by decide +kernel
theorem dX8_shareOf_125 : decode cX8_shareOf 125 = .ok (.aload_n 0, 1) := by decide +kernel
theorem dX8_shareOf_126 : decode cX8_shareOf 126 = .ok (.getfield 133, 3) := by decide +kernel
theorem dX8_shareOf_129 : decode cX8_shareOf 129 = .ok (.putfield 160, 3) := by decide +kernel
theorem dX8_shareOf_132 : decode cX8_shareOf 132 = .ok (.aload_n 0, 1) := by decide +kernel
theorem dX8_shareOf_133 : decode cX8_shareOf 133 = .ok (.aload_n 0, 1) := by decide +kernel
theorem dX8_shareOf_134 : decode cX8_shareOf 134 = .ok (.getfield 137, 3) := by decide +kernel
theorem dX8_shareOf_137 : decode cX8_shareOf 137 = .ok (.putfield 163, 3) := by decide +kernel
theorem dX8_shareOf_140 : decode cX8_shareOf 140 = .ok (.iload_n 2, 1) := by decide +kernel
theorem dX8_shareOf_141 : decode cX8_shareOf 141 = .ok (.ifCond .eq 73, 3) := by decide +kernel
theorem dX8_shareOf_144 : decode cX8_shareOf 144 = .ok (.aload_n 0, 1) := by decide +kernel
theorem dX8_shareOf_145 : decode cX8_shareOf 145 = .ok (.lload 4, 2) := by decide +kernel
theorem dX8_shareOf_147 : decode cX8_shareOf 147 = .ok (.lload 6, 2) := by decide +kernel
theorem dX8_shareOf_149 : decode cX8_shareOf 149 = .ok (.iload_n 3, 1) := by decide +kernel
theorem dX8_shareOf_150 : decode cX8_shareOf 150 = .ok (.iconst 3, 1) := by decide +kernel
theorem dX8_shareOf_151 : decode cX8_shareOf 151 = .ok (.if_icmp .ne 7, 3) := by decide +kernel
theorem dX8_shareOf_154 : decode cX8_shareOf 154 = .ok (.lconst 1, 1) := by decide +kernel
theorem dX8_shareOf_155 : decode cX8_shareOf 155 = .ok (.goto 17, 3) := by decide +kernel
theorem dX8_shareOf_158 : decode cX8_shareOf 158 = .ok (.iload_n 3, 1) := by decide +kernel
theorem dX8_shareOf_159 : decode cX8_shareOf 159 = .ok (.iconst 1, 1) := by decide +kernel
theorem dX8_shareOf_160 : decode cX8_shareOf 160 = .ok (.if_icmp .ne 9, 3) := by decide +kernel
theorem dX8_shareOf_163 : decode cX8_shareOf 163 = .ok (.ldc2_w 158, 3) := by decide +kernel
theorem dX8_shareOf_166 : decode cX8_shareOf 166 = .ok (.goto 6, 3) := by decide +kernel
theorem dX8_shareOf_169 : decode cX8_shareOf 169 = .ok (.ldc2_w 156, 3) := by decide +kernel
theorem dX8_shareOf_172 : decode cX8_shareOf 172 = .ok (.iload_n 3, 1) := by decide +kernel
theorem dX8_shareOf_173 : decode cX8_shareOf 173 = .ok (.iconst 3, 1) := by decide +kernel
theorem dX8_shareOf_174 : decode cX8_shareOf 174 = .ok (.if_icmp .ne 7, 3) := by decide +kernel
theorem dX8_shareOf_177 : decode cX8_shareOf 177 = .ok (.lconst 1, 1) := by decide +kernel
theorem dX8_shareOf_178 : decode cX8_shareOf 178 = .ok (.goto 17, 3) := by decide +kernel
theorem dX8_shareOf_181 : decode cX8_shareOf 181 = .ok (.iload_n 3, 1) := by decide +kernel
theorem dX8_shareOf_182 : decode cX8_shareOf 182 = .ok (.iconst 1, 1) := by decide +kernel
theorem dX8_shareOf_183 : decode cX8_shareOf 183 = .ok (.if_icmp .ne 9, 3) := by decide +kernel
theorem dX8_shareOf_186 : decode cX8_shareOf 186 = .ok (.ldc2_w 150, 3) := by decide +kernel
theorem dX8_shareOf_189 : decode cX8_shareOf 189 = .ok (.goto 6, 3) := by decide +kernel
theorem dX8_shareOf_192 : decode cX8_shareOf 192 = .ok (.ldc2_w 158, 3) := by decide +kernel
theorem dX8_shareOf_195 : decode cX8_shareOf 195 = .ok (.invokevirtual 152, 3) := by decide +kernel
theorem dX8_shareOf_198 : decode cX8_shareOf 198 = .ok (.aload_n 0, 1) := by decide +kernel
theorem dX8_shareOf_199 : decode cX8_shareOf 199 = .ok (.aload_n 0, 1) := by decide +kernel
theorem dX8_shareOf_200 : decode cX8_shareOf 200 = .ok (.getfield 133, 3) := by decide +kernel
theorem dX8_shareOf_203 : decode cX8_shareOf 203 = .ok (.putfield 166, 3) := by decide +kernel
theorem dX8_shareOf_206 : decode cX8_shareOf 206 = .ok (.aload_n 0, 1) := by decide +kernel
theorem dX8_shareOf_207 : decode cX8_shareOf 207 = .ok (.aload_n 0, 1) := by decide +kernel
theorem dX8_shareOf_208 : decode cX8_shareOf 208 = .ok (.getfield 137, 3) := by decide +kernel
theorem dX8_shareOf_211 : decode cX8_shareOf 211 = .ok (.putfield 169, 3) := by decide +kernel
theorem dX8_shareOf_214 : decode cX8_shareOf 214 = .ok (.return_, 1) := by decide +kernel
set_option maxRecDepth 20000 in
theorem ggX8_wayTo_X8_its : GoodIn wsX8_wayTo wsX8_its := goodIn_r _ [13, 14, 39, 40, 41, 42, 43, 44, 45, 46, 47, 48, 49, 50, 51, 52, 53, 54, 55, 56, 57, 58, 59, 60, 61, 62, 63, 64, 65, 66, 67, 68, 69, 70, 71, 72, 73, 74, 75, 76, 77, 78, 79, 80, 81] (by exact rfl) (by decide +kernel)
set_option maxRecDepth 20000 in
theorem gX8_wayTo_X8_its : GoodIn wsX8_wayTo (wsV RX8 74 RX8 yX8_its wsX8_its) := goodIn_app (goodIn_of _ (by decide +kernel)) ggX8_wayTo_X8_its
set_option maxRecDepth 20000 in
theorem ggX8_wayTo_X8_shareOf : GoodIn wsX8_wayTo wsX8_shareOf := goodIn_r _ [18, 3, 4, 19, 20, 21, 22, 7, 8, 23, 24, 25, 26, 5, 6, 9, 10, 11, 12, 13, 14, 27, 28, 29, 30, 1, 31, 32, 33, 34, 39, 40, 41, 42, 43, 44, 45, 46, 47, 48, 49, 50, 51, 52, 53, 54, 55, 56, 57, 58, 59, 60, 61, 62, 63, 64, 65, 66, 67, 68, 69, 70, 71, 72, 73, 74, 75, 76, 77, 78, 79, 80, 81] (by exact rfl) (by decide +kernel)
set_option maxRecDepth 20000 in
theorem gX8_wayTo_X8_shareOf : GoodIn wsX8_wayTo (wsV RX8 172 RX8 yX8_shareOf wsX8_shareOf) := goodIn_app (goodIn_of _ (by decide +kernel)) ggX8_wayTo_X8_shareOf
set_option maxRecDepth 20000 in
theorem ggX8_wayTo_X8_edgesBelow : GoodIn wsX8_wayTo wsX8_edgesBelow := goodIn_r _ [38, 14, 9, 10, 11, 12, 13, 39, 40, 41, 42, 43, 44, 45, 46, 47, 48, 49, 50, 51, 52, 53, 54, 55, 56, 57, 58, 59, 60, 61, 62, 63, 64, 65, 66, 67, 68, 69, 70, 71, 72, 73, 74, 75, 76, 77, 78, 79, 80, 81] (by exact rfl) (by decide +kernel)
set_option maxRecDepth 20000 in
theorem gX8_wayTo_X8_edgesBelow : GoodIn wsX8_wayTo (wsV RX8 98 RX8 yX8_edgesBelow wsX8_edgesBelow) := goodIn_app (goodIn_of _ (by decide +kernel)) ggX8_wayTo_X8_edgesBelow
set_option maxRecDepth 20000 in
theorem ggX8_wayTo_X8_times : GoodIn wsX8_wayTo wsX8_times := goodIn_r _ [30, 7, 8, 1, 31, 32, 33, 12, 34, 39, 40, 41, 42, 43, 44, 45, 46, 47, 48, 49, 50, 51, 52, 53, 54, 55, 56, 57, 58, 59, 60, 61, 62, 63, 64, 65, 66, 67, 68, 69, 70, 71, 72, 73, 74, 75, 76, 77, 78, 79, 80, 81] (by exact rfl) (by decide +kernel)
set_option maxRecDepth 20000 in
theorem gX8_wayTo_X8_times : GoodIn wsX8_wayTo (wsV RX8 152 RX8 yX8_times wsX8_times) := goodIn_app (goodIn_of _ (by decide +kernel)) ggX8_wayTo_X8_times
theorem dX8_wayTo_0 : decode cX8_wayTo 0 = .ok (.aload_n 0, 1) := by decide +kernel
theorem dX8_wayTo_1 : decode cX8_wayTo 1 = .ok (.iconst 0, 1) := by decide +kernel
theorem dX8_wayTo_2 : decode cX8_wayTo 2 = .ok (.putfield 140, 3) := by decide +kernel
theorem dX8_wayTo_5 : decode cX8_wayTo 5 = .ok (.iconst 0, 1) := by decide +kernel
theorem dX8_wayTo_6 : decode cX8_wayTo 6 = .ok (.istore_n 2, 1) := by decide +kernel
theorem dX8_wayTo_7 : decode cX8_wayTo 7 = .ok (.iload_n 1, 1) := by decide +kernel
theorem dX8_wayTo_8 : decode cX8_wayTo 8 = .ok (.istore_n 3, 1) := by decide +kernel
theorem dX8_wayTo_9 : decode cX8_wayTo 9 = .ok (.iload_n 3, 1) := by decide +kernel
theorem dX8_wayTo_10 : decode cX8_wayTo 10 = .ok (.ifCond .lt 23, 3) := by decide +kernel
theorem dX8_wayTo_13 : decode cX8_wayTo 13 = .ok (.aload_n 0, 1) := by decide +kernel
theorem dX8_wayTo_14 : decode cX8_wayTo 14 = .ok (.getfield 48, 3) := by decide +kernel
theorem dX8_wayTo_17 : decode cX8_wayTo 17 = .ok (.iload_n 2, 1) := by decide +kernel
theorem dX8_wayTo_18 : decode cX8_wayTo 18 = .ok (.iload_n 3, 1) := by decide +kernel
theorem dX8_wayTo_19 : decode cX8_wayTo 19 = .ok (.iastore, 1) := by decide +kernel
theorem dX8_wayTo_20 : decode cX8_wayTo 20 = .ok (.iinc 2 1, 3) := by decide +kernel
theorem dX8_wayTo_23 : decode cX8_wayTo 23 = .ok (.aload_n 0, 1) := by decide +kernel
theorem dX8_wayTo_24 : decode cX8_wayTo 24 = .ok (.iload_n 3, 1) := by decide +kernel
theorem dX8_wayTo_25 : decode cX8_wayTo 25 = .ok (.iconst 1, 1) := by decide +kernel
theorem dX8_wayTo_26 : decode cX8_wayTo 26 = .ok (.invokevirtual 74, 3) := by decide +kernel
theorem dX8_wayTo_29 : decode cX8_wayTo 29 = .ok (.istore_n 3, 1) := by decide +kernel
theorem dX8_wayTo_30 : decode cX8_wayTo 30 = .ok (.goto (-21), 3) := by decide +kernel
theorem dX8_wayTo_33 : decode cX8_wayTo 33 = .ok (.aload_n 0, 1) := by decide +kernel
theorem dX8_wayTo_34 : decode cX8_wayTo 34 = .ok (.getfield 41, 3) := by decide +kernel
theorem dX8_wayTo_37 : decode cX8_wayTo 37 = .ok (.iconst 0, 1) := by decide +kernel
theorem dX8_wayTo_38 : decode cX8_wayTo 38 = .ok (.lconst 1, 1) := by decide +kernel
theorem dX8_wayTo_39 : decode cX8_wayTo 39 = .ok (.lastore, 1) := by decide +kernel
theorem dX8_wayTo_40 : decode cX8_wayTo 40 = .ok (.aload_n 0, 1) := by decide +kernel
theorem dX8_wayTo_41 : decode cX8_wayTo 41 = .ok (.getfield 45, 3) := by decide +kernel
theorem dX8_wayTo_44 : decode cX8_wayTo 44 = .ok (.iconst 0, 1) := by decide +kernel
theorem dX8_wayTo_45 : decode cX8_wayTo 45 = .ok (.lconst 1, 1) := by decide +kernel
theorem dX8_wayTo_46 : decode cX8_wayTo 46 = .ok (.lastore, 1) := by decide +kernel
theorem dX8_wayTo_47 : decode cX8_wayTo 47 = .ok (.iload_n 2, 1) := by decide +kernel
theorem dX8_wayTo_48 : decode cX8_wayTo 48 = .ok (.iconst 2, 1) := by decide +kernel
theorem dX8_wayTo_49 : decode cX8_wayTo 49 = .ok (.isub, 1) := by decide +kernel
theorem dX8_wayTo_50 : decode cX8_wayTo 50 = .ok (.istore_n 3, 1) := by decide +kernel
theorem dX8_wayTo_51 : decode cX8_wayTo 51 = .ok (.iload_n 3, 1) := by decide +kernel
theorem dX8_wayTo_52 : decode cX8_wayTo 52 = .ok (.ifCond .lt 98, 3) := by decide +kernel
theorem dX8_wayTo_55 : decode cX8_wayTo 55 = .ok (.aload_n 0, 1) := by decide +kernel
theorem dX8_wayTo_56 : decode cX8_wayTo 56 = .ok (.getfield 140, 3) := by decide +kernel
theorem dX8_wayTo_59 : decode cX8_wayTo 59 = .ok (.ifCond .ne 91, 3) := by decide +kernel
theorem dX8_wayTo_62 : decode cX8_wayTo 62 = .ok (.aload_n 0, 1) := by decide +kernel
theorem dX8_wayTo_63 : decode cX8_wayTo 63 = .ok (.getfield 48, 3) := by decide +kernel
theorem dX8_wayTo_66 : decode cX8_wayTo 66 = .ok (.iload_n 3, 1) := by decide +kernel
theorem dX8_wayTo_67 : decode cX8_wayTo 67 = .ok (.iaload, 1) := by decide +kernel
theorem dX8_wayTo_68 : decode cX8_wayTo 68 = .ok (.istore 4, 2) := by decide +kernel
theorem dX8_wayTo_70 : decode cX8_wayTo 70 = .ok (.aload_n 0, 1) := by decide +kernel
theorem dX8_wayTo_71 : decode cX8_wayTo 71 = .ok (.getfield 48, 3) := by decide +kernel
theorem dX8_wayTo_74 : decode cX8_wayTo 74 = .ok (.iload_n 3, 1) := by decide +kernel
theorem dX8_wayTo_75 : decode cX8_wayTo 75 = .ok (.iconst 1, 1) := by decide +kernel
theorem dX8_wayTo_76 : decode cX8_wayTo 76 = .ok (.iadd, 1) := by decide +kernel
theorem dX8_wayTo_77 : decode cX8_wayTo 77 = .ok (.iaload, 1) := by decide +kernel
theorem dX8_wayTo_78 : decode cX8_wayTo 78 = .ok (.istore 5, 2) := by decide +kernel
theorem dX8_wayTo_80 : decode cX8_wayTo 80 = .ok (.aload_n 0, 1) := by decide +kernel
theorem dX8_wayTo_81 : decode cX8_wayTo 81 = .ok (.iload 5, 2) := by decide +kernel
theorem dX8_wayTo_83 : decode cX8_wayTo 83 = .ok (.iconst 1, 1) := by decide +kernel
theorem dX8_wayTo_84 : decode cX8_wayTo 84 = .ok (.invokevirtual 172, 3) := by decide +kernel
theorem dX8_wayTo_87 : decode cX8_wayTo 87 = .ok (.aload_n 0, 1) := by decide +kernel
theorem dX8_wayTo_88 : decode cX8_wayTo 88 = .ok (.getfield 140, 3) := by decide +kernel
theorem dX8_wayTo_91 : decode cX8_wayTo 91 = .ok (.ifCond .eq 4, 3) := by decide +kernel
theorem dX8_wayTo_94 : decode cX8_wayTo 94 = .ok (.return_, 1) := by decide +kernel
theorem dX8_wayTo_95 : decode cX8_wayTo 95 = .ok (.aload_n 0, 1) := by decide +kernel
theorem dX8_wayTo_96 : decode cX8_wayTo 96 = .ok (.aload_n 0, 1) := by decide +kernel
theorem dX8_wayTo_97 : decode cX8_wayTo 97 = .ok (.getfield 166, 3) := by decide +kernel
theorem dX8_wayTo_100 : decode cX8_wayTo 100 = .ok (.aload_n 0, 1) := by decide +kernel
theorem dX8_wayTo_101 : decode cX8_wayTo 101 = .ok (.getfield 169, 3) := by decide +kernel
theorem dX8_wayTo_104 : decode cX8_wayTo 104 = .ok (.aload_n 0, 1) := by decide +kernel
theorem dX8_wayTo_105 : decode cX8_wayTo 105 = .ok (.iload 4, 2) := by decide +kernel
theorem dX8_wayTo_107 : decode cX8_wayTo 107 = .ok (.iconst 2, 1) := by decide +kernel
theorem dX8_wayTo_108 : decode cX8_wayTo 108 = .ok (.invokevirtual 74, 3) := by decide +kernel
theorem dX8_wayTo_111 : decode cX8_wayTo 111 = .ok (.i2l, 1) := by decide +kernel
theorem dX8_wayTo_112 : decode cX8_wayTo 112 = .ok (.aload_n 0, 1) := by decide +kernel
theorem dX8_wayTo_113 : decode cX8_wayTo 113 = .ok (.iload 5, 2) := by decide +kernel
theorem dX8_wayTo_115 : decode cX8_wayTo 115 = .ok (.invokevirtual 98, 3) := by decide +kernel
theorem dX8_wayTo_118 : decode cX8_wayTo 118 = .ok (.i2l, 1) := by decide +kernel
theorem dX8_wayTo_119 : decode cX8_wayTo 119 = .ok (.invokevirtual 152, 3) := by decide +kernel
theorem dX8_wayTo_122 : decode cX8_wayTo 122 = .ok (.aload_n 0, 1) := by decide +kernel
theorem dX8_wayTo_123 : decode cX8_wayTo 123 = .ok (.getfield 41, 3) := by decide +kernel
theorem dX8_wayTo_126 : decode cX8_wayTo 126 = .ok (.iload 4, 2) := by decide +kernel
theorem dX8_wayTo_128 : decode cX8_wayTo 128 = .ok (.aload_n 0, 1) := by decide +kernel
theorem dX8_wayTo_129 : decode cX8_wayTo 129 = .ok (.getfield 133, 3) := by decide +kernel
theorem dX8_wayTo_132 : decode cX8_wayTo 132 = .ok (.lastore, 1) := by decide +kernel
theorem dX8_wayTo_133 : decode cX8_wayTo 133 = .ok (.aload_n 0, 1) := by decide +kernel
theorem dX8_wayTo_134 : decode cX8_wayTo 134 = .ok (.getfield 45, 3) := by decide +kernel
theorem dX8_wayTo_137 : decode cX8_wayTo 137 = .ok (.iload 4, 2) := by decide +kernel
theorem dX8_wayTo_139 : decode cX8_wayTo 139 = .ok (.aload_n 0, 1) := by decide +kernel
theorem dX8_wayTo_140 : decode cX8_wayTo 140 = .ok (.getfield 137, 3) := by decide +kernel
theorem dX8_wayTo_143 : decode cX8_wayTo 143 = .ok (.lastore, 1) := by decide +kernel
theorem dX8_wayTo_144 : decode cX8_wayTo 144 = .ok (.iinc 3 (-1), 3) := by decide +kernel
theorem dX8_wayTo_147 : decode cX8_wayTo 147 = .ok (.goto (-96), 3) := by decide +kernel
theorem dX8_wayTo_150 : decode cX8_wayTo 150 = .ok (.return_, 1) := by decide +kernel
set_option maxRecDepth 20000 in
theorem ggX8_isShare_X8_wayTo : GoodIn wsX8_isShare wsX8_wayTo := goodIn_r _ [6, 1, 7, 8, 9, 10, 11, 12, 13, 14, 15, 16, 5, 17, 18, 19, 20, 21, 22, 23, 24, 25, 26, 27, 28, 29, 30, 31, 32, 33, 34, 35, 36, 37, 38, 39, 40, 41, 42, 43, 44, 45, 46, 47, 48, 49, 50, 51, 52, 53, 54, 55, 56, 57, 58, 59, 60, 61, 62, 63, 64, 65, 66, 67, 68, 69, 70, 71, 72, 73, 74, 75, 76, 77, 78, 79, 80, 81, 82, 83, 84, 85] (by exact rfl) (by decide +kernel)
set_option maxRecDepth 20000 in
theorem gX8_isShare_X8_wayTo : GoodIn wsX8_isShare (wsV RX8 176 RX8 yX8_wayTo wsX8_wayTo) := goodIn_app (goodIn_of _ (by decide +kernel)) ggX8_isShare_X8_wayTo
set_option maxRecDepth 20000 in
theorem ggX8_isShare_X8_shareOf : GoodIn wsX8_isShare wsX8_shareOf := goodIn_r _ [22, 8, 9, 23, 24, 25, 26, 12, 13, 27, 28, 29, 30, 10, 11, 14, 15, 16, 5, 17, 18, 31, 32, 33, 34, 1, 35, 36, 37, 38, 43, 44, 45, 46, 47, 48, 49, 50, 51, 52, 53, 54, 55, 56, 57, 58, 59, 60, 61, 62, 63, 64, 65, 66, 67, 68, 69, 70, 71, 72, 73, 74, 75, 76, 77, 78, 79, 80, 81, 82, 83, 84, 85] (by exact rfl) (by decide +kernel)
set_option maxRecDepth 20000 in
theorem gX8_isShare_X8_shareOf : GoodIn wsX8_isShare (wsV RX8 172 RX8 yX8_shareOf wsX8_shareOf) := goodIn_app (goodIn_of _ (by decide +kernel)) ggX8_isShare_X8_shareOf
theorem dX8_isShare_0 : decode cX8_isShare 0 = .ok (.aload_n 0, 1) := by decide +kernel
theorem dX8_isShare_1 : decode cX8_isShare 1 = .ok (.iload_n 1, 1) := by decide +kernel
theorem dX8_isShare_2 : decode cX8_isShare 2 = .ok (.invokevirtual 176, 3) := by decide +kernel
theorem dX8_isShare_5 : decode cX8_isShare 5 = .ok (.aload_n 0, 1) := by decide +kernel
theorem dX8_isShare_6 : decode cX8_isShare 6 = .ok (.getfield 140, 3) := by decide +kernel
theorem dX8_isShare_9 : decode cX8_isShare 9 = .ok (.ifCond .ne 9, 3) := by decide +kernel
theorem dX8_isShare_12 : decode cX8_isShare 12 = .ok (.aload_n 0, 1) := by decide +kernel
theorem dX8_isShare_13 : decode cX8_isShare 13 = .ok (.iload_n 1, 1) := by decide +kernel
theorem dX8_isShare_14 : decode cX8_isShare 14 = .ok (.iconst 0, 1) := by decide +kernel
theorem dX8_isShare_15 : decode cX8_isShare 15 = .ok (.invokevirtual 172, 3) := by decide +kernel
theorem dX8_isShare_18 : decode cX8_isShare 18 = .ok (.aload_n 0, 1) := by decide +kernel
theorem dX8_isShare_19 : decode cX8_isShare 19 = .ok (.getfield 140, 3) := by decide +kernel
theorem dX8_isShare_22 : decode cX8_isShare 22 = .ok (.ifCond .ne 7, 3) := by decide +kernel
theorem dX8_isShare_25 : decode cX8_isShare 25 = .ok (.iconst 1, 1) := by decide +kernel
theorem dX8_isShare_26 : decode cX8_isShare 26 = .ok (.goto 4, 3) := by decide +kernel
theorem dX8_isShare_29 : decode cX8_isShare 29 = .ok (.iconst 0, 1) := by decide +kernel
theorem dX8_isShare_30 : decode cX8_isShare 30 = .ok (.ireturn, 1) := by decide +kernel
set_option maxRecDepth 20000 in
theorem ggX8_share_X8_isBasin : GoodIn wsX8_share wsX8_isBasin := goodIn_r _ [7, 8, 9, 10, 6, 11, 60, 61, 62, 63, 64, 65, 66, 67, 68, 69, 70, 71, 72, 73, 74, 75, 76, 77, 78, 79, 80, 81, 82, 83, 84, 85, 86, 87, 88, 89, 90, 91, 92, 93, 94, 95, 96, 97, 98, 99, 100, 101, 102] (by exact rfl) (by decide +kernel)
set_option maxRecDepth 20000 in
theorem gX8_share_X8_isBasin : GoodIn wsX8_share (wsV RX8 109 RX8 yX8_isBasin wsX8_isBasin) := goodIn_app (goodIn_of _ (by decide +kernel)) ggX8_share_X8_isBasin
set_option maxRecDepth 20000 in
theorem ggX8_share_X8_in : GoodIn wsX8_share wsX8_in := goodIn_r _ [11] (by exact rfl) (by decide +kernel)
set_option maxRecDepth 20000 in
theorem gX8_share_X8_in : GoodIn wsX8_share (va_wsS RX8 70 yX8_in wsX8_in) := goodIn_app (goodIn_of _ (by decide +kernel)) ggX8_share_X8_in
set_option maxRecDepth 20000 in
theorem ggX8_share_X8_finds : GoodIn wsX8_share wsX8_finds := goodIn_r _ [15, 16, 17, 60, 61, 62, 63, 64, 65, 66, 67, 68, 69, 70, 71, 72, 73, 74, 75, 76, 77, 78, 79, 80, 81, 82, 83, 84, 85, 86, 87, 88, 89, 90, 91, 92, 93, 94, 95, 96, 97, 98, 99, 100, 101, 102] (by exact rfl) (by decide +kernel)
set_option maxRecDepth 20000 in
theorem gX8_share_X8_finds : GoodIn wsX8_share (wsV RX8 115 RX8 yX8_finds wsX8_finds) := goodIn_app (goodIn_of _ (by decide +kernel)) ggX8_share_X8_finds
set_option maxRecDepth 20000 in
theorem ggX8_share_X8_isShare : GoodIn wsX8_share wsX8_isShare := goodIn_r _ [21, 22, 23, 24, 25, 6, 26, 27, 28, 29, 30, 31, 32, 33, 34, 35, 36, 37, 8, 38, 39, 40, 41, 42, 43, 44, 45, 46, 47, 1, 2, 48, 49, 50, 51, 52, 53, 54, 55, 56, 57, 58, 59, 60, 61, 62, 63, 64, 65, 66, 67, 68, 69, 70, 71, 72, 73, 74, 75, 76, 77, 78, 79, 80, 81, 82, 83, 84, 85, 86, 87, 88, 89, 90, 91, 92, 93, 94, 95, 96, 97, 98, 99, 100, 101, 102] (by exact rfl) (by decide +kernel)
set_option maxRecDepth 20000 in
theorem gX8_share_X8_isShare : GoodIn wsX8_share (wsV RX8 180 RX8 yX8_isShare wsX8_isShare) := goodIn_app (goodIn_of _ (by decide +kernel)) ggX8_share_X8_isShare
theorem dX8_share_0 : decode cX8_share 0 = .ok (.aload_n 0, 1) := by decide +kernel
theorem dX8_share_1 : decode cX8_share 1 = .ok (.iload_n 1, 1) := by decide +kernel
theorem dX8_share_2 : decode cX8_share 2 = .ok (.invokevirtual 109, 3) := by decide +kernel
theorem dX8_share_5 : decode cX8_share 5 = .ok (.ifCond .eq 13, 3) := by decide +kernel
theorem dX8_share_8 : decode cX8_share 8 = .ok (.iload_n 2, 1) := by decide +kernel
theorem dX8_share_9 : decode cX8_share 9 = .ok (.i2l, 1) := by decide +kernel
theorem dX8_share_10 : decode cX8_share 10 = .ok (.lconst 0, 1) := by decide +kernel
theorem dX8_share_11 : decode cX8_share 11 = .ok (.lconst 1, 1) := by decide +kernel
theorem dX8_share_12 : decode cX8_share 12 = .ok (.invokestatic 70, 3) := by decide +kernel
theorem dX8_share_15 : decode cX8_share 15 = .ok (.ifCond .ne 10, 3) := by decide +kernel
theorem dX8_share_18 : decode cX8_share 18 = .ok (.aload_n 0, 1) := by decide +kernel
theorem dX8_share_19 : decode cX8_share 19 = .ok (.iconst 0, 1) := by decide +kernel
theorem dX8_share_20 : decode cX8_share 20 = .ok (.invokevirtual 115, 3) := by decide +kernel
theorem dX8_share_23 : decode cX8_share 23 = .ok (.i2l, 1) := by decide +kernel
theorem dX8_share_24 : decode cX8_share 24 = .ok (.lreturn, 1) := by decide +kernel
theorem dX8_share_25 : decode cX8_share 25 = .ok (.aload_n 0, 1) := by decide +kernel
theorem dX8_share_26 : decode cX8_share 26 = .ok (.iload_n 1, 1) := by decide +kernel
theorem dX8_share_27 : decode cX8_share 27 = .ok (.invokevirtual 180, 3) := by decide +kernel
theorem dX8_share_30 : decode cX8_share 30 = .ok (.ifCond .ne 11, 3) := by decide +kernel
theorem dX8_share_33 : decode cX8_share 33 = .ok (.aload_n 0, 1) := by decide +kernel
theorem dX8_share_34 : decode cX8_share 34 = .ok (.bipush 6, 2) := by decide +kernel
theorem dX8_share_36 : decode cX8_share 36 = .ok (.invokevirtual 115, 3) := by decide +kernel
theorem dX8_share_39 : decode cX8_share 39 = .ok (.i2l, 1) := by decide +kernel
theorem dX8_share_40 : decode cX8_share 40 = .ok (.lreturn, 1) := by decide +kernel
theorem dX8_share_41 : decode cX8_share 41 = .ok (.iload_n 2, 1) := by decide +kernel
theorem dX8_share_42 : decode cX8_share 42 = .ok (.ifCond .ne 10, 3) := by decide +kernel
theorem dX8_share_45 : decode cX8_share 45 = .ok (.aload_n 0, 1) := by decide +kernel
theorem dX8_share_46 : decode cX8_share 46 = .ok (.getfield 160, 3) := by decide +kernel
theorem dX8_share_49 : decode cX8_share 49 = .ok (.goto 7, 3) := by decide +kernel
theorem dX8_share_52 : decode cX8_share 52 = .ok (.aload_n 0, 1) := by decide +kernel
theorem dX8_share_53 : decode cX8_share 53 = .ok (.getfield 163, 3) := by decide +kernel
theorem dX8_share_56 : decode cX8_share 56 = .ok (.lreturn, 1) := by decide +kernel
set_option maxRecDepth 20000 in
theorem ggX8_rest_X8_isBasin : GoodIn wsX8_rest wsX8_isBasin := goodIn_r _ [8, 9, 10, 11, 7, 12, 56, 57, 58, 59, 60, 61, 62, 63, 64, 65, 66, 67, 68, 69, 70, 71, 72, 73, 74, 75, 76, 77, 78, 79, 80, 81, 82, 83, 84, 85, 86, 87, 88, 89, 90, 91, 92, 93, 94, 95, 96, 97, 98] (by exact rfl) (by decide +kernel)
set_option maxRecDepth 20000 in
theorem gX8_rest_X8_isBasin : GoodIn wsX8_rest (wsV RX8 109 RX8 yX8_isBasin wsX8_isBasin) := goodIn_app (goodIn_of _ (by decide +kernel)) ggX8_rest_X8_isBasin
set_option maxRecDepth 20000 in
theorem ggX8_rest_X8_in : GoodIn wsX8_rest wsX8_in := goodIn_r _ [12] (by exact rfl) (by decide +kernel)
set_option maxRecDepth 20000 in
theorem gX8_rest_X8_in : GoodIn wsX8_rest (va_wsS RX8 70 yX8_in wsX8_in) := goodIn_app (goodIn_of _ (by decide +kernel)) ggX8_rest_X8_in
set_option maxRecDepth 20000 in
theorem ggX8_rest_X8_finds : GoodIn wsX8_rest wsX8_finds := goodIn_r _ [16, 17, 18, 56, 57, 58, 59, 60, 61, 62, 63, 64, 65, 66, 67, 68, 69, 70, 71, 72, 73, 74, 75, 76, 77, 78, 79, 80, 81, 82, 83, 84, 85, 86, 87, 88, 89, 90, 91, 92, 93, 94, 95, 96, 97, 98] (by exact rfl) (by decide +kernel)
set_option maxRecDepth 20000 in
theorem gX8_rest_X8_finds : GoodIn wsX8_rest (wsV RX8 115 RX8 yX8_finds wsX8_finds) := goodIn_app (goodIn_of _ (by decide +kernel)) ggX8_rest_X8_finds
set_option maxRecDepth 20000 in
theorem ggX8_rest_X8_edgesBelow : GoodIn wsX8_rest wsX8_edgesBelow := goodIn_r _ [22, 9, 23, 24, 25, 7, 26, 56, 57, 58, 59, 60, 61, 62, 63, 64, 65, 66, 67, 68, 69, 70, 71, 72, 73, 74, 75, 76, 77, 78, 79, 80, 81, 82, 83, 84, 85, 86, 87, 88, 89, 90, 91, 92, 93, 94, 95, 96, 97, 98] (by exact rfl) (by decide +kernel)
set_option maxRecDepth 20000 in
theorem gX8_rest_X8_edgesBelow : GoodIn wsX8_rest (wsV RX8 98 RX8 yX8_edgesBelow wsX8_edgesBelow) := goodIn_app (goodIn_of _ (by decide +kernel)) ggX8_rest_X8_edgesBelow
set_option maxRecDepth 20000 in
theorem ggX8_rest_X8_wayTo : GoodIn wsX8_rest wsX8_wayTo := goodIn_r _ [30, 1, 31, 32, 33, 2, 3, 34, 35, 23, 24, 25, 7, 26, 9, 36, 37, 38, 39, 40, 41, 42, 43, 44, 45, 46, 47, 48, 49, 50, 51, 52, 53, 54, 55, 19, 20, 21, 22, 56, 57, 58, 59, 60, 61, 62, 63, 64, 65, 66, 67, 68, 69, 70, 71, 72, 73, 74, 75, 76, 77, 78, 79, 80, 81, 82, 83, 84, 85, 86, 87, 88, 89, 90, 91, 92, 93, 94, 95, 96, 97, 98] (by exact rfl) (by decide +kernel)
set_option maxRecDepth 20000 in
theorem gX8_rest_X8_wayTo : GoodIn wsX8_rest (wsV RX8 176 RX8 yX8_wayTo wsX8_wayTo) := goodIn_app (goodIn_of _ (by decide +kernel)) ggX8_rest_X8_wayTo
set_option maxRecDepth 20000 in
theorem ggX8_rest_X8_shareOf : GoodIn wsX8_rest wsX8_shareOf := goodIn_r _ [39, 32, 33, 40, 41, 42, 43, 34, 35, 44, 45, 46, 47, 2, 3, 23, 24, 25, 7, 26, 9, 48, 49, 50, 51, 1, 52, 53, 54, 55, 56, 57, 58, 59, 60, 61, 62, 63, 64, 65, 66, 67, 68, 69, 70, 71, 72, 73, 74, 75, 76, 77, 78, 79, 80, 81, 82, 83, 84, 85, 86, 87, 88, 89, 90, 91, 92, 93, 94, 95, 96, 97, 98] (by exact rfl) (by decide +kernel)
set_option maxRecDepth 20000 in
theorem gX8_rest_X8_shareOf : GoodIn wsX8_rest (wsV RX8 172 RX8 yX8_shareOf wsX8_shareOf) := goodIn_app (goodIn_of _ (by decide +kernel)) ggX8_rest_X8_shareOf
theorem dX8_rest_0 : decode cX8_rest 0 = .ok (.aload_n 0, 1) := by decide +kernel
theorem dX8_rest_1 : decode cX8_rest 1 = .ok (.iload_n 1, 1) := by decide +kernel
theorem dX8_rest_2 : decode cX8_rest 2 = .ok (.invokevirtual 109, 3) := by decide +kernel
theorem dX8_rest_5 : decode cX8_rest 5 = .ok (.ifCond .eq 13, 3) := by decide +kernel
theorem dX8_rest_8 : decode cX8_rest 8 = .ok (.iload_n 2, 1) := by decide +kernel
theorem dX8_rest_9 : decode cX8_rest 9 = .ok (.i2l, 1) := by decide +kernel
theorem dX8_rest_10 : decode cX8_rest 10 = .ok (.lconst 0, 1) := by decide +kernel
theorem dX8_rest_11 : decode cX8_rest 11 = .ok (.lconst 1, 1) := by decide +kernel
theorem dX8_rest_12 : decode cX8_rest 12 = .ok (.invokestatic 70, 3) := by decide +kernel
theorem dX8_rest_15 : decode cX8_rest 15 = .ok (.ifCond .ne 10, 3) := by decide +kernel
theorem dX8_rest_18 : decode cX8_rest 18 = .ok (.aload_n 0, 1) := by decide +kernel
theorem dX8_rest_19 : decode cX8_rest 19 = .ok (.iconst 0, 1) := by decide +kernel
theorem dX8_rest_20 : decode cX8_rest 20 = .ok (.invokevirtual 115, 3) := by decide +kernel
theorem dX8_rest_23 : decode cX8_rest 23 = .ok (.i2l, 1) := by decide +kernel
theorem dX8_rest_24 : decode cX8_rest 24 = .ok (.lreturn, 1) := by decide +kernel
theorem dX8_rest_25 : decode cX8_rest 25 = .ok (.aload_n 0, 1) := by decide +kernel
theorem dX8_rest_26 : decode cX8_rest 26 = .ok (.iload_n 1, 1) := by decide +kernel
theorem dX8_rest_27 : decode cX8_rest 27 = .ok (.invokevirtual 98, 3) := by decide +kernel
theorem dX8_rest_30 : decode cX8_rest 30 = .ok (.ifCond .le 6, 3) := by decide +kernel
theorem dX8_rest_33 : decode cX8_rest 33 = .ok (.iload_n 2, 1) := by decide +kernel
theorem dX8_rest_34 : decode cX8_rest 34 = .ok (.i2l, 1) := by decide +kernel
theorem dX8_rest_35 : decode cX8_rest 35 = .ok (.lreturn, 1) := by decide +kernel
theorem dX8_rest_36 : decode cX8_rest 36 = .ok (.aload_n 0, 1) := by decide +kernel
theorem dX8_rest_37 : decode cX8_rest 37 = .ok (.iload_n 1, 1) := by decide +kernel
theorem dX8_rest_38 : decode cX8_rest 38 = .ok (.invokevirtual 176, 3) := by decide +kernel
theorem dX8_rest_41 : decode cX8_rest 41 = .ok (.aload_n 0, 1) := by decide +kernel
theorem dX8_rest_42 : decode cX8_rest 42 = .ok (.getfield 140, 3) := by decide +kernel
theorem dX8_rest_45 : decode cX8_rest 45 = .ok (.ifCond .ne 9, 3) := by decide +kernel
theorem dX8_rest_48 : decode cX8_rest 48 = .ok (.aload_n 0, 1) := by decide +kernel
theorem dX8_rest_49 : decode cX8_rest 49 = .ok (.iload_n 1, 1) := by decide +kernel
theorem dX8_rest_50 : decode cX8_rest 50 = .ok (.iconst 1, 1) := by decide +kernel
theorem dX8_rest_51 : decode cX8_rest 51 = .ok (.invokevirtual 172, 3) := by decide +kernel
theorem dX8_rest_54 : decode cX8_rest 54 = .ok (.aload_n 0, 1) := by decide +kernel
theorem dX8_rest_55 : decode cX8_rest 55 = .ok (.getfield 140, 3) := by decide +kernel
theorem dX8_rest_58 : decode cX8_rest 58 = .ok (.ifCond .eq 11, 3) := by decide +kernel
theorem dX8_rest_61 : decode cX8_rest 61 = .ok (.aload_n 0, 1) := by decide +kernel
theorem dX8_rest_62 : decode cX8_rest 62 = .ok (.bipush 6, 2) := by decide +kernel
theorem dX8_rest_64 : decode cX8_rest 64 = .ok (.invokevirtual 115, 3) := by decide +kernel
theorem dX8_rest_67 : decode cX8_rest 67 = .ok (.i2l, 1) := by decide +kernel
theorem dX8_rest_68 : decode cX8_rest 68 = .ok (.lreturn, 1) := by decide +kernel
theorem dX8_rest_69 : decode cX8_rest 69 = .ok (.iload_n 2, 1) := by decide +kernel
theorem dX8_rest_70 : decode cX8_rest 70 = .ok (.ifCond .ne 10, 3) := by decide +kernel
theorem dX8_rest_73 : decode cX8_rest 73 = .ok (.aload_n 0, 1) := by decide +kernel
theorem dX8_rest_74 : decode cX8_rest 74 = .ok (.getfield 166, 3) := by decide +kernel
theorem dX8_rest_77 : decode cX8_rest 77 = .ok (.goto 7, 3) := by decide +kernel
theorem dX8_rest_80 : decode cX8_rest 80 = .ok (.aload_n 0, 1) := by decide +kernel
theorem dX8_rest_81 : decode cX8_rest 81 = .ok (.getfield 169, 3) := by decide +kernel
theorem dX8_rest_84 : decode cX8_rest 84 = .ok (.lreturn, 1) := by decide +kernel
theorem dX8_order_0 : decode cX8_order 0 = .ok (.lload_n 0, 1) := by decide +kernel
theorem dX8_order_1 : decode cX8_order 1 = .ok (.lstore 8, 2) := by decide +kernel
theorem dX8_order_3 : decode cX8_order 3 = .ok (.lload_n 2, 1) := by decide +kernel
theorem dX8_order_4 : decode cX8_order 4 = .ok (.lstore 10, 2) := by decide +kernel
theorem dX8_order_6 : decode cX8_order 6 = .ok (.lload 4, 2) := by decide +kernel
theorem dX8_order_8 : decode cX8_order 8 = .ok (.lstore 12, 2) := by decide +kernel
theorem dX8_order_10 : decode cX8_order 10 = .ok (.lload 6, 2) := by decide +kernel
theorem dX8_order_12 : decode cX8_order 12 = .ok (.lstore 14, 2) := by decide +kernel
theorem dX8_order_14 : decode cX8_order 14 = .ok (.iconst 1, 1) := by decide +kernel
theorem dX8_order_15 : decode cX8_order 15 = .ok (.istore 16, 2) := by decide +kernel
theorem dX8_order_17 : decode cX8_order 17 = .ok (.lload 8, 2) := by decide +kernel
theorem dX8_order_19 : decode cX8_order 19 = .ok (.lload 10, 2) := by decide +kernel
theorem dX8_order_21 : decode cX8_order 21 = .ok (.ldiv, 1) := by decide +kernel
theorem dX8_order_22 : decode cX8_order 22 = .ok (.lstore 17, 2) := by decide +kernel
theorem dX8_order_24 : decode cX8_order 24 = .ok (.lload 12, 2) := by decide +kernel
theorem dX8_order_26 : decode cX8_order 26 = .ok (.lload 14, 2) := by decide +kernel
theorem dX8_order_28 : decode cX8_order 28 = .ok (.ldiv, 1) := by decide +kernel
theorem dX8_order_29 : decode cX8_order 29 = .ok (.lstore 19, 2) := by decide +kernel
theorem dX8_order_31 : decode cX8_order 31 = .ok (.lload 17, 2) := by decide +kernel
theorem dX8_order_33 : decode cX8_order 33 = .ok (.lload 19, 2) := by decide +kernel
theorem dX8_order_35 : decode cX8_order 35 = .ok (.lcmp, 1) := by decide +kernel
theorem dX8_order_36 : decode cX8_order 36 = .ok (.ifCond .eq 20, 3) := by decide +kernel
theorem dX8_order_39 : decode cX8_order 39 = .ok (.lload 17, 2) := by decide +kernel
theorem dX8_order_41 : decode cX8_order 41 = .ok (.lload 19, 2) := by decide +kernel
theorem dX8_order_43 : decode cX8_order 43 = .ok (.lcmp, 1) := by decide +kernel
theorem dX8_order_44 : decode cX8_order 44 = .ok (.ifCond .le 8, 3) := by decide +kernel
theorem dX8_order_47 : decode cX8_order 47 = .ok (.iload 16, 2) := by decide +kernel
theorem dX8_order_49 : decode cX8_order 49 = .ok (.goto 6, 3) := by decide +kernel
theorem dX8_order_52 : decode cX8_order 52 = .ok (.iload 16, 2) := by decide +kernel
theorem dX8_order_54 : decode cX8_order 54 = .ok (.ineg, 1) := by decide +kernel
theorem dX8_order_55 : decode cX8_order 55 = .ok (.ireturn, 1) := by decide +kernel
theorem dX8_order_56 : decode cX8_order 56 = .ok (.lload 8, 2) := by decide +kernel
theorem dX8_order_58 : decode cX8_order 58 = .ok (.lload 17, 2) := by decide +kernel
theorem dX8_order_60 : decode cX8_order 60 = .ok (.lload 10, 2) := by decide +kernel
theorem dX8_order_62 : decode cX8_order 62 = .ok (.lmul, 1) := by decide +kernel
theorem dX8_order_63 : decode cX8_order 63 = .ok (.lsub, 1) := by decide +kernel
theorem dX8_order_64 : decode cX8_order 64 = .ok (.lstore 8, 2) := by decide +kernel
theorem dX8_order_66 : decode cX8_order 66 = .ok (.lload 12, 2) := by decide +kernel
theorem dX8_order_68 : decode cX8_order 68 = .ok (.lload 19, 2) := by decide +kernel
theorem dX8_order_70 : decode cX8_order 70 = .ok (.lload 14, 2) := by decide +kernel
theorem dX8_order_72 : decode cX8_order 72 = .ok (.lmul, 1) := by decide +kernel
theorem dX8_order_73 : decode cX8_order 73 = .ok (.lsub, 1) := by decide +kernel
theorem dX8_order_74 : decode cX8_order 74 = .ok (.lstore 12, 2) := by decide +kernel
theorem dX8_order_76 : decode cX8_order 76 = .ok (.lload 8, 2) := by decide +kernel
theorem dX8_order_78 : decode cX8_order 78 = .ok (.lconst 0, 1) := by decide +kernel
theorem dX8_order_79 : decode cX8_order 79 = .ok (.lcmp, 1) := by decide +kernel
theorem dX8_order_80 : decode cX8_order 80 = .ok (.ifCond .eq 10, 3) := by decide +kernel
theorem dX8_order_83 : decode cX8_order 83 = .ok (.lload 12, 2) := by decide +kernel
theorem dX8_order_85 : decode cX8_order 85 = .ok (.lconst 0, 1) := by decide +kernel
theorem dX8_order_86 : decode cX8_order 86 = .ok (.lcmp, 1) := by decide +kernel
theorem dX8_order_87 : decode cX8_order 87 = .ok (.ifCond .ne 37, 3) := by decide +kernel
theorem dX8_order_90 : decode cX8_order 90 = .ok (.lload 8, 2) := by decide +kernel
theorem dX8_order_92 : decode cX8_order 92 = .ok (.lconst 0, 1) := by decide +kernel
theorem dX8_order_93 : decode cX8_order 93 = .ok (.lcmp, 1) := by decide +kernel
theorem dX8_order_94 : decode cX8_order 94 = .ok (.ifCond .ne 14, 3) := by decide +kernel
theorem dX8_order_97 : decode cX8_order 97 = .ok (.lload 12, 2) := by decide +kernel
theorem dX8_order_99 : decode cX8_order 99 = .ok (.lconst 0, 1) := by decide +kernel
theorem dX8_order_100 : decode cX8_order 100 = .ok (.lcmp, 1) := by decide +kernel
theorem dX8_order_101 : decode cX8_order 101 = .ok (.ifCond .ne 7, 3) := by decide +kernel
theorem dX8_order_104 : decode cX8_order 104 = .ok (.iconst 0, 1) := by decide +kernel
theorem dX8_order_105 : decode cX8_order 105 = .ok (.goto 18, 3) := by decide +kernel
theorem dX8_order_108 : decode cX8_order 108 = .ok (.lload 8, 2) := by decide +kernel
theorem dX8_order_110 : decode cX8_order 110 = .ok (.lconst 0, 1) := by decide +kernel
theorem dX8_order_111 : decode cX8_order 111 = .ok (.lcmp, 1) := by decide +kernel
theorem dX8_order_112 : decode cX8_order 112 = .ok (.ifCond .ne 9, 3) := by decide +kernel
theorem dX8_order_115 : decode cX8_order 115 = .ok (.iload 16, 2) := by decide +kernel
theorem dX8_order_117 : decode cX8_order 117 = .ok (.ineg, 1) := by decide +kernel
theorem dX8_order_118 : decode cX8_order 118 = .ok (.goto 5, 3) := by decide +kernel
theorem dX8_order_121 : decode cX8_order 121 = .ok (.iload 16, 2) := by decide +kernel
theorem dX8_order_123 : decode cX8_order 123 = .ok (.ireturn, 1) := by decide +kernel
theorem dX8_order_124 : decode cX8_order 124 = .ok (.lload 8, 2) := by decide +kernel
theorem dX8_order_126 : decode cX8_order 126 = .ok (.lstore 21, 2) := by decide +kernel
theorem dX8_order_128 : decode cX8_order 128 = .ok (.lload 10, 2) := by decide +kernel
theorem dX8_order_130 : decode cX8_order 130 = .ok (.lstore 8, 2) := by decide +kernel
theorem dX8_order_132 : decode cX8_order 132 = .ok (.lload 21, 2) := by decide +kernel
theorem dX8_order_134 : decode cX8_order 134 = .ok (.lstore 10, 2) := by decide +kernel
theorem dX8_order_136 : decode cX8_order 136 = .ok (.lload 12, 2) := by decide +kernel
theorem dX8_order_138 : decode cX8_order 138 = .ok (.lstore 21, 2) := by decide +kernel
theorem dX8_order_140 : decode cX8_order 140 = .ok (.lload 14, 2) := by decide +kernel
theorem dX8_order_142 : decode cX8_order 142 = .ok (.lstore 12, 2) := by decide +kernel
theorem dX8_order_144 : decode cX8_order 144 = .ok (.lload 21, 2) := by decide +kernel
theorem dX8_order_146 : decode cX8_order 146 = .ok (.lstore 14, 2) := by decide +kernel
theorem dX8_order_148 : decode cX8_order 148 = .ok (.iload 16, 2) := by decide +kernel
theorem dX8_order_150 : decode cX8_order 150 = .ok (.ineg, 1) := by decide +kernel
theorem dX8_order_151 : decode cX8_order 151 = .ok (.istore 16, 2) := by decide +kernel
theorem dX8_order_153 : decode cX8_order 153 = .ok (.goto (-136), 3) := by decide +kernel
set_option maxRecDepth 20000 in
theorem ggX8_compare_X8_isBasin : GoodIn wsX8_compare wsX8_isBasin := goodIn_r _ [7, 8, 9, 10, 6, 11, 63, 64, 65, 66, 67, 68, 69, 70, 71, 72, 73, 74, 75, 76, 77, 78, 79, 80, 81, 82, 83, 84, 85, 86, 87, 88, 89, 90, 91, 92, 93, 94, 95, 96, 97, 98, 99, 100, 101, 102, 103, 104, 105] (by exact rfl) (by decide +kernel)
set_option maxRecDepth 20000 in
theorem gX8_compare_X8_isBasin : GoodIn wsX8_compare (wsV RX8 109 RX8 yX8_isBasin wsX8_isBasin) := goodIn_app (goodIn_of _ (by decide +kernel)) ggX8_compare_X8_isBasin
set_option maxRecDepth 20000 in
theorem ggX8_compare_X8_finds : GoodIn wsX8_compare wsX8_finds := goodIn_r _ [15, 16, 17, 63, 64, 65, 66, 67, 68, 69, 70, 71, 72, 73, 74, 75, 76, 77, 78, 79, 80, 81, 82, 83, 84, 85, 86, 87, 88, 89, 90, 91, 92, 93, 94, 95, 96, 97, 98, 99, 100, 101, 102, 103, 104, 105] (by exact rfl) (by decide +kernel)
set_option maxRecDepth 20000 in
theorem gX8_compare_X8_finds : GoodIn wsX8_compare (wsV RX8 115 RX8 yX8_finds wsX8_finds) := goodIn_app (goodIn_of _ (by decide +kernel)) ggX8_compare_X8_finds
set_option maxRecDepth 20000 in
theorem ggX8_compare_X8_isShare : GoodIn wsX8_compare wsX8_isShare := goodIn_r _ [21, 22, 23, 24, 25, 6, 26, 27, 28, 29, 30, 31, 32, 33, 34, 35, 36, 37, 8, 38, 39, 40, 41, 42, 43, 44, 45, 46, 47, 1, 2, 48, 49, 50, 51, 52, 53, 54, 55, 56, 57, 58, 59, 63, 64, 65, 66, 67, 68, 69, 70, 71, 72, 73, 74, 75, 76, 77, 78, 79, 80, 81, 82, 83, 84, 85, 86, 87, 88, 89, 90, 91, 92, 93, 94, 95, 96, 97, 98, 99, 100, 101, 102, 103, 104, 105] (by exact rfl) (by decide +kernel)
set_option maxRecDepth 20000 in
theorem gX8_compare_X8_isShare : GoodIn wsX8_compare (wsV RX8 180 RX8 yX8_isShare wsX8_isShare) := goodIn_app (goodIn_of _ (by decide +kernel)) ggX8_compare_X8_isShare
set_option maxRecDepth 20000 in
theorem ggX8_compare_X8_order : GoodIn wsX8_compare wsX8_order := goodIn_r _ [62] (by exact rfl) (by decide +kernel)
set_option maxRecDepth 20000 in
theorem gX8_compare_X8_order : GoodIn wsX8_compare (va_wsS RX8 183 yX8_order wsX8_order) := goodIn_app (goodIn_of _ (by decide +kernel)) ggX8_compare_X8_order
theorem dX8_compare_0 : decode cX8_compare 0 = .ok (.aload_n 0, 1) := by decide +kernel
theorem dX8_compare_1 : decode cX8_compare 1 = .ok (.iload_n 1, 1) := by decide +kernel
theorem dX8_compare_2 : decode cX8_compare 2 = .ok (.invokevirtual 109, 3) := by decide +kernel
theorem dX8_compare_5 : decode cX8_compare 5 = .ok (.ifCond .eq 11, 3) := by decide +kernel
theorem dX8_compare_8 : decode cX8_compare 8 = .ok (.aload_n 0, 1) := by decide +kernel
theorem dX8_compare_9 : decode cX8_compare 9 = .ok (.iload_n 2, 1) := by decide +kernel
theorem dX8_compare_10 : decode cX8_compare 10 = .ok (.invokevirtual 109, 3) := by decide +kernel
theorem dX8_compare_13 : decode cX8_compare 13 = .ok (.ifCond .ne 9, 3) := by decide +kernel
theorem dX8_compare_16 : decode cX8_compare 16 = .ok (.aload_n 0, 1) := by decide +kernel
theorem dX8_compare_17 : decode cX8_compare 17 = .ok (.iconst 0, 1) := by decide +kernel
theorem dX8_compare_18 : decode cX8_compare 18 = .ok (.invokevirtual 115, 3) := by decide +kernel
theorem dX8_compare_21 : decode cX8_compare 21 = .ok (.ireturn, 1) := by decide +kernel
theorem dX8_compare_22 : decode cX8_compare 22 = .ok (.aload_n 0, 1) := by decide +kernel
theorem dX8_compare_23 : decode cX8_compare 23 = .ok (.iload_n 1, 1) := by decide +kernel
theorem dX8_compare_24 : decode cX8_compare 24 = .ok (.invokevirtual 180, 3) := by decide +kernel
theorem dX8_compare_27 : decode cX8_compare 27 = .ok (.istore_n 3, 1) := by decide +kernel
theorem dX8_compare_28 : decode cX8_compare 28 = .ok (.aload_n 0, 1) := by decide +kernel
theorem dX8_compare_29 : decode cX8_compare 29 = .ok (.getfield 160, 3) := by decide +kernel
theorem dX8_compare_32 : decode cX8_compare 32 = .ok (.lstore 4, 2) := by decide +kernel
theorem dX8_compare_34 : decode cX8_compare 34 = .ok (.aload_n 0, 1) := by decide +kernel
theorem dX8_compare_35 : decode cX8_compare 35 = .ok (.getfield 163, 3) := by decide +kernel
theorem dX8_compare_38 : decode cX8_compare 38 = .ok (.lstore 6, 2) := by decide +kernel
theorem dX8_compare_40 : decode cX8_compare 40 = .ok (.aload_n 0, 1) := by decide +kernel
theorem dX8_compare_41 : decode cX8_compare 41 = .ok (.iload_n 2, 1) := by decide +kernel
theorem dX8_compare_42 : decode cX8_compare 42 = .ok (.invokevirtual 180, 3) := by decide +kernel
theorem dX8_compare_45 : decode cX8_compare 45 = .ok (.ifCond .eq 11, 3) := by decide +kernel
theorem dX8_compare_48 : decode cX8_compare 48 = .ok (.iload_n 3, 1) := by decide +kernel
theorem dX8_compare_49 : decode cX8_compare 49 = .ok (.ifCond .eq 7, 3) := by decide +kernel
theorem dX8_compare_52 : decode cX8_compare 52 = .ok (.iconst 1, 1) := by decide +kernel
theorem dX8_compare_53 : decode cX8_compare 53 = .ok (.goto 4, 3) := by decide +kernel
theorem dX8_compare_56 : decode cX8_compare 56 = .ok (.iconst 0, 1) := by decide +kernel
theorem dX8_compare_57 : decode cX8_compare 57 = .ok (.istore_n 3, 1) := by decide +kernel
theorem dX8_compare_58 : decode cX8_compare 58 = .ok (.iload_n 3, 1) := by decide +kernel
theorem dX8_compare_59 : decode cX8_compare 59 = .ok (.ifCond .eq 21, 3) := by decide +kernel
theorem dX8_compare_62 : decode cX8_compare 62 = .ok (.lload 4, 2) := by decide +kernel
theorem dX8_compare_64 : decode cX8_compare 64 = .ok (.lload 6, 2) := by decide +kernel
theorem dX8_compare_66 : decode cX8_compare 66 = .ok (.aload_n 0, 1) := by decide +kernel
theorem dX8_compare_67 : decode cX8_compare 67 = .ok (.getfield 160, 3) := by decide +kernel
theorem dX8_compare_70 : decode cX8_compare 70 = .ok (.aload_n 0, 1) := by decide +kernel
theorem dX8_compare_71 : decode cX8_compare 71 = .ok (.getfield 163, 3) := by decide +kernel
theorem dX8_compare_74 : decode cX8_compare 74 = .ok (.invokestatic 183, 3) := by decide +kernel
theorem dX8_compare_77 : decode cX8_compare 77 = .ok (.goto 9, 3) := by decide +kernel
theorem dX8_compare_80 : decode cX8_compare 80 = .ok (.aload_n 0, 1) := by decide +kernel
theorem dX8_compare_81 : decode cX8_compare 81 = .ok (.bipush 6, 2) := by decide +kernel
theorem dX8_compare_83 : decode cX8_compare 83 = .ok (.invokevirtual 115, 3) := by decide +kernel
theorem dX8_compare_86 : decode cX8_compare 86 = .ok (.ireturn, 1) := by decide +kernel
set_option maxRecDepth 20000 in
theorem ggX8_extreme_X8_in : GoodIn wsX8_extreme wsX8_in := goodIn_r _ [7] (by exact rfl) (by decide +kernel)
set_option maxRecDepth 20000 in
theorem gX8_extreme_X8_in : GoodIn wsX8_extreme (va_wsS RX8 70 yX8_in wsX8_in) := goodIn_app (goodIn_of _ (by decide +kernel)) ggX8_extreme_X8_in
set_option maxRecDepth 20000 in
theorem ggX8_extreme_X8_finds : GoodIn wsX8_extreme wsX8_finds := goodIn_r _ [11, 12, 13, 59, 60, 61, 62, 63, 64, 65, 66, 67, 68, 69, 70, 71, 72, 73, 74, 75, 76, 77, 78, 79, 80, 81, 82, 83, 84, 85, 86, 87, 88, 89, 90, 91, 92, 93, 94, 95, 96, 97, 98, 99, 100, 101] (by exact rfl) (by decide +kernel)
set_option maxRecDepth 20000 in
theorem gX8_extreme_X8_finds : GoodIn wsX8_extreme (wsV RX8 115 RX8 yX8_finds wsX8_finds) := goodIn_app (goodIn_of _ (by decide +kernel)) ggX8_extreme_X8_finds
set_option maxRecDepth 20000 in
theorem ggX8_extreme_X8_isShare : GoodIn wsX8_extreme wsX8_isShare := goodIn_r _ [17, 18, 19, 20, 21, 6, 22, 23, 24, 25, 26, 27, 28, 29, 30, 31, 32, 33, 1, 34, 35, 36, 37, 38, 39, 40, 41, 42, 43, 2, 3, 44, 45, 46, 47, 48, 49, 50, 51, 52, 53, 54, 55, 59, 60, 61, 62, 63, 64, 65, 66, 67, 68, 69, 70, 71, 72, 73, 74, 75, 76, 77, 78, 79, 80, 81, 82, 83, 84, 85, 86, 87, 88, 89, 90, 91, 92, 93, 94, 95, 96, 97, 98, 99, 100, 101] (by exact rfl) (by decide +kernel)
set_option maxRecDepth 20000 in
theorem gX8_extreme_X8_isShare : GoodIn wsX8_extreme (wsV RX8 180 RX8 yX8_isShare wsX8_isShare) := goodIn_app (goodIn_of _ (by decide +kernel)) ggX8_extreme_X8_isShare
set_option maxRecDepth 20000 in
theorem ggX8_extreme_X8_order : GoodIn wsX8_extreme wsX8_order := goodIn_r _ [58] (by exact rfl) (by decide +kernel)
set_option maxRecDepth 20000 in
theorem gX8_extreme_X8_order : GoodIn wsX8_extreme (va_wsS RX8 183 yX8_order wsX8_order) := goodIn_app (goodIn_of _ (by decide +kernel)) ggX8_extreme_X8_order
theorem dX8_extreme_0 : decode cX8_extreme 0 = .ok (.iload_n 1, 1) := by decide +kernel
theorem dX8_extreme_1 : decode cX8_extreme 1 = .ok (.i2l, 1) := by decide +kernel
theorem dX8_extreme_2 : decode cX8_extreme 2 = .ok (.lconst 0, 1) := by decide +kernel
theorem dX8_extreme_3 : decode cX8_extreme 3 = .ok (.lconst 1, 1) := by decide +kernel
theorem dX8_extreme_4 : decode cX8_extreme 4 = .ok (.invokestatic 70, 3) := by decide +kernel
theorem dX8_extreme_7 : decode cX8_extreme 7 = .ok (.ifCond .ne 9, 3) := by decide +kernel
theorem dX8_extreme_10 : decode cX8_extreme 10 = .ok (.aload_n 0, 1) := by decide +kernel
theorem dX8_extreme_11 : decode cX8_extreme 11 = .ok (.iconst 0, 1) := by decide +kernel
theorem dX8_extreme_12 : decode cX8_extreme 12 = .ok (.invokevirtual 115, 3) := by decide +kernel
theorem dX8_extreme_15 : decode cX8_extreme 15 = .ok (.ireturn, 1) := by decide +kernel
theorem dX8_extreme_16 : decode cX8_extreme 16 = .ok (.aload_n 0, 1) := by decide +kernel
theorem dX8_extreme_17 : decode cX8_extreme 17 = .ok (.getfield 7, 3) := by decide +kernel
theorem dX8_extreme_20 : decode cX8_extreme 20 = .ok (.iconst 0, 1) := by decide +kernel
theorem dX8_extreme_21 : decode cX8_extreme 21 = .ok (.iaload, 1) := by decide +kernel
theorem dX8_extreme_22 : decode cX8_extreme 22 = .ok (.ifCond .ne 9, 3) := by decide +kernel
theorem dX8_extreme_25 : decode cX8_extreme 25 = .ok (.aload_n 0, 1) := by decide +kernel
theorem dX8_extreme_26 : decode cX8_extreme 26 = .ok (.iconst 3, 1) := by decide +kernel
theorem dX8_extreme_27 : decode cX8_extreme 27 = .ok (.invokevirtual 115, 3) := by decide +kernel
theorem dX8_extreme_30 : decode cX8_extreme 30 = .ok (.ireturn, 1) := by decide +kernel
theorem dX8_extreme_31 : decode cX8_extreme 31 = .ok (.iconst (-1), 1) := by decide +kernel
theorem dX8_extreme_32 : decode cX8_extreme 32 = .ok (.istore_n 2, 1) := by decide +kernel
theorem dX8_extreme_33 : decode cX8_extreme 33 = .ok (.lconst 0, 1) := by decide +kernel
theorem dX8_extreme_34 : decode cX8_extreme 34 = .ok (.lstore_n 3, 1) := by decide +kernel
theorem dX8_extreme_35 : decode cX8_extreme 35 = .ok (.lconst 1, 1) := by decide +kernel
theorem dX8_extreme_36 : decode cX8_extreme 36 = .ok (.lstore 5, 2) := by decide +kernel
theorem dX8_extreme_38 : decode cX8_extreme 38 = .ok (.iconst 0, 1) := by decide +kernel
theorem dX8_extreme_39 : decode cX8_extreme 39 = .ok (.istore 7, 2) := by decide +kernel
theorem dX8_extreme_41 : decode cX8_extreme 41 = .ok (.iload 7, 2) := by decide +kernel
theorem dX8_extreme_43 : decode cX8_extreme 43 = .ok (.aload_n 0, 1) := by decide +kernel
theorem dX8_extreme_44 : decode cX8_extreme 44 = .ok (.getfield 7, 3) := by decide +kernel
theorem dX8_extreme_47 : decode cX8_extreme 47 = .ok (.iconst 0, 1) := by decide +kernel
theorem dX8_extreme_48 : decode cX8_extreme 48 = .ok (.iaload, 1) := by decide +kernel
theorem dX8_extreme_49 : decode cX8_extreme 49 = .ok (.if_icmp .ge 78, 3) := by decide +kernel
theorem dX8_extreme_52 : decode cX8_extreme 52 = .ok (.aload_n 0, 1) := by decide +kernel
theorem dX8_extreme_53 : decode cX8_extreme 53 = .ok (.iload 7, 2) := by decide +kernel
theorem dX8_extreme_55 : decode cX8_extreme 55 = .ok (.invokevirtual 180, 3) := by decide +kernel
theorem dX8_extreme_58 : decode cX8_extreme 58 = .ok (.ifCond .ne 10, 3) := by decide +kernel
theorem dX8_extreme_61 : decode cX8_extreme 61 = .ok (.aload_n 0, 1) := by decide +kernel
theorem dX8_extreme_62 : decode cX8_extreme 62 = .ok (.bipush 6, 2) := by decide +kernel
theorem dX8_extreme_64 : decode cX8_extreme 64 = .ok (.invokevirtual 115, 3) := by decide +kernel
theorem dX8_extreme_67 : decode cX8_extreme 67 = .ok (.ireturn, 1) := by decide +kernel
theorem dX8_extreme_68 : decode cX8_extreme 68 = .ok (.iload_n 2, 1) := by decide +kernel
theorem dX8_extreme_69 : decode cX8_extreme 69 = .ok (.ifCond .ge 7, 3) := by decide +kernel
theorem dX8_extreme_72 : decode cX8_extreme 72 = .ok (.iconst 1, 1) := by decide +kernel
theorem dX8_extreme_73 : decode cX8_extreme 73 = .ok (.goto 27, 3) := by decide +kernel
theorem dX8_extreme_76 : decode cX8_extreme 76 = .ok (.aload_n 0, 1) := by decide +kernel
theorem dX8_extreme_77 : decode cX8_extreme 77 = .ok (.getfield 160, 3) := by decide +kernel
theorem dX8_extreme_80 : decode cX8_extreme 80 = .ok (.aload_n 0, 1) := by decide +kernel
theorem dX8_extreme_81 : decode cX8_extreme 81 = .ok (.getfield 163, 3) := by decide +kernel
theorem dX8_extreme_84 : decode cX8_extreme 84 = .ok (.lload_n 3, 1) := by decide +kernel
theorem dX8_extreme_85 : decode cX8_extreme 85 = .ok (.lload 5, 2) := by decide +kernel
theorem dX8_extreme_87 : decode cX8_extreme 87 = .ok (.invokestatic 183, 3) := by decide +kernel
theorem dX8_extreme_90 : decode cX8_extreme 90 = .ok (.iload_n 1, 1) := by decide +kernel
theorem dX8_extreme_91 : decode cX8_extreme 91 = .ok (.ifCond .ne 7, 3) := by decide +kernel
theorem dX8_extreme_94 : decode cX8_extreme 94 = .ok (.iconst 1, 1) := by decide +kernel
theorem dX8_extreme_95 : decode cX8_extreme 95 = .ok (.goto 4, 3) := by decide +kernel
theorem dX8_extreme_98 : decode cX8_extreme 98 = .ok (.iconst (-1), 1) := by decide +kernel
theorem dX8_extreme_99 : decode cX8_extreme 99 = .ok (.imul, 1) := by decide +kernel
theorem dX8_extreme_100 : decode cX8_extreme 100 = .ok (.istore 8, 2) := by decide +kernel
theorem dX8_extreme_102 : decode cX8_extreme 102 = .ok (.iload 8, 2) := by decide +kernel
theorem dX8_extreme_104 : decode cX8_extreme 104 = .ok (.ifCond .le 17, 3) := by decide +kernel
theorem dX8_extreme_107 : decode cX8_extreme 107 = .ok (.iload 7, 2) := by decide +kernel
theorem dX8_extreme_109 : decode cX8_extreme 109 = .ok (.istore_n 2, 1) := by decide +kernel
theorem dX8_extreme_110 : decode cX8_extreme 110 = .ok (.aload_n 0, 1) := by decide +kernel
theorem dX8_extreme_111 : decode cX8_extreme 111 = .ok (.getfield 160, 3) := by decide +kernel
theorem dX8_extreme_114 : decode cX8_extreme 114 = .ok (.lstore_n 3, 1) := by decide +kernel
theorem dX8_extreme_115 : decode cX8_extreme 115 = .ok (.aload_n 0, 1) := by decide +kernel
theorem dX8_extreme_116 : decode cX8_extreme 116 = .ok (.getfield 163, 3) := by decide +kernel
theorem dX8_extreme_119 : decode cX8_extreme 119 = .ok (.lstore 5, 2) := by decide +kernel
theorem dX8_extreme_121 : decode cX8_extreme 121 = .ok (.iinc 7 1, 3) := by decide +kernel
theorem dX8_extreme_124 : decode cX8_extreme 124 = .ok (.goto (-83), 3) := by decide +kernel
theorem dX8_extreme_127 : decode cX8_extreme 127 = .ok (.iload_n 2, 1) := by decide +kernel
theorem dX8_extreme_128 : decode cX8_extreme 128 = .ok (.ireturn, 1) := by decide +kernel
set_option maxRecDepth 20000 in
theorem ggX8_isAllKept_X8_look : GoodIn wsX8_isAllKept wsX8_look := goodIn_r _ [7, 8, 9, 10, 11, 1, 2, 12, 13, 14, 15, 16, 6, 17, 18, 19, 20, 21, 22, 23, 24, 25, 26, 27, 28, 29, 30, 31, 32, 33, 34, 35, 36, 37, 38, 39, 40, 41, 42, 43, 44, 45, 46, 47, 48, 49, 50, 51, 52, 53, 54, 55, 56, 57, 58, 59, 60, 61, 62, 63, 64, 65, 66, 67, 68, 69, 70, 71, 72, 73] (by exact rfl) (by decide +kernel)
set_option maxRecDepth 20000 in
theorem gX8_isAllKept_X8_look : GoodIn wsX8_isAllKept (wsV RX8 102 RX8 yX8_look wsX8_look) := goodIn_app (goodIn_of _ (by decide +kernel)) ggX8_isAllKept_X8_look
theorem dX8_isAllKept_0 : decode cX8_isAllKept 0 = .ok (.aload_n 0, 1) := by decide +kernel
theorem dX8_isAllKept_1 : decode cX8_isAllKept 1 = .ok (.invokevirtual 102, 3) := by decide +kernel
theorem dX8_isAllKept_4 : decode cX8_isAllKept 4 = .ok (.iconst 0, 1) := by decide +kernel
theorem dX8_isAllKept_5 : decode cX8_isAllKept 5 = .ok (.istore_n 2, 1) := by decide +kernel
theorem dX8_isAllKept_6 : decode cX8_isAllKept 6 = .ok (.iload_n 2, 1) := by decide +kernel
theorem dX8_isAllKept_7 : decode cX8_isAllKept 7 = .ok (.aload_n 0, 1) := by decide +kernel
theorem dX8_isAllKept_8 : decode cX8_isAllKept 8 = .ok (.getfield 7, 3) := by decide +kernel
theorem dX8_isAllKept_11 : decode cX8_isAllKept 11 = .ok (.iconst 0, 1) := by decide +kernel
theorem dX8_isAllKept_12 : decode cX8_isAllKept 12 = .ok (.iaload, 1) := by decide +kernel
theorem dX8_isAllKept_13 : decode cX8_isAllKept 13 = .ok (.if_icmp .ge 21, 3) := by decide +kernel
theorem dX8_isAllKept_16 : decode cX8_isAllKept 16 = .ok (.aload_n 0, 1) := by decide +kernel
theorem dX8_isAllKept_17 : decode cX8_isAllKept 17 = .ok (.getfield 32, 3) := by decide +kernel
theorem dX8_isAllKept_20 : decode cX8_isAllKept 20 = .ok (.iload_n 2, 1) := by decide +kernel
theorem dX8_isAllKept_21 : decode cX8_isAllKept 21 = .ok (.iaload, 1) := by decide +kernel
theorem dX8_isAllKept_22 : decode cX8_isAllKept 22 = .ok (.iload_n 1, 1) := by decide +kernel
theorem dX8_isAllKept_23 : decode cX8_isAllKept 23 = .ok (.if_icmp .ge 5, 3) := by decide +kernel
theorem dX8_isAllKept_26 : decode cX8_isAllKept 26 = .ok (.iconst 0, 1) := by decide +kernel
theorem dX8_isAllKept_27 : decode cX8_isAllKept 27 = .ok (.ireturn, 1) := by decide +kernel
theorem dX8_isAllKept_28 : decode cX8_isAllKept 28 = .ok (.iinc 2 1, 3) := by decide +kernel
theorem dX8_isAllKept_31 : decode cX8_isAllKept 31 = .ok (.goto (-25), 3) := by decide +kernel
theorem dX8_isAllKept_34 : decode cX8_isAllKept 34 = .ok (.iconst 1, 1) := by decide +kernel
theorem dX8_isAllKept_35 : decode cX8_isAllKept 35 = .ok (.ireturn, 1) := by decide +kernel
